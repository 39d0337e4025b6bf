/-! obligations: find -/
def f5t (c j : Nat) : Bool := b5 c j || fNo c j || (c == 63 && (42 ≤ j && j ≤ 49) && j != 43)
theorem f5t_1 (c j : Nat) (q : b1 c j = true) : f5t c j = false := by
  unfold b1 isSrcC isSrcR at q
  unfold f5t b5 fNo
  simp only [Bool.or_eq_true, Bool.and_eq_true, decide_eq_true_eq, beq_iff_eq] at q
  simp only [Bool.or_eq_false_iff, Bool.and_eq_false_iff, decide_eq_false_iff_not, beq_eq_false_iff_ne, bne_eq_false_iff_eq]
  omega
theorem f5t_2 (c j : Nat) (q : b2 c j = true) : f5t c j = false := by
  unfold b2 at q
  unfold f5t b5 fNo
  simp only [Bool.or_eq_true, Bool.and_eq_true, decide_eq_true_eq, beq_iff_eq] at q
  simp only [Bool.or_eq_false_iff, Bool.and_eq_false_iff, decide_eq_false_iff_not, beq_eq_false_iff_ne, bne_eq_false_iff_eq]
  omega
theorem f5t_3 (c j : Nat) (q : b3 c j = true) : f5t c j = false := by
  unfold b3 at q
  unfold f5t b5 fNo
  simp only [Bool.or_eq_true, Bool.and_eq_true, decide_eq_true_eq, beq_iff_eq] at q
  simp only [Bool.or_eq_false_iff, Bool.and_eq_false_iff, decide_eq_false_iff_not, beq_eq_false_iff_ne, bne_eq_false_iff_eq]
  omega
theorem f5t_4 (c j : Nat) (q : b4 c j = true) : f5t c j = false := by
  unfold b4 at q
  unfold f5t b5 fNo
  simp only [Bool.or_eq_true, Bool.and_eq_true, decide_eq_true_eq, beq_iff_eq] at q
  simp only [Bool.or_eq_false_iff, Bool.and_eq_false_iff, decide_eq_false_iff_not, beq_eq_false_iff_ne, bne_eq_false_iff_eq]
  omega
theorem f5t_6 (c j : Nat) (q : b6 c j = true) : f5t c j = false := by
  unfold b6 at q
  unfold f5t b5 fNo
  simp only [Bool.or_eq_true, Bool.and_eq_true, decide_eq_true_eq, beq_iff_eq] at q
  simp only [Bool.or_eq_false_iff, Bool.and_eq_false_iff, decide_eq_false_iff_not, beq_eq_false_iff_ne, bne_eq_false_iff_eq]
  omega
theorem f5t_7 (c j : Nat) (q : b7 c j = true) : f5t c j = false := by
  unfold b7 at q
  unfold f5t b5 fNo
  simp only [Bool.or_eq_true, Bool.and_eq_true, decide_eq_true_eq, beq_iff_eq] at q
  simp only [Bool.or_eq_false_iff, Bool.and_eq_false_iff, decide_eq_false_iff_not, beq_eq_false_iff_ne, bne_eq_false_iff_eq]
  omega
theorem f5t_8 (c j : Nat) (q : b8 c j = true) : f5t c j = false := by
  unfold b8 at q
  unfold f5t b5 fNo
  simp only [Bool.or_eq_true, Bool.and_eq_true, decide_eq_true_eq, beq_iff_eq] at q
  simp only [Bool.or_eq_false_iff, Bool.and_eq_false_iff, decide_eq_false_iff_not, beq_eq_false_iff_ne, bne_eq_false_iff_eq]
  omega
def f5u (c j : Nat) : Bool := (c == 1 && j == 0) || fNo c j || (c == 63 && (41 ≤ j && j ≤ 49) && j != 43)
theorem nmN_pos {f : Nat → Nat} (h : NmOK f) : 0 < nmN f := by
  obtain ⟨c, c1, c2, c3⟩ := nm_c h
  have pos : 0 < c := by
    rcases Nat.eq_zero_or_pos c with q | q
    · have := c3 0 (by omega) (by decide)
      have := h.1
      omega
    · exact q
  have lo := nmF_lo (f := f) (c - 1) (fun j hj => c2 j (by omega))
  rw [show c - 1 + 1 = c by omega] at lo
  have e := nmF_end c3 (8 - c) (by omega)
  rw [show c + (8 - c) = 8 by omega] at e
  have : 0 < 256 ^ (c - 1) := Nat.pow_pos (by decide)
  show 0 < nmF f 8
  omega
section FND
variable {E : En} {d : Nat} {T : Tx} {h : Hp} {PL : Int64 → Hp → Prop}
theorem c_whole (ok : TxOK T) (cb : CBuf T h) (t1 : T.1 ≤ 8 → (∀ k, k < T.1 → isLD (T.2 k) = true) → PL (lN (nmb T.2 0 T.1)) h) (t0 : (¬ T.1 ≤ 8 ∨ ∃ k, k < T.1 ∧ isLD (T.2 k) = false) → PL (lN 0) h) : SpL E (d + 1) MX2_wholeName [.ref (eA E 1)] h PL := by
  have nle := ok.1
  refine wp_X2_wholeName E d h PL (fun ga => ?_)
  rw [cb.1]
  refine ek_if (nI_leI (b := 8) (by omega) (by decide)) (fun q => ?_) (fun q => t0 (Or.inl q))
  have loop : ∀ k, k ≤ T.1 → (∀ j, j < k → isLD (T.2 j) = true) → VX2_wholeName_15 E d ga PL (lN (nmb T.2 0 k)) (nI k) h := by
    refine up_ind _ ?_ ?_
    · intro al
      refine sg_X2_wholeName_15 E d ga _ _ h PL ?_
      rw [cb.1]
      exact br_t (nI_le (Nat.le_refl _) (by omega)) (t1 q al)
    · intro k hk ih al
      have hb := ok.2 k hk
      have v : vp_in (nI k) 1200 := vp_in_nI (by omega) (by decide)
      have step : isLD (T.2 k) = true → VX2_wholeName_15 E d ga PL ((lN (nmb T.2 0 k) <<< ((8 : Int32).toInt64 &&& 63)) ||| ((sb (T.2 k)).toInt64)) (nI (k + 1)) h := by
        intro ld
        have b7 := ld_b ld
        have := ih (fun j hj => by
          by_cases e : j = k
          · rw [e]; exact ld
          · exact al j (by omega))
        rw [show (8 : Int32) = nI 8 from rfl, wb_shl _ (by decide), (sb_tab _ hb).2.1 (by omega), nI_l (by omega), show nmb T.2 0 k * 2 ^ 8 = 2 ^ 8 * nmb T.2 0 k by omega, fb_or_sumL _ (by omega)]
        have e1 : nmb T.2 0 (k + 1) = nmb T.2 0 k * 256 + T.2 (0 + k) := rfl
        rw [e1, Nat.zero_add] at this
        rw [show 2 ^ 8 * nmb T.2 0 k + T.2 k = nmb T.2 0 k * 256 + T.2 k by omega]
        exact this
      refine sg_X2_wholeName_15 E d ga _ _ h PL ?_
      rw [cb.1, nI_clamp (by omega), cb.2 k hk, nI_1]
      refine br_f (nI_ge hk (by omega)) ⟨v, c_isL hb (bj_if (b2i_0 _) (fun z => ⟨v, ?_⟩) (fun z => ⟨v, ?_⟩))⟩
      · rw [cb.2 k hk]
        exact step (by unfold isLD; rw [ts_nf' z]; rfl)
      · rw [cb.2 k hk]
        refine c_isD hb (bj_if (b2i_0 _) (fun y => ⟨v, ?_⟩) (fun y => ?_))
        · rw [cb.2 k hk]
          exact step (by unfold isLD; rw [ts_nf' y, Bool.or_true])
        · exact t0 (Or.inr ⟨k, hk, by unfold isLD; rw [z, y]; rfl⟩)
  exact loop 0 (Nat.zero_le _) (fun j hj => absurd hj (Nat.not_lt_zero j))
end FND
/-- the bytes of a buffer -/
theorem tx_of {h : Hp} {n0 : Nat} (p5 : B5 n0 h) : ∃ T : Tx, T.1 = n0 ∧ TxOK T ∧ ∀ k, h.1 2 k = sb (T.2 k) := by
  obtain ⟨q1, q2, q3, q4, q5⟩ := p5
  refine ⟨(n0, fun k => Classical.choose (q5 k)), rfl, ⟨q1, fun k _ => (Classical.choose_spec (q5 k)).1⟩, fun k => (Classical.choose_spec (q5 k)).2⟩
theorem ob4 : Ob4 Iv := by
  intro E h n hn hI K hK
  obtain ⟨D, S, Q, N, hs, sr, n0, L, pd, p0, p1, p2, p3, p4, p5, p6, p7, p8⟩ := id hI
  have w := p0.1
  have hN := w.1
  have hI8 := w.2.2.1
  obtain ⟨T, eT, ok, eb⟩ := tx_of p5
  obtain ⟨q1, q2, q3, q4, q5⟩ := p5
  have cb : CBuf T h := ⟨by rw [eT]; exact q2, fun k _ => eb k⟩
  let mt : Nat → Prop := fun i => ∀ k, k < 8 → dM D i k = ltr T 0 n0 k
  have nok : ∀ i, vN D i → NmOK (dM D i) := fun i vi => by
    rcases vi with q | q
    · exact w.2.2.2.2.1 i q
    · have := w.2.2.2.2.2 (i - 12) (by omega)
      rw [show 12 + (i - 12) = i by omega] at this
      exact this
  have fin : ∀ h', Fr f5u h h' → h'.1 1 0 = 0 → h'.1 63 41 = 0 → Iv (n + 1) h' := fun h' g e1 e2 => by
    have g' : Fr f5t h h' := g.mono (fun c j q => by
      unfold f5t b5 fNo at q
      unfold f5u fNo
      simp only [Bool.or_eq_false_iff, Bool.and_eq_false_iff, decide_eq_false_iff_not, beq_eq_false_iff_ne, bne_eq_false_iff_eq] at q ⊢
      omega)
    exact ⟨D, S, Q, N, hs, sr, 0, L, pd, p0, p1.fr g' f5t_1, p2.fr g' f5t_2, p3.fr g' f5t_3, p4.fr g' f5t_4, ⟨Nat.zero_le _, e1, e2, by rw [g.f 2 (fun _ => rfl), g.f 91 (fun _ => rfl)]; exact q4, fun k => by rw [g.f 2 (fun _ => rfl)]; exact q5 k⟩, p6.fr g' f5t_6, p7.fr g' f5t_7, (p8.fr g' f5t_8).up⟩
  -- the reference, whatever the class has answered
  have ref : ∀ r : Int32, (∀ PP : Int32 → Hp → Prop, (∀ h', Fr f5u h h' → h'.1 1 0 = 0 → h'.1 63 41 = 0 → PP r h') → SpI E 200 MX10_find [.ref (eA E 63)] (sI h 1 0 (0 : Int32)) PP) → SpI E 200 MX10_find [.ref (eA E 63)] (sI h 1 0 (0 : Int32)) (fun v2 h2 => (r = v2 → (K E h2)) ∧ (¬ r = v2 → (False))) := fun r t => t _ (fun h' g e1 e2 => br_t rfl (hK E _ rfl (fin h' g e1 e2)))
  have rbf : ∀ h', Fr f5u h h' → h'.1 63 42 = nI n0 → RBuf T h' := fun h' g e => ⟨by rw [eT]; exact e, fun k _ => by rw [g.f 91 (fun _ => rfl), ← q4]; exact eb k⟩
  -- what the reference answers
  have refM : ∀ r : Int32, (¬ (1 ≤ n0 ∧ n0 ≤ 8) → r = -1) → ((∃ k, k < n0 ∧ T.2 k = 0) → r = -1) → (1 ≤ n0 → n0 ≤ 8 → (∀ k, k < n0 → T.2 k ≠ 0) → (∀ i, vN D i → mt i → (∀ j, j < i → vN D j → ¬ mt j) → r = if 12 ≤ i then nI (88 + i) else nI i) ∧ ((∀ j, vN D j → ¬ mt j) → r = -1)) → ∀ PP : Int32 → Hp → Prop, (∀ h', Fr f5u h h' → h'.1 1 0 = 0 → h'.1 63 41 = 0 → PP r h') → SpI E 200 MX10_find [.ref (eA E 63)] (sI h 1 0 (0 : Int32)) PP := by
    intro r r1 r2 r3 PP t
    refine wp_X10_find E 199 _ PP (fun ga => ?_)
    rw [sI_n _ _ _ _ (show 63 ≠ 1 by decide), q3]
    have g1 : Fr f5u h (sI (sI (sI (sI h 1 0 (0 : Int32)) 63 0 (0 : Int32)) 63 42 (nI n0)) 63 41 (0 : Int32)) := ((((Fr.refl h).si rfl).si rfl).si rfl).si rfl
    have x10 : (sI (sI (sI (sI h 1 0 (0 : Int32)) 63 0 (0 : Int32)) 63 42 (nI n0)) 63 41 (0 : Int32)).1 1 0 = 0 := by rw [sI_n _ _ _ _ (by decide), sI_n _ _ _ _ (by decide), sI_n _ _ _ _ (by decide), sI_at]
    have x42 : (sI (sI (sI (sI h 1 0 (0 : Int32)) 63 0 (0 : Int32)) 63 42 (nI n0)) 63 41 (0 : Int32)).1 63 42 = nI n0 := by rw [sI_j (by decide), sI_at]
    refine wp_X10_isIn E 199 _ _ _ _ _ ?_
    have out : ¬ (1 ≤ n0 ∧ n0 ≤ 8) → PP (-1) (sI (sI (sI (sI h 1 0 (0 : Int32)) 63 0 (0 : Int32)) 63 42 (nI n0)) 63 41 (0 : Int32)) := fun z => by
      have := t _ g1 x10 (sI_at _ _ _ _)
      rw [r1 z] at this
      exact this
    refine ek_if (nI_ltI (b := 1) (by omega) (by decide)) (fun z => bq_t rfl (out (by omega))) (fun z => ek_if (nI_ltI (a := 8) (by decide) (by omega)) (fun y => bq_t rfl (out (by omega))) (fun y => bq_f (by decide) ?_))
    have loop : ∀ k, k ≤ n0 → (∀ j, j < k → T.2 j ≠ 0) → VX10_find_35 E 199 ga PP (nI k) (sI (sI (sI (sI h 1 0 (0 : Int32)) 63 0 (0 : Int32)) 63 42 (nI n0)) 63 41 (0 : Int32)) := by
      refine up_ind _ ?_ ?_
      · intro al
        refine sg_X10_find_35 E 199 ga _ _ PP ?_
        rw [x42]
        have g2 : Fr f5u h (sI (sI (sI (sI (sI (sI h 1 0 (0 : Int32)) 63 0 (0 : Int32)) 63 42 (nI n0)) 63 41 (0 : Int32)) 63 44 (0 : Int32)) 63 45 (nI n0)) := (g1.si rfl).si rfl
        have y10 : (sI (sI (sI (sI (sI (sI h 1 0 (0 : Int32)) 63 0 (0 : Int32)) 63 42 (nI n0)) 63 41 (0 : Int32)) 63 44 (0 : Int32)) 63 45 (nI n0)).1 1 0 = 0 := by rw [sI_n _ _ _ _ (by decide), sI_n _ _ _ _ (by decide)]; exact x10
        have y41 : (sI (sI (sI (sI (sI (sI h 1 0 (0 : Int32)) 63 0 (0 : Int32)) 63 42 (nI n0)) 63 41 (0 : Int32)) 63 44 (0 : Int32)) 63 45 (nI n0)).1 63 41 = 0 := by rw [sI_j (by decide), sI_j (by decide), sI_at]
        have y42 : (sI (sI (sI (sI (sI (sI h 1 0 (0 : Int32)) 63 0 (0 : Int32)) 63 42 (nI n0)) 63 41 (0 : Int32)) 63 44 (0 : Int32)) 63 45 (nI n0)).1 63 42 = nI n0 := by rw [sI_j (by decide), sI_j (by decide)]; exact x42
        have sr2 : RSrc D (sI (sI (sI (sI (sI (sI h 1 0 (0 : Int32)) 63 0 (0 : Int32)) 63 42 (nI n0)) 63 41 (0 : Int32)) 63 44 (0 : Int32)) 63 45 (nI n0)) := p1.2.1.fr g2 (fun c j e => by
          unfold isSrcR at e
          unfold f5u fNo
          simp only [Bool.or_eq_true, Bool.and_eq_true, beq_iff_eq] at e
          simp only [Bool.or_eq_false_iff, Bool.and_eq_false_iff, decide_eq_false_iff_not, beq_eq_false_iff_ne, bne_eq_false_iff_eq]
          omega)
        obtain ⟨m1, m2⟩ := r3 (by omega) (by omega) al
        refine br_t (nI_le (Nat.le_refl _) (by omega)) (r_named (a := 0) (e := n0) w ok (rbf _ g2 y42) sr2 (by rw [sI_j (by decide), sI_at]; rfl) (sI_at _ _ _ _) (Nat.zero_le _) (by omega) (fun i vi al8 fst => ?_) (fun no => ?_))
        · have i20 : i < 20 := by rcases vi with x | x <;> omega
          have e := m1 i vi al8 fst
          have tt := t _ g2 y10 y41
          rw [e] at tt
          refine ek_if (nI_leI (a := 12) (by decide) (by omega)) (fun x => ?_) (fun x => ?_)
          · rw [if_pos x] at tt
            rw [show (100 : Int32) + nI i = nI (100 + i) from nI_add 100 i, show (12 : Int32) = nI 12 from rfl, pk_sub (by omega), show 100 + i - 12 = 88 + i by omega]
            exact tt
          · rw [if_neg x] at tt; exact tt
        · have tt := t _ g2 y10 y41
          rw [m2 no] at tt
          exact br_f (by decide) tt
      · intro k hk ih al
        have hb := ok.2 k (by omega)
        refine sg_X10_find_35 E 199 ga _ _ PP ?_
        rw [x42, nI_clamp (by omega), g1.f 91 (fun _ => rfl), ← q4, eb k, nI_1]
        refine br_f (nI_ge hk (by omega)) ⟨vp_in_nI (by omega) (by decide), bj_if (eq_c (c := 0) hb (by decide)) (fun x => ih (fun j hj => ?_)) (fun x => ?_)⟩
        · by_cases e : j = k
          · rw [e]; exact x
          · exact al j (by omega)
        · have tt := t _ g1 x10 (sI_at _ _ _ _)
          rw [r2 ⟨k, hk, x⟩] at tt
          exact tt
    exact loop 0 (Nat.zero_le _) (fun j hj => absurd hj (Nat.not_lt_zero j))
  have srC : CSrc D (sI h 1 0 (0 : Int32)) := p1.1.fr (X := fun c _ => c == 1) ((Fr.refl h).si rfl) (fun c j e => by
    unfold isSrcC at e
    simp only [Bool.or_eq_true, Bool.and_eq_true, decide_eq_true_eq, beq_iff_eq] at e
    rw [beq_eq_false_iff_ne]
    omega)
  refine wp_X9_find E 199 h _ (c_whole ok cb (fun l8 al => ?_) (fun no => ?_))
  · rw [eT] at l8 al
    have hb : ∀ k, k < n0 → 0 < T.2 (0 + k) ∧ T.2 (0 + k) < 128 := fun k hk => by
      have := ld_b (al k hk)
      rw [Nat.zero_add]
      omega
    have nv : nmN (ltr T 0 n0) = nmb T.2 0 T.1 := by
      have := nmb_ltr (T := T) (a := 0) (L := n0) l8 hb
      rw [Nat.zero_add] at this
      rw [eT]; exact this
    have nz : ∀ k, k < n0 → T.2 k ≠ 0 := fun k hk => by have := hb k hk; rw [Nat.zero_add] at this; omega
    by_cases n00 : n0 = 0
    · -- an empty buffer
      have v0 : nmb T.2 0 T.1 = 0 := by rw [eT, n00]; rfl
      rw [v0]
      refine wp_X6_operationNamed_5 E 198 _ _ _ ?_
      rw [srC.1]
      refine c_idx (f := dM D) lay_6 hN (by decide) (by decide) (fun m hm => ⟨(srC.2.2.1 m hm).2.2.2.2.2.2, w.2.2.2.2.1 m hm⟩) (fun m hm e _ => ?_) (fun _ => br_t rfl (wp_X6_instructionNamed_5 E 198 _ _ _ ?_))
      · have := nmN_pos (w.2.2.2.2.1 m hm); omega
      · rw [srC.2.1]
        refine c_idx (f := fun i => dM D (12 + i)) lay_13 hI8 (by decide) (by decide) (fun i hi => ⟨(srC.2.2.2 i hi).1, w.2.2.2.2.2 i hi⟩) (fun i hi e _ => ?_) (fun _ => bq_t rfl (ref (-1) (refM (-1) (fun _ => rfl) (fun _ => rfl) (fun z => by omega))))
        have := nmN_pos (w.2.2.2.2.2 i hi)
        have e : nmN (dM D (12 + i)) = 0 := e
        omega
    · have okL : NmOK (ltr T 0 n0) := by
        have := ltr_ok (T := T) (a := 0) (L := n0) (by omega) hb
        rw [Nat.zero_add] at this; exact this
      rw [← nv]
      refine wp_X6_operationNamed_5 E 198 _ _ _ ?_
      rw [srC.1]
      refine c_idx (f := dM D) lay_6 hN (by decide) (nmN_lt okL) (fun m hm => ⟨(srC.2.2.1 m hm).2.2.2.2.2.2, w.2.2.2.2.1 m hm⟩) (fun m hm e fst => ?_) (fun no1 => br_t rfl (wp_X6_instructionNamed_5 E 198 _ _ _ ?_))
      · refine br_f (nI_m1 (by omega)) (ref _ (refM _ (fun z => absurd ⟨by omega, l8⟩ z) (fun ⟨k, hk, z⟩ => absurd z (nz k hk)) (fun _ _ _ => ⟨fun i vi mi fi => ?_, fun no => absurd (nmN_inj (w.2.2.2.2.1 m hm) okL e) (no m (Or.inl hm))⟩)))
        have im : i = m := by
          rcases Nat.lt_or_ge i m with x | x
          · exact absurd (nmN_cong mi) (fst i x)
          · rcases Nat.lt_or_ge m i with y | y
            · exact absurd (nmN_inj (w.2.2.2.2.1 m hm) okL e) (fi m y (Or.inl hm))
            · omega
        rw [im, if_neg (by omega)]
      · rw [srC.2.1]
        refine c_idx (f := fun i => dM D (12 + i)) lay_13 hI8 (by decide) (nmN_lt okL) (fun i hi => ⟨(srC.2.2.2 i hi).1, w.2.2.2.2.2 i hi⟩) (fun m hm e fst => ?_) (fun no2 => bq_t rfl (ref (-1) (refM (-1) (fun _ => rfl) (fun _ => rfl) (fun _ _ _ => ⟨fun i vi mi fi => ?_, fun _ => rfl⟩))))
        · refine bq_f (nI_m1 (by omega)) ?_
          rw [show (100 : Int32) + nI m = nI (100 + m) from nI_add 100 m]
          refine ref _ (refM _ (fun z => absurd ⟨by omega, l8⟩ z) (fun ⟨k, hk, z⟩ => absurd z (nz k hk)) (fun _ _ _ => ⟨fun i vi mi fi => ?_, fun no => absurd (nmN_inj (w.2.2.2.2.2 m hm) okL e) (no (12 + m) (Or.inr ⟨by omega, by omega⟩))⟩))
          have im : i = 12 + m := by
            rcases vi with x | ⟨x1, x2⟩
            · exact absurd (nmN_cong mi) (no1 i x)
            · rcases Nat.lt_or_ge i (12 + m) with x | x
              · have := fst (i - 12) (by omega)
                have this : nmN (dM D (12 + (i - 12))) ≠ nmN (ltr T 0 n0) := this
                rw [show 12 + (i - 12) = i by omega] at this
                exact absurd (nmN_cong mi) this
              · rcases Nat.lt_or_ge (12 + m) i with y | y
                · exact absurd (nmN_inj (w.2.2.2.2.2 m hm) okL e) (fi (12 + m) y (Or.inr ⟨by omega, by omega⟩))
                · omega
          rw [im, if_pos (by omega), show 88 + (12 + m) = 100 + m by omega]
        · rcases vi with x | ⟨x1, x2⟩
          · exact absurd (nmN_cong mi) (no1 i x)
          · have := no2 (i - 12) (by omega)
            have this : nmN (dM D (12 + (i - 12))) ≠ nmN (ltr T 0 n0) := this
            rw [show 12 + (i - 12) = i by omega] at this
            exact absurd (nmN_cong mi) this
  · rw [eT] at no
    refine wp_X6_operationNamed_5 E 198 _ _ _ ?_
    rw [srC.1]
    refine c_idx (f := dM D) lay_6 hN (by decide) (by decide) (fun m hm => ⟨(srC.2.2.1 m hm).2.2.2.2.2.2, w.2.2.2.2.1 m hm⟩) (fun m hm e _ => ?_) (fun _ => br_t rfl (wp_X6_instructionNamed_5 E 198 _ _ _ ?_))
    · have := nmN_pos (w.2.2.2.2.1 m hm); omega
    · rw [srC.2.1]
      refine c_idx (f := fun i => dM D (12 + i)) lay_13 hI8 (by decide) (by decide) (fun i hi => ⟨(srC.2.2.2 i hi).1, w.2.2.2.2.2 i hi⟩) (fun i hi e _ => ?_) (fun _ => bq_t rfl (ref (-1) (refM (-1) (fun _ => rfl) (fun _ => rfl) (fun z1 z2 z3 => ⟨fun i vi mi _ => ?_, fun _ => rfl⟩))))
      · have := nmN_pos (w.2.2.2.2.2 i hi)
        have e : nmN (dM D (12 + i)) = 0 := e
        omega
      · rcases no with x | ⟨k, hk, x⟩
        · exact absurd z2 x
        · have e := mi k (by omega)
          have el : ltr T 0 n0 k = T.2 k := by
            unfold ltr
            rw [Nat.zero_add, if_pos hk]
          rw [el] at e
          rcases p0.2.2.1 i vi k (by omega) with y | y
          · rw [y] at e; exact absurd e.symm (z3 k hk)
          · rw [e, x] at y; cases y
