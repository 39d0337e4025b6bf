/-! obligations: find -/
def f5t (c j : Nat) : Bool := b5 c j || fNo c j || (c == 63 && (42 ≤ j && j ≤ 49) && j != 43)
theorem f5t_1 (c j : Nat) (q : b1 c j = true) : f5t c j = false := by
  unfold b1 isSrcC isSrcR at q
  unfold f5t b5 fNo
  simp only [Bool.or_eq_true, Bool.and_eq_true, decide_eq_true_eq, beq_iff_eq] at q
  simp only [Bool.or_eq_false_iff, Bool.and_eq_false_iff, decide_eq_false_iff_not, beq_eq_false_iff_ne, bne_eq_false_iff_eq]
  omega
theorem f5t_2 (c j : Nat) (q : b2 c j = true) : f5t c j = false := by
  unfold b2 at q
  unfold f5t b5 fNo
  simp only [Bool.or_eq_true, Bool.and_eq_true, decide_eq_true_eq, beq_iff_eq] at q
  simp only [Bool.or_eq_false_iff, Bool.and_eq_false_iff, decide_eq_false_iff_not, beq_eq_false_iff_ne, bne_eq_false_iff_eq]
  omega
theorem f5t_3 (c j : Nat) (q : b3 c j = true) : f5t c j = false := by
  unfold b3 at q
  unfold f5t b5 fNo
  simp only [Bool.or_eq_true, Bool.and_eq_true, decide_eq_true_eq, beq_iff_eq] at q
  simp only [Bool.or_eq_false_iff, Bool.and_eq_false_iff, decide_eq_false_iff_not, beq_eq_false_iff_ne, bne_eq_false_iff_eq]
  omega
theorem f5t_4 (c j : Nat) (q : b4 c j = true) : f5t c j = false := by
  unfold b4 at q
  unfold f5t b5 fNo
  simp only [Bool.or_eq_true, Bool.and_eq_true, decide_eq_true_eq, beq_iff_eq] at q
  simp only [Bool.or_eq_false_iff, Bool.and_eq_false_iff, decide_eq_false_iff_not, beq_eq_false_iff_ne, bne_eq_false_iff_eq]
  omega
theorem f5t_6 (c j : Nat) (q : b6 c j = true) : f5t c j = false := by
  unfold b6 at q
  unfold f5t b5 fNo
  simp only [Bool.or_eq_true, Bool.and_eq_true, decide_eq_true_eq, beq_iff_eq] at q
  simp only [Bool.or_eq_false_iff, Bool.and_eq_false_iff, decide_eq_false_iff_not, beq_eq_false_iff_ne, bne_eq_false_iff_eq]
  omega
theorem f5t_7 (c j : Nat) (q : b7 c j = true) : f5t c j = false := by
  unfold b7 at q
  unfold f5t b5 fNo
  simp only [Bool.or_eq_true, Bool.and_eq_true, decide_eq_true_eq, beq_iff_eq] at q
  simp only [Bool.or_eq_false_iff, Bool.and_eq_false_iff, decide_eq_false_iff_not, beq_eq_false_iff_ne, bne_eq_false_iff_eq]
  omega
theorem f5t_8 (c j : Nat) (q : b8 c j = true) : f5t c j = false := by
  unfold b8 at q
  unfold f5t b5 fNo
  simp only [Bool.or_eq_true, Bool.and_eq_true, decide_eq_true_eq, beq_iff_eq] at q
  simp only [Bool.or_eq_false_iff, Bool.and_eq_false_iff, decide_eq_false_iff_not, beq_eq_false_iff_ne, bne_eq_false_iff_eq]
  omega
theorem nmN_pos {f : Nat → Nat} (h : NmOK f) : 0 < nmN f := by
  obtain ⟨c, c1, c2, c3⟩ := nm_c h
  have pos : 0 < c := by
    rcases Nat.eq_zero_or_pos c with q | q
    · have := c3 0 (by omega) (by decide)
      have := h.1
      omega
    · exact q
  have lo := nmF_lo (f := f) (c - 1) (fun j hj => c2 j (by omega))
  rw [show c - 1 + 1 = c by omega] at lo
  have e := nmF_end c3 (8 - c) (by omega)
  rw [show c + (8 - c) = 8 by omega] at e
  have : 0 < 256 ^ (c - 1) := Nat.pow_pos (by decide)
  show 0 < nmF f 8
  omega
section FND
variable {E : En} {d : Nat} {T : Tx} {h : Hp} {PL : Int64 → Hp → Prop}
theorem c_whole (ok : TxOK T) (cb : CBuf T h) (t1 : T.1 ≤ 8 → (∀ k, k < T.1 → isLD (T.2 k) = true) → PL (lN (nmb T.2 0 T.1)) h) (t0 : (¬ T.1 ≤ 8 ∨ ∃ k, k < T.1 ∧ isLD (T.2 k) = false) → PL (lN 0) h) : SpL E (d + 1) MX2_wholeName [.ref (eA E 1)] h PL := by
  have nle := ok.1
  refine wp_X2_wholeName E d h PL (fun ga => ?_)
  rw [cb.1]
  refine ek_if (nI_leI (b := 8) (by omega) (by decide)) (fun q => ?_) (fun q => t0 (Or.inl q))
  have loop : ∀ k, k ≤ T.1 → (∀ j, j < k → isLD (T.2 j) = true) → VX2_wholeName_15 E d ga PL (lN (nmb T.2 0 k)) (nI k) h := by
    refine up_ind _ ?_ ?_
    · intro al
      refine sg_X2_wholeName_15 E d ga _ _ h PL ?_
      rw [cb.1]
      exact br_t (nI_le (Nat.le_refl _) (by omega)) (t1 q al)
    · intro k hk ih al
      have hb := ok.2 k hk
      have v : vp_in (nI k) 1200 := vp_in_nI (by omega) (by decide)
      have step : isLD (T.2 k) = true → VX2_wholeName_15 E d ga PL ((lN (nmb T.2 0 k) <<< ((8 : Int32).toInt64 &&& 63)) ||| ((sb (T.2 k)).toInt64)) (nI (k + 1)) h := by
        intro ld
        have b7 := ld_b ld
        have := ih (fun j hj => by
          by_cases e : j = k
          · rw [e]; exact ld
          · exact al j (by omega))
        rw [show (8 : Int32) = nI 8 from rfl, wb_shl _ (by decide), (sb_tab _ hb).2.1 (by omega), nI_l (by omega), show nmb T.2 0 k * 2 ^ 8 = 2 ^ 8 * nmb T.2 0 k by omega, fb_or_sumL _ (by omega)]
        have e1 : nmb T.2 0 (k + 1) = nmb T.2 0 k * 256 + T.2 (0 + k) := rfl
        rw [e1, Nat.zero_add] at this
        rw [show 2 ^ 8 * nmb T.2 0 k + T.2 k = nmb T.2 0 k * 256 + T.2 k by omega]
        exact this
      refine sg_X2_wholeName_15 E d ga _ _ h PL ?_
      rw [cb.1, nI_clamp (by omega), cb.2 k hk, nI_1]
      refine br_f (nI_ge hk (by omega)) ⟨v, c_isL hb (bj_if (b2i_0 _) (fun z => ⟨v, ?_⟩) (fun z => ⟨v, ?_⟩))⟩
      · rw [cb.2 k hk]
        exact step (by unfold isLD; rw [ts_nf' z]; rfl)
      · rw [cb.2 k hk]
        refine c_isD hb (bj_if (b2i_0 _) (fun y => ⟨v, ?_⟩) (fun y => ?_))
        · rw [cb.2 k hk]
          exact step (by unfold isLD; rw [ts_nf' y, Bool.or_true])
        · exact t0 (Or.inr ⟨k, hk, by unfold isLD; rw [z, y]; rfl⟩)
  exact loop 0 (Nat.zero_le _) (fun j hj => absurd hj (Nat.not_lt_zero j))
end FND
/-- the bytes of a buffer -/
theorem tx_of {h : Hp} {n0 : Nat} (p5 : B5 n0 h) : ∃ T : Tx, T.1 = n0 ∧ TxOK T ∧ ∀ k, h.1 2 k = sb (T.2 k) := by
  obtain ⟨q1, q2, q3, q4, q5⟩ := p5
  refine ⟨(n0, fun k => Classical.choose (q5 k)), rfl, ⟨q1, fun k _ => (Classical.choose_spec (q5 k)).1⟩, fun k => (Classical.choose_spec (q5 k)).2⟩
theorem ob4 : Ob4 Iv := by
  intro E h n hn hI K hK
  obtain ⟨D, S, Q, N, hs, sr, n0, L, pd, p0, p1, p2, p3, p4, p5, p6, p7, p8⟩ := id hI
  have w := p0.1
  have hN := w.1
  have hI8 := w.2.2.1
  obtain ⟨T, eT, ok, eb⟩ := tx_of p5
  obtain ⟨q1, q2, q3, q4, q5⟩ := p5
  have cb : CBuf T h := ⟨by rw [eT]; exact q2, fun k _ => eb k⟩
  let mt : Nat → Prop := fun i => ∀ k, k < 8 → dM D i k = ltr T 0 n0 k
  have f0 : Fr f5t h (sI h 1 0 (0 : Int32)) := (Fr.refl h).si rfl
  have nok : ∀ i, vN D i → NmOK (dM D i) := fun i vi => by
    rcases vi with q | q
    · exact w.2.2.2.2.1 i q
    · have := w.2.2.2.2.2 (i - 12) (by omega)
      rw [show 12 + (i - 12) = i by omega] at this
      exact this
  have fin : ∀ h', Fr f5t h h' → h'.1 1 0 = 0 → h'.1 63 41 = 0 → Iv (n + 1) h' := fun h' g e1 e2 => ⟨D, S, Q, N, hs, sr, 0, L, pd, p0, p1.fr g f5t_1, p2.fr g f5t_2, p3.fr g f5t_3, p4.fr g f5t_4, ⟨Nat.zero_le _, e1, e2, sorry, sorry⟩, p6.fr g f5t_6, p7.fr g f5t_7, (p8.fr g f5t_8).up⟩
  sorry
