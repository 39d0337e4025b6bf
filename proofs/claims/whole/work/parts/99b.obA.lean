/-! obligations: marks -/
def fU (c j : Nat) : Bool := fLA c j || c == 68 || fKe c j || fNo c j
theorem fU_c (c j : Nat) (hc : c ≤ 62) : fU c j = false := by
  unfold fU fLA fKe fNo
  simp only [Bool.or_eq_false_iff, Bool.and_eq_false_iff, decide_eq_false_iff_not, beq_eq_false_iff_ne]
  omega
theorem la_u (c j : Nat) (q : fU c j = false) : fLA c j = false := by unfold fU at q; simp only [Bool.or_eq_false_iff] at q; exact q.1.1.1
theorem ke_u (c j : Nat) (q : fU c j = false) : fKe c j = false := by unfold fU at q; simp only [Bool.or_eq_false_iff] at q; exact q.1.2
theorem no_u (c j : Nat) (q : fU c j = false) : fNo c j = false := by unfold fU at q; simp only [Bool.or_eq_false_iff] at q; exact q.2
theorem u_ch (c j : Nat) (q : fCg c j = false) : fU c j = false := by
  unfold fU
  rw [la_ch c j q, ke_ch c j q, no_ch c j q]
  unfold fCg at q
  simp only [Bool.or_eq_false_iff] at q
  rw [q.1.1.1.2]; rfl
def mkS (S : ST) (i k : Nat) (b : Bool) : ST := (sM S, fun j => if j = i then (if b then sK S i ||| 2 ^ k else dif (sK S i) (2 ^ k)) else sK S j)
theorem mkS_at (S : ST) (i k : Nat) (b : Bool) : sK (mkS S i k b) i = if b then sK S i ||| 2 ^ k else dif (sK S i) (2 ^ k) := if_pos rfl
theorem mkS_ne (S : ST) {i k j : Nat} (b : Bool) (h : j ≠ i) : sK (mkS S i k b) j = sK S j := if_neg h
theorem mkS_bit (S : ST) (i k : Nat) (b : Bool) (x : Nat) : (sK (mkS S i k b) i).testBit x = if x = k then b else (sK S i).testBit x := by
  rw [mkS_at]
  cases b with
  | true =>
    show (sK S i ||| 2 ^ k).testBit x = _
    rw [Nat.testBit_or, p2_bit]
    by_cases q : x = k
    · rw [if_pos q, decide_eq_true q.symm, Bool.or_true]
    · rw [if_neg q, decide_eq_false (fun e => q e.symm), Bool.or_false]
  | false =>
    show (dif (sK S i) (2 ^ k)).testBit x = _
    rw [dif_bit, p2_bit]
    by_cases q : x = k
    · rw [if_pos q, decide_eq_true q.symm, Bool.not_true, Bool.and_false]
    · rw [if_neg q, decide_eq_false (fun e => q e.symm), Bool.not_false, Bool.and_true]
theorem mkS_lt {S : ST} {i k : Nat} (b : Bool) (h : sK S i < 2 ^ 24) (hk : k < 24) : sK (mkS S i k b) i < 2 ^ 24 := by
  rw [mkS_at]
  cases b with
  | true => exact or_lt h (p2_lt hk)
  | false => exact Nat.lt_of_le_of_lt (dif_le _ _) h
theorem mkS_wf {D : SD} {S : ST} {i k : Nat} (b : Bool) (ws : WfS D S) (hi : i < dI D) (hk : k < 24) (sb : SB D (mkS S i k b) i) : WfS D (mkS S i k b) := by
  refine ⟨ws.1, fun j hj => ?_⟩
  by_cases q : j = i
  · subst q
    exact ⟨mkS_lt b (ws.2 j hj).1 hk, sb⟩
  · rw [mkS_ne S b q]
    exact ⟨(ws.2 j hj).1, fun x hx => by rw [sEnd_cong (mkS_ne S b q)]; exact (ws.2 j hj).2 x hx⟩
theorem obM (b : Bool) (a1 a2 : Int32) (E : En) (h : Hp) (n : Nat) (hn : n < 512) (hI : Iv n h) (K : En → Hp → Prop) (hK : ∀ (E2 : En) (h2 : Hp), eB E2 = eB E → Iv (n + 1) h2 → K E2 h2) : SpH E 200 3 ML_setMark HL_setMark [.ref (eA E 0), .int a1, .int a2, .int (b2i b), .ref (eA E 98)] h (fun v2 h2 => SpI E 200 MX10_setMark [.ref (eA E 63), .int a1, .int a2, .int (b2i b)] h2 (fun v4 h4 => SpI E 200 MX10_thrown [.ref (eA E 63)] h4 (fun v5 h5 => (v5 = v2 → ((¬ v2 = 0 → (K E h5)) ∧ (v2 = 0 → (((lg_cmp (h5.2 98 0) v4.toInt64) = 0 → (K E h5)) ∧ (¬ (lg_cmp (h5.2 98 0) v4.toInt64) = 0 → (False)))))) ∧ (¬ v5 = v2 → (False))))) := by
  obtain ⟨D, S, Q, N, hs, sr, n0, L, pd, p0, p1, p2, p3, p4, p5, p6, p7, p8⟩ := id hI
  have w := p0.1
  have h8 := w.2.2.1
  have e1 : ∀ {A : Int32 → Hp → Prop} {Z : Hp → Prop}, SpI E 199 MX10_throwsAs [.ref (eA E 63), .int (1 : Int32)] h (fun v3 h3 => (v3 = 0 → A v3 h3) ∧ (¬ v3 = 0 → (SpI E 200 MX10_thrown [.ref (eA E 63)] h3 (fun v5 h5 => (v5 = (1 : Int32) → ((¬ (1 : Int32) = 0 → (K E h5)) ∧ ((1 : Int32) = 0 → Z h5))) ∧ (¬ v5 = (1 : Int32) → (False)))))) := thr_y (k := 1) rfl (by decide) (by decide) (tl_er (by decide) (sI_at _ _ _ _) (hK E _ rfl (hI.keep ((Fr.refl h).si rfl))))
  refine wp_L_setMark E 199 _ _ _ h _ (wp_X9_setMark E 193 _ _ _ h _ _ (c_chkP w p1.1 (fun i k hi hk ea eb => ?_) (fun q => Or.inl ⟨rfl, ?_⟩) (fun i hi ea q => Or.inl ⟨rfl, ?_⟩)))
  · subst ea eb
    obtain ⟨l0, l24, hr⟩ := w.2.2.2.1 i hi
    have v8 : vp_in (nI i) 8 := vp_in_nI (by omega) (by decide)
    have v9 : vp_in (nI (1 + i)) 9 := vp_in_nI (by omega) (by decide)
    have l := (p1.1.2.2.2 i hi).2.1
    have isat : ∀ {h1 : Hp} {PP : Int32 → Hp → Prop}, Fr fCg h h1 → PP 1 h1 → SpI E 199 MX10_isAt [.ref (eA E 63), .int (nI i), .int (nI k)] h1 PP := fun f t => r_isAt w (p1.2.1.fr f srcR_ch) (fun q => by rw [inr_yes hi (by omega)] at q; cases q) (fun j hj e q => by
      have := nI_inj (by omega) (by omega) e
      subst this
      rw [inr_yes hk (by omega)] at q; cases q) (fun _ _ _ _ _ _ => t)
    have rl : ∀ {h1 : Hp}, Fr fCg h h1 → h1.1 66 i = nI (dL D i) := fun f => r_len w (p1.2.1.fr f srcR_ch) hi
    rw [nI_clamp (by omega), l, show (1 : Int32) = nI 1 from rfl, pk_sub (by omega)]
    refine ⟨v8, bj_if (nI_eq (by omega) (by omega)) (fun nl => ?_) (fun nl => Or.inl ⟨rfl, ?_⟩)⟩
    · -- the index is not the last one
      have mk : h.1 16 (24 * i + k) = b2i ((sK S i).testBit k) := p1.2.2.1.2 i hi k hk
      have sbS : SB D S i := (p0.2.1.2 i hi).2
      -- the reference up to its own check
      have refU : ∀ (h1 : Hp) (PP : Int32 → Hp → Prop), Fr fCg h h1 → RSt D S h1 → (∀ M, M ≤ 24 → (M ≤ 10 ↔ SB D (mkS S i k b) i) → (nI M ≤ (10 : Int32) → SpI E 199 MX10_throwsAs [.ref (eA E 63), .int (0 : Int32)] (sI (sI (sI h1 63 0 (0 : Int32)) 68 (1 + i) (nI (sK (mkS S i k b) i))) 68 (1 + i) (nI (sK S i))) (fun v12 h12 => (v12 = 0 → (SpV E 199 MX10_keeps [.ref (eA E 63)] h12 (fun h14 => vp_in (nI (1 + i)) 9 ∧ (SpV E 199 MX10_laysAll [.ref (eA E 63)] (sI h14 68 (1 + i) (nI (sK (mkS S i k b) i))) (fun h16 => PP (h16.1 63 26) h16))))) ∧ (¬ v12 = 0 → (PP (0 : Int32) h12)))) ∧ (¬ nI M ≤ (10 : Int32) → SpI E 199 MX10_throwsAs [.ref (eA E 63), .int (2 : Int32)] (sI (sI (sI h1 63 0 (0 : Int32)) 68 (1 + i) (nI (sK (mkS S i k b) i))) 68 (1 + i) (nI (sK S i))) (fun v12 h12 => (v12 = 0 → (SpV E 199 MX10_keeps [.ref (eA E 63)] h12 (fun h14 => vp_in (nI (1 + i)) 9 ∧ (SpV E 199 MX10_laysAll [.ref (eA E 63)] (sI h14 68 (1 + i) (nI (sK (mkS S i k b) i))) (fun h16 => PP (h16.1 63 26) h16))))) ∧ (¬ v12 = 0 → (PP (0 : Int32) h12))))) → SpI E 200 MX10_setMark [.ref (eA E 63), .int (nI i), .int (nI k), .int (b2i b)] h1 PP := by
        intro h1 PP f1 st1 t
        refine wp_X10_setMark E 199 _ _ _ h1 PP (isat f1 (br_f (by decide) ⟨v8, ?_⟩))
        rw [nI_clamp (n := i) (by omega), rl f1, sub_1 (by omega), show (1 : Int32) + nI i = nI (1 + i) from nI_add 1 i, nI_clamp (n := 1 + i) (by omega), sh1 k (by omega)]
        refine br_f (nI_ge (by omega) (by omega)) (thr_n ⟨v9, ?_⟩)
        have g1 : Fr fCg h (sI h1 63 0 (0 : Int32)) := f1.si rfl
        have was : (sI h1 63 0 (0 : Int32)).1 68 (1 + i) = nI (sK S i) := by rw [sI_n _ _ _ _ (by decide)]; exact st1.2 i hi
        rw [was, nI_dif, nI_or]
        have g2 : ∀ x, Fr fCg h (sI (sI h1 63 0 (0 : Int32)) 68 (1 + i) x) := fun x => g1.si rfl
        have rst : RSt D (mkS S i k b) (sI (sI h1 63 0 (0 : Int32)) 68 (1 + i) (nI (sK (mkS S i k b) i))) := ⟨by rw [sI_j (by omega), sI_n _ _ _ _ (by decide)]; exact st1.1, fun j hj => by
          by_cases q : j = i
          · subst q; exact sI_at _ _ _ _
          · rw [mkS_ne S b q, sI_j (by omega), sI_n _ _ _ _ (by decide)]; exact st1.2 j hj⟩
        have lng : ∀ {PQ : Int32 → Hp → Prop}, (∀ M, M ≤ 24 → (M ≤ 10 ↔ SB D (mkS S i k b) i) → PQ (nI M) (sI (sI h1 63 0 (0 : Int32)) 68 (1 + i) (nI (sK (mkS S i k b) i)))) → SpI E 199 MX10_longestSegment [.ref (eA E 63), .int (nI i)] (sI (sI h1 63 0 (0 : Int32)) 68 (1 + i) (nI (sK (mkS S i k b) i))) PQ := fun t => r_longest (d := 197) w (mkS_lt b (p0.2.1.2 i hi).1 (by omega)) (p1.2.1.fr (g2 _) srcR_ch) rst hi t
        cases hb : b with
        | false =>
          rw [hb] at lng t
          refine br_t rfl ⟨v9, ?_⟩
          rw [show dif (sK S i) (2 ^ k) = sK (mkS S i k false) i from (mkS_at S i k false).symm]
          refine lng (fun M hM hiff => ?_)
          obtain ⟨t1, t2⟩ := t M hM hiff
          exact ⟨fun z => ⟨v9, br_t rfl (t1 z)⟩, fun z => ⟨v9, br_f (by decide) (t2 z)⟩⟩
        | true =>
          rw [hb] at lng t
          refine br_f (by decide) ⟨v9, ?_⟩
          rw [show sK S i ||| 2 ^ k = sK (mkS S i k true) i from (mkS_at S i k true).symm]
          refine lng (fun M hM hiff => ?_)
          obtain ⟨t1, t2⟩ := t M hM hiff
          exact ⟨fun z => ⟨v9, br_t rfl (t1 z)⟩, fun z => ⟨v9, br_f (by decide) (t2 z)⟩⟩
      sorry
    · refine wp_X10_setMark E 199 _ _ _ h _ (isat (Fr.refl h) (br_f (by decide) ⟨v8, ?_⟩))
      rw [nI_clamp (n := i) (by omega), rl (Fr.refl h), sub_1 (by omega)]
      exact br_t (nI_le (by omega) (by omega)) e1
  · refine wp_X10_setMark E 199 _ _ _ h _ (r_isAt w p1.2.1 (fun _ => br_t rfl e1) (fun _ _ _ _ => br_t rfl e1) (fun j k hj _ e _ => ?_))
    subst e; rw [inr_yes hj (by omega)] at q; cases q
  · refine wp_X10_setMark E 199 _ _ _ h _ (r_isAt w p1.2.1 (fun _ => br_t rfl e1) (fun _ _ _ _ => br_t rfl e1) (fun j k hj hk e2 e3 => ?_))
    subst ea
    have := nI_inj (by omega) (by omega) e2
    subst this
    subst e3
    have l24 := (w.2.2.2.1 i hi).2.1
    rw [inr_yes hk (by omega)] at q; cases q
