/-! obligations: marks -/
def fU (c j : Nat) : Bool := fLA c j || c == 68 || fKe c j || fNo c j
theorem fU_c (c j : Nat) (hc : c ≤ 62) : fU c j = false := by
  unfold fU fLA fKe fNo
  simp only [Bool.or_eq_false_iff, Bool.and_eq_false_iff, decide_eq_false_iff_not, beq_eq_false_iff_ne]
  omega
theorem la_u (c j : Nat) (q : fU c j = false) : fLA c j = false := by unfold fU at q; simp only [Bool.or_eq_false_iff] at q; exact q.1.1.1
theorem ke_u (c j : Nat) (q : fU c j = false) : fKe c j = false := by unfold fU at q; simp only [Bool.or_eq_false_iff] at q; exact q.1.2
theorem no_u (c j : Nat) (q : fU c j = false) : fNo c j = false := by unfold fU at q; simp only [Bool.or_eq_false_iff] at q; exact q.2
theorem u_ch (c j : Nat) (q : fCg c j = false) : fU c j = false := by
  unfold fU
  rw [la_ch c j q, ke_ch c j q, no_ch c j q]
  unfold fCg at q
  simp only [Bool.or_eq_false_iff] at q
  rw [q.1.1.1.2]; rfl
def mkS (S : ST) (i k : Nat) (b : Bool) : ST := (sM S, fun j => if j = i then (if b then sK S i ||| 2 ^ k else dif (sK S i) (2 ^ k)) else sK S j)
theorem mkS_at (S : ST) (i k : Nat) (b : Bool) : sK (mkS S i k b) i = if b then sK S i ||| 2 ^ k else dif (sK S i) (2 ^ k) := if_pos rfl
theorem mkS_ne (S : ST) {i k j : Nat} (b : Bool) (h : j ≠ i) : sK (mkS S i k b) j = sK S j := if_neg h
theorem mkS_bit (S : ST) (i k : Nat) (b : Bool) (x : Nat) : (sK (mkS S i k b) i).testBit x = if x = k then b else (sK S i).testBit x := by
  rw [mkS_at]
  cases b with
  | true =>
    show (sK S i ||| 2 ^ k).testBit x = _
    rw [Nat.testBit_or, p2_bit]
    by_cases q : x = k
    · rw [if_pos q, decide_eq_true q.symm, Bool.or_true]
    · rw [if_neg q, decide_eq_false (fun e => q e.symm), Bool.or_false]
  | false =>
    show (dif (sK S i) (2 ^ k)).testBit x = _
    rw [dif_bit, p2_bit]
    by_cases q : x = k
    · rw [if_pos q, decide_eq_true q.symm, Bool.not_true, Bool.and_false]
    · rw [if_neg q, decide_eq_false (fun e => q e.symm), Bool.not_false, Bool.and_true]
theorem mkS_lt {S : ST} {i k : Nat} (b : Bool) (h : sK S i < 2 ^ 24) (hk : k < 24) : sK (mkS S i k b) i < 2 ^ 24 := by
  rw [mkS_at]
  cases b with
  | true => exact or_lt h (p2_lt hk)
  | false => exact Nat.lt_of_le_of_lt (dif_le _ _) h
theorem mkS_wf {D : SD} {S : ST} {i k : Nat} (b : Bool) (ws : WfS D S) (hi : i < dI D) (hk : k < 24) (sb : SB D (mkS S i k b) i) : WfS D (mkS S i k b) := by
  refine ⟨ws.1, fun j hj => ?_⟩
  by_cases q : j = i
  · subst q
    exact ⟨mkS_lt b (ws.2 j hj).1 hk, sb⟩
  · rw [mkS_ne S b q]
    exact ⟨(ws.2 j hj).1, fun x hx => by rw [sEnd_cong (mkS_ne S b q)]; exact (ws.2 j hj).2 x hx⟩
theorem back68 {h : Hp} {p : Nat} {x v y : Int32} (e : h.1 68 p = v) : Fr fNo h (sI (sI (sI (sI h 63 0 (0 : Int32)) 68 p x) 68 p v) 63 0 y) := by
  intro c j q
  refine ⟨?_, rfl⟩
  by_cases c63 : c = 63
  · subst c63
    have hj : j ≠ 0 := fun z => by subst z; cases q
    rw [sI_j hj, sI_n _ _ _ _ (by decide), sI_n _ _ _ _ (by decide), sI_j hj]
  · rw [sI_n _ _ _ _ c63]
    by_cases c68 : c = 68
    · subst c68
      by_cases hj : j = p
      · subst hj; rw [sI_at, e]
      · rw [sI_j hj, sI_j hj, sI_n _ _ _ _ (by decide)]
    · rw [sI_n _ _ _ _ c68, sI_n _ _ _ _ c68, sI_n _ _ _ _ c63]
theorem obM (b : Bool) (a1 a2 : Int32) (E : En) (h : Hp) (n : Nat) (hn : n < 512) (hI : Iv n h) (K : En → Hp → Prop) (hK : ∀ (E2 : En) (h2 : Hp), eB E2 = eB E → Iv (n + 1) h2 → K E2 h2) : SpH E 200 3 ML_setMark HL_setMark [.ref (eA E 0), .int a1, .int a2, .int (b2i b), .ref (eA E 98)] h (fun v2 h2 => SpI E 200 MX10_setMark [.ref (eA E 63), .int a1, .int a2, .int (b2i b)] h2 (fun v4 h4 => SpI E 200 MX10_thrown [.ref (eA E 63)] h4 (fun v5 h5 => (v5 = v2 → ((¬ v2 = 0 → (K E h5)) ∧ (v2 = 0 → (((lg_cmp (h5.2 98 0) v4.toInt64) = 0 → (K E h5)) ∧ (¬ (lg_cmp (h5.2 98 0) v4.toInt64) = 0 → (False)))))) ∧ (¬ v5 = v2 → (False))))) := by
  obtain ⟨D, S, Q, N, hs, sr, n0, L, pd, p0, p1, p2, p3, p4, p5, p6, p7, p8⟩ := id hI
  have w := p0.1
  have h8 := w.2.2.1
  have e1 : ∀ {A : Int32 → Hp → Prop} {Z : Hp → Prop}, SpI E 199 MX10_throwsAs [.ref (eA E 63), .int (1 : Int32)] h (fun v3 h3 => (v3 = 0 → A v3 h3) ∧ (¬ v3 = 0 → (SpI E 200 MX10_thrown [.ref (eA E 63)] h3 (fun v5 h5 => (v5 = (1 : Int32) → ((¬ (1 : Int32) = 0 → (K E h5)) ∧ ((1 : Int32) = 0 → Z h5))) ∧ (¬ v5 = (1 : Int32) → (False)))))) := thr_y (k := 1) rfl (by decide) (by decide) (tl_er (by decide) (sI_at _ _ _ _) (hK E _ rfl (hI.keep ((Fr.refl h).si rfl))))
  refine wp_L_setMark E 199 _ _ _ h _ (wp_X9_setMark E 193 _ _ _ h _ _ (c_chkP w p1.1 (fun i k hi hk ea eb => ?_) (fun q => Or.inl ⟨rfl, ?_⟩) (fun i hi ea q => Or.inl ⟨rfl, ?_⟩)))
  · subst ea eb
    obtain ⟨l0, l24, hr⟩ := w.2.2.2.1 i hi
    have v8 : vp_in (nI i) 8 := vp_in_nI (by omega) (by decide)
    have v9 : vp_in (nI (1 + i)) 9 := vp_in_nI (by omega) (by decide)
    have l := (p1.1.2.2.2 i hi).2.1
    have isat : ∀ {h1 : Hp} {PP : Int32 → Hp → Prop}, Fr fCg h h1 → PP 1 h1 → SpI E 199 MX10_isAt [.ref (eA E 63), .int (nI i), .int (nI k)] h1 PP := fun f t => r_isAt w (p1.2.1.fr f srcR_ch) (fun q => by rw [inr_yes hi (by omega)] at q; cases q) (fun j hj e q => by
      have := nI_inj (by omega) (by omega) e
      subst this
      rw [inr_yes hk (by omega)] at q; cases q) (fun _ _ _ _ _ _ => t)
    have rl : ∀ {h1 : Hp}, Fr fCg h h1 → h1.1 66 i = nI (dL D i) := fun f => r_len w (p1.2.1.fr f srcR_ch) hi
    rw [nI_clamp (by omega), l, show (1 : Int32) = nI 1 from rfl, pk_sub (by omega)]
    refine ⟨v8, bj_if (nI_eq (by omega) (by omega)) (fun nl => ?_) (fun nl => Or.inl ⟨rfl, ?_⟩)⟩
    · -- the index is not the last one
      have mk : h.1 16 (24 * i + k) = b2i ((sK S i).testBit k) := p1.2.2.1.2 i hi k hk
      have sbS : SB D S i := (p0.2.1.2 i hi).2
      -- the reference up to its own check
      have refU : ∀ (h1 : Hp) (PP : Int32 → Hp → Prop), Fr fCg h h1 → RSt D S h1 → (∀ M, M ≤ 24 → (M ≤ 10 ↔ SB D (mkS S i k b) i) → (nI M ≤ (10 : Int32) → SpI E 199 MX10_throwsAs [.ref (eA E 63), .int (0 : Int32)] (sI (sI (sI h1 63 0 (0 : Int32)) 68 (1 + i) (nI (sK (mkS S i k b) i))) 68 (1 + i) (nI (sK S i))) (fun v12 h12 => (v12 = 0 → (SpV E 199 MX10_keeps [.ref (eA E 63)] h12 (fun h14 => vp_in (nI (1 + i)) 9 ∧ (SpV E 199 MX10_laysAll [.ref (eA E 63)] (sI h14 68 (1 + i) (nI (sK (mkS S i k b) i))) (fun h16 => PP (h16.1 63 26) h16))))) ∧ (¬ v12 = 0 → (PP (0 : Int32) h12)))) ∧ (¬ nI M ≤ (10 : Int32) → SpI E 199 MX10_throwsAs [.ref (eA E 63), .int (2 : Int32)] (sI (sI (sI h1 63 0 (0 : Int32)) 68 (1 + i) (nI (sK (mkS S i k b) i))) 68 (1 + i) (nI (sK S i))) (fun v12 h12 => (v12 = 0 → (SpV E 199 MX10_keeps [.ref (eA E 63)] h12 (fun h14 => vp_in (nI (1 + i)) 9 ∧ (SpV E 199 MX10_laysAll [.ref (eA E 63)] (sI h14 68 (1 + i) (nI (sK (mkS S i k b) i))) (fun h16 => PP (h16.1 63 26) h16))))) ∧ (¬ v12 = 0 → (PP (0 : Int32) h12))))) → SpI E 200 MX10_setMark [.ref (eA E 63), .int (nI i), .int (nI k), .int (b2i b)] h1 PP := by
        intro h1 PP f1 st1 t
        refine wp_X10_setMark E 199 _ _ _ h1 PP (isat f1 (br_f (by decide) ⟨v8, ?_⟩))
        rw [nI_clamp (n := i) (by omega), rl f1, sub_1 (by omega), show (1 : Int32) + nI i = nI (1 + i) from nI_add 1 i, nI_clamp (n := 1 + i) (by omega), sh1 k (by omega)]
        refine br_f (nI_ge (by omega) (by omega)) (thr_n ⟨v9, ?_⟩)
        have g1 : Fr fCg h (sI h1 63 0 (0 : Int32)) := f1.si rfl
        have was : (sI h1 63 0 (0 : Int32)).1 68 (1 + i) = nI (sK S i) := by rw [sI_n _ _ _ _ (by decide)]; exact st1.2 i hi
        rw [was, nI_dif, nI_or]
        have g2 : ∀ x, Fr fCg h (sI (sI h1 63 0 (0 : Int32)) 68 (1 + i) x) := fun x => g1.si rfl
        have rst : RSt D (mkS S i k b) (sI (sI h1 63 0 (0 : Int32)) 68 (1 + i) (nI (sK (mkS S i k b) i))) := ⟨by rw [sI_j (by omega), sI_n _ _ _ _ (by decide)]; exact st1.1, fun j hj => by
          by_cases q : j = i
          · subst q; exact sI_at _ _ _ _
          · rw [mkS_ne S b q, sI_j (by omega), sI_n _ _ _ _ (by decide)]; exact st1.2 j hj⟩
        have lng : ∀ {PQ : Int32 → Hp → Prop}, (∀ M, M ≤ 24 → (M ≤ 10 ↔ SB D (mkS S i k b) i) → PQ (nI M) (sI (sI h1 63 0 (0 : Int32)) 68 (1 + i) (nI (sK (mkS S i k b) i)))) → SpI E 199 MX10_longestSegment [.ref (eA E 63), .int (nI i)] (sI (sI h1 63 0 (0 : Int32)) 68 (1 + i) (nI (sK (mkS S i k b) i))) PQ := fun t => r_longest (d := 197) w (mkS_lt b (p0.2.1.2 i hi).1 (by omega)) (p1.2.1.fr (g2 _) srcR_ch) rst hi t
        cases hb : b with
        | false =>
          rw [hb] at lng t
          refine br_t rfl ⟨v9, ?_⟩
          rw [show dif (sK S i) (2 ^ k) = sK (mkS S i k false) i from (mkS_at S i k false).symm]
          refine lng (fun M hM hiff => ?_)
          obtain ⟨t1, t2⟩ := t M hM hiff
          exact ⟨fun z => ⟨v9, br_t rfl (t1 z)⟩, fun z => ⟨v9, br_f (by decide) (t2 z)⟩⟩
        | true =>
          rw [hb] at lng t
          refine br_f (by decide) ⟨v9, ?_⟩
          rw [show sK S i ||| 2 ^ k = sK (mkS S i k true) i from (mkS_at S i k true).symm]
          refine lng (fun M hM hiff => ?_)
          obtain ⟨t1, t2⟩ := t M hM hiff
          exact ⟨fun z => ⟨v9, br_t rfl (t1 z)⟩, fun z => ⟨v9, br_f (by decide) (t2 z)⟩⟩
      have go : SB D (mkS S i k b) i → ∀ f : Int32, f = b2i ((sK S i).testBit k) → SpV E 198 MX1_remember [.ref (eA E 29), .int (nI (24 * i + k)), .int f] h (fun h7 => SpV E 198 MX9_changeMark [.ref (eA E 0), .int (nI (24 * i + k)), .int (b2i b)] h7 (fun h8 => SpI E 200 MX10_setMark [.ref (eA E 63), .int (nI i), .int (nI k), .int (b2i b)] (sL h8 98 0 (h8.1 46 4).toInt64) (fun v4 h4 => SpI E 200 MX10_thrown [.ref (eA E 63)] h4 (fun v5 h5 => (v5 = (0 : Int32) → ((¬ (0 : Int32) = 0 → (K E h5)) ∧ ((0 : Int32) = 0 → (((lg_cmp (h5.2 98 0) v4.toInt64) = 0 → (K E h5)) ∧ (¬ (lg_cmp (h5.2 98 0) v4.toInt64) = 0 → (False)))))) ∧ (¬ v5 = (0 : Int32) → (False)))))) := by
        intro sb f ef
        have ws' := mkS_wf b p0.2.1 hi (show k < 24 by omega) sb
        refine c_rem p4.1.1 p4.1.2.1 (fun h1 f1 r1 r2 r3 r4 => ?_)
        have g1 : Fr fCg h h1 := f1.mono re_ch
        have cst1 : CSt D (mkS S i k b) (sI h1 16 (24 * i + k) (vp_nar .boolean (b2i b))) := by
          rw [nar_b2i]
          refine ⟨by rw [sI_n _ _ _ _ (by decide), f1.i 0 10 rfl]; exact p1.2.2.1.1, fun j hj x hx => ?_⟩
          have lj := (w.2.2.2.1 j hj).2.1
          by_cases q : j = i
          · subst q
            rw [mkS_bit]
            by_cases y : x = k
            · subst y; rw [if_pos rfl, sI_at]; rfl
            · rw [if_neg y, sI_j (by omega), f1.f 16 (fun _ => rfl)]; exact p1.2.2.1.2 j hj x hx
          · rw [mkS_ne S b q, sI_j (by omega), f1.f 16 (fun _ => rfl)]; exact p1.2.2.1.2 j hj x hx
        have wi1 : ∀ j, j < dI D → WI D S j h1 := fun j hj => (p2.1 j hj).fr f1 (fun c q1 q2 => by
          unfold fRe
          simp only [Bool.or_eq_false_iff, Bool.and_eq_false_iff, beq_eq_false_iff_ne]
          omega) (fun c x q1 q2 _ => by
          unfold fRe
          simp only [Bool.or_eq_false_iff, Bool.and_eq_false_iff, beq_eq_false_iff_ne]
          omega)
        refine c_change (d := 61) (S := S) w ws' (p1.1.fr g1 srcC_ch) hi hk rfl (fun j hj => mkS_ne S b hj) wi1 cst1 (p8.1.fr f1 rfl (fun _ => rfl)) (by have := p8.2; omega) (fun h4 Q1 sr' f4 ct4 wi4 s1 c1 k0 e58 tf4 hsr => ?_)
        have g4 : Fr fCg h h4 := g1.trans (f4.mono p16_ch)
        have x68 : h4.1 68 = h.1 68 := by rw [f4.f 68 (fun _ => rfl), f1.f 68 (fun _ => rfl)]
        have x86 : h4.1 86 = h.1 86 := by rw [f4.f 86 (fun _ => rfl), f1.f 86 (fun _ => rfl)]
        have x33 : h4.1 63 33 = nI N := by rw [f4.i 63 33 rfl, f1.i 63 33 rfl]; exact p4.1.2.2.1
        have st4 : RSt D S (sL h4 98 0 (h4.1 46 4).toInt64) := by
          unfold RSt
          rw [sL_1, x68]
          exact p1.2.2.2
        refine refU _ _ (g4.trans ((f98 h4 _).mono no_ch)) st4 (fun M hM iff => ⟨fun z => thr_n ?_, fun z => absurd (nI_le (b := 10) (iff.mpr sb) (by decide)) z⟩)
        have bk := back68 (h := sL h4 98 0 (h4.1 46 4).toInt64) (p := 1 + i) (x := nI (sK (mkS S i k b) i)) (v := nI (sK S i)) (y := (0 : Int32)) (st4.2 i hi)
        have u5 : Fr fU h4 (sI (sI (sI (sI (sL h4 98 0 (h4.1 46 4).toInt64) 63 0 (0 : Int32)) 68 (1 + i) (nI (sK (mkS S i k b) i))) 68 (1 + i) (nI (sK S i))) 63 0 (0 : Int32)) := ((f98 h4 _).mono no_u).trans (bk.mono no_u)
        have y33 : (sI (sI (sI (sI (sL h4 98 0 (h4.1 46 4).toInt64) 63 0 (0 : Int32)) 68 (1 + i) (nI (sK (mkS S i k b) i))) 68 (1 + i) (nI (sK S i))) 63 0 (0 : Int32)).1 63 33 = nI N := by rw [bk.i 63 33 rfl, sL_1]; exact x33
        refine r_keeps p4.1.1 y33 (fun h6 f6 k1 k2 k3 => ⟨v9, ?_⟩)
        have u6 : Fr fU h4 h6 := u5.trans (f6.mono ke_u)
        have u7 : Fr fU h4 (sI h6 68 (1 + i) (nI (sK (mkS S i k b) i))) := u6.si (by unfold fU; simp)
        have z68 : h6.1 68 = h.1 68 := by rw [f6.f 68 (fun _ => rfl), bk.f 68 (fun _ => rfl), sL_1, x68]
        have rst : RSt D (mkS S i k b) (sI h6 68 (1 + i) (nI (sK (mkS S i k b) i))) := ⟨by rw [sI_j (by omega), z68]; exact p1.2.2.2.1, fun j hj => by
          by_cases q : j = i
          · subst q; exact sI_at _ _ _ _
          · rw [mkS_ne S b q, sI_j (by omega), z68]; exact p1.2.2.2.2 j hj⟩
        have g7 : Fr fCg h (sI h6 68 (1 + i) (nI (sK (mkS S i k b) i))) := g4.trans (u7.mono u_ch)
        refine r_laysAll w ws' (p1.2.1.fr g7 srcR_ch) rst (fun h8' Q2 f8 rw8 s2 c2 fd e38 => ?_)
        have u : Fr fU h4 h8' := u7.trans (f8.mono la_u)
        have g8 : Fr fCg h h8' := g4.trans (u.mono u_ch)
        have eq := StR.uq w ws' _ Q1 Q2 (Nat.le_refl _) s1 s2
        have hist := p4.1.push (h' := h8') (S' := mkS S i k b) (p := nI (24 * i + k)) (f := f) p4.2 p0.2.1 p1.2.2.2 (Or.inr ⟨i, k, (sK S i).testBit k, hi, hk, rfl, ef, rfl, fun j hj q => (mkS_ne S b q).symm, fun x => by
          rw [mkS_bit]
          by_cases q : x = k
          · rw [if_pos q, q]
          · rw [if_neg q, if_neg q]⟩) h8 (by rw [u.i 29 2 (fU_c 29 2 (by decide)), f4.i 29 2 rfl]; exact r1) (by rw [f8.i 63 33 rfl, sI_n _ _ _ _ (by decide)]; exact k1) (fun x hx => by rw [u.i 30 x (fU_c 30 x (by decide)), u.i 31 x (fU_c 31 x (by decide)), f4.i 30 x rfl, f4.i 31 x rfl]; exact r2 x hx) (by rw [u.i 30 _ (fU_c 30 _ (by decide)), f4.i 30 _ rfl]; exact r3) (by rw [u.i 31 _ (fU_c 31 _ (by decide)), f4.i 31 _ rfl]; exact r4) (fun x hx => by
          rw [f8.f 86 (fun _ => rfl), sI_n _ _ _ _ (by decide), k2 x hx, bk.f 86 (fun _ => rfl), sL_1, x86]) (fun x hx => by
          rw [f8.f 86 (fun _ => rfl), sI_n _ _ _ _ (by decide), k3 x hx, bk.f 68 (fun _ => rfl), sL_1, x68])
        have cs8 : CSto D Q1 h8' := c1.fr u (fU_c 46 4 (by decide)) (fun c j h1 h2 => fU_c c j (by omega))
        rw [c2.1, ← eq]
        refine tl_ok (by rw [f8.i 63 0 rfl, sI_n _ _ _ _ (by decide), f6.i 63 0 rfl, sI_at]) ?_ (hK E _ rfl (Iv_chg p0 p1 p5 p6 p7 p8 g8 ws' (ct4.fr u (fU_c 0 10 (by decide)) (fun x => fU_c 16 x (by decide))) (rst.fr f8 (fun _ => rfl)) (fun j hj => (wi4 j hj).fr u (fun c h1 h2 => fU_c c j (by omega)) (fun c x h1 h2 _ => fU_c c _ (by omega))) rw8 s1 cs8 s2 c2 (by rw [u.i 51 0 (fU_c 51 0 (by decide))]; exact k0) fd hist (if_neg (by omega)) (by rw [u.i 58 1 (fU_c 58 1 (by decide))]; exact e58) e38 (tf4.fr u (fU_c 32 10 (by decide)) (fun x => fU_c 39 x (by decide))) hsr))
        rw [f8.g 98 (fun _ => rfl), sI_2, f6.g 98 (fun _ => rfl), sI_2, sI_2, sI_2, sI_2, sL_2, if_pos rfl, c1.1]
        simp only [vp_updL, if_pos]
      have go2 : SB D (mkS S i k b) i → (h.1 16 (24 * i + k) = 0 → SpV E 198 MX1_remember [.ref (eA E 29), .int (nI (24 * i + k)), .int (0 : Int32)] h (fun h7 => SpV E 198 MX9_changeMark [.ref (eA E 0), .int (nI (24 * i + k)), .int (b2i b)] h7 (fun h8 => SpI E 200 MX10_setMark [.ref (eA E 63), .int (nI i), .int (nI k), .int (b2i b)] (sL h8 98 0 (h8.1 46 4).toInt64) (fun v4 h4 => SpI E 200 MX10_thrown [.ref (eA E 63)] h4 (fun v5 h5 => (v5 = (0 : Int32) → ((¬ (0 : Int32) = 0 → (K E h5)) ∧ ((0 : Int32) = 0 → (((lg_cmp (h5.2 98 0) v4.toInt64) = 0 → (K E h5)) ∧ (¬ (lg_cmp (h5.2 98 0) v4.toInt64) = 0 → (False)))))) ∧ (¬ v5 = (0 : Int32) → (False))))))) ∧ (¬ h.1 16 (24 * i + k) = 0 → SpV E 198 MX1_remember [.ref (eA E 29), .int (nI (24 * i + k)), .int (1 : Int32)] h (fun h7 => SpV E 198 MX9_changeMark [.ref (eA E 0), .int (nI (24 * i + k)), .int (b2i b)] h7 (fun h8 => SpI E 200 MX10_setMark [.ref (eA E 63), .int (nI i), .int (nI k), .int (b2i b)] (sL h8 98 0 (h8.1 46 4).toInt64) (fun v4 h4 => SpI E 200 MX10_thrown [.ref (eA E 63)] h4 (fun v5 h5 => (v5 = (0 : Int32) → ((¬ (0 : Int32) = 0 → (K E h5)) ∧ ((0 : Int32) = 0 → (((lg_cmp (h5.2 98 0) v4.toInt64) = 0 → (K E h5)) ∧ (¬ (lg_cmp (h5.2 98 0) v4.toInt64) = 0 → (False)))))) ∧ (¬ v5 = (0 : Int32) → (False))))))) := by
        intro sb
        rw [mk]
        exact ek_if (b2i_0 _) (fun z => go sb _ (by rw [z]; rfl)) (fun z => go sb _ (by rw [ts_nf' z]; rfl))
      have vpos : vp_in (nI (24 * i + k)) 192 := vp_in_nI (by omega) (by decide)
      have epos : nI i * (24 : Int32) + nI k = nI (24 * i + k) := by rw [show (24 : Int32) = nI 24 from rfl, pk_mul, nI_add, show i * 24 + k = 24 * i + k by omega]
      rw [epos, nI_clamp (n := 24 * i + k) (by omega)]
      cases hb : b with
      | true =>
        rw [hb] at go2
        exact bq_f (by decide) ⟨vpos, go2 (SB_more l24 sbS (fun x hx => by
          rw [mkS_bit]
          by_cases q : x = k
          · rw [if_pos q]
          · rw [if_neg q]; exact hx))⟩
      | false =>
        rw [hb] at go2 refU
        refine bq_t rfl (c_joined w p1.1 p1.2.2.1 hi (by omega) sbS (fun x => mkS_bit S i k false x) (fun J hJ iff => ek_if (nI_leI (b := 10) (by omega) (by decide)) (fun z => ⟨vpos, go2 (iff.mp z)⟩) (fun z => Or.inr ⟨rfl, ?_⟩)))
        refine refU h _ (Fr.refl h) p1.2.2.2 (fun M hM iff2 => ⟨fun y => ?_, fun y => thr_y (k := 2) rfl (by decide) (by decide) (tl_er (by decide) (sI_at _ _ _ _) (hK E _ rfl (hI.keep (back68 (p1.2.2.2.2 i hi)))))⟩)
        have := (nI_leI (b := 10) (by omega) (by decide)).mp y
        exact absurd (iff.mpr (iff2.mp this)) z
    · refine wp_X10_setMark E 199 _ _ _ h _ (isat (Fr.refl h) (br_f (by decide) ⟨v8, ?_⟩))
      rw [nI_clamp (n := i) (by omega), rl (Fr.refl h), sub_1 (by omega)]
      exact br_t (nI_le (by omega) (by omega)) e1
  · refine wp_X10_setMark E 199 _ _ _ h _ (r_isAt w p1.2.1 (fun _ => br_t rfl e1) (fun _ _ _ _ => br_t rfl e1) (fun j k hj _ e _ => ?_))
    subst e; rw [inr_yes hj (by omega)] at q; cases q
  · refine wp_X10_setMark E 199 _ _ _ h _ (r_isAt w p1.2.1 (fun _ => br_t rfl e1) (fun _ _ _ _ => br_t rfl e1) (fun j k hj hk e2 e3 => ?_))
    subst ea
    have := nI_inj (by omega) (by omega) e2
    subst this
    subst e3
    have l24 := (w.2.2.2.1 i hi).2.1
    rw [inr_yes hk (by omega)] at q; cases q
theorem ob16 : Ob16 Iv := by
  intro a1 a2 a3 E h n hn hI K hK
  refine ⟨fun z => ?_, fun z => ?_⟩
  · have := obM false a1 a2 E h n hn hI K hK
    rw [show b2i false = (0 : Int32) from rfl] at this
    simp only [z]
    simpa using this
  · have := obM true a1 a2 E h n hn hI K hK
    rw [show b2i true = (1 : Int32) from rfl] at this
    simpa [z] using this
