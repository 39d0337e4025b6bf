/-! the output, in the class -/
section WC
variable {E : En} {d n : Nat} {D : SD} {S : ST} {h : Hp} {P : Hp → Prop}
abbrev PtC := Pt 4 3 1
theorem c_put {b : Nat} {x : Int32} (hx : x = nI b) (hb : b < 128) (hn : h.1 3 1 = nI n) (hl : n < 2232) (t : ∀ h', PtC h n [b] h' → P h') : SpV E d MX3_put [.ref (eA E 3), .int x] h P := by
  subst hx
  refine wp_X3_put E d _ h P ?_
  rw [hn, nI_clamp (by omega), nI_1, pk_vb, fa_byte_small hb]
  exact br_f (nI_ge (b := 2232) hl (by decide)) ⟨vp_in_nI hl (by decide), t _ (Pt.one (by decide))⟩
theorem c_text {i : Nat} (hi : i < 8) (hn : h.1 3 1 = nI n) (hl : n + (sTx.getD i []).length ≤ 2232) (t : ∀ h', PtC h n (sTx.getD i []) h' → P h') : SpV E (d + 5) MX3_putText [.ref (eA E 3), .ref (eK E i)] h P := by
  have h11 := sTx_le i hi
  refine wp_X3_putText E (d + 4) i hi h P (fun g => ?_)
  have loop : ∀ k, k ≤ (sTx.getD i []).length → ∀ h', PtC h n ((sTx.getD i []).take k) h' → VX3_putText_2 E (d + 4) g P i (nI k) h' := by
    refine up_ind _ ?_ ?_
    · intro h' p
      rw [List.take_length] at p
      exact sg_X3_putText_2 E (d + 4) g i hi _ h' P (s_len hi (br_t (nI_le (Nat.le_refl _) (by omega)) (t h' p)))
    · intro k hk ih h' p
      have e2 := p.2.2
      rw [List.length_take, Nat.min_eq_left (by omega)] at e2
      refine sg_X3_putText_2 E (d + 4) g i hi _ h' P (s_len hi (br_f (nI_ge hk (by omega)) (s_ch hi hk ?_)))
      refine c_put rfl (sTx_ch i hi k (by omega) hk).2 e2 (by omega) (fun h2 p2 => ?_)
      rw [nI_1]
      refine ih h2 ?_
      rw [List.take_succ, List.getElem?_eq_getElem hk, show (sTx.getD i [])[k] = (sTx.getD i []).getD k 0 from (List.getElem_eq_getD _)]
      exact p.trans p2 (by rw [List.length_take, Nat.min_eq_left (by omega)])
  exact loop 0 (by omega) h (Pt.none hn)
theorem c_digit {v u : Nat} (hv : v < 10000) (hu : 0 < u) (hu2 : u < 10000) : (48 : Int32) + ((nI v / nI u) - (nI v / nI u) / (10 : Int32) * (10 : Int32)) = nI (48 + v / u % 10) := by
  have := Nat.div_le_self v u
  rw [pk_div (by omega) hu (by omega), show (10 : Int32) = nI 10 from rfl, pk_rem (by omega) (by decide) (by decide), show (48 : Int32) = nI 48 from rfl, nI_add]
theorem c_num {v : Nat} (hv : v < 10000) (hn : h.1 3 1 = nI n) (hl : n + (num v).length ≤ 2232) (t : ∀ h', PtC h n (num v) h' → P h') : SpV E (d + 1) MX3_putNumber [.ref (eA E 3), .int (nI v)] h P := by
  refine wp_X3_putNumber E d _ h P (fun g => ?_)
  have step : ∀ (u : Nat) (x u' : Int32) (l : List Nat) (h1 : Hp), 1 < u → u < 10000 → x = nI u → x / (10 : Int32) = u' → PtC h n l h1 → n + l.length < 2232 → (∀ h2, PtC h n (l ++ (if u ≤ v then [48 + v / u % 10] else [])) h2 → VX3_putNumber_4 E d g P (nI v) u' h2) → VX3_putNumber_4 E d g P (nI v) x h1 := by
    intro u x u' l h1 hu1 hu2 hx hu' p hl k
    subst hx
    refine sg_X3_putNumber_4 E d g _ _ h1 P (br_f (nI_nle (by omega) (by omega)) ?_)
    rw [c_digit hv (by omega) hu2, hu']
    refine ek_if (nI_leI (by omega) (by omega)) (fun q => ⟨nI_ne0 (by omega) (by omega), ?_⟩) (fun q => bq_f ?_ ?_)
    · rw [if_pos q] at k
      exact c_put rfl (by omega) p.2.2 hl (fun h2 p2 => k h2 (p.trans p2 rfl))
    · rw [show (1 : Int32) = nI 1 from rfl, nI_eq (by omega) (by decide)]
      omega
    · rw [if_neg q, List.append_nil] at k
      exact k h1 p
  unfold num at hl t
  have hl2 : n + ((if 1000 ≤ v then [48 + v / 1000 % 10] else []).length + ((if 100 ≤ v then [48 + v / 100 % 10] else []).length + ((if 10 ≤ v then [48 + v / 10 % 10] else []).length + 1))) ≤ 2232 := by
    simp only [List.length_append, List.length_cons, List.length_nil] at hl
    exact hl
  refine step 1000 _ _ [] h (by decide) (by decide) rfl (show _ = (100 : Int32) by decide) (Pt.none hn) (by show n + 0 < 2232; omega) (fun h1 p1 => ?_)
  rw [List.nil_append] at p1
  refine step 100 _ _ _ h1 (by decide) (by decide) rfl (show _ = (10 : Int32) by decide) p1 (by omega) (fun h2 p2 => ?_)
  refine step 10 _ _ _ h2 (by decide) (by decide) rfl (show _ = (1 : Int32) by decide) p2 (by rw [List.length_append]; omega) (fun h3 p3 => ?_)
  refine sg_X3_putNumber_4 E d g _ _ h3 P (br_f (by decide) ?_)
  have e1 := c_digit hv (u := 1) (by decide) (by decide)
  rw [show (1 : Int32) = nI 1 from rfl, e1]
  have l3 : n + ((((if 1000 ≤ v then [48 + v / 1000 % 10] else []) ++ (if 100 ≤ v then [48 + v / 100 % 10] else [])) ++ (if 10 ≤ v then [48 + v / 10 % 10] else [])).length) < 2232 := by
    rw [List.length_append, List.length_append]; omega
  have fin : SpV E d MX3_put [.ref (eA E 3), .int (nI (48 + v / 1 % 10))] h3 (fun h5 => VX3_putNumber_4 E d g P (nI v) (nI 1 / (10 : Int32)) h5) := by
    refine c_put rfl (by omega) p3.2.2 l3 (fun h4 p4 => ?_)
    have p5 := p3.trans p4 rfl
    refine sg_X3_putNumber_4 E d g _ _ h4 P (br_t (by decide) (t h4 ?_))
    rw [List.append_assoc, List.append_assoc] at p5
    exact p5
  exact br_c (fun _ => ⟨by decide, fin⟩) (fun _ => bq_t rfl ⟨by decide, fin⟩)
theorem opc_T {a : Nat} (h : a < 8) : nI a ^^^ (-1 : Int32) = opc a := by unfold opc; rw [if_pos h]
theorem c_opL {a : Nat} (ha : a < 10008) (hn : h.1 3 1 = nI n) (hl : n + (opL a).length ≤ 2232) (t : ∀ h', PtC h n (opL a) h' → P h') : SpV E (d + 2) MX3_putOperand [.ref (eA E 3), .int (opc a)] h P := by
  refine wp_X3_putOperand E (d + 1) _ h P ?_
  unfold opL at hl t
  by_cases h8 : a < 8
  · rw [if_pos h8] at hl t
    rw [List.length_cons] at hl
    obtain ⟨q1, q2⟩ := opc_lo a h8
    refine br_f q1 ?_
    rw [q2]
    refine c_put (b := 114) rfl (by decide) hn (by omega) (fun h1 p1 => ?_)
    exact c_num (by omega) p1.2.2 (by show n + 1 + _ ≤ _; omega) (fun h2 p2 => t h2 (p1.trans p2 rfl))
  · rw [if_neg h8] at hl t
    have e : opc a = nI (a - 8) := by unfold opc; rw [if_neg h8]
    rw [e]
    exact br_t (nI_pos' (by omega)) (c_num (by omega) hn hl t)
theorem c_name {f : Nat → Nat} (hf : NmOK f) (hn : h.1 3 1 = nI n) (hl : n + (nmL f 8).length ≤ 2232) (t : ∀ h', PtC h n (nmL f 8) h' → P h') : SpV E (d + 1) MX3_putName [.ref (eA E 3), .long (lN (nmN f))] h P := by
  obtain ⟨c, hc, h2, h3⟩ := nm_c hf
  have eN : nmN f = nmF f c := by
    have := nmF_end h3 (8 - c) (by omega)
    rw [show c + (8 - c) = 8 by omega] at this
    exact this
  have eL : nmL f 8 = nmL f c := by
    have := nmL_end h3 (8 - c) (by omega)
    rw [show c + (8 - c) = 8 by omega] at this
    exact this
  rw [eL] at hl t
  have hlt : nmF f c < 256 ^ c := nmF_lt hf c hc
  have h64 : nmN f < 2 ^ 64 := by
    rw [eN]
    have := Nat.pow_le_pow_right (n := 256) (by decide) hc
    have e : (256 : Nat) ^ 8 = 2 ^ 64 := by decide
    omega
  refine wp_X3_putName E d _ h P (fun g => ?_)
  have nl : ∀ k, (nmL f k).length ≤ (nmL f c).length ∨ c < k := by
    intro k
    rcases Nat.lt_or_ge c k with q | q
    · exact Or.inr q
    · left
      obtain ⟨j, rfl⟩ : ∃ j, c = k + j := ⟨c - k, by omega⟩
      clear hl t hlt eN eL h2 h3 hc
      induction j with
      | zero => exact Nat.le_refl _
      | succ j ih =>
        have := ih (by omega)
        show _ ≤ (nmL f (k + j) ++ _).length
        rw [List.length_append]
        omega
  have loop : ∀ e, e ≤ 8 → ∀ (h1 : Hp) (x : Int32), (e = 0 → x = (-8 : Int32)) → (∀ k, e = k + 1 → x = nI (8 * k)) → PtC h n (nmL f (c - e)) h1 → VX3_putName_3 E d g P (lN (nmN f)) x h1 := by
    intro e
    induction e with
    | zero =>
      intro _ h1 x hx _ p
      rw [hx rfl]
      rw [Nat.sub_zero] at p
      exact sg_X3_putName_3 E d g _ _ h1 P (br_t (by decide) (t h1 p))
    | succ e ih =>
      intro he h1 x _ hx p
      rw [hx e rfl]
      have nx : ∀ h2, PtC h n (nmL f (c - e)) h2 → VX3_putName_3 E d g P (lN (nmN f)) (nI (8 * e) + (-8 : Int32)) h2 := by
        intro h2 p2
        refine ih (by omega) h2 _ (fun q => ?_) (fun k q => ?_) p2
        · subst q; decide
        · subst q
          rw [show 8 * (k + 1) = 8 * k + 8 by omega, ← nI_add, Int32.add_assoc, show nI 8 + (-8 : Int32) = 0 by decide, Int32.add_zero]
      have ed : ((((lN (nmN f)).toUInt64 >>> ((nI (8 * e)).toInt64.toUInt64 &&& Int64.toUInt64 63)).toInt64).toInt32) &&& (255 : Int32) = nI (nmN f / 256 ^ e % 256) := by
        rw [wb_shr h64 (by omega), lN_i, show (255 : Int32) = nI (2 ^ 8 - 1) from rfl, fa_mask, show (2 : Nat) ^ (8 * e) = 256 ^ e by rw [Nat.pow_mul]]
      refine sg_X3_putName_3 E d g _ _ h1 P (br_f (nI_pos (by omega)) ?_)
      rw [ed, eN]
      rcases Nat.lt_or_ge e c with q | q
      · have dg := nmF_dig hf hc h2 e q
        have hz := h2 (c - 1 - e) (by omega)
        have hb := hf.2.1 (c - 1 - e) (by omega)
        rw [dg]
        refine br_f (nI_ne0 (by omega) (by omega)) ?_
        have l1 := nl (c - e)
        have ec : nmL f (c - e) = nmL f (c - (e + 1)) ++ [f (c - 1 - e)] := by
          rw [show c - e = (c - (e + 1)) + 1 by omega]
          show _ ++ (if f (c - (e + 1)) = 0 then _ else _) = _
          rw [show c - (e + 1) = c - 1 - e by omega, if_neg hz]
        have l2 : (nmL f (c - e)).length = (nmL f (c - (e + 1))).length + 1 := by rw [ec, List.length_append]; rfl
        refine c_put rfl (by omega) p.2.2 (by omega) (fun h2 p2 => ?_)
        rw [← eN]
        refine nx h2 ?_
        rw [ec]
        exact p.trans p2 rfl
      · have dz : nmF f c / 256 ^ e = 0 := Nat.div_eq_of_lt (Nat.lt_of_lt_of_le hlt (Nat.pow_le_pow_right (by decide) q))
        rw [dz, ← eN]
        refine br_t rfl (nx h1 ?_)
        rw [show c - e = c - (e + 1) by omega]
        exact p
  refine loop 8 (Nat.le_refl 8) h _ (fun q => by cases q) (fun k q => ?_) ?_
  · obtain rfl : k = 7 := by omega
    rfl
  · rw [show c - 8 = 0 by omega]
    exact Pt.none hn
def srcOut (ca cc cj : Nat) : Prop := ∀ c j, (isSrcC c j = true ∨ c = 16 ∨ (c = 0 ∧ j = 10)) → fPt ca cc cj c j = false
theorem srcC_out (c j : Nat) (e : isSrcC c j = true) : fPt 4 3 1 c j = false := by
  unfold isSrcC at e
  unfold fPt
  simp only [Bool.or_eq_true, Bool.and_eq_true, decide_eq_true_eq, beq_iff_eq] at e
  simp only [Bool.or_eq_false_iff, beq_eq_false_iff_ne, Bool.and_eq_false_iff]
  omega
theorem c_opT {m : Nat} (w : Wf D) (sr : CSrc D h) (hm : m < dN D) (hn : h.1 3 1 = nI n) (hl : n + (opT D m).length ≤ 2232) (t : ∀ h', PtC h n (opT D m) h' → P h') : SpV E (d + 6) MX3_putOperation [.ref (eA E 3), .ref (eA E 5), .int (nI m)] h P := by
  have hN := w.1
  obtain ⟨u, tt, k, a, b⟩ := w.2.1 m hm
  have nmk := w.2.2.2.2.1 m hm
  have vm : vp_in (nI m) 12 := vp_in_nI (by omega) (by decide)
  have S : ∀ {l : List Nat} {h' : Hp}, PtC h n l h' → CSrc D h' := fun p => sr.fr p.1 srcC_out
  unfold opT at hl t
  simp only [List.length_append] at hl
  refine wp_X3_putOperation E (d + 5) _ h P (c_text (by decide) hn (by omega) (fun h1 p1 => ⟨vm, ?_⟩))
  obtain ⟨-, -, -, -, -, -, s7⟩ := (S p1).2.2.1 m hm
  rw [nI_clamp (by omega), s7]
  refine c_name nmk p1.2.2 (by omega) (fun h2 q2 => ?_)
  have p2 := p1.trans q2 rfl
  refine c_text (by decide) p2.2.2 (by simp only [List.length_append]; omega) (fun h3 q3 => ⟨vm, ?_⟩)
  have p3 := p2.trans q3 rfl
  rw [((S p3).2.2.1 m hm).1]
  refine c_num (by omega) p3.2.2 (by simp only [List.length_append]; omega) (fun h4 q4 => ?_)
  have p4 := p3.trans q4 rfl
  refine c_put (b := 32) rfl (by decide) p4.2.2 (by simp only [List.length_append, List.length_cons, List.length_nil] at hl ⊢; omega) (fun h5 q5 => ⟨vm, ?_⟩)
  have p5 := p4.trans q5 rfl
  rw [((S p5).2.2.1 m hm).2.1, opc_T tt]
  refine c_opL (by omega) p5.2.2 (by simp only [List.length_append, List.length_cons, List.length_nil] at hl ⊢; omega) (fun h6 q6 => ?_)
  have p6 := p5.trans q6 rfl
  refine c_put (b := 61) rfl (by decide) p6.2.2 (by simp only [List.length_append, List.length_cons, List.length_nil] at hl ⊢; omega) (fun h7 q7 => ⟨vm, ?_⟩)
  have p7 := p6.trans q7 rfl
  rw [((S p7).2.2.1 m hm).2.2.2.1]
  refine c_opL a p7.2.2 (by simp only [List.length_append, List.length_cons, List.length_nil] at hl ⊢; omega) (fun h8 q8 => ⟨vm, ?_⟩)
  have p8 := p7.trans q8 rfl
  rw [((S p8).2.2.1 m hm).2.2.1]
  refine ek_if (nI_leI (b := 0) (by omega) (by decide)) (fun z => ?_) (fun z => ?_)
  · have k0 : dK D m = 0 := by omega
    rw [if_pos k0] at hl t
    refine c_put (b := 59) rfl (by decide) p8.2.2 (by simp only [List.length_append, List.length_cons, List.length_nil] at hl ⊢; omega) (fun h9 q9 => t h9 ?_)
    have p9 := p8.trans q9 rfl
    simp only [List.append_assoc] at p9
    exact p9
  · have k0 : ¬ dK D m = 0 := by omega
    rw [if_neg k0] at hl t
    rw [show (1 : Int32) = nI 1 from rfl, pk_sub (by omega)]
    have hk6 : dK D m - 1 < (sTx.getD 1 []).length := by show _ < 6; omega
    refine s_ch (by decide) hk6 (c_put rfl (sTx_ch 1 (by decide) _ (by omega) hk6).2 p8.2.2 (by simp only [List.length_append, List.length_cons, List.length_nil] at hl ⊢; omega) (fun h9 q9 => ⟨vm, ?_⟩))
    have p9 := p8.trans q9 rfl
    rw [((S p9).2.2.1 m hm).2.2.2.2.1, if_neg k0]
    refine c_opL b p9.2.2 (by simp only [List.length_append, List.length_cons, List.length_nil] at hl ⊢; omega) (fun h10 q10 => ?_)
    have p10 := p9.trans q10 rfl
    refine c_put (b := 59) rfl (by decide) p10.2.2 (by simp only [List.length_append, List.length_cons, List.length_nil] at hl ⊢; omega) (fun h11 q11 => t h11 ?_)
    have p11 := p10.trans q11 rfl
    simp only [List.append_assoc] at p11 ⊢
    exact p11
theorem c_inT {i : Nat} (w : Wf D) (sr : CSrc D h) (st : CSt D S h) (hi : i < dI D) (hn : h.1 3 1 = nI n) (hl : n + (inT D S i).length ≤ 2232) (t : ∀ h', PtC h n (inT D S i) h' → P h') : SpV E (d + 6) MX3_putInstruction [.ref (eA E 3), .ref (eA E 5), .int (nI i)] h P := by
  have hN := w.1
  have hI := w.2.2.1
  obtain ⟨l0, l24, hrow⟩ := w.2.2.2.1 i hi
  have nmk := w.2.2.2.2.2 i hi
  have vi : vp_in (nI i) 8 := vp_in_nI (by omega) (by decide)
  have S1 : ∀ {l : List Nat} {h' : Hp}, PtC h n l h' → CSrc D h' := fun p => sr.fr p.1 srcC_out
  have S2 : ∀ {l : List Nat} {h' : Hp}, PtC h n l h' → CSt D S h' := fun p => st.fr p.1 rfl (fun _ => rfl)
  unfold inT at hl t
  simp only [List.length_append] at hl
  refine wp_X3_putInstruction E (d + 5) _ h P (fun g => c_text (by decide) hn (by omega) (fun h1 p1 => ⟨vi, ?_⟩))
  rw [nI_clamp (by omega), ((S1 p1).2.2.2 i hi).1]
  refine c_name nmk p1.2.2 (by omega) (fun h2 q2 => ?_)
  have p2 := p1.trans q2 rfl
  rw [show (24 : Int32) = nI 24 from rfl, pk_mul]
  have mono : ∀ k, k ≤ dL D i → (inB D S i k).length ≤ (inB D S i (dL D i)).length := by
    refine up_ind _ (Nat.le_refl _) (fun k hk ih => ?_)
    refine Nat.le_trans ?_ ih
    show _ ≤ (inB D S i k ++ _).length
    rw [List.length_append]; omega
  have loop : ∀ k, k ≤ dL D i → ∀ h3, PtC h n ((sTx.getD 4 [] ++ nmL (dM D (12 + i)) 8) ++ inB D S i k) h3 → VX3_putInstruction_24 E (d + 5) g P (nI i) (nI (i * 24)) (nI k) h3 := by
    refine up_ind _ ?_ ?_
    · intro h3 p3
      refine sg_X3_putInstruction_24 E (d + 5) g _ _ _ h3 P ?_
      rw [nI_clamp (by omega), ((S1 p3).2.2.2 i hi).2.1]
      refine ⟨vi, br_t (nI_le (Nat.le_refl _) (by omega)) ?_⟩
      refine c_put (b := 59) rfl (by decide) p3.2.2 (by simp only [List.length_append, List.length_cons, List.length_nil] at hl ⊢; omega) (fun h4 q4 => t h4 ?_)
      have p4 := p3.trans q4 rfl
      simp only [List.append_assoc] at p4
      exact p4
    · intro k hk ih h3 p3
      have hm := hrow k hk
      have hmo := mono (k + 1) (by omega)
      have eB : inB D S i (k + 1) = inB D S i k ++ ([if k = 0 then 58 else if (sK S i).testBit (k - 1) then 33 else 44] ++ nmL (dM D (dR D i k)) 8) := rfl
      have hlen : (inB D S i (k + 1)).length = (inB D S i k).length + (1 + (nmL (dM D (dR D i k)) 8).length) := by rw [eB]; simp only [List.length_append, List.length_cons, List.length_nil]
      have hl3 : n + ((sTx.getD 4 [] ++ nmL (dM D (12 + i)) 8) ++ inB D S i k).length < 2232 := by
        simp only [List.length_append, List.length_cons, List.length_nil] at hl ⊢; omega
      have go : ∀ (b : Nat), b < 128 → (if k = 0 then 58 else if (sK S i).testBit (k - 1) then 33 else 44) = b → SpV E (d + 5) MX3_put [.ref (eA E 3), .int (nI b)] h3 (fun h7 => vp_in (nI (i * 24 + k)) 192 ∧ (vp_in (h7.1 15 ((nI (i * 24 + k)).toNatClampNeg)) 12 ∧ (SpV E (d + 5) MX3_putName [.ref (eA E 3), .long (h7.2 6 ((h7.1 15 ((nI (i * 24 + k)).toNatClampNeg)).toNatClampNeg))] h7 (fun h10 => VX3_putInstruction_24 E (d + 5) g P (nI i) (nI (i * 24)) (nI (k + 1)) h10)))) := by
        intro b hb eb
        refine c_put rfl hb p3.2.2 hl3 (fun h4 q4 => ⟨vp_in_nI (by omega) (by decide), ?_⟩)
        have p4 := p3.trans q4 rfl
        rw [nI_clamp (by omega), show i * 24 + k = 24 * i + k by omega, ((S1 p4).2.2.2 i hi).2.2 k hk, nI_clamp (by omega), ((S1 p4).2.2.1 _ hm).2.2.2.2.2.2]
        refine ⟨vp_in_nI (by omega) (by decide), c_name (w.2.2.2.2.1 _ hm) p4.2.2 (by simp only [List.length_append, List.length_cons, List.length_nil] at hl hl3 ⊢; omega) (fun h5 q5 => ih h5 ?_)⟩
        have p5 := p4.trans q5 rfl
        rw [eB, eb, ← List.append_assoc, ← List.append_assoc]
        exact p5
      refine sg_X3_putInstruction_24 E (d + 5) g _ _ _ h3 P ?_
      rw [nI_clamp (n := i) (by omega), ((S1 p3).2.2.2 i hi).2.1, nI_add, nI_1]
      refine ⟨vi, br_f (nI_ge hk (by omega)) (bj_if (nI_eq (b := 0) (by omega) (by decide)) (fun z => ?_) (fun z => ?_))⟩
      · rw [show (1 : Int32) = nI 1 from rfl, pk_sub (by omega), nI_clamp (n := i * 24 + k - 1) (by omega), show i * 24 + k - 1 = 24 * i + (k - 1) by omega, (S2 p3).2 i hi (k - 1) (by omega)]
        refine ⟨vp_in_nI (by omega) (by decide), ek_if (bI _) (fun y => ?_) (fun y => ?_)⟩
        · exact go 44 (by decide) (by rw [if_neg z, if_neg (by rw [y]; decide)])
        · exact go 33 (by decide) (by rw [if_neg z, if_pos (ts_nf' y)])
      · exact go 58 (by decide) (by rw [if_pos z])
  refine loop 0 (by omega) h2 ?_
  show PtC h n (_ ++ []) h2
  rw [List.append_nil]
  exact p2
/-- the whole text -/
def allT (D : SD) (S : ST) : List Nat := opsT D (dN D) ++ insT D S (dI D)
theorem allT_len {D : SD} {S : ST} (w : Wf D) : (allT D S).length ≤ 2232 := by
  have h1 := opsT_len w (dN D) (Nat.le_refl _)
  have h2 := insT_len (S := S) w (dI D) (Nat.le_refl _)
  have := w.1
  have := w.2.2.1
  unfold allT
  rw [List.length_append]
  omega
theorem opsT_mono (D : SD) : ∀ m k, (opsT D m).length ≤ (opsT D (m + k)).length
  | _, 0 => Nat.le_refl _
  | m, k + 1 => by
    have := opsT_mono D m k
    show _ ≤ (opsT D (m + k) ++ _).length
    rw [List.length_append]; omega
theorem insT_mono (D : SD) (S : ST) : ∀ m k, (insT D S m).length ≤ (insT D S (m + k)).length
  | _, 0 => Nat.le_refl _
  | m, k + 1 => by
    have := insT_mono D S m k
    show _ ≤ (insT D S (m + k) ++ _).length
    rw [List.length_append]; omega
theorem c_write {PI : Int32 → Hp → Prop} (w : Wf D) (sr : CSrc D h) (st : CSt D S h) (t : ∀ h', Fr (fPt 4 3 1) h h' → h'.1 4 = puts (h.1 4) 0 (allT D S) → h'.1 3 1 = nI (allT D S).length → PI (nI (allT D S).length) h') : SpI E (d + 8) MX9_write [.ref (eA E 0)] h PI := by
  have hN := w.1
  have hI := w.2.2.1
  have hl := allT_len (S := S) w
  refine wp_X9_write E (d + 7) h PI (wp_X3_putSource E (d + 6) h _ (fun g => ?_))
  have p0 : Fr (fPt 4 3 1) h (sI h 3 1 (0 : Int32)) := (Fr.refl h).si rfl
  have e4 : (sI h 3 1 (0 : Int32)).1 4 = h.1 4 := sI_n _ _ _ _ (by decide)
  have st0 : (sI h 3 1 (0 : Int32)).1 3 1 = nI 0 := sI_at _ _ _ _
  generalize hg : sI h 3 1 (0 : Int32) = h0' at p0 e4 st0
  have sr0 : CSrc D h0' := sr.fr p0 srcC_out
  have stt0 : CSt D S h0' := st.fr p0 rfl (fun _ => rfl)
  have fin : ∀ h', PtC h0' 0 (allT D S) h' → PI (h'.1 3 1) h' := by
    intro h' p
    have e := p.2.2
    rw [Nat.zero_add] at e
    rw [e]
    exact t h' (p0.trans p.1) (by rw [p.2.1, e4]) e
  have l2 : ∀ i, i ≤ dI D → ∀ h', PtC h0' 0 (opsT D (dN D) ++ insT D S i) h' → VX3_putSource_29 E (d + 6) g (fun h1 => PI (h1.1 3 1) h1) (nI i) h' := by
    refine up_ind _ ?_ ?_
    · intro h' p
      refine sg_X3_putSource_29 E (d + 6) g _ h' _ ?_
      rw [(sr0.fr p.1 srcC_out).2.1]
      exact br_t (nI_le (Nat.le_refl _) (by omega)) (fin h' p)
    · intro i hi ih h' p
      have sr1 := sr0.fr p.1 srcC_out
      refine sg_X3_putSource_29 E (d + 6) g _ h' _ ?_
      rw [sr1.2.1, nI_1]
      refine br_f (nI_ge hi (by omega)) (c_inT w sr1 (stt0.fr p.1 rfl (fun _ => rfl)) hi p.2.2 ?_ (fun h2 p2 => ih h2 ?_))
      · have := insT_mono D S (i + 1) (dI D - (i + 1))
        rw [show i + 1 + (dI D - (i + 1)) = dI D by omega] at this
        have e : (insT D S (i + 1)).length = (insT D S i).length + (inT D S i).length := List.length_append
        unfold allT at hl
        rw [List.length_append] at hl ⊢
        omega
      · show PtC h0' 0 (_ ++ (insT D S i ++ inT D S i)) h2
        rw [← List.append_assoc]
        exact p.trans p2 rfl
  have l1 : ∀ m, m ≤ dN D → ∀ h', PtC h0' 0 (opsT D m) h' → VX3_putSource_7 E (d + 6) g (fun h1 => PI (h1.1 3 1) h1) (nI m) h' := by
    refine up_ind _ ?_ ?_
    · intro h' p
      refine sg_X3_putSource_7 E (d + 6) g _ h' _ ?_
      rw [(sr0.fr p.1 srcC_out).1]
      refine br_t (nI_le (Nat.le_refl _) (by omega)) (l2 0 (by omega) h' ?_)
      show PtC h0' 0 (_ ++ []) h'
      rw [List.append_nil]
      exact p
    · intro m hm ih h' p
      have sr1 := sr0.fr p.1 srcC_out
      refine sg_X3_putSource_7 E (d + 6) g _ h' _ ?_
      rw [sr1.1, nI_1]
      refine br_f (nI_ge hm (by omega)) (c_opT w sr1 hm p.2.2 ?_ (fun h2 p2 => ih h2 (p.trans p2 rfl)))
      have := opsT_mono D (m + 1) (dN D - (m + 1))
      rw [show m + 1 + (dN D - (m + 1)) = dN D by omega] at this
      have e : (opsT D (m + 1)).length = (opsT D m).length + (opT D m).length := List.length_append
      unfold allT at hl
      rw [List.length_append] at hl
      omega
  exact l1 0 (by omega) h0' (Pt.none st0)
end WC
