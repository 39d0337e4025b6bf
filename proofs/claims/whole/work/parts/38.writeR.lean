/-! the output, in the reference -/
section WR
variable {E : En} {d n : Nat} {D : SD} {S : ST} {h : Hp} {P : Hp → Prop}
abbrev PtR := Pt 92 63 43
theorem r_put {b : Nat} {x : Int32} (hx : x = nI b) (hb : b < 128) (hn : h.1 63 43 = nI n) (hl : n < 3000) (t : ∀ h', PtR h n [b] h' → P h') : SpV E d MX10_says [.ref (eA E 63), .int x] h P := by
  subst hx
  refine wp_X10_says E d _ h P ?_
  rw [hn, nI_clamp (by omega), nI_1, pk_vb, fa_byte_small hb]
  exact ⟨vp_in_nI hl (by decide), t _ (Pt.one (by decide))⟩
theorem r_text {i : Nat} (hi : i < 8) (hn : h.1 63 43 = nI n) (hl : n + (sTx.getD i []).length ≤ 3000) (t : ∀ h', PtR h n (sTx.getD i []) h' → P h') : SpV E (d + 5) MX10_saysWord [.ref (eA E 63), .ref (eK E i)] h P := by
  have h11 := sTx_le i hi
  refine wp_X10_saysWord E (d + 4) i hi h P (fun g => ?_)
  have loop : ∀ k, k ≤ (sTx.getD i []).length → ∀ h', PtR h n ((sTx.getD i []).take k) h' → VX10_saysWord_2 E (d + 4) g P i (nI k) h' := by
    refine up_ind _ ?_ ?_
    · intro h' p
      rw [List.take_length] at p
      exact sg_X10_saysWord_2 E (d + 4) g i hi _ h' P (s_len hi (br_t (nI_le (Nat.le_refl _) (by omega)) (t h' p)))
    · intro k hk ih h' p
      have e2 := p.2.2
      rw [List.length_take, Nat.min_eq_left (by omega)] at e2
      refine sg_X10_saysWord_2 E (d + 4) g i hi _ h' P (s_len hi (br_f (nI_ge hk (by omega)) (s_ch hi hk ?_)))
      refine r_put rfl (sTx_ch i hi k (by omega) hk).2 e2 (by omega) (fun h2 p2 => ?_)
      rw [nI_1]
      refine ih h2 ?_
      rw [List.take_succ, List.getElem?_eq_getElem hk, show (sTx.getD i [])[k] = (sTx.getD i []).getD k 0 from (List.getElem_eq_getD _)]
      exact p.trans p2 (by rw [List.length_take, Nat.min_eq_left (by omega)])
  exact loop 0 (by omega) h (Pt.none hn)
theorem r_num {v : Nat} (hv : v < 10000) (hn : h.1 63 43 = nI n) (hl : n + (num v).length ≤ 3000) (t : ∀ h', PtR h n (num v) h' → P h') : SpV E (d + 1) MX10_saysNumber [.ref (eA E 63), .int (nI v)] h P := by
  refine wp_X10_saysNumber E d _ h P (fun g => ?_)
  have say : ∀ (u : Nat) (x x2 : Int32) (l : List Nat) (h1 : Hp), 0 < u → u < 10000 → x = nI u → x / (10 : Int32) = x2 → PtR h n l h1 → n + l.length < 3000 → (∀ h2, PtR h n (l ++ [48 + v / u % 10]) h2 → VX10_saysNumber_18 E d g P (nI v) x2 h2) → VX10_saysNumber_18 E d g P (nI v) x h1 := by
    intro u x x2 l h1 hu1 hu2 hx hx2 p hl k
    subst hx
    refine sg_X10_saysNumber_18 E d g _ _ h1 P (br_f (nI_nle hu1 (by omega)) ?_)
    rw [c_digit hv hu1 hu2, hx2]
    exact ⟨nI_ne0 hu1 (by omega), r_put rfl (by omega) p.2.2 hl (fun h2 p2 => k h2 (p.trans p2 rfl))⟩
  have done : ∀ (l : List Nat) (h1 : Hp), PtR h n l h1 → l = num v → VX10_saysNumber_18 E d g P (nI v) 0 h1 := by
    intro l h1 p e
    exact sg_X10_saysNumber_18 E d g _ _ h1 P (br_t (by decide) (t h1 (by rw [← e]; exact p)))
  have up : ∀ (u : Nat) (x x2 : Int32), 0 < u → u < 10000 → x = nI u → x * (10 : Int32) = x2 → (v / u ≤ 9 → VX10_saysNumber_18 E d g P (nI v) x h) → (¬ v / u ≤ 9 → VX10_saysNumber_2 E d g P (nI v) x2 h) → VX10_saysNumber_2 E d g P (nI v) x h := by
    intro u x x2 hu1 hu2 hx hx2 k1 k2
    have := Nat.div_le_self v u
    subst hx
    refine sg_X10_saysNumber_2 E d g _ _ h P ⟨nI_ne0 hu1 (by omega), ?_⟩
    rw [pk_div (by omega) hu1 (by omega), hx2]
    exact ek_if (nI_leI (b := 9) (by omega) (by decide)) k1 k2
  have p0 : PtR h n [] h := Pt.none hn
  have hlen := hl
  unfold num at hlen
  simp only [List.length_append, List.length_cons, List.length_nil] at hlen
  refine up 1 _ _ (by decide) (by decide) rfl (show _ = (10 : Int32) by decide) (fun q => ?_) (fun q => ?_)
  · refine say 1 _ _ _ h (by decide) (by decide) rfl (show _ = (0 : Int32) by decide) p0 (by show n + 0 < 3000; omega) (fun h1 p1 => done _ h1 p1 ?_)
    unfold num
    rw [if_neg (by omega), if_neg (by omega), if_neg (by omega)]; rfl
  refine up 10 _ _ (by decide) (by decide) rfl (show _ = (100 : Int32) by decide) (fun q => ?_) (fun q => ?_)
  · rw [if_pos (show 10 ≤ v by omega)] at hlen
    simp only [List.length_cons, List.length_nil] at hlen
    refine say 10 _ _ _ h (by decide) (by decide) rfl (show _ = (1 : Int32) by decide) p0 (by show n + 0 < 3000; omega) (fun h1 p1 => ?_)
    refine say 1 _ _ _ h1 (by decide) (by decide) rfl (show _ = (0 : Int32) by decide) p1 (by show n + 1 < 3000; omega) (fun h2 p2 => done _ h2 p2 ?_)
    unfold num
    rw [if_neg (by omega), if_neg (by omega), if_pos (by omega)]; rfl
  refine up 100 _ _ (by decide) (by decide) rfl (show _ = (1000 : Int32) by decide) (fun q => ?_) (fun q => ?_)
  · rw [if_pos (show 10 ≤ v by omega), if_pos (show 100 ≤ v by omega)] at hlen
    simp only [List.length_cons, List.length_nil] at hlen
    refine say 100 _ _ _ h (by decide) (by decide) rfl (show _ = (10 : Int32) by decide) p0 (by show n + 0 < 3000; omega) (fun h0 p0 => ?_)
    refine say 10 _ _ _ h0 (by decide) (by decide) rfl (show _ = (1 : Int32) by decide) p0 (by show n + 1 < 3000; omega) (fun h1 p1 => ?_)
    refine say 1 _ _ _ h1 (by decide) (by decide) rfl (show _ = (0 : Int32) by decide) p1 (by show n + 2 < 3000; omega) (fun h2 p2 => done _ h2 p2 ?_)
    unfold num
    rw [if_neg (by omega), if_pos (by omega), if_pos (by omega)]; rfl
  refine up 1000 _ _ (by decide) (by decide) rfl (show _ = (10000 : Int32) by decide) (fun q2 => ?_) (fun q2 => by omega)
  rw [if_pos (show 10 ≤ v by omega), if_pos (show 100 ≤ v by omega), if_pos (show 1000 ≤ v by omega)] at hlen
  simp only [List.length_cons, List.length_nil] at hlen
  refine say 1000 _ _ _ h (by decide) (by decide) rfl (show _ = (100 : Int32) by decide) p0 (by show n + 0 < 3000; omega) (fun h3 p3 => ?_)
  refine say 100 _ _ _ h3 (by decide) (by decide) rfl (show _ = (10 : Int32) by decide) p3 (by show n + 1 < 3000; omega) (fun h0 p0 => ?_)
  refine say 10 _ _ _ h0 (by decide) (by decide) rfl (show _ = (1 : Int32) by decide) p0 (by show n + 2 < 3000; omega) (fun h1 p1 => ?_)
  refine say 1 _ _ _ h1 (by decide) (by decide) rfl (show _ = (0 : Int32) by decide) p1 (by show n + 3 < 3000; omega) (fun h2 p2 => done _ h2 p2 ?_)
  unfold num
  rw [if_pos (by omega), if_pos (by omega), if_pos (by omega)]; rfl
theorem r_opL {a : Nat} (ha : a < 10008) (hn : h.1 63 43 = nI n) (hl : n + (opL a).length ≤ 3000) (t : ∀ h', PtR h n (opL a) h' → P h') : SpV E (d + 2) MX10_saysOperand [.ref (eA E 63), .int (nI a)] h P := by
  refine wp_X10_saysOperand E (d + 1) _ h P ?_
  unfold opL at hl t
  have c8 : ((8 : Int32) ≤ nI a ↔ 8 ≤ a) := nI_leI (a := 8) (by decide) (by omega)
  refine ek_if c8 (fun q => ?_) (fun q => ?_)
  · rw [if_neg (by omega)] at hl t
    refine bi_t c8 q ?_
    rw [show (8 : Int32) = nI 8 from rfl, pk_sub q]
    exact r_num (by omega) hn hl t
  · rw [if_pos (by omega)] at hl t
    rw [List.length_cons] at hl
    refine r_put (b := 114) rfl (by decide) hn (by omega) (fun h1 p1 => bi_f c8 q ?_)
    exact r_num (by omega) p1.2.2 (by show n + 1 + _ ≤ _; omega) (fun h2 p2 => t h2 (p1.trans p2 rfl))
theorem r_name {m : Nat} {f : Nat → Nat} (hm : m < 20) (hf : NmOK f) (hs : ∀ k, k < 8 → h.1 65 (8 * m + k) = nI (f k)) (hn : h.1 63 43 = nI n) (hl : n + (nmL f 8).length ≤ 3000) (t : ∀ h', PtR h n (nmL f 8) h' → P h') : SpV E (d + 1) MX10_saysName [.ref (eA E 63), .int (nI m)] h P := by
  refine wp_X10_saysName E d _ h P (fun g => ?_)
  have mono : ∀ k, k ≤ 8 → (nmL f k).length ≤ (nmL f 8).length := by
    refine up_ind _ (Nat.le_refl _) (fun k hk ih => Nat.le_trans ?_ ih)
    show _ ≤ (nmL f k ++ _).length
    rw [List.length_append]; omega
  have loop : ∀ k, k ≤ 8 → ∀ h', PtR h n (nmL f k) h' → VX10_saysName_2 E d g P (nI m) (nI k) h' := by
    refine up_ind _ ?_ ?_
    · intro h' p
      exact sg_X10_saysName_2 E d g _ _ h' P (br_t (nI_le (Nat.le_refl 8) (by decide)) (t h' p))
    · intro k hk ih h' p
      refine sg_X10_saysName_2 E d g _ _ h' P (br_f (nI_ge (b := 8) hk (by decide)) ?_)
      rw [show (8 : Int32) = nI 8 from rfl, pk_mul, nI_add, nI_clamp (by omega), p.1.f 65 (fun _ => rfl), hs k hk, nI_1]
      have hb := hf.2.1 k hk
      have v : vp_in (nI (8 * m + k)) 160 := vp_in_nI (by omega) (by decide)
      have hmo := mono (k + 1) hk
      have eL : nmL f (k + 1) = nmL f k ++ (if f k = 0 then [] else [f k]) := rfl
      refine ⟨v, ek_if (nI_leI (b := 0) (by omega) (by decide)) (fun q => ?_) (fun q => ⟨v, ?_⟩)⟩
      · refine ih h' ?_
        rw [eL, if_pos (by omega), List.append_nil]
        exact p
      · rw [if_neg (by omega)] at eL
        rw [eL, List.length_append] at hmo
        simp only [List.length_cons, List.length_nil] at hmo
        refine r_put rfl hb p.2.2 (by omega) (fun h2 p2 => ih h2 ?_)
        rw [eL]
        exact p.trans p2 rfl
  exact loop 0 (by decide) h (Pt.none hn)
theorem srcR_out (c j : Nat) (e : isSrcR c j = true) : fPt 92 63 43 c j = false := by
  unfold isSrcR at e
  unfold fPt
  simp only [Bool.or_eq_true, Bool.and_eq_true, beq_iff_eq] at e
  simp only [Bool.or_eq_false_iff, beq_eq_false_iff_ne, Bool.and_eq_false_iff]
  omega
/-- what stands behind k names of an instruction -/
def sepT (D : SD) (S : ST) (i k : Nat) : Nat := if k = 0 then 58 else if k = dL D i then 59 else if (sK S i).testBit (k - 1) then 33 else 44
theorem r_write {PI : Int32 → Hp → Prop} (w : Wf D) (ws : WfS D S) (sr : RSrc D h) (st : RSt D S h) (t : ∀ h', Fr (fun c j => fPt 92 63 43 c j || (c == 63 && j == 0)) h h' → h'.1 92 = puts (h.1 92) 0 (allT D S) → h'.1 63 43 = nI (allT D S).length → h'.1 63 0 = 0 → PI (nI (allT D S).length) h') : SpI E (d + 6) MX10_write [.ref (eA E 63)] h PI := by
  have hN := w.1
  have hI := w.2.2.1
  have hl := allT_len (S := S) w
  refine wp_X10_write E (d + 5) h PI (fun g => ?_)
  have p0 : Fr (fun c j => fPt 92 63 43 c j || (c == 63 && j == 0)) h (sI (sI h 63 0 (0 : Int32)) 63 43 (0 : Int32)) := ((Fr.refl h).si rfl).si rfl
  have e4 : (sI (sI h 63 0 (0 : Int32)) 63 43 (0 : Int32)).1 92 = h.1 92 := by rw [sI_n _ _ _ _ (by decide), sI_n _ _ _ _ (by decide)]
  have e0 : (sI (sI h 63 0 (0 : Int32)) 63 43 (0 : Int32)).1 63 0 = 0 := by rw [sI_s, sI_s]; rfl
  have st0 : (sI (sI h 63 0 (0 : Int32)) 63 43 (0 : Int32)).1 63 43 = nI 0 := sI_at _ _ _ _
  generalize hg : sI (sI h 63 0 (0 : Int32)) 63 43 (0 : Int32) = h0' at p0 e4 e0 st0
  have sr0 : RSrc D h0' := sr.fr p0 (fun c j e => by
    unfold isSrcR at e
    unfold fPt
    simp only [Bool.or_eq_true, Bool.and_eq_true, beq_iff_eq] at e
    simp only [Bool.or_eq_false_iff, beq_eq_false_iff_ne, Bool.and_eq_false_iff]
    omega)
  have stt0 : RSt D S h0' := st.fr p0 (fun _ => rfl)
  have S1 : ∀ {l : List Nat} {h' : Hp} {n : Nat}, PtR h0' n l h' → RSrc D h' := fun p => sr0.fr p.1 srcR_out
  have S2 : ∀ {l : List Nat} {h' : Hp} {n : Nat}, PtR h0' n l h' → RSt D S h' := fun p => stt0.fr p.1 (fun _ => rfl)
  have l2 : ∀ i, i ≤ dI D → ∀ h', PtR h0' 0 (opsT D (dN D) ++ insT D S i) h' → VX10_write_132 E (d + 5) g PI (nI i) h' := by
    refine up_ind _ ?_ ?_
    · intro h' p
      have e := p.2.2
      rw [Nat.zero_add] at e
      refine sg_X10_write_132 E (d + 5) g _ h' _ ?_
      rw [(S1 p).2.1]
      refine br_t (nI_le (Nat.le_refl _) (by omega)) ?_
      rw [e]
      refine t h' (p0.trans (p.1.mono (fun c j e => ?_))) (by rw [p.2.1, e4]; rfl) e ?_
      · simp only [Bool.or_eq_false_iff] at e
        exact e.1
      · rw [p.1.i 63 0 rfl]; exact e0
    · intro i hi ih h' p
      obtain ⟨l0, l24, hrow⟩ := w.2.2.2.1 i hi
      have nmk := w.2.2.2.2.2 i hi
      have hli : (opsT D (dN D) ++ insT D S i).length + (inT D S i).length ≤ 2232 := by
        have := insT_mono D S (i + 1) (dI D - (i + 1))
        rw [show i + 1 + (dI D - (i + 1)) = dI D by omega] at this
        have e : (insT D S (i + 1)).length = (insT D S i).length + (inT D S i).length := List.length_append
        unfold allT at hl
        rw [List.length_append] at hl ⊢
        omega
      generalize hg1 : opsT D (dN D) ++ insT D S i = L0 at p hli
      have hli2 := hli
      unfold inT at hli2
      simp only [List.length_append, List.length_cons, List.length_nil] at hli2
      refine sg_X10_write_132 E (d + 5) g _ h' _ ?_
      rw [(S1 p).2.1]
      refine br_f (nI_ge hi (by omega)) (r_text (by decide) p.2.2 (by omega) (fun h1 q1 => ?_))
      have p1 := p.trans q1 rfl
      rw [show (12 : Int32) + nI i = nI (12 + i) from nI_add 12 i]
      refine r_name (by omega) nmk (fun k hk => (S1 p1).2.2.2.2.1 i hi k hk) p1.2.2 (by simp only [List.length_append]; omega) (fun h2 q2 => ?_)
      have p2 := p1.trans q2 rfl
      refine r_put (b := 58) rfl (by decide) p2.2.2 (by simp only [List.length_append]; omega) (fun h3 q3 => ?_)
      have p3 := p2.trans q3 rfl
      have mono : ∀ k, k ≤ dL D i → (inB D S i k).length ≤ (inB D S i (dL D i)).length := by
        refine up_ind _ (Nat.le_refl _) (fun k hk ih => ?_)
        refine Nat.le_trans ?_ ih
        show _ ≤ (inB D S i k ++ _).length
        rw [List.length_append]; omega
      have loop : ∀ k, k ≤ dL D i → ∀ h4, PtR h0' 0 (((L0 ++ sTx.getD 4 []) ++ nmL (dM D (12 + i)) 8) ++ (inB D S i k ++ [sepT D S i k])) h4 → VX10_write_163 E (d + 5) g PI (nI i) (nI k) h4 := by
        refine up_ind _ ?_ ?_
        · intro h4 p4
          refine sg_X10_write_163 E (d + 5) g _ _ h4 _ ?_
          rw [nI_clamp (by omega), r_len w (S1 p4) hi, nI_1 i]
          refine ⟨vp_in_nI (by omega) (by decide), br_t (nI_le (Nat.le_refl _) (by omega)) (ih h4 ?_)⟩
          have : sepT D S i (dL D i) = 59 := by
            unfold sepT
            rw [if_neg (by omega), if_pos rfl]
          rw [this, ← hg1] at p4
          show PtR h0' 0 (opsT D (dN D) ++ (insT D S i ++ inT D S i)) h4
          unfold inT
          simp only [List.append_assoc] at p4 ⊢
          exact p4
        · intro k hk ih2 h4 p4
          have hm := hrow k hk
          have hmo := mono (k + 1) (by omega)
          have eB : inB D S i (k + 1) = inB D S i k ++ ([sepT D S i k] ++ nmL (dM D (dR D i k)) 8) := by
            show inB D S i k ++ ([if k = 0 then 58 else if (sK S i).testBit (k - 1) then 33 else 44] ++ _) = _
            have : sepT D S i k = if k = 0 then 58 else if (sK S i).testBit (k - 1) then 33 else 44 := by
              unfold sepT
              by_cases z : k = 0
              · rw [if_pos z, if_pos z]
              · rw [if_neg z, if_neg z, if_neg (by omega)]
            rw [this]
          have hlen : (inB D S i (k + 1)).length = (inB D S i k).length + (1 + (nmL (dM D (dR D i k)) 8).length) := by rw [eB]; simp only [List.length_append, List.length_cons, List.length_nil]
          refine sg_X10_write_163 E (d + 5) g _ _ h4 _ ?_
          rw [nI_clamp (by omega), r_len w (S1 p4) hi, nI_1 k]
          refine ⟨vp_in_nI (by omega) (by decide), br_f (nI_ge hk (by omega)) (r_at w (S1 p4) hi hk ?_)⟩
          refine r_name (by omega) (w.2.2.2.2.1 _ hm) (fun k hk => (S1 p4).2.2.2.1 _ hm k hk) p4.2.2 (by simp only [List.length_append, List.length_cons, List.length_nil]; omega) (fun h5 q5 => ⟨vp_in_nI (by omega) (by decide), ?_⟩)
          have p5 := p4.trans q5 rfl
          have p5' : PtR h0' 0 ((((L0 ++ sTx.getD 4 []) ++ nmL (dM D (12 + i)) 8)) ++ inB D S i (k + 1)) h5 := by
            rw [eB]
            simp only [List.append_assoc] at p5 ⊢
            exact p5
          rw [r_len w (S1 p5) hi]
          have hl5 : 0 + ((((L0 ++ sTx.getD 4 []) ++ nmL (dM D (12 + i)) 8)) ++ inB D S i (k + 1)).length < 3000 := by
            simp only [List.length_append]; omega
          have go : ∀ (b : Nat) (x : Int32), x = nI b → b < 128 → sepT D S i (k + 1) = b → SpV E (d + 5) MX10_says [.ref (eA E 63), .int x] h5 (fun h9 => VX10_write_163 E (d + 5) g PI (nI i) (nI (k + 1)) h9) := by
            intro b x hx hb eb
            refine r_put hx hb p5'.2.2 hl5 (fun h6 q6 => ih2 h6 ?_)
            have p6 := p5'.trans q6 rfl
            rw [eb, ← List.append_assoc]
            exact p6
          refine bj_if (nI_eq (by omega) (by omega)) (fun z => ?_) (fun z => ?_)
          · refine r_mk w ws (S2 p5) hi (by omega) (ek_if (b2i_0 _) (fun y => ?_) (fun y => ?_))
            · refine go 44 _ rfl (by decide) ?_
              unfold sepT
              rw [if_neg (by omega), if_neg z, show k + 1 - 1 = k by omega, y]; rfl
            · refine go 33 _ rfl (by decide) ?_
              unfold sepT
              rw [if_neg (by omega), if_neg z, show k + 1 - 1 = k by omega, ts_nf' y]; rfl
          · refine go 59 _ rfl (by decide) ?_
            unfold sepT
            rw [if_neg (by omega), if_pos z]
      exact loop 0 (by omega) h3 p3
  have l1 : ∀ m, m ≤ dN D → ∀ h', PtR h0' 0 (opsT D m) h' → VX10_write_12 E (d + 5) g PI (nI m) h' := by
    refine up_ind _ ?_ ?_
    · intro h' p
      refine sg_X10_write_12 E (d + 5) g _ h' _ ?_
      rw [(S1 p).1]
      refine br_t (nI_le (Nat.le_refl _) (by omega)) (l2 0 (by omega) h' ?_)
      show PtR h0' 0 (_ ++ []) h'
      rw [List.append_nil]
      exact p
    · intro m hm ih h' p
      obtain ⟨u, tt, k, a, b⟩ := w.2.1 m hm
      have nmk := w.2.2.2.2.1 m hm
      have hlm : (opsT D m).length + (opT D m).length ≤ 2232 := by
        have := opsT_mono D (m + 1) (dN D - (m + 1))
        rw [show m + 1 + (dN D - (m + 1)) = dN D by omega] at this
        have e : (opsT D (m + 1)).length = (opsT D m).length + (opT D m).length := List.length_append
        unfold allT at hl
        rw [List.length_append] at hl
        omega
      have hl := hlm
      unfold opT at hl
      simp only [List.length_append] at hl
      have t : ∀ h2, PtR h0' 0 (opsT D m ++ opT D m) h2 → VX10_write_12 E (d + 5) g PI (nI (m + 1)) h2 := ih
      unfold opT at t
      refine sg_X10_write_12 E (d + 5) g _ h' _ ?_
      rw [(S1 p).1, nI_1]
      refine br_f (nI_ge hm (by omega)) (r_text (by decide) p.2.2 (by omega) (fun h1 q1 => ?_))
      have p1 := p.trans q1 rfl
      refine r_name (by omega) nmk (fun k hk => (S1 p1).2.2.2.1 m hm k hk) p1.2.2 (by simp only [List.length_append]; omega) (fun h2 q2 => ?_)
      have p2 := p1.trans q2 rfl
      refine r_text (by decide) p2.2.2 (by simp only [List.length_append]; omega) (fun h3 q3 => ?_)
      have p3 := p2.trans q3 rfl
      refine r_U w (S1 p3) hm (r_num (by omega) p3.2.2 (by simp only [List.length_append]; omega) (fun h4 q4 => ?_))
      have p4 := p3.trans q4 rfl
      refine r_put (b := 32) rfl (by decide) p4.2.2 (by simp only [List.length_append, List.length_cons, List.length_nil] at hl ⊢; omega) (fun h5 q5 => ?_)
      have p5 := p4.trans q5 rfl
      refine r_T w (S1 p5) hm (r_opL (by omega) p5.2.2 (by simp only [List.length_append, List.length_cons, List.length_nil] at hl ⊢; omega) (fun h6 q6 => ?_))
      have p6 := p5.trans q6 rfl
      refine r_put (b := 61) rfl (by decide) p6.2.2 (by simp only [List.length_append, List.length_cons, List.length_nil] at hl ⊢; omega) (fun h7 q7 => ?_)
      have p7 := p6.trans q7 rfl
      refine r_A w (S1 p7) hm (r_opL a p7.2.2 (by simp only [List.length_append, List.length_cons, List.length_nil] at hl ⊢; omega) (fun h8 q8 => ?_))
      have p8 := p7.trans q8 rfl
      refine r_K w (S1 p8) hm (ek_if (nI_leI (b := 0) (by omega) (by decide)) (fun z => ?_) (fun z => ?_))
      · have k0 : dK D m = 0 := by omega
        rw [if_pos k0] at hl t
        refine r_put (b := 59) rfl (by decide) p8.2.2 (by simp only [List.length_append, List.length_cons, List.length_nil] at hl ⊢; omega) (fun h9 q9 => t h9 ?_)
        have p9 := p8.trans q9 rfl
        simp only [List.append_assoc] at p9 ⊢
        exact p9
      · have k0 : ¬ dK D m = 0 := by omega
        rw [if_neg k0] at hl t
        refine r_K w (S1 p8) hm ?_
        rw [show (1 : Int32) = nI 1 from rfl, pk_sub (by omega)]
        have hk6 : dK D m - 1 < (sTx.getD 1 []).length := by show _ < 6; omega
        refine s_ch (by decide) hk6 (r_put rfl (sTx_ch 1 (by decide) _ (by omega) hk6).2 p8.2.2 (by simp only [List.length_append, List.length_cons, List.length_nil] at hl ⊢; omega) (fun h9 q9 => ?_))
        have p9 := p8.trans q9 rfl
        refine r_B w (S1 p9) hm (by omega) (r_opL b p9.2.2 (by simp only [List.length_append, List.length_cons, List.length_nil] at hl ⊢; omega) (fun h10 q10 => ?_))
        have p10 := p9.trans q10 rfl
        refine r_put (b := 59) rfl (by decide) p10.2.2 (by simp only [List.length_append, List.length_cons, List.length_nil] at hl ⊢; omega) (fun h11 q11 => t h11 ?_)
        have p11 := p10.trans q11 rfl
        simp only [List.append_assoc] at p11 ⊢
        exact p11
  exact l1 0 (by omega) h0' (Pt.none st0)
end WR
