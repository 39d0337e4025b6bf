/-! the words of an instruction; in the reference -/
def fRp (i : Nat) (c j : Nat) : Bool := (69 ≤ c && c ≤ 75) || (c == 63 && (j == 8 || j == 9 || j == 10 || j == 21)) || (c == 76 && (j == i || j == i + 1)) || ((c == 77 || c == 78) && j == i)
/-- the words l from place m0 on -/
def WRp (m0 : Nat) (l : List (Nat × Bool)) (h : Hp) : Prop := ∀ n, n < l.length → h.1 74 (m0 + n) = nI (l.getD n (0, false)).1 ∧ h.1 75 (m0 + n) = b2i (l.getD n (0, false)).2
def WR (D : SD) (S : ST) (i m0 : Nat) (h : Hp) : Prop := h.1 76 i = nI m0 ∧ h.1 76 (i + 1) = nI (m0 + (wd D S i).length) ∧ WRp m0 (wd D S i) h ∧ h.1 77 i = nI (lt D S i) ∧ h.1 78 i = nI (ch D S i)
/-- the words before place m0 are as they were -/
def Lo (m0 : Nat) (h h' : Hp) : Prop := ∀ j, j < m0 → h'.1 74 j = h.1 74 j ∧ h'.1 75 j = h.1 75 j
theorem Lo.trans {m0 : Nat} {h h1 h2 : Hp} (a : Lo m0 h h1) (b : Lo m0 h1 h2) : Lo m0 h h2 := fun j hj => ⟨(b j hj).1.trans (a j hj).1, (b j hj).2.trans (a j hj).2⟩
theorem Lo.of {m0 : Nat} {h h1 : Hp} (a : h1.1 74 = h.1 74) (b : h1.1 75 = h.1 75) : Lo m0 h h1 := fun j _ => by rw [a, b]; exact ⟨rfl, rfl⟩
section WDR
variable {E : En} {d : Nat} {D : SD} {S : ST} {h : Hp} {PV : Hp → Prop} {i b m0 : Nat}
theorem srcR_rp (c j : Nat) (e : isSrcR c j = true) : fRp i c j = false := by
  unfold isSrcR at e
  unfold fRp
  simp only [Bool.or_eq_true, Bool.and_eq_true, beq_iff_eq] at e
  simp only [Bool.or_eq_false_iff, Bool.and_eq_false_iff, decide_eq_false_iff_not, beq_eq_false_iff_ne]
  omega
theorem la_rp (c j : Nat) (e : fRp i c j = false) : fLa c j = false := by
  unfold fRp at e
  unfold fLa
  simp only [Bool.or_eq_false_iff, Bool.and_eq_false_iff, decide_eq_false_iff_not, beq_eq_false_iff_ne] at e ⊢
  omega
theorem ch_rp (c j : Nat) (e : fRp i c j = false) : fCh c j = false := by
  unfold fRp at e
  unfold fCh
  simp only [Bool.or_eq_false_iff, Bool.and_eq_false_iff, decide_eq_false_iff_not, beq_eq_false_iff_ne] at e ⊢
  omega
theorem p72_rp (c j : Nat) (e : fRp i c j = false) : (fun c _ => c == 72 : Nat → Nat → Bool) c j = false := by
  unfold fRp at e
  simp only [Bool.or_eq_false_iff, Bool.and_eq_false_iff, decide_eq_false_iff_not, beq_eq_false_iff_ne] at e ⊢
  omega
theorem wd_rp (c j : Nat) (e : fRp i c j = false) : fWd c j = false := by
  unfold fRp at e
  unfold fWd
  simp only [Bool.or_eq_false_iff, Bool.and_eq_false_iff, decide_eq_false_iff_not, beq_eq_false_iff_ne] at e ⊢
  omega
theorem mapD {f : Nat → Nat} {l : List Nat} {k : Nat} (hk : k < l.length) : (l.map f).getD k 0 = f (l.getD k 0) := by
  rw [List.getD_eq_getElem?_getD, List.getElem?_map, List.getD_eq_getElem?_getD, List.getElem?_eq_getElem hk]; rfl
theorem r_one {g : SG} (w : Wf D) (wg : WfG g) {ga : Ga} {x1 x2 x3 : Int32} {m : Nat} (hm2 : m + gS g ≤ 192) (t : ∀ h', WApp h m ((oneP (gS g)).map (fun x => opF D i b x (gS g))) h' → VX10_packs_84 E (d + 1) ga PV x1 x2 x3 (nI (gS g)) h') : ∀ n, n ≤ gS g → ∀ h1, AtR D i b g h1 → WApp h m ((oneP n).map (fun x => opF D i b x (gS g))) h1 → VX10_packs_84 E (d + 1) ga PV x1 x2 x3 (nI n) h1 := by
  refine up_ind _ ?_ ?_
  · intro h1 _ a
    exact t h1 a
  · intro n hn ih h1 at1 a
    have w2 := wg.2.1
    have el : ((oneP n).map (fun x => opF D i b x (gS g))).length = n := by rw [List.length_map, oneP_len]
    have e21 : h1.1 63 21 = nI (m + n) := by have := a.2.1; rw [el] at this; exact this
    refine sg_X10_packs_84 E (d + 1) ga _ _ _ _ h1 PV ?_
    rw [at1.2.2.1.1, sh1 n (by omega), nI_1]
    refine br_f (nI_ge hn (by omega)) (r_word w wg at1 (p2_lt hn) e21 (by omega) ?_)
    have o := WApp.one (x := opF D i b (2 ^ n) (gS g)) a
    rw [el] at o
    refine ih _ (at1.wd (((Fr.refl h1).si rfl).si rfl |>.si rfl)) ?_
    show WApp h m ((oneP n ++ [2 ^ n]).map _) _
    rw [List.map_append]
    exact o
theorem r_packs (w : Wf D) (ws : WfS D S) (sr : RSrc D h) (st : RSt D S h) (hi : i < dI D) (hm : h.1 63 21 = nI m0) (hm0 : m0 + 24 ≤ 192) (t : ∀ h', Fr (fRp i) h h' → Lo m0 h h' → WR D S i m0 h' → h'.1 63 21 = nI (m0 + (wd D S i).length) → PV h') : SpV E (d + 5) MX10_packs [.ref (eA E 63), .int (nI i)] h PV := by
  have hI := w.2.2.1
  obtain ⟨l0, l24, hrow⟩ := w.2.2.2.1 i hi
  have vi : vp_in (nI i) 8 := vp_in_nI (by omega) (by decide)
  have vi9 : vp_in (nI i) 9 := vp_in_nI (by omega) (by decide)
  have vi19 : vp_in (nI (i + 1)) 9 := vp_in_nI (by omega) (by decide)
  have v09 : vp_in (0 : Int32) 9 := vp_in_nI (n := 0) (by decide) (by decide)
  have md2 := ws.1
  refine wp_X10_packs E (d + 4) _ h PV (fun ga => ⟨vi9, vi, vi, ?_⟩)
  rw [nI_clamp (by omega), hm]
  have loop : ∀ (f b : Nat) (pre : List (Nat × Bool)) (c m : Nat) (h1 : Hp), dL D i ≤ b + f → b ≤ dL D i → pre.length ≤ b → c ≤ b → m ≤ 10 → pre ++ wdF D S i f b = wd D S i → c + chF D S i f b = ch D S i → max m (ltF D S i f b) = lt D S i → Fr (fRp i) h h1 → Lo m0 h h1 → h1.1 76 i = nI m0 → h1.1 63 21 = nI (m0 + pre.length) → WRp m0 pre h1 → h1.1 77 i = nI m → h1.1 78 i = nI c → VX10_packs_26 E (d + 4) ga PV (nI i) (nI b) h1 := by
    intro f
    induction f with
    | zero =>
      intro b pre c m h1 hf hbl hpl hc hmm e1 e2 e3 fr lo e76 e21 wr e77 e78
      have sr1 := sr.fr fr srcR_rp
      refine sg_X10_packs_26 E (d + 4) ga _ _ h1 PV ⟨vi, ?_⟩
      rw [nI_clamp (by omega), (sr1.2.2.2.2.2 i hi).1, nI_1, nI_clamp (n := i + 1) (by omega), e21]
      refine br_t (nI_le (by omega) (by omega)) ⟨vi19, ?_⟩
      have e1 : pre ++ [] = wd D S i := e1
      have e2 : c + 0 = ch D S i := e2
      have e3 : max m 0 = lt D S i := e3
      rw [List.append_nil] at e1
      have e3 : m = lt D S i := by rw [← e3]; exact (Nat.max_eq_left (Nat.zero_le _)).symm
      refine t _ (fr.si (by simp [fRp])) (lo.trans (Lo.of (sI_n _ _ _ _ (by decide)) (sI_n _ _ _ _ (by decide)))) ⟨?_, ?_, ?_, ?_, ?_⟩ ?_
      · rw [sI_j (by omega)]; exact e76
      · rw [sI_at, e1]
      · rw [← e1]
        intro n hn
        rw [sI_n _ _ _ _ (by decide), sI_n _ _ _ _ (by decide)]
        exact wr n hn
      · rw [sI_n _ _ _ _ (by decide), e77, e3]
      · rw [sI_n _ _ _ _ (by decide), e78, ← e2]; rfl
      · rw [sI_n _ _ _ _ (by decide), e21, e1]
    | succ f ih =>
      intro b pre c m h1 hf hbl hpl hc hmm e1 e2 e3 fr lo e76 e21 wr e77 e78
      by_cases q : b < dL D i
      · have sr1 := sr.fr fr srcR_rp
        have st1 : RSt D S h1 := st.fr fr (fun _ => rfl)
        have e1 : pre ++ (if b < dL D i then wS D S i b ++ wdF D S i f (sEnd D S i b) else []) = wd D S i := e1
        have e2 : c + (if b < dL D i then depth (wG D S i b) + chF D S i f (sEnd D S i b) else 0) = ch D S i := e2
        have e3 : max m (if b < dL D i then max (pkM (sM S) (wG D S i b)).length (ltF D S i f (sEnd D S i b)) else 0) = lt D S i := e3
        rw [if_pos q] at e1 e2 e3
        have g1 := sEnd_gt D S i b
        have g2 := sEnd_le S q
        have g3 := (ws.2 i hi).2 b q
        obtain ⟨wg, gs⟩ := wG_wf w ws hi q
        have pk := pkM_ok wg (sM S)
        have gs' : gS (sgm D i b (sEnd D S i b)) = sEnd D S i b - b := rfl
        have dle : depth (wG D S i b) ≤ gS (wG D S i b) := depth_le
        have ple := pk.2.1
        have ppos := pk.1
        refine sg_X10_packs_26 E (d + 4) ga _ _ h1 PV ⟨vi, ?_⟩
        rw [nI_clamp (by omega), (sr1.2.2.2.2.2 i hi).1, nI_1, nI_clamp (n := i + 1) (by omega), e21]
        refine br_f (nI_ge q (by omega)) (r_lays w ws sr1 st1 hi q (fun h4 f4 e8 e9 sg4 => ⟨v09, ?_⟩))
        have fr4 : Fr (fRp i) h h4 := fr.trans (f4.mono la_rp)
        have at4 : AtR D i b (wG D S i b) h4 := ⟨e8, e9, sg4, sr.fr fr4 srcR_rp, hi, by omega⟩
        have e214 : h4.1 63 21 = nI (m0 + pre.length) := by rw [f4.i 63 21 rfl]; exact e21
        have lo4 : Lo m0 h h4 := lo.trans (Lo.of (f4.f 74 (fun _ => rfl)) (f4.f 75 (fun _ => rfl)))
        have st4 : RSt D S h4 := st.fr fr4 (fun _ => rfl)
        have wr4 : WRp m0 pre h4 := by intro n hn; rw [f4.f 74 (fun _ => rfl), f4.f 75 (fun _ => rfl)]; exact wr n hn
        have tail : ∀ h0 h9 : Hp, Fr (fun c _ => c == 72) h4 h0 → WApp h0 (m0 + pre.length) ((pkM (sM S) (wG D S i b)).map (fun x => opF D i b x (gS (wG D S i b)))) h9 → vp_in ((h9.1 63 21) - (1 : Int32)) 192 ∧ (vp_in (nI i) 8 ∧ (vp_in (nI i) 8 ∧ (vp_in (nI i) 8 ∧ (SpI E (d + 4) MX10_chainOf [.ref (eA E 63)] (sI (sI h9 75 (((h9.1 63 21) - (1 : Int32)).toNatClampNeg) (1 : Int32)) 77 i (if (h9.1 77 i) < ((h9.1 63 21) - nI (m0 + pre.length)) then ((h9.1 63 21) - nI (m0 + pre.length)) else (h9.1 77 i))) (fun v14 h14 => vp_in (nI i) 8 ∧ (VX10_packs_26 E (d + 4) ga PV (nI i) (nI b + (h14.1 63 10)) (sI h14 78 i ((h9.1 78 i) + v14)))))))) := by
          intro h0 h9 f0 wa
          have k21 := wa.2.1
          rw [List.length_map] at k21
          have fr9 : Fr (fRp i) h h9 := fr4.trans ((f0.mono p72_rp).trans (wa.1.mono wd_rp))
          have e779 : h9.1 77 i = nI m := by rw [wa.1.i 77 i rfl, f0.i 77 i rfl, f4.i 77 i rfl]; exact e77
          have e789 : h9.1 78 i = nI c := by rw [wa.1.i 78 i rfl, f0.i 78 i rfl, f4.i 78 i rfl]; exact e78
          have sg9 : SegR (wG D S i b) h9 := (sg4.fr f0 rfl (fun _ => rfl) (fun _ => rfl) (fun _ => rfl)).fr wa.1 rfl (fun _ => rfl) (fun _ => rfl) (fun _ => rfl)
          rw [k21, e779, e789, show (1 : Int32) = nI 1 from rfl, pk_sub (b := 1) (by omega), pk_sub (b := m0 + pre.length) (by omega), nI_max (by omega) (by omega), nI_clamp (n := m0 + pre.length + (pkM (sM S) (wG D S i b)).length - 1) (by omega), show m0 + pre.length + (pkM (sM S) (wG D S i b)).length - (m0 + pre.length) = (pkM (sM S) (wG D S i b)).length by omega]
          refine ⟨vp_in_nI (by omega) (by decide), vi, vi, vi, ?_⟩
          have fa : Fr (fRp i) h9 (sI (sI h9 75 (m0 + pre.length + (pkM (sM S) (wG D S i b)).length - 1) (nI 1)) 77 i (nI (max m (pkM (sM S) (wG D S i b)).length))) := ((Fr.refl h9).si (by simp [fRp])).si (by simp [fRp])
          have fb : Fr (fun c _ => c == 75 || c == 77) h9 (sI (sI h9 75 (m0 + pre.length + (pkM (sM S) (wG D S i b)).length - 1) (nI 1)) 77 i (nI (max m (pkM (sM S) (wG D S i b)).length))) := ((Fr.refl h9).si rfl).si rfl
          refine r_chain wg (sg9.fr fb rfl (fun _ => rfl) (fun _ => rfl) (fun _ => rfl)) (fun h14 f14 => ⟨vi, ?_⟩)
          have e10 : h14.1 63 10 = nI (gS (wG D S i b)) := by rw [f14.i 63 10 rfl, fb.i 63 10 rfl]; exact sg9.1
          have k74 : h14.1 74 = h9.1 74 := by rw [f14.f 74 (fun _ => rfl), fb.f 74 (fun _ => rfl)]
          have k75 : ∀ j, h14.1 75 j = if j = m0 + pre.length + (pkM (sM S) (wG D S i b)).length - 1 then nI 1 else h9.1 75 j := by
            intro j
            rw [f14.f 75 (fun _ => rfl), sI_n _ _ _ _ (show 75 ≠ 77 by decide), sI_s, upd_1]
          have k77 : h14.1 77 i = nI (max m (pkM (sM S) (wG D S i b)).length) := by rw [f14.f 77 (fun _ => rfl), sI_at]
          have k9lo : Lo m0 h h9 := lo4.trans ((Lo.of (f0.f 74 (fun _ => rfl)) (f0.f 75 (fun _ => rfl))).trans (fun j hj => wa.2.2.2 j (by omega)))
          rw [e10, nI_add, nI_add, gs, show b + (sEnd D S i b - b) = sEnd D S i b by omega]
          refine ih (sEnd D S i b) (pre ++ wS D S i b) (c + depth (wG D S i b)) (max m (pkM (sM S) (wG D S i b)).length) _ (by omega) g2 ?_ (by omega) (by omega) (by rw [List.append_assoc]; exact e1) (by rw [Nat.add_assoc]; exact e2) (by rw [Nat.max_assoc]; exact e3) ((fr9.trans (fa.trans (f14.mono ch_rp))).si (by simp [fRp])) ?_ ?_ ?_ ?_ ?_ ?_
          · rw [List.length_append]; have := (wS_len w ws hi q).2; omega
          · intro j hj
            rw [sI_n _ _ _ _ (by decide), sI_n _ _ _ _ (by decide), k74, k75, if_neg (by omega)]
            exact k9lo j hj
          · rw [sI_n _ _ _ _ (by decide), f14.i 76 i rfl, fb.i 76 i rfl, wa.1.i 76 i rfl, f0.i 76 i rfl, f4.i 76 i rfl]; exact e76
          · rw [sI_n _ _ _ _ (by decide), f14.i 63 21 rfl, fb.i 63 21 rfl, k21, List.length_append, wS, mkW_len, Nat.add_assoc]
          · intro n hn
            rw [List.length_append, wS, mkW_len] at hn
            rw [sI_n _ _ _ _ (by decide), sI_n _ _ _ _ (by decide), k74, k75]
            rcases Nat.lt_or_ge n pre.length with z | z
            · rw [getP_app z, if_neg (by omega), (wa.2.2.2 (m0 + n) (by omega)).1, (wa.2.2.2 (m0 + n) (by omega)).2, f0.f 74 (fun _ => rfl), f0.f 75 (fun _ => rfl)]
              exact wr4 n z
            · obtain ⟨k, rfl⟩ : ∃ k, n = pre.length + k := ⟨n - pre.length, by omega⟩
              have ww := wa.2.2.1 k (by rw [List.length_map]; omega)
              rw [mapD (by omega)] at ww
              rw [getP_app2, wS, mkW_at (by omega), ← Nat.add_assoc, ww.1, ww.2]
              refine ⟨rfl, ?_⟩
              by_cases y : k + 1 = (pkM (sM S) (wG D S i b)).length
              · rw [if_pos (by omega), decide_eq_true y]; rfl
              · rw [if_neg (by omega), decide_eq_false y]; rfl
          · rw [sI_n _ _ _ _ (by decide)]; exact k77
          · rw [sI_at]
        rw [show ((0 : Int32).toNatClampNeg) = 0 from rfl, st4.1, e214]
        refine bj_if (nI_eq (b := 1) (by omega) (by decide)) (fun y => ⟨v09, ?_⟩) (fun y => ?_)
        · refine bj_if (nI_eq (b := 2) (by omega) (by decide)) (fun y2 => ?_) (fun y2 => ?_)
          · have em : pkM (sM S) (wG D S i b) = oneP (gS (wG D S i b)) := by unfold pkM; rw [if_pos (by omega)]
            refine r_one (m := m0 + pre.length) w wg (by omega) (fun h9 wa => ?_) 0 (Nat.zero_le _) h4 at4 (WApp.nil e214)
            rw [← em] at wa
            have tl := tail h4 h9 (Fr.refl h4) wa
            have sg9 : SegR (wG D S i b) h9 := sg4.fr wa.1 rfl (fun _ => rfl) (fun _ => rfl) (fun _ => rfl)
            refine sg_X10_packs_84 E (d + 4) ga _ _ _ _ h9 PV ?_
            rw [sg9.1, nI_clamp (n := i) (by omega)]
            exact br_t (nI_le (Nat.le_refl _) (by omega)) tl
          · have em : pkM (sM S) (wG D S i b) = pkB (wG D S i b) := by unfold pkM; rw [if_neg (by omega), if_neg (by omega)]
            refine r_fewest w wg at4 e214 (by omega) (fun h0 h9 f0 wa _ => ?_)
            rw [← em] at wa
            exact tail h0 h9 f0 wa
        · have em : pkM (sM S) (wG D S i b) = lsP (wG D S i b) (gS (wG D S i b)) 0 := by unfold pkM; rw [if_neg (by omega), if_pos y]
          refine r_list w wg at4 e214 (by omega) (fun h9 wa => ?_)
          rw [← em] at wa
          exact tail h4 h9 (Fr.refl h4) wa
      · have e1 : pre ++ (if b < dL D i then wS D S i b ++ wdF D S i f (sEnd D S i b) else []) = wd D S i := e1
        have e2 : c + (if b < dL D i then depth (wG D S i b) + chF D S i f (sEnd D S i b) else 0) = ch D S i := e2
        have e3 : max m (if b < dL D i then max (pkM (sM S) (wG D S i b)).length (ltF D S i f (sEnd D S i b)) else 0) = lt D S i := e3
        rw [if_neg q] at e1 e2 e3
        refine ih b pre c m h1 (by omega) hbl hpl hc hmm ?_ ?_ ?_ fr lo e76 e21 wr e77 e78
        · rw [← e1]
          cases f with
          | zero => rfl
          | succ f => show _ ++ (if b < dL D i then _ else []) = _; rw [if_neg q]
        · rw [← e2]
          cases f with
          | zero => rfl
          | succ f => show _ + (if b < dL D i then _ else 0) = _; rw [if_neg q]
        · rw [← e3]
          cases f with
          | zero => rfl
          | succ f => show max _ (if b < dL D i then _ else 0) = _; rw [if_neg q]
  refine loop 24 0 [] 0 0 _ (by omega) (by omega) (Nat.le_refl _) (Nat.le_refl _) (by decide) rfl (Nat.zero_add _) (Nat.max_eq_right (Nat.zero_le _)) ?_ ?_ ?_ ?_ ?_ ?_ ?_
  · exact (((Fr.refl h).si (by simp [fRp])).si (by simp [fRp])).si (by simp [fRp])
  · exact Lo.of (by rw [sI_n _ _ _ _ (by decide), sI_n _ _ _ _ (by decide), sI_n _ _ _ _ (by decide)]) (by rw [sI_n _ _ _ _ (by decide), sI_n _ _ _ _ (by decide), sI_n _ _ _ _ (by decide)])
  · rw [sI_n _ _ _ _ (by decide), sI_n _ _ _ _ (by decide), sI_at]
  · rw [sI_n _ _ _ _ (by decide), sI_n _ _ _ _ (by decide), sI_n _ _ _ _ (by decide)]; exact hm
  · intro n hn; cases hn
  · rw [sI_n _ _ _ _ (by decide), sI_at]; rfl
  · rw [sI_at]; rfl
end WDR
