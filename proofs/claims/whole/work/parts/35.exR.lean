/-! execution, in the reference -/
def cp8 (f g : Nat → Int32) : Nat → Int32 := fun r => if r < 8 then f r else g r
theorem cp8_lo {f g : Nat → Int32} {r : Nat} (h : r < 8) : cp8 f g r = f r := if_pos h
theorem cp8_hi {f g : Nat → Int32} {r : Nat} (h : ¬ r < 8) : cp8 f g r = g r := if_neg h
section EXR
variable {E : En} {d : Nat} {D : SD} {Q : SO} {h : Hp} {P : Int32 → Hp → Prop} {PV : Hp → Prop} {m i s : Nat}
theorem r_copies {ca cb : Nat} (hca : lay[ca]? = some (.inr (0, 8))) (hcb : lay[cb]? = some (.inr (0, 8))) (hne : ca ≠ cb) (t : ∀ h', Fr (fSq cb) h h' → h'.1 cb = cp8 (h.1 ca) (h.1 cb) → PV h') : SpV E d MX10_copies [.ref (eA E ca), .ref (eA E cb)] h PV := by
  refine wp_X10_copies E d ca hca cb hcb h PV (fun g => ?_)
  have loop : ∀ n, n ≤ 8 → ∀ h', Fr (fSq cb) h h' → (∀ r, h'.1 cb r = if r < n then h.1 ca r else h.1 cb r) → VX10_copies_2 E d g PV ca cb (nI n) h' := by
    refine up_ind 8 ?_ ?_
    · intro h' f hx
      exact sg_X10_copies_2 E d g ca hca cb hcb _ h' PV (br_t (nI_le (Nat.le_refl 8) (by decide)) (t h' f (funext hx)))
    · intro n hn ih h' f hx
      refine sg_X10_copies_2 E d g ca hca cb hcb _ h' PV (br_f (nI_ge (b := 8) hn (by decide)) ?_)
      rw [nI_1, nI_clamp (by omega)]
      have vn : vp_in (nI n) 8 := vp_in_nI hn (by decide)
      refine ⟨vn, vn, ih _ (f.si (by simp [fSq])) (fun r => ?_)⟩
      rw [sI_s, upd_1, f.f ca (fun _ => by simp [fSq, hne]), hx r]
      by_cases q : r = n
      · rw [if_pos q, if_pos (by omega), q]
      · rw [if_neg q]
        by_cases z : r < n
        · rw [if_pos z, if_pos (by omega)]
        · rw [if_neg z, if_neg (by omega)]
  exact loop 0 (by decide) h (Fr.refl h) (fun r => by rw [if_neg (by omega)])
theorem r_opd {a : Nat} (ha : a < 10008) (t : P (opd a (h.1 87)) h) : SpI E d MX10_operand [.ref (eA E 63), .int (nI a)] h P := by
  refine wp_X10_operand E d _ h P ?_
  unfold opd at t
  refine ek_if (nI_leI (a := 8) (by decide) (by omega)) (fun q => ?_) (fun q => ?_)
  · rw [if_neg (by omega)] at t
    rw [show (8 : Int32) = nI 8 from rfl, pk_sub q]
    exact t
  · rw [if_pos (by omega)] at t
    rw [nI_clamp (by omega)]
    exact ⟨vp_in_nI (by omega) (by decide), t⟩
theorem r_val (w : Wf D) (sr : RSrc D h) (hm : m < dN D) (t : P (opv D m (h.1 87)) h) : SpI E (d + 1) MX10_valueOf [.ref (eA E 63), .int (nI m)] h P := by
  obtain ⟨u, tt, k, a, b⟩ := w.2.1 m hm
  refine wp_X10_valueOf E d _ h P (r_A w sr hm (r_opd a (r_K w sr hm ?_)))
  unfold opv at t
  refine bj_if (nI_eq (b := 0) (by omega) (by decide)) (fun q => ?_) (fun q => ?_)
  · rw [if_neg q] at t
    refine r_B w sr hm (by omega) (r_opd b (r_K w sr hm ?_))
    exact sw7 (P := fun z => P z h) k t
  · rw [if_pos q] at t
    refine r_K w sr hm ?_
    exact sw7 (P := fun z => P z h) k t
def fDo (c _ : Nat) : Bool := c == 87 || c == 88
theorem srcR_do (c j : Nat) (e : isSrcR c j = true) : fDo c j = false := by
  unfold isSrcR at e
  unfold fDo
  simp only [Bool.or_eq_true, Bool.and_eq_true, beq_iff_eq] at e
  simp only [Bool.or_eq_false_iff, beq_eq_false_iff_ne]
  omega
theorem r_does (w : Wf D) (sr : RSrc D h) (hs : s < 2 ^ dN D) (t : ∀ h', Fr fDo h h' → h'.1 87 = ex D s (h.1 87) → PV h') : SpV E (d + 2) MX10_does [.ref (eA E 63), .int (nI s)] h PV := by
  have hN := w.1
  have h31 : s < 2 ^ 31 := Nat.lt_trans hs (p2_lt (by omega))
  refine wp_X10_does E (d + 1) _ h PV (fun g => ?_)
  refine r_copies (ca := 87) (cb := 88) lay_87 lay_88 (by decide) (fun h1 f1 e1 => ?_)
  have f1' : Fr fDo h h1 := f1.mono (fun c j e => by
    unfold fDo at e
    unfold fSq
    simp only [Bool.or_eq_false_iff] at e
    exact e.2)
  have g87 : h1.1 87 = h.1 87 := f1.f 87 (fun _ => rfl)
  have loop : ∀ n, n ≤ dN D → ∀ h', Fr fDo h h' → h'.1 87 = h.1 87 → (∀ r, r < 8 → h'.1 88 r = exT D s (fun m => opv D m (h.1 87)) (h.1 87) n r) → VX10_does_13 E (d + 1) g PV (nI s) (nI n) h' := by
    refine up_ind (dN D) ?_ ?_
    · intro h' f e87 hx
      have sr' := sr.fr f srcR_do
      refine sg_X10_does_13 E (d + 1) g _ _ h' PV ?_
      rw [sr'.1]
      refine br_t (nI_le (Nat.le_refl _) (by omega)) ?_
      refine r_copies (ca := 88) (cb := 87) lay_88 lay_87 (by decide) (fun h2 f2 e2 => t h2 ?_ ?_)
      · refine f.trans (f2.mono (fun c j e => ?_))
        unfold fDo at e
        unfold fSq
        simp only [Bool.or_eq_false_iff] at e
        exact e.1
      · rw [e2]
        unfold ex
        rw [show 12 = dN D + (12 - dN D) by omega, exT_out D _ _ _ (dN D) (fun j hj => tb_lt hs hj)]
        funext r
        by_cases q : r < 8
        · rw [cp8_lo q]; exact hx r q
        · rw [cp8_hi q, e87]
          exact (exT_hi D s _ _ (dN D) (fun m hm _ => by have := (w.2.1 m hm).2.1; omega)).symm
    · intro n hn ih h' f e87 hx
      have sr' := sr.fr f srcR_do
      refine sg_X10_does_13 E (d + 1) g _ _ h' PV ?_
      rw [sr'.1, nI_1]
      refine br_f (nI_ge hn (by omega)) (bj_if (bitB h31 (by omega)) (fun q => ?_) (fun q => ?_))
      · refine ih h' f e87 (fun r hr => ?_)
        rw [hx r hr]
        show _ = (if s.testBit n then _ else _ : Nat → Int32) r
        rw [ts_nt' q]; rfl
      · have ht := (w.2.1 n hn).2.1
        refine r_T w sr' hn (r_val w sr' hn ⟨vp_in_nI ht (by decide), ?_⟩)
        rw [nI_clamp (by omega), e87]
        refine ih _ (f.si rfl) (by rw [sI_n _ _ _ _ (by decide)]; exact e87) (fun r hr => ?_)
        rw [sI_s]
        show _ = (if s.testBit n then _ else _ : Nat → Int32) r
        rw [q]
        show _ = upd _ _ _ r
        rw [upd_1, upd_1, hx r hr]
  exact loop 0 (by omega) h1 f1' g87 (fun r hr => by rw [e1, cp8_lo hr]; rfl)
theorem r_seq (w : Wf D) (sr : RSrc D h) (hi : i < dI D) (t : ∀ h', Fr fDo h h' → h'.1 87 = sqX D i (h.1 87) (dL D i) → PV h') : SpV E (d + 3) MX10_doesSource [.ref (eA E 63), .int (nI i)] h PV := by
  have hN := w.1
  have hI := w.2.2.1
  obtain ⟨l0, l24, hrow⟩ := w.2.2.2.1 i hi
  refine wp_X10_doesSource E (d + 2) _ h PV (fun g => ?_)
  have loop : ∀ k, k ≤ dL D i → ∀ h', Fr fDo h h' → h'.1 87 = sqX D i (h.1 87) k → VX10_doesSource_2 E (d + 2) g PV (nI i) (nI k) h' := by
    refine up_ind (dL D i) ?_ ?_
    · intro h' f hx
      have sr' := sr.fr f srcR_do
      refine sg_X10_doesSource_2 E (d + 2) g _ _ h' PV ?_
      rw [nI_clamp (by omega), r_len w sr' hi]
      exact ⟨vp_in_nI (by omega) (by decide), br_t (nI_le (Nat.le_refl _) (by omega)) (t h' f hx)⟩
    · intro k hk ih h' f hx
      have sr' := sr.fr f srcR_do
      have hm := hrow k hk
      refine sg_X10_doesSource_2 E (d + 2) g _ _ h' PV ?_
      rw [nI_clamp (by omega), r_len w sr' hi, nI_1]
      refine ⟨vp_in_nI (by omega) (by decide), br_f (nI_ge hk (by omega)) (r_at w sr' hi hk ?_)⟩
      rw [sh1 _ (by omega)]
      refine r_does w sr' (p2_lt hm) (fun h2 f2 e2 => ih h2 (f.trans f2) ?_)
      rw [e2, ex_one D (by omega), hx]
      rfl
  exact loop 0 (by omega) h (Fr.refl h) rfl
def fGo (c j : Nat) : Bool := c == 87 || c == 88 || (c == 63 && j == 38)
theorem srcR_go (c j : Nat) (e : isSrcR c j = true) : fGo c j = false := by
  unfold isSrcR at e
  unfold fGo
  simp only [Bool.or_eq_true, Bool.and_eq_true, beq_iff_eq] at e
  simp only [Bool.or_eq_false_iff, beq_eq_false_iff_ne, Bool.and_eq_false_iff]
  omega
theorem stoR_go (c j : Nat) (h1 : 79 ≤ c) (h2 : c ≤ 82) : fGo c j = false := by
  unfold fGo
  simp only [Bool.or_eq_false_iff, beq_eq_false_iff_ne, Bool.and_eq_false_iff]
  omega
theorem fDo_go (c j : Nat) (h : fGo c j = false) : fDo c j = false := by
  unfold fGo at h
  unfold fDo
  simp only [Bool.or_eq_false_iff] at h ⊢
  exact h.1
theorem r_goes {w : Int32} {a : Option Nat} (wd : Wf D) (wq : WfQ D Q) (sr : RSrc D h) (so : RSto D Q h) (hia : ∀ x, a = some x → x < qN Q) (t : ∀ h', Fr fGo h h' → h'.1 87 = (rnW D Q w 24 a 0 (h.1 87)).2.2 → h'.1 63 38 = oI (rnW D Q w 24 a 0 (h.1 87)).2.1 → P (nI (rnW D Q w 24 a 0 (h.1 87)).1) h') : SpI E (d + 3) MX10_goesOn [.ref (eA E 63), .int (oI a), .int w] h P := by
  obtain ⟨q1, q2, ⟨rk, hrk⟩, q4⟩ := wq
  refine wp_X10_goesOn E (d + 2) _ _ h P (fun g => ?_)
  have key : ∀ (k : Nat) (b : Option Nat) (e : Nat) (f : Nat → Int32) (h' : Hp), rkO rk Q k b → e + k ≤ 24 → Fr fGo h h' → h'.1 87 = f → h'.1 63 38 = oI b → (∀ h2, Fr fGo h h2 → h2.1 87 = (rnW D Q w k b e f).2.2 → h2.1 63 38 = oI (rnW D Q w k b e f).2.1 → P (nI (rnW D Q w k b e f).1) h2) → VX10_goesOn_7 E (d + 2) g P (oI a) w (nI e) h' := by
    intro k
    induction k with
    | zero =>
      intro b e f h' hk he fr hf ha t
      cases b with
      | none => exact sg_X10_goesOn_7 E (d + 2) g _ _ _ h' P (br_t ha (t h' fr hf ha))
      | some b =>
        have := hrk b hk.1
        have := hk.2
        omega
    | succ k ih =>
      intro b e f h' hk he fr hf ha t
      cases b with
      | none => exact sg_X10_goesOn_7 E (d + 2) g _ _ _ h' P (br_t ha (t h' fr hf ha))
      | some b =>
        have hk1 := hk.1
        have sr' := sr.fr fr srcR_go
        have so' := so.fr fr rfl stoR_go
        obtain ⟨s1, s2, s3⟩ := so'.2.1 b hk1
        have ha : h'.1 63 38 = nI b := ha
        have va : vp_in (nI b) 192 := vp_in_nI (by omega) (by decide)
        refine sg_X10_goesOn_7 E (d + 2) g _ _ _ h' P ?_
        rw [ha, nI_clamp (by omega), s1]
        refine br_f (nI_m1 (by omega)) ⟨va, ?_⟩
        refine r_does wd sr' (q2 b hk1) (fun h5 f5 e5 => ⟨va, ?_⟩)
        have f5' := f5.mono fDo_go
        have so5 := so'.fr f5' rfl stoR_go
        obtain ⟨z1, z2, z3⟩ := so5.2.1 b hk1
        rw [nI_1, z3, z2]
        have fr6 : Fr fGo h (sI h5 63 38 (oI (qX Q b))) := (fr.trans f5').si rfl
        have e87 : (sI h5 63 38 (oI (qX Q b))).1 87 = ex D (qS Q b) f := by rw [sI_n _ _ _ _ (by decide), e5, hf]
        have e38 : (sI h5 63 38 (oI (qX Q b))).1 63 38 = oI (qX Q b) := sI_at _ _ _ _
        have un : rnW D Q w (k + 1) (some b) e f = if ¬ nI (e + 1) < w ∧ qF Q b = true then (e + 1, qX Q b, ex D (qS Q b) f) else rnW D Q w k (qX Q b) (e + 1) (ex D (qS Q b) f) := rfl
        rw [un] at t
        refine br_c (fun c => ?_) (fun c => ⟨va, bj_if (b2i_1 _) (fun z => ?_) (fun z => ?_)⟩)
        · rw [if_neg (fun q => q.1 c)] at t
          exact ih _ _ _ _ (rkO.next hrk hk) (by omega) fr6 e87 e38 t
        · rw [if_neg (fun q => z q.2)] at t
          exact ih _ _ _ _ (rkO.next hrk hk) (by omega) fr6 e87 e38 t
        · rw [if_pos ⟨c, z⟩] at t
          exact t _ fr6 e87 e38
  refine key 24 a 0 _ _ ?_ (by decide) ((Fr.refl h).si rfl) (by rw [sI_n _ _ _ _ (by decide)]) (sI_at _ _ _ _) t
  cases a with
  | none => trivial
  | some x => exact ⟨hia x rfl, (hrk x (hia x rfl)).2.1⟩
end EXR
/-- to the end, and to a safe word at least 24 from here: the same -/
theorem rnW_24 {D : SD} {Q : SO} {rk : Nat → Nat} (hrk : RkOK Q rk) : ∀ (k : Nat) (a : Option Nat) (e : Nat) (f : Nat → Int32), rkO rk Q k a → e + k ≤ 24 → rnW D Q 24 k a e f = rnW D Q 2147483647 k a e f
  | 0, _, _, _, _, _ => rfl
  | _ + 1, none, _, _, _, _ => rfl
  | k + 1, some a, e, f, hk, he => by
    rw [rnW_max D Q (by omega)]
    show (if ¬ nI (e + 1) < 24 ∧ qF Q a = true then (e + 1, qX Q a, ex D (qS Q a) f) else rnW D Q 24 k (qX Q a) (e + 1) (ex D (qS Q a) f)) = _
    have hn := rkO.next hrk hk
    by_cases c : ¬ nI (e + 1) < (24 : Int32) ∧ qF Q a = true
    · rw [if_pos c]
      have : ¬ e + 1 < 24 := fun q => c.1 (nI_lt (b := 24) q (by decide))
      obtain rfl : k = 0 := by omega
      rfl
    · rw [if_neg c]
      exact rnW_24 hrk k _ _ _ hn (by omega)
