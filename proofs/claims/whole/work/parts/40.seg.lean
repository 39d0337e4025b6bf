/-! a segment as data: its size, the units of its positions, on which positions each depends strictly, weakly -/
abbrev SG : Type := Nat × (Nat → Nat) × (Nat → Nat) × (Nat → Nat)
def gS (g : SG) : Nat := g.1
def gU (g : SG) : Nat → Nat := g.2.1
def gX (g : SG) : Nat → Nat := g.2.2.1
def gW (g : SG) : Nat → Nat := g.2.2.2
def mskF (p : Nat → Bool) : Nat → Nat
  | 0 => 0
  | n + 1 => mskF p n ||| (if p n then 2 ^ n else 0)
theorem mskF_bit (p : Nat → Bool) : ∀ n k, (mskF p n).testBit k = (decide (k < n) && p k)
  | 0, k => by show Nat.testBit 0 k = _; rw [Nat.zero_testBit]; rfl
  | n + 1, k => by
    show (mskF p n ||| _).testBit k = _
    rw [Nat.testBit_or, mskF_bit p n k]
    by_cases q : k = n
    · subst q
      rw [decide_eq_false (Nat.lt_irrefl k), decide_eq_true (Nat.lt_succ_self k)]
      cases p k with
      | true => simp
      | false => simp
    · have e : (if p n then 2 ^ n else 0).testBit k = false := by
        cases p n with
        | true => show (2 ^ n).testBit k = false; rw [p2_bit]; exact decide_eq_false (fun z => q z.symm)
        | false => exact Nat.zero_testBit k
      rw [e, Bool.or_false]
      by_cases z : k < n
      · rw [decide_eq_true z, decide_eq_true (by omega)]
      · rw [decide_eq_false z, decide_eq_false (by omega)]
theorem mskF_lt (p : Nat → Bool) : ∀ n, mskF p n < 2 ^ n
  | 0 => by show 0 < 1; decide
  | n + 1 => by
    show mskF p n ||| _ < _
    have h1 := mskF_lt p n
    have h2 : (2 : Nat) ^ n < 2 ^ (n + 1) := p2_lt (Nat.lt_succ_self n)
    refine or_lt (Nat.lt_trans h1 h2) ?_
    cases p n with
    | true => exact h2
    | false => exact Nat.two_pow_pos _
def ofU (g : SG) (x : Nat) : Nat := mskF (fun q => decide (gU g q = x)) (gS g)
def sgm (D : SD) (i b e : Nat) : SG := (e - b, fun p => dU D (dR D i (b + p)), fun j => mskF (fun k => isS D (dR D i (b + k)) (dR D i (b + j))) j, fun j => mskF (fun k => isW D (dR D i (b + k)) (dR D i (b + j))) j)
def WfG (g : SG) : Prop := 0 < gS g ∧ gS g ≤ 10 ∧ ∀ p, p < gS g → gU g p < 6 ∧ gX g p < 2 ^ p ∧ gW g p < 2 ^ p
theorem sgm_wf {D : SD} {i b e : Nat} (w : Wf D) (hi : i < dI D) (h1 : b < e) (h2 : e ≤ dL D i) (h3 : e ≤ b + 10) : WfG (sgm D i b e) := by
  refine ⟨?_, ?_, fun p hp => ⟨?_, mskF_lt _ _, mskF_lt _ _⟩⟩
  · show 0 < e - b; omega
  · show e - b ≤ 10; omega
  · have hp : p < e - b := hp
    exact (w.2.1 _ ((w.2.2.2.1 i hi).2.2 (b + p) (by omega))).1
/-- the segment in the class, in the reference -/
def SegC (g : SG) (h : Hp) : Prop := h.1 32 3 = nI (gS g) ∧ (∀ p, p < gS g → h.1 34 p = nI (gU g p) ∧ h.1 35 p = nI (gX g p) ∧ h.1 36 p = nI (gW g p)) ∧ ∀ x, x < 6 → h.1 38 x = nI (ofU g x)
def SegR (g : SG) (h : Hp) : Prop := h.1 63 10 = nI (gS g) ∧ ∀ p, p < gS g → h.1 69 p = nI (gX g p) ∧ h.1 70 p = nI (gW g p) ∧ h.1 71 p = nI (gU g p)
theorem SegC.fr {g : SG} {h h' : Hp} {X : Nat → Nat → Bool} (r : SegC g h) (f : Fr X h h') (a0 : X 32 3 = false) (a1 : ∀ j, X 34 j = false) (a2 : ∀ j, X 35 j = false) (a3 : ∀ j, X 36 j = false) (a4 : ∀ j, X 38 j = false) : SegC g h' := by
  unfold SegC
  rw [f.i 32 3 a0, f.f 34 a1, f.f 35 a2, f.f 36 a3, f.f 38 a4]
  exact r
theorem SegR.fr {g : SG} {h h' : Hp} {X : Nat → Nat → Bool} (r : SegR g h) (f : Fr X h h') (a0 : X 63 10 = false) (a1 : ∀ j, X 69 j = false) (a2 : ∀ j, X 70 j = false) (a3 : ∀ j, X 71 j = false) : SegR g h' := by
  unfold SegR
  rw [f.i 63 10 a0, f.f 69 a1, f.f 70 a2, f.f 71 a3]
  exact r
section SEG
variable {E : En} {d : Nat} {D : SD} {S : ST} {h : Hp} {P : Int32 → Hp → Prop} {PV : Hp → Prop} {i b e : Nat}
theorem c_tie {a b : Nat} (w : Wf D) (sr : CSrc D h) (ha : a < dN D) (hb : b < dN D) (t : P (nI (if isS D a b then 2 else if isW D a b then 1 else 0)) h) : SpI E d MX6_tie [.ref (eA E 5), .int (nI a), .int (nI b)] h P := by
  have hN := w.1
  have ta := (w.2.1 a ha).2.1
  have tb := (w.2.1 b hb).2.1
  obtain ⟨-, a2, -, -, -, a6, -⟩ := sr.2.2.1 a ha
  obtain ⟨-, b2, -, -, -, b6, -⟩ := sr.2.2.1 b hb
  have va : vp_in (nI a) 12 := vp_in_nI (by omega) (by decide)
  have vb : vp_in (nI b) 12 := vp_in_nI (by omega) (by decide)
  refine wp_X6_tie E d _ _ h P ?_
  rw [nI_clamp (by omega), nI_clamp (by omega), a2, b2, a6, b6]
  refine ⟨va, vb, ek_if (nI_eq (by omega) (by omega)) (fun q => ?_) (fun q => ⟨vb, va, ek_if (bitA (by omega)) (fun z => ⟨va, vb, ek_if (bitA (by omega)) (fun y => ?_) (fun y => ?_)⟩) (fun z => ?_)⟩)⟩
  · have : isS D a b = true := by unfold isS; rw [decide_eq_true q, Bool.or_true]
    rw [this] at t; exact t
  · have e1 : isS D a b = false := by unfold isS; rw [decide_eq_false q, z]; rfl
    have e2 : isW D a b = false := by unfold isW; rw [e1, y]; rfl
    rw [e1, e2] at t; exact t
  · have e1 : isS D a b = false := by unfold isS; rw [decide_eq_false q, z]; rfl
    have e2 : isW D a b = true := by unfold isW; rw [e1, ts_nf' y]; rfl
    rw [e1, e2] at t; exact t
  · have : isS D a b = true := by unfold isS; rw [ts_nf' z]; rfl
    rw [this] at t; exact t
/-- the end of a segment, in the class -/
theorem sgE_step (mk : Nat → Bool) (last f k : Nat) : sgE mk last (f + 1) k = if k < last ∧ mk k = false then sgE mk last f (k + 1) else k + 1 := rfl
theorem sgE_fuel (mk : Nat → Bool) (last : Nat) : ∀ (f f2 k : Nat), last ≤ k + f → last ≤ k + f2 → sgE mk last f k = sgE mk last f2 k
  | 0, 0, _, _, _ => rfl
  | 0, f2 + 1, k, h1, _ => by rw [sgE_step, if_neg (fun q => by omega)]; rfl
  | f + 1, 0, k, _, h2 => by rw [sgE_step, if_neg (fun q => by omega)]; rfl
  | f + 1, f2 + 1, k, h1, h2 => by
    rw [sgE_step, sgE_step, sgE_fuel mk last f f2 (k + 1) (by omega) (by omega)]
theorem sgE_gt (mk : Nat → Bool) (last : Nat) : ∀ (f k : Nat), k < sgE mk last f k
  | 0, k => Nat.lt_succ_self k
  | f + 1, k => by
    rw [sgE_step]
    by_cases q : k < last ∧ mk k = false
    · rw [if_pos q]
      have := sgE_gt mk last f (k + 1)
      omega
    · rw [if_neg q]; omega
theorem sgE_le (mk : Nat → Bool) (last : Nat) : ∀ (f k : Nat), k ≤ last → sgE mk last f k ≤ last + 1
  | 0, k, h => by show k + 1 ≤ _; omega
  | f + 1, k, h => by
    rw [sgE_step]
    by_cases q : k < last ∧ mk k = false
    · rw [if_pos q]
      exact sgE_le mk last f (k + 1) (by omega)
    · rw [if_neg q]; omega
theorem sEnd_gt (D : SD) (S : ST) (i k : Nat) : k < sEnd D S i k := sgE_gt _ _ _ _
theorem sEnd_le {D : SD} (S : ST) {i k : Nat} (hk : k < dL D i) : sEnd D S i k ≤ dL D i := by
  have := sgE_le (fun j => (sK S i).testBit j) (dL D i - 1) 24 k (by omega)
  unfold sEnd
  omega
theorem c_end {k : Nat} (w : Wf D) (sr : CSrc D h) (st : CSt D S h) (hi : i < dI D) (hk : k < dL D i) (t : P (nI (sEnd D S i k)) h) : SpI E d MX6_segmentEnd [.ref (eA E 5), .int (nI i), .int (nI k)] h P := by
  have hI := w.2.2.1
  obtain ⟨l0, l24, hrow⟩ := w.2.2.2.1 i hi
  refine wp_X6_segmentEnd E d _ _ h P (fun g => ⟨vp_in_nI (by omega) (by decide), ?_⟩)
  rw [nI_clamp (by omega), (sr.2.2.2 i hi).2.1, show (24 : Int32) = nI 24 from rfl, pk_mul, show (1 : Int32) = nI 1 from rfl, pk_sub (by omega)]
  have loop : ∀ (f j : Nat), j ≤ dL D i - 1 → dL D i - 1 ≤ j + f → P (nI (sgE (fun j => (sK S i).testBit j) (dL D i - 1) f j)) h → VX6_segmentEnd_18 E d g P (nI i) (nI k) (nI (i * 24)) (nI (dL D i - 1)) (nI j) h := by
    intro f
    induction f with
    | zero =>
      intro j hj hf t
      obtain rfl : j = dL D i - 1 := by omega
      refine sg_X6_segmentEnd_18 E d g _ _ _ _ _ h P (br_t (nI_le (Nat.le_refl _) (by omega)) ?_)
      rw [nI_1]; exact t
    | succ f ih =>
      intro j hj hf t
      refine sg_X6_segmentEnd_18 E d g _ _ _ _ _ h P ?_
      rw [nI_1, nI_1]
      rw [sgE_step] at t
      refine ek_if (nI_leI (by omega) (by omega)) (fun q => ?_) (fun q => ?_)
      · obtain rfl : j = dL D i - 1 := by omega
        rw [if_neg (fun z => by omega)] at t
        exact t
      · rw [nI_add, nI_clamp (by omega), show i * 24 + j = 24 * i + j by omega, st.2 i hi j (by omega)]
        refine ⟨vp_in_nI (by omega) (by decide), ek_if (bI _) (fun z => ?_) (fun z => ?_)⟩
        · rw [if_pos ⟨by omega, z⟩] at t
          exact ih (j + 1) (by omega) (by omega) t
        · rw [if_neg (fun y => z y.2)] at t
          exact t
  exact loop 24 k (by omega) (by omega) t
theorem r_end {k : Nat} (w : Wf D) (ws : WfS D S) (sr : RSrc D h) (st : RSt D S h) (hi : i < dI D) (hk : k < dL D i) (t : P (nI (sEnd D S i k)) h) : SpI E (d + 1) MX10_behind [.ref (eA E 63), .int (nI i), .int (nI k)] h P := by
  have hI := w.2.2.1
  obtain ⟨l0, l24, hrow⟩ := w.2.2.2.1 i hi
  refine wp_X10_behind E d _ _ h P (fun g => ?_)
  have loop : ∀ (f j : Nat), j ≤ dL D i - 1 → dL D i - 1 ≤ j + f → P (nI (sgE (fun j => (sK S i).testBit j) (dL D i - 1) f j)) h → VX10_behind_2 E d g P (nI i) (nI k) (nI j) h := by
    intro f
    induction f with
    | zero =>
      intro j hj hf t
      obtain rfl : j = dL D i - 1 := by omega
      refine sg_X10_behind_2 E d g _ _ _ h P ?_
      rw [nI_clamp (by omega), r_len w sr hi, nI_1, show (1 : Int32) = nI 1 from rfl, pk_sub (by omega)]
      exact ⟨vp_in_nI (by omega) (by decide), br_t (nI_le (Nat.le_refl _) (by omega)) t⟩
    | succ f ih =>
      intro j hj hf t
      refine sg_X10_behind_2 E d g _ _ _ h P ?_
      rw [nI_clamp (by omega), r_len w sr hi, nI_1, show (1 : Int32) = nI 1 from rfl, pk_sub (by omega)]
      rw [sgE_step] at t
      refine ⟨vp_in_nI (by omega) (by decide), ek_if (nI_leI (by omega) (by omega)) (fun q => ?_) (fun q => ?_)⟩
      · rw [if_neg (fun z => by omega)] at t
        exact t
      · refine r_mk w ws st hi (by omega) (bj_if (b2i_0 _) (fun z => ?_) (fun z => ?_))
        · rw [if_neg (fun y => z y.2)] at t
          exact t
        · rw [if_pos ⟨by omega, z⟩] at t
          exact ih (j + 1) (by omega) (by omega) t
  exact loop 24 k (by omega) (by omega) t
def fUn (c _ : Nat) : Bool := c == 34 || c == 38
theorem c_units (w : Wf D) (sr : CSrc D h) (hi : i < dI D) (h1 : b < e) (h2 : e ≤ dL D i) (h3 : e ≤ b + 10) (hs : h.1 32 3 = nI (e - b)) (t : ∀ h', Fr fUn h h' → (∀ p, p < e - b → h'.1 34 p = nI (gU (sgm D i b e) p)) → (∀ x, x < 6 → h'.1 38 x = nI (ofU (sgm D i b e) x)) → PV h') : SpV E d MX4_prepareUnits [.ref (eA E 32), .ref (eA E 5), .int (nI (24 * i + b))] h PV := by
  have hI := w.2.2.1
  have hN := w.1
  obtain ⟨l0, l24, hrow⟩ := w.2.2.2.1 i hi
  have hsrc : ∀ c j, isSrcC c j = true → fUn c j = false := by
    intro c j e
    unfold isSrcC at e
    unfold fUn
    simp only [Bool.or_eq_true, Bool.and_eq_true, decide_eq_true_eq, beq_iff_eq] at e
    simp only [Bool.or_eq_false_iff, beq_eq_false_iff_ne]
    omega
  refine wp_X4_prepareUnits E d _ h PV (fun g => ?_)
  have l2 : ∀ p, p ≤ e - b → ∀ h', Fr fUn h h' → (∀ q, q < p → h'.1 34 q = nI (gU (sgm D i b e) q)) → (∀ x, x < 6 → h'.1 38 x = nI (mskF (fun q => decide (gU (sgm D i b e) q = x)) p)) → VX4_prepareUnits_23 E d g PV (nI (24 * i + b)) (nI p) h' := by
    refine up_ind _ ?_ ?_
    · intro h' f a1 a2
      refine sg_X4_prepareUnits_23 E d g _ _ h' PV ?_
      rw [f.i 32 3 rfl, hs]
      exact br_t (nI_le (Nat.le_refl _) (by omega)) (t h' f a1 a2)
    · intro p hp ih h' f a1 a2
      have hm := hrow (b + p) (by omega)
      have sr' := sr.fr f hsrc
      have hu : dU D (dR D i (b + p)) < 6 := (w.2.1 _ hm).1
      have gu : gU (sgm D i b e) p = dU D (dR D i (b + p)) := rfl
      refine sg_X4_prepareUnits_23 E d g _ _ h' PV ?_
      rw [f.i 32 3 rfl, hs, nI_add, nI_1, nI_clamp (n := 24 * i + b + p) (by omega), show 24 * i + b + p = 24 * i + (b + p) by omega, (sr'.2.2.2 i hi).2.2 (b + p) (by omega), nI_clamp (by omega), (sr'.2.2.1 _ hm).1, nI_clamp (by omega), nI_clamp (by omega)]
      have v6 : vp_in (nI (dU D (dR D i (b + p)))) 6 := vp_in_nI hu (by decide)
      refine br_f (nI_ge hp (by omega)) ⟨vp_in_nI (by omega) (by decide), vp_in_nI (by omega) (by decide), vp_in_nI (by omega) (by decide), v6, v6, ?_⟩
      rw [a2 _ hu, sh1 _ (by omega), nI_or]
      refine ih _ ((f.si rfl).si rfl) (fun q hq => ?_) (fun x hx => ?_)
      · rw [sI_n _ _ _ _ (by decide), sI_s, upd_1]
        by_cases z : q = p
        · rw [if_pos z, z, gu]
        · rw [if_neg z]; exact a1 q (by omega)
      · rw [sI_s, sI_n _ _ _ _ (by decide), upd_1]
        show _ = nI (mskF _ p ||| (if decide (gU (sgm D i b e) p = x) then 2 ^ p else 0))
        by_cases z : x = dU D (dR D i (b + p))
        · rw [if_pos z, gu, z, decide_eq_true rfl]; rfl
        · rw [if_neg z, a2 x hx, gu, decide_eq_false (fun y => z y.symm)]
          show _ = nI (_ ||| 0)
          rw [Nat.or_zero]
  have l1 : ∀ x, x ≤ 6 → ∀ h', Fr fUn h h' → (∀ y, y < x → h'.1 38 y = nI 0) → VX4_prepareUnits_2 E d g PV (nI (24 * i + b)) (nI x) h' := by
    refine up_ind _ ?_ ?_
    · intro h' f a
      exact sg_X4_prepareUnits_2 E d g _ _ h' PV (br_t (nI_le (Nat.le_refl 6) (by decide)) (l2 0 (by omega) h' f (fun q hq => by omega) a))
    · intro x hx ih h' f a
      refine sg_X4_prepareUnits_2 E d g _ _ h' PV (br_f (nI_ge (b := 6) hx (by decide)) ⟨vp_in_nI hx (by decide), ?_⟩)
      rw [nI_1, nI_clamp (by omega)]
      refine ih _ (f.si rfl) (fun y hy => ?_)
      rw [sI_s, upd_1]
      by_cases z : y = x
      · rw [if_pos z]; rfl
      · rw [if_neg z]; exact a y (by omega)
  exact l1 0 (by decide) h (Fr.refl h) (fun y hy => by omega)
def fTi (c _ : Nat) : Bool := c == 35 || c == 36
theorem c_ties (w : Wf D) (sr : CSrc D h) (hi : i < dI D) (h1 : b < e) (h2 : e ≤ dL D i) (h3 : e ≤ b + 10) (hs : h.1 32 3 = nI (e - b)) (t : ∀ h', Fr fTi h h' → (∀ p, p < e - b → h'.1 35 p = nI (gX (sgm D i b e) p) ∧ h'.1 36 p = nI (gW (sgm D i b e) p)) → PV h') : SpV E (d + 1) MX4_prepareTies [.ref (eA E 32), .ref (eA E 5), .int (nI (24 * i + b))] h PV := by
  have hI := w.2.2.1
  have hN := w.1
  obtain ⟨l0, l24, hrow⟩ := w.2.2.2.1 i hi
  have hsrc : ∀ c j, isSrcC c j = true → fTi c j = false := by
    intro c j e
    unfold isSrcC at e
    unfold fTi
    simp only [Bool.or_eq_true, Bool.and_eq_true, decide_eq_true_eq, beq_iff_eq] at e
    simp only [Bool.or_eq_false_iff, beq_eq_false_iff_ne]
    omega
  refine wp_X4_prepareTies E d _ h PV (fun g => ?_)
  have l1 : ∀ p, p ≤ e - b → ∀ h', Fr fTi h h' → (∀ q, q < p → h'.1 35 q = nI (gX (sgm D i b e) q) ∧ h'.1 36 q = nI (gW (sgm D i b e) q)) → VX4_prepareTies_2 E d g PV (nI (24 * i + b)) (nI p) h' := by
    refine up_ind _ ?_ ?_
    · intro h' f a
      refine sg_X4_prepareTies_2 E d g _ _ h' PV ?_
      rw [f.i 32 3 rfl, hs]
      exact br_t (nI_le (Nat.le_refl _) (by omega)) (t h' f a)
    · intro p hp ih h' f a
      have hm := hrow (b + p) (by omega)
      have v10 : vp_in (nI p) 10 := vp_in_nI (by omega) (by decide)
      refine sg_X4_prepareTies_2 E d g _ _ h' PV ?_
      rw [f.i 32 3 rfl, hs, nI_clamp (by omega)]
      refine br_f (nI_ge hp (by omega)) ⟨v10, v10, ?_⟩
      have l2 : ∀ k, k ≤ p → ∀ h2, Fr fTi h h2 → (∀ q, q < p → h2.1 35 q = nI (gX (sgm D i b e) q) ∧ h2.1 36 q = nI (gW (sgm D i b e) q)) → h2.1 35 p = nI (mskF (fun k => isS D (dR D i (b + k)) (dR D i (b + p))) k) → h2.1 36 p = nI (mskF (fun k => isW D (dR D i (b + k)) (dR D i (b + p))) k) → VX4_prepareTies_27 E d g PV (nI (24 * i + b)) (nI p) (nI k) h2 := by
        refine up_ind _ ?_ ?_
        · intro h2 f2 a2 x1 x2
          refine sg_X4_prepareTies_27 E d g _ _ _ h2 PV (br_t (nI_le (Nat.le_refl _) (by omega)) ?_)
          rw [nI_1]
          refine ih h2 f2 (fun q hq => ?_)
          by_cases z : q = p
          · rw [z]; exact ⟨x1, x2⟩
          · exact a2 q (by omega)
        · intro k hk ih2 h2 f2 a2 x1 x2
          have hmk := hrow (b + k) (by omega)
          have sr' := sr.fr f2 hsrc
          refine sg_X4_prepareTies_27 E d g _ _ _ h2 PV (br_f (nI_ge hk (by omega)) ?_)
          rw [nI_add, nI_add, nI_1, nI_clamp (n := 24 * i + b + k) (by omega), nI_clamp (n := 24 * i + b + p) (by omega), nI_clamp (n := p) (by omega), show 24 * i + b + k = 24 * i + (b + k) by omega, show 24 * i + b + p = 24 * i + (b + p) by omega, (sr'.2.2.2 i hi).2.2 (b + k) (by omega), (sr'.2.2.2 i hi).2.2 (b + p) (by omega)]
          refine ⟨vp_in_nI (by omega) (by decide), vp_in_nI (by omega) (by decide), c_tie w sr' hmk hm ?_⟩
          rw [sh1 _ (by omega), x1, x2, nI_or, nI_or]
          have e1 : mskF (fun k => isS D (dR D i (b + k)) (dR D i (b + p))) (k + 1) = mskF (fun k => isS D (dR D i (b + k)) (dR D i (b + p))) k ||| (if isS D (dR D i (b + k)) (dR D i (b + p)) then 2 ^ k else 0) := rfl
          have e2 : mskF (fun k => isW D (dR D i (b + k)) (dR D i (b + p))) (k + 1) = mskF (fun k => isW D (dR D i (b + k)) (dR D i (b + p))) k ||| (if isW D (dR D i (b + k)) (dR D i (b + p)) then 2 ^ k else 0) := rfl
          cases hS : isS D (dR D i (b + k)) (dR D i (b + p)) with
          | true =>
            have hW : isW D (dR D i (b + k)) (dR D i (b + p)) = false := by unfold isW; rw [hS]; rfl
            rw [hS] at e1
            rw [hW] at e2
            refine bq_t rfl ⟨v10, v10, ?_⟩
            refine ih2 _ (f2.si rfl) (fun q hq => ?_) ?_ ?_
            · rw [sI_s, sI_n _ _ _ _ (by decide), upd_1, if_neg (by omega)]
              exact a2 q hq
            · rw [sI_at, e1]; rfl
            · rw [sI_n _ _ _ _ (by decide), x2, e2]
              show _ = nI (_ ||| 0)
              rw [Nat.or_zero]
          | false =>
            rw [hS] at e1
            cases hW : isW D (dR D i (b + k)) (dR D i (b + p)) with
            | true =>
              rw [hW] at e2
              refine bq_f (by decide) (bq_t rfl ⟨v10, v10, ?_⟩)
              refine ih2 _ (f2.si rfl) (fun q hq => ?_) ?_ ?_
              · rw [sI_s, sI_n _ _ _ _ (by decide), upd_1, if_neg (by omega)]
                exact a2 q hq
              · rw [sI_n _ _ _ _ (by decide), x1, e1]
                show _ = nI (_ ||| 0)
                rw [Nat.or_zero]
              · rw [sI_at, e2]; rfl
            | false =>
              rw [hW] at e2
              refine bq_f (by decide) (bq_f (by decide) ?_)
              refine ih2 h2 f2 a2 ?_ ?_
              · rw [x1, e1]
                show _ = nI (_ ||| 0)
                rw [Nat.or_zero]
              · rw [x2, e2]
                show _ = nI (_ ||| 0)
                rw [Nat.or_zero]
      refine l2 0 (by omega) _ ((f.si rfl).si rfl) (fun q hq => ?_) ?_ ?_
      · rw [sI_n _ _ _ _ (by decide), sI_s, sI_s, sI_n _ _ _ _ (by decide), upd_1, upd_1, if_neg (by omega), if_neg (by omega)]
        exact a q hq
      · rw [sI_n _ _ _ _ (by decide), sI_at]; rfl
      · rw [sI_at]; rfl
  exact l1 0 (by omega) h (Fr.refl h) (fun q hq => by omega)
end SEG
