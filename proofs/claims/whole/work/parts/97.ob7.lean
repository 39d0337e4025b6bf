/-! obligations: operations, dependence, agreement -/
def occK (D : SD) (m i : Nat) : Nat → Nat
  | 0 => 0
  | k + 1 => occK D m i k + (if dR D i k = m then 1 else 0)
def occI (D : SD) (m : Nat) : Nat → Nat
  | 0 => 0
  | i + 1 => occI D m i + occK D m i (dL D i)
theorem occK_le (D : SD) (m i : Nat) : ∀ k, occK D m i k ≤ k
  | 0 => Nat.le_refl _
  | k + 1 => by
    show occK D m i k + _ ≤ _
    have := occK_le D m i k
    split <;> omega
section OB7
variable {E : En} {d : Nat} {h : Hp} {P : Int32 → Hp → Prop} {D : SD} {m : Nat}
theorem c_occ (w : Wf D) (sr : CSrc D h) (hm : m < dN D) (t : P (nI (occI D m (dI D))) h) : SpI E d MX6_occurrences [.ref (eA E 5), .int (nI m)] h P := by
  have hI := w.2.2.1
  have hN := w.1
  refine wp_X6_occurrences E d _ h P (fun ga => ?_)
  have outer : ∀ i, i ≤ dI D → VX6_occurrences_4 E d ga P (nI m) (nI (occI D m i)) (nI i) h := by
    refine up_ind _ ?_ ?_
    · refine sg_X6_occurrences_4 E d ga _ _ _ h P ?_
      rw [sr.2.1]
      exact br_t (nI_le (Nat.le_refl _) (by omega)) t
    · intro i hi ih
      obtain ⟨l0, l24, hr⟩ := w.2.2.2.1 i hi
      refine sg_X6_occurrences_4 E d ga _ _ _ h P ?_
      rw [sr.2.1, show (24 : Int32) = nI 24 from rfl, pk_mul]
      refine br_f (nI_ge hi (by omega)) ?_
      have inner : ∀ k, k ≤ dL D i → VX6_occurrences_21 E d ga P (nI m) (nI (occI D m i + occK D m i k)) (nI i) (nI (i * 24)) (nI k) h := by
        refine up_ind _ ?_ ?_
        · refine sg_X6_occurrences_21 E d ga _ _ _ _ _ h P ⟨vp_in_nI (by omega) (by decide), ?_⟩
          rw [nI_clamp (by omega), (sr.2.2.2 i hi).2.1, nI_1]
          exact br_t (nI_le (Nat.le_refl _) (by omega)) ih
        · intro k hk ihk
          have e1 : occK D m i (k + 1) = occK D m i k + (if dR D i k = m then 1 else 0) := rfl
          have hrk := hr k hk
          refine sg_X6_occurrences_21 E d ga _ _ _ _ _ h P ⟨vp_in_nI (by omega) (by decide), ?_⟩
          rw [nI_clamp (n := i) (by omega), (sr.2.2.2 i hi).2.1, nI_add, nI_1, nI_1, nI_1, nI_clamp (n := i * 24 + k) (by omega), show i * 24 + k = 24 * i + k by omega, (sr.2.2.2 i hi).2.2 k hk]
          refine br_f (nI_ge hk (by omega)) ⟨vp_in_nI (by omega) (by decide), bj_if (nI_eq (by omega) (by omega)) (fun z => ?_) (fun z => ?_)⟩
          · rw [if_neg z] at e1
            rw [e1] at ihk; exact ihk
          · rw [if_pos z] at e1
            rw [e1, ← Nat.add_assoc] at ihk; exact ihk
      exact inner 0 (Nat.zero_le _)
  exact outer 0 (Nat.zero_le _)
theorem r_occ {ga : Ga} {x2 : Int32} (w : Wf D) (sr : RSrc D h) (hm : m < dN D) (t : P (nI (occI D m (dI D))) h) : VX10_operation_69 E d ga P (nI m) x2 (0 : Int32) (0 : Int32) h := by
  have hI := w.2.2.1
  have hN := w.1
  have outer : ∀ i, i ≤ dI D → VX10_operation_69 E d ga P (nI m) x2 (nI (occI D m i)) (nI i) h := by
    refine up_ind _ ?_ ?_
    · refine sg_X10_operation_69 E d ga _ _ _ _ h P ?_
      rw [sr.2.1]
      exact br_t (nI_le (Nat.le_refl _) (by omega)) t
    · intro i hi ih
      obtain ⟨l0, l24, hr⟩ := w.2.2.2.1 i hi
      refine sg_X10_operation_69 E d ga _ _ _ _ h P ?_
      rw [sr.2.1]
      refine br_f (nI_ge hi (by omega)) ?_
      have inner : ∀ k, k ≤ dL D i → VX10_operation_81 E d ga P (nI m) x2 (nI (occI D m i + occK D m i k)) (nI i) (nI k) h := by
        refine up_ind _ ?_ ?_
        · refine sg_X10_operation_81 E d ga _ _ _ _ _ h P ⟨vp_in_nI (by omega) (by decide), ?_⟩
          rw [nI_clamp (by omega), r_len w sr hi, nI_1]
          exact br_t (nI_le (Nat.le_refl _) (by omega)) ih
        · intro k hk ihk
          have e1 : occK D m i (k + 1) = occK D m i k + (if dR D i k = m then 1 else 0) := rfl
          have hrk := hr k hk
          refine sg_X10_operation_81 E d ga _ _ _ _ _ h P ⟨vp_in_nI (by omega) (by decide), ?_⟩
          rw [nI_clamp (n := i) (by omega), r_len w sr hi]
          refine br_f (nI_ge hk (by omega)) (r_at w sr hi hk ?_)
          rw [nI_1, nI_1, show (0 : Int32) = nI 0 from rfl, nI_add, Nat.add_zero]
          refine bj_if (nI_eq (by omega) (by omega)) (fun z => ?_) (fun z => ?_)
          · rw [if_neg z] at e1
            rw [e1] at ihk; exact ihk
          · rw [if_pos z] at e1
            rw [e1, ← Nat.add_assoc] at ihk; exact ihk
      exact inner 0 (Nat.zero_le _)
  exact outer 0 (Nat.zero_le _)
end OB7
theorem ob9 : Ob9 Iv := by
  intro a1 a2 E h n hn hI K hK
  obtain ⟨D, S, Q, N, hs, sr, n0, L, pd, p0, p1, p2, p3, p4, p5, p6, p7, p8⟩ := id hI
  have w := p0.1
  have hN := w.1
  refine wp_L_operation E 199 _ _ h _ (wp_X9_operation E 193 _ _ h _ _ (c_chkO w p1.1 (fun m hm e => ?_) (fun q => Or.inl ⟨rfl, ?_⟩)))
  · subst e
    have v : vp_in (nI m) 12 := vp_in_nI (by omega) (by decide)
    obtain ⟨c1, c2, c3, c4, c5, c6, c7⟩ := p1.1.2.2.1 m hm
    have ref : ∀ (x : Int32) (j : Nat), j < 5 → a2 = nI j → (j = 0 → x = nI (dU D m)) → (j = 1 → x = nI (dT D m)) → (j = 2 → x = nI (dK D m)) → (j = 3 → x = nI (rd D m)) → (j = 4 → x = nI (occI D m (dI D))) → SpI E 200 MX10_operation [.ref (eA E 63), .int (nI m), .int a2] (sL h 98 0 x.toInt64) (fun v2 h2 => SpI E 200 MX10_thrown [.ref (eA E 63)] h2 (fun v3 h3 => (v3 = (0 : Int32) → ((¬ (0 : Int32) = 0 → (K E h3)) ∧ ((0 : Int32) = 0 → (((lg_cmp (h3.2 98 0) v2.toInt64) = 0 → (K E h3)) ∧ (¬ (lg_cmp (h3.2 98 0) v2.toInt64) = 0 → (False)))))) ∧ (¬ v3 = (0 : Int32) → (False)))) := by
      intro x j hj ej y0 y1 y2 y3 y4
      subst ej
      have rs := (p1.fr (f980 h x.toInt64 (0 : Int32)) b_no1).2.1
      have done : SpI E 200 MX10_thrown [.ref (eA E 63)] (sI (sL h 98 0 x.toInt64) 63 0 (0 : Int32)) (fun v3 h3 => (v3 = (0 : Int32) → ((¬ (0 : Int32) = 0 → (K E h3)) ∧ ((0 : Int32) = 0 → (((lg_cmp (h3.2 98 0) x.toInt64) = 0 → (K E h3)) ∧ (¬ (lg_cmp (h3.2 98 0) x.toInt64) = 0 → (False)))))) ∧ (¬ v3 = (0 : Int32) → (False))) := tl_ok (sI_at _ _ _ _) (l98 _ _ _) (hK E _ rfl (hI.keep (f980 h _ _)))
      refine wp_X10_operation E 199 _ _ _ _ (fun ga => ?_)
      rw [sL_1, p1.2.1.1]
      refine r_isIn (by omega) ?_
      rw [inr_yes hm (by omega)]
      refine bq_f (by decide) (r_isK (k := 4) rfl (by decide) ?_)
      rw [inr_yes hj (by decide)]
      refine bq_f (by decide) (thr_n (ek_if (nI_leI (a := 3) (by decide) (by omega)) (fun z3 => bj_if (nI_eq (b := 3) (by omega) (by decide)) (fun z => ?_) (fun z => ?_)) (fun z3 => ?_)))
      · refine r_occ w rs hm ?_
        rw [← y4 (by omega)]; exact done
      · refine r_rd w rs hm ?_
        rw [← y3 z]; exact done
      · have : j = 0 ∨ j = 1 ∨ j = 2 := by omega
        rcases this with q | q | q
        · subst q; refine r_U w rs hm ?_; rw [← y0 rfl]; exact done
        · subst q; refine r_T w rs hm ?_; rw [← y1 rfl]; exact done
        · subst q; refine r_K w rs hm ?_; rw [← y2 rfl]; exact done
    rw [nI_clamp (by omega), c1, c2, c3, c6]
    refine ⟨fun z => ⟨v, ref _ 0 (by decide) z (fun _ => rfl) (fun q => by cases q) (fun q => by cases q) (fun q => by cases q) (fun q => by cases q)⟩, fun z => ⟨v, ref _ 1 (by decide) z (fun q => by cases q) (fun _ => rfl) (fun q => by cases q) (fun q => by cases q) (fun q => by cases q)⟩, fun z => ⟨v, ref _ 2 (by decide) z (fun q => by cases q) (fun q => by cases q) (fun _ => rfl) (fun q => by cases q) (fun q => by cases q)⟩, fun z => ⟨v, ref _ 3 (by decide) z (fun q => by cases q) (fun q => by cases q) (fun q => by cases q) (fun _ => rfl) (fun q => by cases q)⟩, fun z => c_occ w p1.1 hm (ref _ 4 (by decide) z (fun q => by cases q) (fun q => by cases q) (fun q => by cases q) (fun q => by cases q) (fun _ => rfl)), fun z0 z1 z2 z3 z4 => Or.inr ⟨rfl, ?_⟩⟩
    refine wp_X10_operation E 199 _ _ h _ (fun ga => ?_)
    rw [p1.2.1.1]
    refine r_isIn (by omega) ?_
    rw [inr_yes hm (by omega)]
    refine bq_f (by decide) (r_isK (k := 4) rfl (by decide) ?_)
    have n5 : inr a2 5 = false := ts_nt' (fun t => by
      obtain ⟨j, hj, e⟩ := inr_t t (by decide)
      have : j = 0 ∨ j = 1 ∨ j = 2 ∨ j = 3 ∨ j = 4 := by omega
      rcases this with q | q | q | q | q
      · exact z0 (by rw [e, q]; rfl)
      · exact z1 (by rw [e, q]; rfl)
      · exact z2 (by rw [e, q]; rfl)
      · exact z3 (by rw [e, q]; rfl)
      · exact z4 (by rw [e, q]; rfl))
    rw [n5]
    exact bq_t rfl (thr_y (k := 2) rfl (by decide) (by decide) (tl_er (by decide) (sI_at _ _ _ _) (hK E _ rfl (hI.keep ((Fr.refl h).si rfl)))))
  · refine wp_X10_operation E 199 _ _ h _ (fun ga => ?_)
    rw [p1.2.1.1]
    refine r_isIn (by omega) ?_
    rw [q]
    exact bq_t rfl (thr_y (k := 1) rfl (by decide) (by decide) (tl_er (by decide) (sI_at _ _ _ _) (hK E _ rfl (hI.keep ((Fr.refl h).si rfl)))))
/-- how two places of an instruction depend -/
noncomputable def dpn (D : SD) (S : ST) (i a b : Nat) : Nat := if a < b then (if b < sEnd D S i a then (if isS D (dR D i a) (dR D i b) then 2 else if isW D (dR D i a) (dR D i b) then 1 else 0) else 3) else 0
theorem ob13 : Ob13 Iv := by
  intro a1 a2 a3 E h n hn hI K hK
  obtain ⟨D, S, Q, N, hs, sr, n0, L, pd, p0, p1, p2, p3, p4, p5, p6, p7, p8⟩ := id hI
  have w := p0.1
  have h8 := w.2.2.1
  have bad : (∀ i k l, i < dI D → k < dL D i → l < dL D i → a1 = nI i → a2 = nI k → a3 = nI l → False) → SpI E 200 MX10_dependence [.ref (eA E 63), .int a1, .int a2, .int a3] h (fun v2 h2 => SpI E 200 MX10_thrown [.ref (eA E 63)] h2 (fun v3 h3 => (v3 = (1 : Int32) → ((¬ (1 : Int32) = 0 → (K E h3)) ∧ ((1 : Int32) = 0 → (((lg_cmp (h3.2 98 0) v2.toInt64) = 0 → (K E h3)) ∧ (¬ (lg_cmp (h3.2 98 0) v2.toInt64) = 0 → (False)))))) ∧ (¬ v3 = (1 : Int32) → (False)))) := by
    intro no
    have e : ∀ {A : Int32 → Hp → Prop}, SpI E 199 MX10_throwsAs [.ref (eA E 63), .int (1 : Int32)] h (fun v3 h3 => (v3 = 0 → A v3 h3) ∧ (¬ v3 = 0 → (SpI E 200 MX10_thrown [.ref (eA E 63)] h3 (fun v4 h4 => (v4 = (1 : Int32) → ((¬ (1 : Int32) = 0 → (K E h4)) ∧ ((1 : Int32) = 0 → (((lg_cmp (h4.2 98 0) (0 : Int32).toInt64) = 0 → (K E h4)) ∧ (¬ (lg_cmp (h4.2 98 0) (0 : Int32).toInt64) = 0 → (False)))))) ∧ (¬ v4 = (1 : Int32) → (False)))))) := thr_y (k := 1) rfl (by decide) (by decide) (tl_er (by decide) (sI_at _ _ _ _) (hK E _ rfl (hI.keep ((Fr.refl h).si rfl))))
    refine wp_X10_dependence E 199 _ _ _ h _ (fun ga => r_isAt w p1.2.1 (fun _ => br_t rfl e) (fun _ _ _ _ => br_t rfl e) (fun i k hi hk e1 e2 => br_f (by decide) (r_isAt w p1.2.1 (fun _ => br_t rfl e) (fun _ _ _ _ => br_t rfl e) (fun j l hj hl e3 e4 => ?_))))
    have : i = j := nI_inj (by omega) (by omega) (e1.symm.trans e3)
    subst this
    exact (no i k l hi hk hl e1 e2 e4).elim
  refine wp_L_dependence E 199 _ _ _ h _ (wp_X9_dependence E 193 _ _ _ h _ _ (c_chkP w p1.1 (fun i k hi hk e1 e2 => c_chkP w p1.1 (fun j l hj hl e3 e4 => ?_) (fun q => ⟨rfl, bad ?_⟩) (fun j hj e3 q => ⟨rfl, bad ?_⟩)) (fun q => ⟨rfl, bad ?_⟩) (fun j hj e3 q => ⟨rfl, bad ?_⟩)))
  · have : i = j := nI_inj (by omega) (by omega) (e1.symm.trans e3)
    subst this
    subst e1 e2 e4
    obtain ⟨l0, l24, hr⟩ := w.2.2.2.1 i hi
    have hN := w.1
    have rk := hr k hk
    have rl := hr l hl
    have ref : SpI E 200 MX10_dependence [.ref (eA E 63), .int (nI i), .int (nI k), .int (nI l)] (sL h 98 0 (nI (dpn D S i k l)).toInt64) (fun v2 h2 => SpI E 200 MX10_thrown [.ref (eA E 63)] h2 (fun v3 h3 => (v3 = (0 : Int32) → ((¬ (0 : Int32) = 0 → (K E h3)) ∧ ((0 : Int32) = 0 → (((lg_cmp (h3.2 98 0) v2.toInt64) = 0 → (K E h3)) ∧ (¬ (lg_cmp (h3.2 98 0) v2.toInt64) = 0 → (False)))))) ∧ (¬ v3 = (0 : Int32) → (False)))) := by
      have done : SpI E 200 MX10_thrown [.ref (eA E 63)] (sI (sL h 98 0 (nI (dpn D S i k l)).toInt64) 63 0 (0 : Int32)) (fun v3 h3 => (v3 = (0 : Int32) → ((¬ (0 : Int32) = 0 → (K E h3)) ∧ ((0 : Int32) = 0 → (((lg_cmp (h3.2 98 0) (nI (dpn D S i k l)).toInt64) = 0 → (K E h3)) ∧ (¬ (lg_cmp (h3.2 98 0) (nI (dpn D S i k l)).toInt64) = 0 → (False)))))) ∧ (¬ v3 = (0 : Int32) → (False))) := tl_ok (sI_at _ _ _ _) (l98 _ _ _) (hK E _ rfl (hI.keep (f980 h _ _)))
      have s1 := (p1.fr (f98 h (nI (dpn D S i k l)).toInt64) b_no1).2.1
      have b6 := p1.fr (f980 h (nI (dpn D S i k l)).toInt64 (0 : Int32)) b_no1
      refine wp_X10_dependence E 199 _ _ _ _ _ (fun ga => r_isAt w s1 (fun q => by rw [inr_yes hi (by omega)] at q; cases q) (fun j hj e q => ?_) (fun _ _ _ _ _ _ => br_f (by decide) (r_isAt w s1 (fun q => by rw [inr_yes hi (by omega)] at q; cases q) (fun j hj e q => ?_) (fun _ _ _ _ _ _ => br_f (by decide) (thr_n ?_)))))
      · have := nI_inj (by omega) (by omega) e
        subst this
        rw [inr_yes hk (by omega)] at q; cases q
      · have := nI_inj (by omega) (by omega) e
        subst this
        rw [inr_yes hl (by omega)] at q; cases q
      · refine ek_if (nI_ltI (by omega) (by omega)) (fun lt => ?_) (fun lt => ?_)
        · have dv : dpn D S i k l = if l < sEnd D S i k then (if isS D (dR D i k) (dR D i l) then 2 else if isW D (dR D i k) (dR D i l) then 1 else 0) else 3 := if_pos lt
          obtain ⟨se1, se2⟩ := sEnd_is (S := S) l24 hk
          have loop : ∀ (PP : Int32 → Hp → Prop), PP (nI (dpn D S i k l)) (sI (sL h 98 0 (nI (dpn D S i k l)).toInt64) 63 0 (0 : Int32)) → ∀ x, x ≤ l → k ≤ x → (∀ y, k ≤ y → y < x → (sK S i).testBit y = false) → VX10_dependence_42 E 199 ga PP (nI i) (nI k) (nI l) (nI x) (sI (sL h 98 0 (nI (dpn D S i k l)).toInt64) 63 0 (0 : Int32)) := by
            intro PP t
            refine up_ind _ ?_ ?_
            · intro _ no
              have lts : l < sEnd D S i k := by
                rcases Nat.lt_or_ge l (sEnd D S i k) with q | q
                · exact q
                · have gt := sEnd_gt D S i k
                  have := se1 (by omega)
                  rw [no (sEnd D S i k - 1) (by omega) (by omega)] at this
                  cases this
              rw [if_pos lts] at dv
              refine sg_X10_dependence_42 E 199 ga _ _ _ _ _ _ (br_t (nI_le (Nat.le_refl _) (by omega)) (r_at w b6.2.1 hi hk (r_at w b6.2.1 hi hl (r_isS w b6.2.1 rk rl (ek_if (b2i_0 _) (fun z => ?_) (fun z => ?_))))))
              · rw [z] at dv
                refine r_at w b6.2.1 hi hk (r_at w b6.2.1 hi hl (r_isW w b6.2.1 rk rl (ek_if (b2i_0 _) (fun y => ?_) (fun y => ?_))))
                · rw [y] at dv
                  rw [show dpn D S i k l = 0 from dv] at t ⊢; exact t
                · rw [ts_nf' y] at dv
                  rw [show dpn D S i k l = 1 from dv] at t ⊢; exact t
              · rw [ts_nf' z] at dv
                rw [show dpn D S i k l = 2 from dv] at t ⊢; exact t
            · intro x hx ih hkx no
              refine sg_X10_dependence_42 E 199 ga _ _ _ _ _ _ (br_f (nI_ge hx (by omega)) (r_mk w p0.2.1 b6.2.2.2 hi (by omega) (ek_if (b2i_0 _) (fun z => ?_) (fun z => ?_))))
              · rw [nI_1]
                refine ih (by omega) (fun y h1 h2 => ?_)
                by_cases q : y = x
                · rw [q]; exact z
                · exact no y h1 (by omega)
              · have z := ts_nf' z
                have ge : ¬ l < sEnd D S i k := fun q => by
                  rw [se2 x hkx (by omega)] at z; cases z
                rw [if_neg ge] at dv
                rw [dv] at t ⊢; exact t
          exact loop _ done k (by omega) (Nat.le_refl _) (fun y h1 h2 => by omega)
        · have dv : dpn D S i k l = 0 := if_neg lt
          rw [dv] at done ⊢; exact done
    refine ek_if (nI_ltI (by omega) (by omega)) (fun lt => ?_) (fun lt => ?_)
    · have dv : dpn D S i k l = if l < sEnd D S i k then (if isS D (dR D i k) (dR D i l) then 2 else if isW D (dR D i k) (dR D i l) then 1 else 0) else 3 := if_pos lt
      have sl := sEnd_le S hk
      refine c_end w p1.1 p1.2.2.1 hi hk ?_
      rw [show (24 : Int32) = nI 24 from rfl, pk_mul, nI_add, nI_add, show i * 24 + k = 24 * i + k by omega, show i * 24 + l = 24 * i + l by omega, nI_clamp (n := 24 * i + k) (by omega), nI_clamp (n := 24 * i + l) (by omega), (p1.1.2.2.2 i hi).2.2 k hk, (p1.1.2.2.2 i hi).2.2 l hl]
      refine ek_if (nI_ltI (by omega) (by omega)) (fun z => ⟨vp_in_nI (by omega) (by decide), vp_in_nI (by omega) (by decide), c_tie w p1.1 rk rl ?_⟩) (fun z => ?_)
      · rw [if_pos z] at dv
        rw [← dv]; exact ref
      · rw [if_neg z] at dv
        rw [dv] at ref; exact ref
    · have dv : dpn D S i k l = 0 := if_neg lt
      rw [dv] at ref; exact ref
  · intro i' k' l' h1 h2 h3 e4 e5 e6
    rw [e4, inr_yes h1 (by omega)] at q; cases q
  · intro i' k' l' h1 h2 h3 e4 e5 e6
    have : j = i' := nI_inj (by omega) (by omega) (e3.symm.trans e4)
    subst this
    have := (w.2.2.2.1 j hj).2.1
    rw [e6, inr_yes h3 (by omega)] at q; cases q
  · intro i' k' l' h1 h2 h3 e4 e5 e6
    rw [e4, inr_yes h1 (by omega)] at q; cases q
  · intro i' k' l' h1 h2 h3 e4 e5 e6
    have : j = i' := nI_inj (by omega) (by omega) (e3.symm.trans e4)
    subst this
    have := (w.2.2.2.1 j hj).2.1
    rw [e5, inr_yes h2 (by omega)] at q; cases q
