/-! obligations: fields of operations, controls, the store -/
section OB5
variable {E : En} {d : Nat} {h : Hp} {K : En → Hp → Prop} {PV : Hp → Prop} {PX : String → Hp → Prop} {D : SD} {Q : SO} {P : Int32 → Hp → Prop}
theorem c_chkO {x : Int32} (w : Wf D) (sr : CSrc D h) (t1 : ∀ i, i < dN D → x = nI i → PV h) (t0 : inr x (dN D) = false → PX "java/lang/IndexOutOfBoundsException" h) : SxV E (d + 6) 1 MX9_checkOperation [.ref (eA E 0), .int x] h PV PX := by
  have hN := w.1
  refine wp_X9_checkOperation E d _ h PV PX ?_
  rw [sr.1]
  exact inr_br (by omega) t1 t0 t0
theorem c_chkA {x : Int32} (wq : WfQ D Q) (cs : CSto D Q h) (t1 : ∀ a, a < qN Q → x = nI a → PV h) (t0 : inr x (qN Q) = false → PX "java/lang/IndexOutOfBoundsException" h) : SxV E (d + 6) 1 MX9_checkAddress [.ref (eA E 0), .int x] h PV PX := by
  have hN := wq.1
  refine wp_X9_checkAddress E d _ h PV PX ?_
  rw [cs.1]
  exact inr_br (by omega) t1 t0 t0
theorem tl_okL {x : Int64} (e0 : h.1 63 0 = 0) (e98 : h.2 98 0 = x) (k : K E h) : SpI E d MX10_thrown [.ref (eA E 63)] h (fun v3 h3 => (v3 = (0 : Int32) → ((¬ (0 : Int32) = 0 → (K E h3)) ∧ ((0 : Int32) = 0 → (((lg_cmp (h3.2 98 0) x) = 0 → (K E h3)) ∧ (¬ (lg_cmp (h3.2 98 0) x) = 0 → (False)))))) ∧ (¬ v3 = (0 : Int32) → (False))) := by
  refine wp_X10_thrown E d h _ ?_
  rw [e0, e98]
  exact br_t rfl (bq_t rfl (br_t (lg_same _) k))
theorem r_isA {x : Int32} (wq : WfQ D Q) (so : RSto D Q h) (t : P (b2i (inr x (qN Q))) h) : SpI E (d + 1) MX10_isAddress [.ref (eA E 63), .int x] h P := by
  have hN := wq.1
  refine wp_X10_isAddress E d _ h P ?_
  rw [so.1]
  exact r_isIn (by omega) ⟨b2i_01 _, t⟩
end OB5
theorem fl_len (Q : SO) : (fl Q).length ≤ 12 := flF_len _ _ _
theorem ob27 : Ob27 Iv := by
  intro a1 E h n hn hI K hK
  obtain ⟨D, S, Q, N, hs, sr, n0, L, pd, p0, p1, p2, p3, p4, p5, p6, p7, p8⟩ := id hI
  have w := p0.1
  have hN := w.1
  have wq := (StR.ok p0.1 p0.2.1 _ Q (Nat.le_refl _) p0.2.2.2).wf p0.1
  have fk := fl_ok w wq
  refine wp_L_fieldOf E 199 _ h _ (wp_X9_fieldOf E 193 _ h _ _ (c_chkO w p1.1 (fun i hi e => ?_) (fun q => ⟨rfl, ?_⟩)))
  · subst e
    refine c_know w wq p2.2.2.1 (by decide) p3.1 (fun h1 f1 e1 fc => ⟨vp_in_nI (by omega) (by decide), ?_⟩)
    rw [nI_clamp (by omega)]
    have g : ∀ v x, Fr f3k h (sI (sL h1 98 0 v) 63 0 x) := fun v x => (f1.mono (fun c j q => by unfold f3k at q; simp only [Bool.or_eq_false_iff] at q; exact q.1)).trans ((f980 h1 v x).mono (fun c j q => by unfold f3k at q; simp only [Bool.or_eq_false_iff] at q; exact q.2))
    have r1 : ∀ v, (sL h1 98 0 v).1 63 1 = nI (dN D) := fun v => by rw [sL_1, f1.i 63 1 rfl]; exact p1.2.1.1
    have fd : ∀ v x, FldR (fl Q) (sI (sL h1 98 0 v) 63 0 x) := fun v x => (p3.2.fr f1 rfl rfl (fun _ => rfl)).fr (f980 h1 v x) rfl rfl (fun _ => rfl)
    have fin : ∀ v x, Iv (n + 1) (sI (sL h1 98 0 v) 63 0 x) := fun v x => Iv_known p0 p1 p2 p3 p4 p5 p6 p7 p8 f1 e1 fc (f980 h1 v x)
    refine wp_X10_fieldOf E 199 _ _ _ ?_
    rw [r1]
    refine r_isIn (by omega) ?_
    rw [inr_yes hi (by omega)]
    refine br_f (by decide) (thr_n (r_fieldWith (by omega) (us_lt w wq) (fd _ _) fk (fl_len Q) (fun f hf hb => ?_) (fun no => ?_)))
    · rw [((fc.2.2 i (by omega)).1 f hf hb).1]
      exact tl_ok (sI_at _ _ _ _) (l98 _ _ _) (hK E _ rfl (fin _ _))
    · rw [((fc.2.2 i (by omega)).2 no).1]
      exact tl_ok (sI_at _ _ _ _) (l98 _ _ _) (hK E _ rfl (fin _ _))
  · refine wp_X10_fieldOf E 199 _ h _ ?_
    rw [p1.2.1.1]
    refine r_isIn (by omega) ?_
    rw [q]
    exact br_t rfl (thr_y (k := 1) rfl (by decide) (by decide) (tl_er (by decide) (sI_at _ _ _ _) (hK E _ rfl (hI.keep ((Fr.refl h).si rfl)))))
theorem ob28 : Ob28 Iv := by
  intro a1 E h n hn hI K hK
  obtain ⟨D, S, Q, N, hs, sr, n0, L, pd, p0, p1, p2, p3, p4, p5, p6, p7, p8⟩ := id hI
  have w := p0.1
  have hN := w.1
  have wq := (StR.ok p0.1 p0.2.1 _ Q (Nat.le_refl _) p0.2.2.2).wf p0.1
  have fk := fl_ok w wq
  have fl12 := fl_len Q
  refine wp_L_codeOf E 199 _ h _ (wp_X9_codeOf E 193 _ h _ _ (c_chkO w p1.1 (fun i hi e => ?_) (fun q => ⟨rfl, ?_⟩)))
  · subst e
    refine c_know w wq p2.2.2.1 (by decide) p3.1 (fun h1 f1 e1 fc => ⟨vp_in_nI (by omega) (by decide), ?_⟩)
    rw [nI_clamp (by omega)]
    have r1 : ∀ v, (sL h1 98 0 v).1 63 1 = nI (dN D) := fun v => by rw [sL_1, f1.i 63 1 rfl]; exact p1.2.1.1
    have fd : ∀ v x, FldR (fl Q) (sI (sL h1 98 0 v) 63 0 x) := fun v x => (p3.2.fr f1 rfl rfl (fun _ => rfl)).fr (f980 h1 v x) rfl rfl (fun _ => rfl)
    have fin : ∀ v x, Iv (n + 1) (sI (sL h1 98 0 v) 63 0 x) := fun v x => Iv_known p0 p1 p2 p3 p4 p5 p6 p7 p8 f1 e1 fc (f980 h1 v x)
    refine wp_X10_codeOf E 199 _ _ _ ?_
    rw [r1]
    refine r_isIn (by omega) ?_
    rw [inr_yes hi (by omega)]
    refine br_f (by decide) (thr_n' (r_fieldWith (by omega) (us_lt w wq) (fd _ _) fk (fl_len Q) (fun f hf hb => ?_) (fun no => ?_)))
    · refine bq_f (nI_m1 (by omega)) (r_code (by omega) (us_lt w wq) (fd _ _) fk (fl_len Q) hf hb ?_)
      rw [((fc.2.2 i (by omega)).1 f hf hb).2.1]
      exact tl_ok (sI_at _ _ _ _) (l98 _ _ _) (hK E _ rfl (fin _ _))
    · refine bq_t rfl ?_
      rw [((fc.2.2 i (by omega)).2 no).2]
      exact tl_ok (sI_at _ _ _ _) (l98 _ _ _) (hK E _ rfl (fin _ _))
  · refine wp_X10_codeOf E 199 _ h _ ?_
    rw [p1.2.1.1]
    refine r_isIn (by omega) ?_
    rw [q]
    exact br_t rfl (thr_y' (k := 1) rfl (by decide) (by decide) (tl_er (by decide) (sI_at _ _ _ _) (hK E _ rfl (hI.keep ((Fr.refl h).si rfl)))))
theorem ob29 : Ob29 Iv := by
  intro a1 E h n hn hI K hK
  obtain ⟨D, S, Q, N, hs, sr, n0, L, pd, p0, p1, p2, p3, p4, p5, p6, p7, p8⟩ := id hI
  have w := p0.1
  have hN := p12_lt w.1
  have wq := (StR.ok p0.1 p0.2.1 _ Q (Nat.le_refl _) p0.2.2.2).wf p0.1
  have hq := wq.1
  have fk := fl_ok w wq
  refine wp_L_control E 199 _ h _ (wp_X9_control E 193 _ h _ _ (c_chkA wq p2.2.2.1 (fun a ha e => ?_) (fun q => ⟨rfl, ?_⟩)))
  · subst e
    have sa := wq.2.1 a ha
    have v : vp_in (nI a) 192 := vp_in_nI (by omega) (by decide)
    refine c_know w wq p2.2.2.1 (by decide) p3.1 (fun h1 f1 e1 fc => ⟨v, v, ?_⟩)
    have cs1 : CSto D Q h1 := p2.2.2.1.fr f1 rfl (fun c j h1 h2 => by
      unfold fKn
      simp only [Bool.or_eq_false_iff, Bool.and_eq_false_iff, decide_eq_false_iff_not, beq_eq_false_iff_ne]
      omega)
    rw [nI_clamp (by omega), (cs1.2.1 a ha).1, (cs1.2.1 a ha).2.1]
    refine c_encode (by omega) (fun i hi => (usF_bit Q i _).mpr ⟨a, ha, hi⟩) fc fk (fl_len Q) (fun X hX => ?_)
    have g0 : ∀ v x, Fr f3k h (sI (sL h1 98 0 v) 63 0 x) := fun v x => (f1.mono (fun c j q => by unfold f3k at q; simp only [Bool.or_eq_false_iff] at q; exact q.1)).trans ((f980 h1 v x).mono (fun c j q => by unfold f3k at q; simp only [Bool.or_eq_false_iff] at q; exact q.2))
    have g1 : ∀ v, Fr f3k h (sL h1 98 0 v) := fun v => (f1.mono (fun c j q => by unfold f3k at q; simp only [Bool.or_eq_false_iff] at q; exact q.1)).trans ((f98 h1 v).mono (fun c j q => by unfold f3k at q; simp only [Bool.or_eq_false_iff] at q; exact q.2))
    have fd : ∀ v x, FldR (fl Q) (sI (sL h1 98 0 v) 63 0 x) := fun v x => (p3.2.fr f1 rfl rfl (fun _ => rfl)).fr (f980 h1 v x) rfl rfl (fun _ => rfl)
    have fin : ∀ v x, Iv (n + 1) (sI (sL h1 98 0 v) 63 0 x) := fun v x => Iv_known p0 p1 p2 p3 p4 p5 p6 p7 p8 f1 e1 fc (f980 h1 v x)
    refine wp_X10_control E 199 _ _ _ (fun ga => r_isA wq (p2.fr (g1 _) f3k_2).2.2.2 ?_)
    rw [inr_yes ha (by omega)]
    refine br_f (by decide) (thr_n (r_ctl w wq (p2.fr (g0 _ _) f3k_2).2.2.2 ha (us_lt w wq) (fd _ _) fk (fl_len Q) (fun Y hY => ?_)))
    rw [hX.uq hY]
    exact tl_okL (sI_at _ _ _ _) (l98 _ _ _) (hK E _ rfl (fin _ _))
  · refine wp_X10_control E 199 _ h _ (fun ga => r_isA wq p2.2.2.2 ?_)
    rw [q]
    exact br_t rfl (thr_y (k := 1) rfl (by decide) (by decide) (tl_er (by decide) (sI_at _ _ _ _) (hK E _ rfl (hI.keep ((Fr.refl h).si rfl)))))
theorem ob24 : Ob24 Iv := by
  intro a1 a2 E h n hn hI K hK
  obtain ⟨D, S, Q, N, hs, sr, n0, L, pd, p0, p1, p2, p3, p4, p5, p6, p7, p8⟩ := id hI
  have w := p0.1
  have hN := p12_lt w.1
  have wq := (StR.ok p0.1 p0.2.1 _ Q (Nat.le_refl _) p0.2.2.2).wf p0.1
  have hq := wq.1
  refine wp_L_store E 199 _ _ h _ (wp_X9_store E 193 _ _ h _ _ (c_chkA wq p2.2.2.1 (fun a ha e => ?_) (fun q => Or.inl ⟨rfl, ?_⟩)))
  · subst e
    have v : vp_in (nI a) 192 := vp_in_nI (by omega) (by decide)
    obtain ⟨c1, c2, c3⟩ := p2.2.2.1.2.1 a ha
    have ref : ∀ (x y : Int32), inr a2 4 = true → (a2 = 0 → y = nI (qS Q a)) → (a2 = 1 → y = b2i (qF Q a)) → (a2 = 2 → y = oI (qX Q a)) → (a2 = 3 → y = nI (cntU Q a (dI D))) → x = y → SpI E 200 MX10_store [.ref (eA E 63), .int (nI a), .int a2] (sL h 98 0 x.toInt64) (fun v2 h2 => SpI E 200 MX10_thrown [.ref (eA E 63)] h2 (fun v3 h3 => (v3 = (0 : Int32) → ((¬ (0 : Int32) = 0 → (K E h3)) ∧ ((0 : Int32) = 0 → (((lg_cmp (h3.2 98 0) v2.toInt64) = 0 → (K E h3)) ∧ (¬ (lg_cmp (h3.2 98 0) v2.toInt64) = 0 → (False)))))) ∧ (¬ v3 = (0 : Int32) → (False)))) := by
      intro x y i4 y0 y1 y2 y3 exy
      subst exy
      have rs := (p2.fr (f980 h x.toInt64 (0 : Int32)) b_no2).2.2.2
      obtain ⟨d1, d2, d3⟩ := rs.2.1 a ha
      have done : SpI E 200 MX10_thrown [.ref (eA E 63)] (sI (sL h 98 0 x.toInt64) 63 0 (0 : Int32)) (fun v3 h3 => (v3 = (0 : Int32) → ((¬ (0 : Int32) = 0 → (K E h3)) ∧ ((0 : Int32) = 0 → (((lg_cmp (h3.2 98 0) x.toInt64) = 0 → (K E h3)) ∧ (¬ (lg_cmp (h3.2 98 0) x.toInt64) = 0 → (False)))))) ∧ (¬ v3 = (0 : Int32) → (False))) := tl_ok (sI_at _ _ _ _) (l98 _ _ _) (hK E _ rfl (hI.keep (f980 h _ _)))
      refine wp_X10_store E 199 _ _ _ _ (r_isA wq (p2.fr (f98 h _) b_no2).2.2.2 ?_)
      rw [inr_yes ha (by omega)]
      refine bq_f (by decide) (r_isK (k := 3) rfl (by decide) ?_)
      rw [i4]
      refine bq_f (by decide) (thr_n ?_)
      rw [nI_clamp (by omega), d1, d2, d3]
      refine ⟨fun z0 => ⟨fun z1 => ⟨fun z2 => ?_, fun z2 => ⟨v, ?_⟩⟩, fun z1 => ⟨v, ?_⟩⟩, fun z0 => ⟨v, ?_⟩⟩
      · refine r_users w (p1.fr (f980 h _ _) b_no1).2.1 wq rs ha ?_
        obtain ⟨j, hj, e⟩ := inr_t i4 (by decide)
        have : j = 3 := by
          have : j ≠ 0 := fun q => z0 (by rw [e, q]; rfl)
          have : j ≠ 1 := fun q => z1 (by rw [e, q]; rfl)
          have : j ≠ 2 := fun q => z2 (by rw [e, q]; rfl)
          omega
        rw [← y3 (by rw [e, this]; rfl)]
        exact done
      · rw [← y2 z2]; exact done
      · rw [← y1 z1]; exact done
      · rw [← y0 z0]; exact done
    rw [nI_clamp (by omega), c1, c2, c3, p1.1.2.1]
    refine ⟨fun z => ⟨v, ref _ _ (by rw [z]; decide) (fun _ => rfl) (fun q => ?_) (fun q => ?_) (fun q => ?_) rfl⟩, fun z => ⟨v, ek_if (b2i_0 _) (fun f => ref _ _ (by rw [z]; decide) (fun q => ?_) (fun _ => by rw [f]; rfl) (fun q => ?_) (fun q => ?_) rfl) (fun f => ref _ _ (by rw [z]; decide) (fun q => ?_) (fun _ => by rw [ts_nf' f]; rfl) (fun q => ?_) (fun q => ?_) rfl)⟩, fun z => ⟨v, ref _ _ (by rw [z]; decide) (fun q => ?_) (fun q => ?_) (fun _ => rfl) (fun q => ?_) rfl⟩, fun z => c_users w wq p2.2.2.1 ha (ref _ _ (by rw [z]; decide) (fun q => ?_) (fun q => ?_) (fun q => ?_) (fun _ => rfl) rfl), fun z0 z1 z2 z3 => Or.inr ⟨rfl, ?_⟩⟩
    all_goals first
      | (rw [z] at q; exact absurd q (by decide))
      | skip
    refine wp_X10_store E 199 _ _ h _ (r_isA wq p2.2.2.2 ?_)
    rw [inr_yes ha (by omega)]
    refine bq_f (by decide) (r_isK (k := 3) rfl (by decide) ?_)
    have n4 : inr a2 4 = false := ts_nt' (fun t => by
      obtain ⟨j, hj, e⟩ := inr_t t (by decide)
      have : j = 0 ∨ j = 1 ∨ j = 2 ∨ j = 3 := by omega
      rcases this with q | q | q | q
      · exact z0 (by rw [e, q]; rfl)
      · exact z1 (by rw [e, q]; rfl)
      · exact z2 (by rw [e, q]; rfl)
      · exact z3 (by rw [e, q]; rfl))
    rw [n4]
    exact bq_t rfl (thr_y (k := 2) rfl (by decide) (by decide) (tl_er (by decide) (sI_at _ _ _ _) (hK E _ rfl (hI.keep ((Fr.refl h).si rfl)))))
  · refine wp_X10_store E 199 _ _ h _ (r_isA wq p2.2.2.2 ?_)
    rw [q]
    exact bq_t rfl (thr_y (k := 1) rfl (by decide) (by decide) (tl_er (by decide) (sI_at _ _ _ _) (hK E _ rfl (hI.keep ((Fr.refl h).si rfl)))))
