/-! obligations: what is only asked -/
section OB1
variable {E : En} {d : Nat} {h : Hp} {K : En → Hp → Prop} {P : Int32 → Hp → Prop} {PV : Hp → Prop} {PX : String → Hp → Prop} {D : SD} {S : ST}
theorem lg_same (x : Int64) : lg_cmp x x = 0 := by
  unfold lg_cmp
  have : ¬ x > x := by
    rw [gt_iff_lt, fa_lt64]; omega
  rw [if_neg this, if_pos rfl]
theorem tl_ok {x : Int32} (e0 : h.1 63 0 = 0) (e98 : h.2 98 0 = x.toInt64) (k : K E h) : SpI E d MX10_thrown [.ref (eA E 63)] h (fun v3 h3 => (v3 = (0 : Int32) → ((¬ (0 : Int32) = 0 → (K E h3)) ∧ ((0 : Int32) = 0 → (((lg_cmp (h3.2 98 0) x.toInt64) = 0 → (K E h3)) ∧ (¬ (lg_cmp (h3.2 98 0) x.toInt64) = 0 → (False)))))) ∧ (¬ v3 = (0 : Int32) → (False))) := by
  refine wp_X10_thrown E d h _ ?_
  rw [e0, e98]
  exact br_t rfl (bq_t rfl (br_t (lg_same _) k))
theorem tl_er {v : Int32} {Z : Hp → Prop} (hv : ¬ v = 0) (e0 : h.1 63 0 = v) (k : K E h) : SpI E d MX10_thrown [.ref (eA E 63)] h (fun v3 h3 => (v3 = v → ((¬ v = 0 → (K E h3)) ∧ (v = 0 → Z h3))) ∧ (¬ v3 = v → (False))) := by
  refine wp_X10_thrown E d h _ ?_
  rw [e0]
  exact br_t rfl (bq_f hv k)
theorem thr_y {k : Nat} {x : Int32} {A : Int32 → Hp → Prop} {B : Hp → Prop} (hx : x = nI k) (h0 : 0 < k) (hk : k < 2 ^ 30) (t : B (sI h 63 0 (nI k))) : SpI E d MX10_throwsAs [.ref (eA E 63), .int x] h (fun v3 h3 => (v3 = 0 → A v3 h3) ∧ (¬ v3 = 0 → B h3)) := by
  refine r_thr hx hk ?_
  rw [decide_eq_true h0]
  exact br_f (by decide) t
theorem thr_n {A : Hp → Prop} {B : Int32 → Hp → Prop} (t : A (sI h 63 0 (0 : Int32))) : SpI E d MX10_throwsAs [.ref (eA E 63), .int (0 : Int32)] h (fun v3 h3 => (v3 = 0 → A h3) ∧ (¬ v3 = 0 → B v3 h3)) := r_thr (k := 0) rfl (by decide) (br_t rfl t)
theorem thr_y' {k : Nat} {x : Int32} {A : Int32 → Hp → Prop} {B : Hp → Prop} (hx : x = nI k) (h0 : 0 < k) (hk : k < 2 ^ 30) (t : B (sI h 63 0 (nI k))) : SpI E d MX10_throwsAs [.ref (eA E 63), .int x] h (fun v3 h3 => (¬ v3 = 0 → B h3) ∧ (v3 = 0 → A v3 h3)) := by
  refine r_thr hx hk ?_
  rw [decide_eq_true h0]
  exact bq_f (by decide) t
theorem thr_n' {A : Hp → Prop} {B : Int32 → Hp → Prop} (t : A (sI h 63 0 (0 : Int32))) : SpI E d MX10_throwsAs [.ref (eA E 63), .int (0 : Int32)] h (fun v3 h3 => (¬ v3 = 0 → B v3 h3) ∧ (v3 = 0 → A h3)) := r_thr (k := 0) rfl (by decide) (bq_t rfl t)
theorem inr_br {x : Int32} {n : Nat} {A B C : Prop} (hn : n < 2 ^ 30) (b : ∀ j, j < n → x = nI j → B) (a : inr x n = false → A) (c : inr x n = false → C) : (x < 0 → A) ∧ (¬ x < 0 → ((x < nI n → B) ∧ (¬ x < nI n → C))) := by
  by_cases q : inr x n = true
  · obtain ⟨j, hj, e⟩ := inr_t q (by omega)
    subst e
    exact br_f (nI_n0 (by omega)) (br_t (nI_lt hj (by omega)) (b j hj rfl))
  · have q := ts_nt' q
    refine ⟨fun _ => a q, fun z => ⟨fun lt => ?_, fun _ => c q⟩⟩
    unfold inr at q
    rw [decide_eq_false_iff_not] at q
    rw [fa_lt] at z lt
    rw [nI_toInt (by omega)] at lt
    have z0 : (0 : Int32).toInt = 0 := rfl
    omega
theorem c_chkI {x : Int32} (w : Wf D) (sr : CSrc D h) (t1 : ∀ i, i < dI D → x = nI i → PV h) (t0 : inr x (dI D) = false → PX "java/lang/IndexOutOfBoundsException" h) : SxV E (d + 6) 1 MX9_checkInstruction [.ref (eA E 0), .int x] h PV PX := by
  have hI := w.2.2.1
  refine wp_X9_checkInstruction E d _ h PV PX ?_
  rw [sr.2.1]
  exact inr_br (by omega) t1 t0 t0
theorem c_chkP {x y : Int32} (w : Wf D) (sr : CSrc D h) (t1 : ∀ i k, i < dI D → k < dL D i → x = nI i → y = nI k → PV h) (t0 : inr x (dI D) = false → PX "java/lang/IndexOutOfBoundsException" h) (t2 : ∀ i, i < dI D → x = nI i → inr y (dL D i) = false → PX "java/lang/IndexOutOfBoundsException" h) : SxV E (d + 7) 2 MX9_checkPosition [.ref (eA E 0), .int x, .int y] h PV PX := by
  have hI := w.2.2.1
  refine wp_X9_checkPosition E (d + 1) _ _ h PV PX (c_chkI w sr (fun i hi e => ?_) t0)
  obtain ⟨l0, l24, _⟩ := w.2.2.2.1 i hi
  have l := (sr.2.2.2 i hi).2.1
  subst e
  rw [nI_clamp (by omega), l]
  have b := inr_br (x := y) (n := dL D i) (A := PX "java/lang/IndexOutOfBoundsException" h) (B := PV h) (C := PX "java/lang/IndexOutOfBoundsException" h) (by omega) (fun k hk e2 => t1 i k hi hk rfl e2) (fun q => t2 i hi rfl q) (fun q => t2 i hi rfl q)
  exact ⟨b.1, fun z => ⟨vp_in_nI (by omega) (by decide), b.2 z⟩⟩
theorem c_chkR {x : Int32} (t1 : ∀ r, r < 8 → x = nI r → PV h) (t0 : inr x 8 = false → PX "java/lang/IndexOutOfBoundsException" h) : SxV E (d + 6) 1 MX9_checkRegister [.ref (eA E 0), .int x] h PV PX := wp_X9_checkRegister E d _ h PV PX (inr_br (n := 8) (by decide) t1 t0 t0)
end OB1
theorem ob7 : Ob7 Iv := by
  intro E h n hn hI K hK
  obtain ⟨D, S, Q, N, hs, sr, n0, L, pd, p0, p1, p2, p3, p4, p5, p6, p7, p8⟩ := id hI
  refine wp_X9_operationCount E 200 h _ (wp_X10_operationCount E 200 h _ (br_t ?_ (hK E _ rfl (hI.keep ((Fr.refl h).si rfl)))))
  rw [p1.1.1, p1.2.1.1]
theorem ob8 : Ob8 Iv := by
  intro E h n hn hI K hK
  obtain ⟨D, S, Q, N, hs, sr, n0, L, pd, p0, p1, p2, p3, p4, p5, p6, p7, p8⟩ := id hI
  refine wp_X9_instructionCount E 200 h _ (wp_X10_instructionCount E 200 h _ (br_t ?_ (hK E _ rfl (hI.keep ((Fr.refl h).si rfl)))))
  rw [p1.1.2.1, p1.2.1.2.1]
theorem ob15 : Ob15 Iv := by
  intro E h n hn hI K hK
  obtain ⟨D, S, Q, N, hs, sr, n0, L, pd, p0, p1, p2, p3, p4, p5, p6, p7, p8⟩ := id hI
  refine wp_X9_mode E 200 h _ (wp_X10_mode E 200 h _ ⟨vp_in_nI (n := 0) (by decide) (by decide), br_t ?_ (hK E _ rfl (hI.keep ((Fr.refl h).si rfl)))⟩)
  rw [p1.2.2.1.1, show ((0 : Int32).toNatClampNeg) = 0 from rfl, p1.2.2.2.1]
theorem ob22 : Ob22 Iv := by
  intro E h n hn hI K hK
  obtain ⟨D, S, Q, N, hs, sr, n0, L, pd, p0, p1, p2, p3, p4, p5, p6, p7, p8⟩ := id hI
  refine wp_X9_storeSize E 200 h _ (wp_X10_storeSize E 200 h _ (br_t ?_ (hK E _ rfl (hI.keep ((Fr.refl h).si rfl)))))
  rw [p2.2.2.1.1, p2.2.2.2.1]
theorem ob35 : Ob35 Iv := by
  intro E h n hn hI K hK
  obtain ⟨D, S, Q, N, hs, sr, n0, L, pd, p0, p1, p2, p3, p4, p5, p6, p7, p8⟩ := id hI
  refine wp_X9_address E 200 h _ (wp_X10_address E 200 h _ (br_t ?_ (hK E _ rfl (hI.keep ((Fr.refl h).si rfl)))))
  rw [p7.2.1, p7.2.2.1]
theorem ob2 : Ob2 Iv := by
  intro E h n hn hI K hK
  obtain ⟨D, S, Q, N, hs, sr, n0, L, pd, p0, p1, p2, p3, p4, p5, p6, p7, p8⟩ := id hI
  refine wp_X9_bufferLength E 200 h _ (wp_X10_bufferLength E 200 h _ (br_t ?_ (hK E _ rfl (hI.keep ((Fr.refl h).si rfl)))))
  rw [p5.2.1, p5.2.2.1]
/-- asked of an instruction -/
theorem ob10 : Ob10 Iv := by
  intro a1 E h n hn hI K hK
  obtain ⟨D, S, Q, N, hs, sr, n0, L, pd, p0, p1, p2, p3, p4, p5, p6, p7, p8⟩ := id hI
  have w := p0.1
  have h8 := w.2.2.1
  refine wp_L_length E 199 _ h _ (wp_X9_length E 193 _ h _ _ (c_chkI w p1.1 (fun i hi e => ?_) (fun q => ⟨rfl, ?_⟩)))
  · subst e
    have v : vp_in (nI i) 8 := vp_in_nI (by omega) (by decide)
    rw [nI_clamp (by omega), (p1.1.2.2.2 i hi).2.1]
    refine ⟨v, wp_X10_length E 199 _ _ _ (r_isI w (p1.fr (f98 h _) b_no1).2.1 ?_)⟩
    rw [inr_yes hi (by omega)]
    refine br_f (by decide) (thr_n ⟨v, ?_⟩)
    rw [nI_clamp (by omega), sI_n _ _ _ _ (by decide), sL_1, (p1.2.1.2.2.2.2.2 i hi).1]
    exact tl_ok (sI_at _ _ _ _) (l98 _ _ _) (hK E _ rfl (hI.keep (f980 h _ _)))
  · refine wp_X10_length E 199 _ h _ (r_isI w p1.2.1 ?_)
    rw [q]
    exact br_t rfl (thr_y (k := 1) rfl (by decide) (by decide) (tl_er (by decide) (sI_at _ _ _ _) (hK E _ rfl (hI.keep ((Fr.refl h).si rfl)))))
theorem ob20 : Ob20 Iv := by
  intro a1 E h n hn hI K hK
  obtain ⟨D, S, Q, N, hs, sr, n0, L, pd, p0, p1, p2, p3, p4, p5, p6, p7, p8⟩ := id hI
  have w := p0.1
  have h8 := w.2.2.1
  refine wp_L_chain E 199 _ h _ (wp_X9_chain E 193 _ h _ _ (c_chkI w p1.1 (fun i hi e => ?_) (fun q => ⟨rfl, ?_⟩)))
  · subst e
    have v : vp_in (nI i) 8 := vp_in_nI (by omega) (by decide)
    rw [nI_clamp (by omega), (p2.1 i hi).2.1]
    refine ⟨v, wp_X10_chain E 199 _ _ _ (r_isI w (p1.fr (f98 h _) b_no1).2.1 ?_)⟩
    rw [inr_yes hi (by omega)]
    refine br_f (by decide) (thr_n ⟨v, ?_⟩)
    rw [nI_clamp (by omega), sI_n _ _ _ _ (by decide), sL_1, (p2.2.1.2 i hi).2.2]
    exact tl_ok (sI_at _ _ _ _) (l98 _ _ _) (hK E _ rfl (hI.keep (f980 h _ _)))
  · refine wp_X10_chain E 199 _ h _ (r_isI w p1.2.1 ?_)
    rw [q]
    exact br_t rfl (thr_y (k := 1) rfl (by decide) (by decide) (tl_er (by decide) (sI_at _ _ _ _) (hK E _ rfl (hI.keep ((Fr.refl h).si rfl)))))
theorem ob21 : Ob21 Iv := by
  intro a1 E h n hn hI K hK
  obtain ⟨D, S, Q, N, hs, sr, n0, L, pd, p0, p1, p2, p3, p4, p5, p6, p7, p8⟩ := id hI
  have w := p0.1
  have h8 := w.2.2.1
  refine wp_L_latency E 199 _ h _ (wp_X9_latency E 193 _ h _ _ (c_chkI w p1.1 (fun i hi e => ?_) (fun q => ⟨rfl, ?_⟩)))
  · subst e
    have v : vp_in (nI i) 8 := vp_in_nI (by omega) (by decide)
    rw [nI_clamp (by omega), (p2.1 i hi).2.2.1]
    refine ⟨v, wp_X10_latency E 199 _ _ _ (r_isI w (p1.fr (f98 h _) b_no1).2.1 ?_)⟩
    rw [inr_yes hi (by omega)]
    refine br_f (by decide) (thr_n ⟨v, ?_⟩)
    rw [nI_clamp (by omega), sI_n _ _ _ _ (by decide), sL_1, (p2.2.1.2 i hi).2.1]
    exact tl_ok (sI_at _ _ _ _) (l98 _ _ _) (hK E _ rfl (hI.keep (f980 h _ _)))
  · refine wp_X10_latency E 199 _ h _ (r_isI w p1.2.1 ?_)
    rw [q]
    exact br_t rfl (thr_y (k := 1) rfl (by decide) (by decide) (tl_er (by decide) (sI_at _ _ _ _) (hK E _ rfl (hI.keep ((Fr.refl h).si rfl)))))
theorem ob23 : Ob23 Iv := by
  intro a1 E h n hn hI K hK
  obtain ⟨D, S, Q, N, hs, sr, n0, L, pd, p0, p1, p2, p3, p4, p5, p6, p7, p8⟩ := id hI
  have w := p0.1
  have h8 := w.2.2.1
  refine wp_L_entry E 199 _ h _ (wp_X9_entry E 193 _ h _ _ (c_chkI w p1.1 (fun i hi e => ?_) (fun q => ⟨rfl, ?_⟩)))
  · subst e
    have v : vp_in (nI i) 8 := vp_in_nI (by omega) (by decide)
    rw [nI_clamp (by omega), p2.2.2.1.2.2 i hi]
    refine ⟨v, wp_X10_entry E 199 _ _ _ (r_isI w (p1.fr (f98 h _) b_no1).2.1 ?_)⟩
    rw [inr_yes hi (by omega)]
    refine br_f (by decide) (thr_n ⟨v, ?_⟩)
    rw [nI_clamp (by omega), sI_n _ _ _ _ (by decide), sL_1, p2.2.2.2.2.2 i hi]
    exact tl_ok (sI_at _ _ _ _) (l98 _ _ _) (hK E _ rfl (hI.keep (f980 h _ _)))
  · refine wp_X10_entry E 199 _ h _ (r_isI w p1.2.1 ?_)
    rw [q]
    exact br_t rfl (thr_y (k := 1) rfl (by decide) (by decide) (tl_er (by decide) (sI_at _ _ _ _) (hK E _ rfl (hI.keep ((Fr.refl h).si rfl)))))
