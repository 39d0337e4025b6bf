/-! execution, in the class -/
def isRg (co : Nat) : Prop := co = 59 ∨ co = 61 ∨ co = 62
theorem isRg.lay {co : Nat} (h : isRg co) : lay[co]? = some (.inr (0, 8)) := by
  rcases h with rfl | rfl | rfl
  · exact lay_59
  · exact lay_61
  · exact lay_62
theorem opc_lo : ∀ a : Nat, a < 8 → ¬ (0 : Int32) ≤ opc a ∧ (opc a) ^^^ (-1 : Int32) = nI a := by decide +kernel
theorem c_opd {E : En} {d co a : Nat} {h : Hp} {P : Int32 → Hp → Prop} (hc : isRg co) (ha : a < 10008) (t : P (opd a (h.1 co)) h) : SpI E d MX5_operandValue [.int (opc a), .ref (eA E co)] h P := by
  refine wp_X5_operandValue E d co hc.lay _ h P ?_
  by_cases h8 : a < 8
  · obtain ⟨q1, q2⟩ := opc_lo a h8
    refine br_f q1 ?_
    rw [q2, nI_clamp (by omega)]
    refine ⟨vp_in_nI h8 (by decide), ?_⟩
    unfold opd at t
    rw [if_pos h8] at t
    exact t
  · unfold opd at t
    rw [if_neg h8] at t
    have e : opc a = nI (a - 8) := by unfold opc; rw [if_neg h8]
    rw [e]
    exact br_t (nI_pos' (by omega)) t
theorem c_opd0 {E : En} {d co : Nat} {h : Hp} {P : Int32 → Hp → Prop} (hc : isRg co) (t : P 0 h) : SpI E d MX5_operandValue [.int 0, .ref (eA E co)] h P := by
  refine wp_X5_operandValue E d co hc.lay _ h P ?_
  exact br_t (by decide) t
theorem sw7 {P : Int32 → Prop} {k : Nat} (hk : k < 7) {x y : Int32} (t : P (comb k x y)) : (nI k = 0 → P x) ∧ (nI k = 1 → P (x + y)) ∧ (nI k = 2 → P (x - y)) ∧ (nI k = 3 → P (x * y)) ∧ (nI k = 4 → P (x &&& y)) ∧ (nI k = 5 → P (x ||| y)) ∧ (¬ nI k = 0 → ¬ nI k = 1 → ¬ nI k = 2 → ¬ nI k = 3 → ¬ nI k = 4 → ¬ nI k = 5 → P (x ^^^ y)) := by
  have z : ∀ (a b : Nat), a < 7 → b < 7 → nI a = nI b → a = b := fun a b ha hb e => nI_inj (by omega) (by omega) e
  refine ⟨fun e => ?_, fun e => ?_, fun e => ?_, fun e => ?_, fun e => ?_, fun e => ?_, fun e0 e1 e2 e3 e4 e5 => ?_⟩
  · obtain rfl := z k 0 hk (by decide) e; exact t
  · obtain rfl := z k 1 hk (by decide) e; exact t
  · obtain rfl := z k 2 hk (by decide) e; exact t
  · obtain rfl := z k 3 hk (by decide) e; exact t
  · obtain rfl := z k 4 hk (by decide) e; exact t
  · obtain rfl := z k 5 hk (by decide) e; exact t
  · have n0 : k ≠ 0 := fun q => e0 (by rw [q]; rfl)
    have n1 : k ≠ 1 := fun q => e1 (by rw [q]; rfl)
    have n2 : k ≠ 2 := fun q => e2 (by rw [q]; rfl)
    have n3 : k ≠ 3 := fun q => e3 (by rw [q]; rfl)
    have n4 : k ≠ 4 := fun q => e4 (by rw [q]; rfl)
    have n5 : k ≠ 5 := fun q => e5 (by rw [q]; rfl)
    unfold comb at t
    rw [if_neg n0, if_neg n1, if_neg n2, if_neg n3, if_neg n4, if_neg n5] at t
    exact t
theorem c_val {E : En} {d co m : Nat} {D : SD} {h : Hp} {P : Int32 → Hp → Prop} (hc : isRg co) (w : Wf D) (s : CSrc D h) (hm : m < dN D) (t : P (opv D m (h.1 co)) h) : SpI E (d + 1) MX5_valueOf [.ref (eA E 5), .int (nI m), .ref (eA E co)] h P := by
  have hN := w.1
  obtain ⟨u, tt, k, a, b⟩ := w.2.1 m hm
  obtain ⟨s1, s2, s3, s4, s5, s6, s7⟩ := s.2.2.1 m hm
  refine wp_X5_valueOf E d co hc.lay _ h P ?_
  have vm : vp_in (nI m) 12 := vp_in_nI (by omega) (by decide)
  rw [nI_clamp (by omega)]
  refine ⟨vm, ?_⟩
  rw [s4]
  refine c_opd hc a ⟨vm, ?_⟩
  rw [s5]
  have fin : ∀ y : Int32, y = (if dK D m = 0 then 0 else opd (dB D m) (h.1 co)) → vp_in (nI m) 12 ∧ ((h.1 9 m) = 0 → P (opd (dA D m) (h.1 co)) h) ∧ ((h.1 9 m) = 1 → P (opd (dA D m) (h.1 co) + y) h) ∧ ((h.1 9 m) = 2 → P (opd (dA D m) (h.1 co) - y) h) ∧ ((h.1 9 m) = 3 → P (opd (dA D m) (h.1 co) * y) h) ∧ ((h.1 9 m) = 4 → P (opd (dA D m) (h.1 co) &&& y) h) ∧ ((h.1 9 m) = 5 → P (opd (dA D m) (h.1 co) ||| y) h) ∧ (¬ (h.1 9 m) = 0 → ¬ (h.1 9 m) = 1 → ¬ (h.1 9 m) = 2 → ¬ (h.1 9 m) = 3 → ¬ (h.1 9 m) = 4 → ¬ (h.1 9 m) = 5 → P (opd (dA D m) (h.1 co) ^^^ y) h) := by
    intro y hy
    refine ⟨vm, ?_⟩
    rw [s3]
    refine sw7 (P := fun z => P z h) k ?_
    rw [hy]
    exact t
  by_cases k0 : dK D m = 0
  · rw [if_pos k0]
    exact c_opd0 hc (fin 0 (by rw [if_pos k0]))
  · rw [if_neg k0]
    exact c_opd hc b (fin _ (by rw [if_neg k0]))
def fEx (co : Nat) (c _ : Nat) : Bool := c == co || c == 60
theorem c_exec {E : En} {d co s : Nat} {D : SD} {h : Hp} {P : Hp → Prop} (hc : isRg co) (w : Wf D) (sr : CSrc D h) (hs : s < 2 ^ dN D) (t : ∀ h', Fr (fEx co) h h' → h'.1 co = ex D s (h.1 co) → P h') : SpV E (d + 2) MX5_execute [.ref (eA E 58), .ref (eA E 5), .int (nI s), .ref (eA E co)] h P := by
  have hN := w.1
  have hl := hc.lay
  have n60 : co ≠ 60 := by rcases hc with rfl | rfl | rfl <;> decide
  have hsrc : ∀ c j, isSrcC c j = true → fEx co c j = false := by
    intro c j e
    unfold isSrcC at e
    unfold fEx
    simp only [Bool.or_eq_true, Bool.and_eq_true, decide_eq_true_eq, beq_iff_eq] at e
    simp only [Bool.or_eq_false_iff, beq_eq_false_iff_ne]
    rcases hc with rfl | rfl | rfl <;> omega
  refine wp_X5_execute E (d + 1) co hl _ h P (fun g => ?_)
  have hbit : ∀ m, s.testBit m = true → m < dN D := fun m hb => by
    rcases Nat.lt_or_ge m (dN D) with q | q
    · exact q
    · rw [tb_lt hs q] at hb; cases hb
  have l2 : ∀ i, i ≤ 12 → ∀ h', Fr (fEx co) h h' → (∀ m, m < 12 → s.testBit m = true → h'.1 60 m = opv D m (h.1 co)) → h'.1 co = exT D s (fun m => opv D m (h.1 co)) (h.1 co) i → VX5_execute_42 E (d + 1) g P co (nI s) (nI i) h' := by
    refine up_ind 12 ?_ ?_
    · intro h' f hv hx
      refine sg_X5_execute_42 E (d + 1) g co hl _ _ h' P (br_t (nI_le (Nat.le_refl 12) (by decide)) (t h' f hx))
    · intro i hi ih h' f hv hx
      refine sg_X5_execute_42 E (d + 1) g co hl _ _ h' P (br_f (nI_ge hi (by decide)) ?_)
      rw [nI_1]
      refine ek_if (bitA (by omega)) (fun hb => ?_) (fun hb => ?_)
      · refine ih h' f hv ?_
        rw [hx]
        show _ = if s.testBit i then _ else _
        rw [hb]; rfl
      · have hb := ts_nf' hb
        have him := hbit i hb
        have sr' := sr.fr f hsrc
        obtain ⟨-, s2, -⟩ := sr'.2.2.1 i him
        have ht := (w.2.1 i him).2.1
        have vi : vp_in (nI i) 12 := vp_in_nI hi (by decide)
        rw [nI_clamp (by omega), s2]
        refine ⟨vi, vi, vp_in_nI ht (by decide), ?_⟩
        rw [nI_clamp (by omega)]
        refine ih _ (f.si ?_) ?_ ?_
        · simp [fEx]
        · intro m hm hbm
          rw [sI_n _ _ _ _ (fun e => n60 e.symm)]
          exact hv m hm hbm
        · rw [sI_s, hx, hv i hi hb]
          show _ = if s.testBit i then _ else _
          rw [hb]; rfl
  have l1 : ∀ i, i ≤ 12 → ∀ h', Fr (fun c _ => c == 60) h h' → (∀ m, m < i → s.testBit m = true → h'.1 60 m = opv D m (h.1 co)) → VX5_execute_3 E (d + 1) g P co (nI s) (nI i) h' := by
    refine up_ind 12 ?_ ?_
    · intro h' f hv
      refine sg_X5_execute_3 E (d + 1) g co hl _ _ h' P (br_t (nI_le (Nat.le_refl 12) (by decide)) ?_)
      refine l2 0 (by decide) h' (f.mono (fun c j e => ?_)) hv ?_
      · unfold fEx at e
        simp only [Bool.or_eq_false_iff] at e
        exact e.2
      · rw [f.f co (fun j => by simp [n60])]
        rfl
    · intro i hi ih h' f hv
      refine sg_X5_execute_3 E (d + 1) g co hl _ _ h' P (br_f (nI_ge hi (by decide)) ?_)
      rw [nI_1]
      refine ek_if (bitA (by omega)) (fun hb => ?_) (fun hb => ?_)
      · refine ih h' f (fun m hm hbm => ?_)
        rcases Nat.lt_or_ge m i with q | q
        · exact hv m q hbm
        · obtain rfl : m = i := by omega
          rw [hb] at hbm; cases hbm
      · have hb := ts_nf' hb
        have him := hbit i hb
        have sr' : CSrc D h' := sr.fr (f.mono (S2 := fEx co) (fun c j e => by
          unfold fEx at e
          simp only [Bool.or_eq_false_iff] at e
          exact e.2)) hsrc
        have eco : h'.1 co = h.1 co := f.f co (fun j => by simp [n60])
        refine c_val hc w sr' him ?_
        rw [nI_clamp (by omega)]
        refine ⟨vp_in_nI hi (by decide), ?_⟩
        refine ih _ (f.si rfl) (fun m hm hbm => ?_)
        rw [sI_s, upd_1]
        by_cases q : m = i
        · rw [if_pos q, q, eco]
        · rw [if_neg q]
          exact hv m (by omega) hbm
  exact l1 0 (by decide) h (Fr.refl h) (fun m hm => by omega)
