/-! obligations: execution -/
def f7r (c j : Nat) : Bool := c == 59 || c == 60 || c == 61 || c == 62 || c == 87 || c == 88 || c == 89 || c == 90 || (c == 58 && j == 1) || (c == 63 && j == 38) || fNo c j
theorem f7r_1 (c j : Nat) (q : b1 c j = true) : f7r c j = false := by
  unfold b1 isSrcC isSrcR at q
  unfold f7r fNo
  simp only [Bool.or_eq_true, Bool.and_eq_true, decide_eq_true_eq, beq_iff_eq] at q
  simp only [Bool.or_eq_false_iff, Bool.and_eq_false_iff, decide_eq_false_iff_not, beq_eq_false_iff_ne]
  omega
theorem f7r_2 (c j : Nat) (q : b2 c j = true) : f7r c j = false := by
  unfold b2 at q
  unfold f7r fNo
  simp only [Bool.or_eq_true, Bool.and_eq_true, decide_eq_true_eq, beq_iff_eq] at q
  simp only [Bool.or_eq_false_iff, Bool.and_eq_false_iff, decide_eq_false_iff_not, beq_eq_false_iff_ne]
  omega
theorem f7r_3 (c j : Nat) (q : b3 c j = true) : f7r c j = false := by
  unfold b3 at q
  unfold f7r fNo
  simp only [Bool.or_eq_true, Bool.and_eq_true, decide_eq_true_eq, beq_iff_eq] at q
  simp only [Bool.or_eq_false_iff, Bool.and_eq_false_iff, decide_eq_false_iff_not, beq_eq_false_iff_ne]
  omega
theorem f7r_4 (c j : Nat) (q : b4 c j = true) : f7r c j = false := by
  unfold b4 at q
  unfold f7r fNo
  simp only [Bool.or_eq_true, Bool.and_eq_true, decide_eq_true_eq, beq_iff_eq] at q
  simp only [Bool.or_eq_false_iff, Bool.and_eq_false_iff, decide_eq_false_iff_not, beq_eq_false_iff_ne]
  omega
theorem f7r_5 (c j : Nat) (q : b5 c j = true) : f7r c j = false := by
  unfold b5 at q
  unfold f7r fNo
  simp only [Bool.or_eq_true, Bool.and_eq_true, decide_eq_true_eq, beq_iff_eq] at q
  simp only [Bool.or_eq_false_iff, Bool.and_eq_false_iff, decide_eq_false_iff_not, beq_eq_false_iff_ne]
  omega
theorem f7r_6 (c j : Nat) (q : b6 c j = true) : f7r c j = false := by
  unfold b6 at q
  unfold f7r fNo
  simp only [Bool.or_eq_true, Bool.and_eq_true, decide_eq_true_eq, beq_iff_eq] at q
  simp only [Bool.or_eq_false_iff, Bool.and_eq_false_iff, decide_eq_false_iff_not, beq_eq_false_iff_ne]
  omega
theorem f7r_8 (c j : Nat) (q : b8 c j = true) : f7r c j = false := by
  unfold b8 at q
  unfold f7r fNo
  simp only [Bool.or_eq_true, Bool.and_eq_true, decide_eq_true_eq, beq_iff_eq] at q
  simp only [Bool.or_eq_false_iff, Bool.and_eq_false_iff, decide_eq_false_iff_not, beq_eq_false_iff_ne]
  omega
theorem run_7r (c j : Nat) (q : f7r c j = false) : fRun c j = false := by
  unfold f7r fNo at q
  unfold fRun
  simp only [Bool.or_eq_false_iff, Bool.and_eq_false_iff, decide_eq_false_iff_not, beq_eq_false_iff_ne] at q ⊢
  omega
theorem go_7r (c j : Nat) (q : f7r c j = false) : fGo c j = false := by
  unfold f7r fNo at q
  unfold fGo
  simp only [Bool.or_eq_false_iff, Bool.and_eq_false_iff, decide_eq_false_iff_not, beq_eq_false_iff_ne] at q ⊢
  omega
theorem do_7r (c j : Nat) (q : f7r c j = false) : fDo c j = false := by
  unfold f7r fNo at q
  unfold fDo
  simp only [Bool.or_eq_false_iff, Bool.and_eq_false_iff, decide_eq_false_iff_not, beq_eq_false_iff_ne] at q ⊢
  omega
theorem ag_7r (c j : Nat) (q : f7r c j = false) : fAg c j = false := by
  unfold f7r fNo at q
  unfold fAg
  simp only [Bool.or_eq_false_iff, Bool.and_eq_false_iff, decide_eq_false_iff_not, beq_eq_false_iff_ne] at q ⊢
  omega
theorem no_7r (c j : Nat) (q : f7r c j = false) : fNo c j = false := by
  unfold f7r fNo at q
  unfold fNo
  simp only [Bool.or_eq_false_iff, Bool.and_eq_false_iff, decide_eq_false_iff_not, beq_eq_false_iff_ne] at q ⊢
  omega
theorem sq_7r (co : Nat) (hc : co = 59 ∨ co = 61 ∨ co = 62 ∨ co = 87 ∨ co = 89 ∨ co = 90) (c j : Nat) (q : f7r c j = false) : fSq co c j = false := by
  unfold f7r fNo at q
  unfold fSq
  simp only [Bool.or_eq_false_iff, Bool.and_eq_false_iff, decide_eq_false_iff_not, beq_eq_false_iff_ne] at q ⊢
  omega
theorem rnW_in {D : SD} {Q : SO} {w : Int32} {rk : Nat → Nat} (hrk : RkOK Q rk) : ∀ (k : Nat) (a : Option Nat) (e : Nat) (f : Nat → Int32), (∀ x, a = some x → x < qN Q) → ∀ x, (rnW D Q w k a e f).2.1 = some x → x < qN Q
  | 0, a, e, f, ha, x, h => ha x h
  | _ + 1, none, e, f, ha, x, h => by cases h
  | k + 1, some a, e, f, ha, x, h => by
    have h1 := ha a rfl
    have nx : ∀ y, qX Q a = some y → y < qN Q := fun y hy => ((hrk a h1).2.2.2 y hy).1
    have h : (if ¬ nI (e + 1) < w ∧ qF Q a = true then (e + 1, qX Q a, ex D (qS Q a) f) else rnW D Q w k (qX Q a) (e + 1) (ex D (qS Q a) f)).2.1 = some x := h
    by_cases z : ¬ nI (e + 1) < w ∧ qF Q a = true
    · rw [if_pos z] at h; exact nx x h
    · rw [if_neg z] at h; exact rnW_in hrk k _ _ _ nx x h
theorem oI_none {pd : Option Nat} {Q : SO} (h : ∀ x, pd = some x → x < qN Q) (hq : qN Q ≤ 192) : oI pd = (-1 : Int32) ↔ pd = none := oI_m1 (fun x e => by have := h x e; omega)
theorem ob32 : Ob32 Iv := by
  intro a1 E h n hn hI K hK
  obtain ⟨D, S, Q, N, hs, sr, n0, L, pd, p0, p1, p2, p3, p4, p5, p6, p7, p8⟩ := id hI
  have w := p0.1
  have h8 := w.2.2.1
  have wq := (StR.ok p0.1 p0.2.1 _ Q (Nat.le_refl _) p0.2.2.2).wf p0.1
  have pn := oI_none p7.2.2.2 wq.1
  refine wp_L_runSource E 199 _ h _ (wp_X9_runSource E 193 _ h _ _ (c_chkI w p1.1 (fun i hi e => wp_X9_checkIdle E 192 h _ _ ?_) (fun q => Or.inl ⟨rfl, ?_⟩)))
  · subst e
    have v : vp_in (nI i) 8 := vp_in_nI (by omega) (by decide)
    rw [p7.2.1]
    refine ek_if pn (fun z => ?_) (fun z => Or.inr ⟨rfl, ?_⟩)
    · refine c_seq (Or.inl rfl) w p1.1 hi (fun h1 f1 t1 => ⟨v, ?_⟩)
      have g1 : Fr f7r h h1 := f1.mono (sq_7r 59 (Or.inl rfl))
      rw [nI_clamp (by omega), ((p1.fr g1 f7r_1).1.2.2.2 i hi).2.1]
      have g2 : Fr f7r h (sL h1 98 0 (nI (dL D i)).toInt64) := g1.trans ((f98 h1 _).mono no_7r)
      have g3 : Fr f7r h (sI (sL h1 98 0 (nI (dL D i)).toInt64) 63 0 (0 : Int32)) := g1.trans ((f980 h1 _ _).mono no_7r)
      refine wp_X10_runSource E 199 _ _ _ (r_isI w (p1.fr g2 f7r_1).2.1 ?_)
      rw [inr_yes hi (by omega), sL_1, f1.i 63 38 rfl, p7.2.2.1]
      refine bq_f (by decide) (br_t (pn.mpr z) (thr_n (r_seq w (p1.fr g3 f7r_1).2.1 hi (fun h4 f4 t4 => ⟨v, ?_⟩))))
      have g4 : Fr f7r h h4 := g3.trans (f4.mono do_7r)
      rw [nI_clamp (by omega), ((p1.fr g4 f7r_1).2.1.2.2.2.2.2 i hi).1]
      refine tl_ok (by rw [f4.i 63 0 rfl, sI_at]) ?_ (hK E _ rfl ⟨D, S, Q, N, hs, sr, n0, L, pd, p0, p1.fr g4 f7r_1, p2.fr g4 f7r_2, p3.fr g4 f7r_3, p4.fr g4 f7r_4, p5.fr g4 f7r_5, p6.fr g4 f7r_6, ⟨?_, ?_, ?_, p7.2.2.2⟩, (p8.fr g4 f7r_8).up⟩)
      · rw [f4.g 98 (fun _ => rfl)]; exact l98 _ _ _
      · rw [f4.f 59 (fun _ => rfl), sI_n _ _ _ _ (by decide), sL_1, t1, t4, sI_n _ _ _ _ (by decide), sL_1, f1.f 87 (fun _ => rfl), p7.1]
      · rw [f4.i 58 1 rfl, sI_n _ _ _ _ (by decide), sL_1, f1.i 58 1 rfl]; exact p7.2.1
      · rw [f4.i 63 38 rfl, sI_j (by decide), sL_1, f1.i 63 38 rfl]; exact p7.2.2.1
    · refine wp_X10_runSource E 199 _ h _ (r_isI w p1.2.1 ?_)
      rw [inr_yes hi (by omega), p7.2.2.1]
      exact bq_f (by decide) (br_f (fun y => z (pn.mp y)) (thr_y (k := 2) rfl (by decide) (by decide) (tl_er (by decide) (sI_at _ _ _ _) (hK E _ rfl (hI.keep ((Fr.refl h).si rfl))))))
  · refine wp_X10_runSource E 199 _ h _ (r_isI w p1.2.1 ?_)
    rw [q]
    exact bq_t rfl (thr_y (k := 1) rfl (by decide) (by decide) (tl_er (by decide) (sI_at _ _ _ _) (hK E _ rfl (hI.keep ((Fr.refl h).si rfl)))))
theorem ob34 : Ob34 Iv := by
  intro E h n hn hI K hK
  obtain ⟨D, S, Q, N, hs, sr, n0, L, pd, p0, p1, p2, p3, p4, p5, p6, p7, p8⟩ := id hI
  have w := p0.1
  have wq := (StR.ok p0.1 p0.2.1 _ Q (Nat.le_refl _) p0.2.2.2).wf p0.1
  obtain ⟨rk, hrk⟩ := wq.2.2.1
  have pn := oI_none p7.2.2.2 wq.1
  refine wp_L_resume E 199 h _ (wp_X9_resume E 193 h _ _ ?_)
  rw [p7.2.1]
  refine bj_if pn (fun z => ?_) (fun z => ⟨rfl, ?_⟩)
  · refine c_runW w wq p1.1 p2.2.2.1 p7.2.1 p7.2.2.2 (fun h1 f1 t1 e1 => ?_)
    have g1 : Fr f7r h h1 := f1.mono run_7r
    have g3 : ∀ v, Fr f7r h (sI (sL h1 98 0 v) 63 0 (0 : Int32)) := fun v => g1.trans ((f980 h1 _ _).mono no_7r)
    have m24 : rnW D Q 24 24 pd 0 (h.1 59) = rnW D Q 2147483647 24 pd 0 (h.1 59) := by
      refine rnW_24 hrk 24 pd 0 _ ?_ (by decide)
      cases hp : pd with
      | none => trivial
      | some a => exact ⟨p7.2.2.2 a hp, (hrk a (p7.2.2.2 a hp)).2.1⟩
    refine wp_X10_resume E 199 _ _ ?_
    rw [sL_1, f1.i 63 38 rfl, p7.2.2.1]
    refine bq_f (fun y => z (pn.mp y)) (thr_n ?_)
    rw [sI_j (show 38 ≠ 0 by decide), sL_1, f1.i 63 38 rfl, p7.2.2.1]
    refine r_goes w wq (p1.fr (g3 _) f7r_1).2.1 (p2.fr (g3 _) f7r_2).2.2.2 p7.2.2.2 (fun h4 f4 t4 e4 => ?_)
    have g4 : Fr f7r h h4 := (g3 _).trans (f4.mono go_7r)
    have x87 : (sI (sL h1 98 0 (nI (rnW D Q 24 24 pd 0 (h.1 59)).1).toInt64) 63 0 (0 : Int32)).1 87 = h.1 59 := by rw [sI_n _ _ _ _ (by decide), sL_1, f1.f 87 (fun _ => rfl), p7.1]
    rw [x87, ← m24] at t4 e4 ⊢
    refine tl_ok (by rw [f4.i 63 0 rfl, sI_at]) ?_ (hK E _ rfl ⟨D, S, Q, N, hs, sr, n0, L, (rnW D Q 24 24 pd 0 (h.1 59)).2.1, p0, p1.fr g4 f7r_1, p2.fr g4 f7r_2, p3.fr g4 f7r_3, p4.fr g4 f7r_4, p5.fr g4 f7r_5, p6.fr g4 f7r_6, ⟨?_, ?_, e4, rnW_in hrk _ _ _ _ p7.2.2.2⟩, (p8.fr g4 f7r_8).up⟩)
    · rw [f4.g 98 (fun _ => rfl)]; exact l98 _ _ _
    · rw [f4.f 59 (fun _ => rfl), sI_n _ _ _ _ (by decide), sL_1, t1, t4]
    · rw [f4.i 58 1 rfl, sI_n _ _ _ _ (by decide), sL_1]; exact e1
  · refine wp_X10_resume E 199 h _ ?_
    rw [p7.2.2.1]
    exact bq_t (pn.mpr z) (thr_y (k := 1) rfl (by decide) (by decide) (tl_er (by decide) (sI_at _ _ _ _) (hK E _ rfl (hI.keep ((Fr.refl h).si rfl)))))
theorem ob33 : Ob33 Iv := by
  intro a1 a2 E h n hn hI K hK
  obtain ⟨D, S, Q, N, hs, sr, n0, L, pd, p0, p1, p2, p3, p4, p5, p6, p7, p8⟩ := id hI
  have w := p0.1
  have h8 := w.2.2.1
  have wq := (StR.ok p0.1 p0.2.1 _ Q (Nat.le_refl _) p0.2.2.2).wf p0.1
  obtain ⟨rk, hrk⟩ := wq.2.2.1
  have pn := oI_none p7.2.2.2 wq.1
  refine wp_L_start E 199 _ _ h _ (wp_X9_start E 193 _ _ h _ _ (c_chkI w p1.1 (fun i hi e => ?_) (fun q => Or.inl ⟨rfl, ?_⟩)))
  · subst e
    have v : vp_in (nI i) 8 := vp_in_nI (by omega) (by decide)
    have hE : ∀ x, qE Q i = some x → x < qN Q := fun x e => by
      obtain ⟨a, a1, a2⟩ := wq.2.2.2 i hi
      rw [a2] at e
      cases e; exact a1
    refine ⟨fun z0 => wp_X9_checkIdle E 192 h _ _ ?_, fun z0 => Or.inr (Or.inl ⟨rfl, ?_⟩)⟩
    · rw [p7.2.1]
      refine ek_if pn (fun z => ⟨v, ?_⟩) (fun z => Or.inr (Or.inr ⟨rfl, ?_⟩))
      · rw [nI_clamp (by omega), p2.2.2.1.2.2 i hi]
        have fz : Fr f7r h (sI h 58 1 (oI (qE Q i))) := (Fr.refl h).si rfl
        have le0 : a2 ≤ 0 ↔ a2 = 0 := by
          rw [fa_le] at z0 ⊢
          rw [fa_eq]
          have : (0 : Int32).toInt = 0 := rfl
          omega
        refine ⟨fun y0 => ?_, fun y0 => ?_⟩
        · refine c_runW w wq (p1.fr fz f7r_1).1 (p2.fr fz f7r_2).2.2.1 (sI_at _ _ _ _) hE (fun h1 f1 t1 e1 => ?_)
          rw [sI_n _ _ _ _ (show 59 ≠ 58 by decide)] at t1 e1 ⊢
          have g1 : Fr f7r h h1 := fz.trans (f1.mono run_7r)
          have g3 : ∀ v, Fr f7r h (sI (sL h1 98 0 v) 63 0 (0 : Int32)) := fun v => g1.trans ((f980 h1 _ _).mono no_7r)
          have g2 : ∀ v, Fr f7r h (sL h1 98 0 v) := fun v => g1.trans ((f98 h1 _).mono no_7r)
          refine wp_X10_start E 199 _ _ _ _ (r_isI w (p1.fr (g2 _) f7r_1).2.1 ?_)
          rw [inr_yes hi (by omega), sL_1, f1.i 63 38 rfl, sI_n _ _ _ _ (show 63 ≠ 58 by decide), p7.2.2.1]
          refine bq_f (by decide) (br_t z0 (br_t (pn.mpr z) (thr_n (br_f (fun y => y0 (le0.mp y)) ⟨v, ?_⟩))))
          rw [nI_clamp (by omega), (p2.fr (g3 _) f7r_2).2.2.2.2.2 i hi]
          refine r_goes w wq (p1.fr (g3 _) f7r_1).2.1 (p2.fr (g3 _) f7r_2).2.2.2 hE (fun h4 f4 t4 e4 => ?_)
          have g4 : Fr f7r h h4 := (g3 _).trans (f4.mono go_7r)
          have x87 : ∀ v, (sI (sL h1 98 0 v) 63 0 (0 : Int32)).1 87 = h.1 59 := fun v => by rw [sI_n _ _ _ _ (by decide), sL_1, f1.f 87 (fun _ => rfl), sI_n _ _ _ _ (by decide), p7.1]
          rw [x87] at t4 e4 ⊢
          refine tl_ok (by rw [f4.i 63 0 rfl, sI_at]) ?_ (hK E _ rfl ⟨D, S, Q, N, hs, sr, n0, L, (rnW D Q a2 24 (qE Q i) 0 (h.1 59)).2.1, p0, p1.fr g4 f7r_1, p2.fr g4 f7r_2, p3.fr g4 f7r_3, p4.fr g4 f7r_4, p5.fr g4 f7r_5, p6.fr g4 f7r_6, ⟨?_, ?_, e4, rnW_in hrk _ _ _ _ hE⟩, (p8.fr g4 f7r_8).up⟩)
          · rw [f4.g 98 (fun _ => rfl)]; exact l98 _ _ _
          · rw [f4.f 59 (fun _ => rfl), sI_n _ _ _ _ (by decide), sL_1, t1, t4]
          · rw [f4.i 58 1 rfl, sI_n _ _ _ _ (by decide), sL_1]; exact e1
        · have g2 : ∀ v, Fr f7r h (sL (sI h 58 1 (oI (qE Q i))) 98 0 v) := fun v => fz.trans ((f98 _ _).mono no_7r)
          have g3 : ∀ v, Fr f7r h (sI (sL (sI h 58 1 (oI (qE Q i))) 98 0 v) 63 0 (0 : Int32)) := fun v => fz.trans ((f980 _ _ _).mono no_7r)
          refine wp_X10_start E 199 _ _ _ _ (r_isI w (p1.fr (g2 _) f7r_1).2.1 ?_)
          rw [inr_yes hi (by omega), sL_1, sI_n _ _ _ _ (show 63 ≠ 58 by decide), p7.2.2.1]
          refine bq_f (by decide) (br_t z0 (br_t (pn.mpr z) (thr_n (br_t (le0.mpr y0) ⟨v, ?_⟩))))
          rw [nI_clamp (by omega), (p2.fr (g3 _) f7r_2).2.2.2.2.2 i hi]
          have g4 : ∀ v, Fr f7r h (sI (sI (sL (sI h 58 1 (oI (qE Q i))) 98 0 v) 63 0 (0 : Int32)) 63 38 (oI (qE Q i))) := fun v => (g3 v).si rfl
          refine tl_ok (by rw [sI_j (by decide), sI_at]) (by rw [sI_2]; exact l98 _ _ _) (hK E _ rfl ⟨D, S, Q, N, hs, sr, n0, L, qE Q i, p0, p1.fr (g4 _) f7r_1, p2.fr (g4 _) f7r_2, p3.fr (g4 _) f7r_3, p4.fr (g4 _) f7r_4, p5.fr (g4 _) f7r_5, p6.fr (g4 _) f7r_6, ⟨?_, ?_, sI_at _ _ _ _, hE⟩, (p8.fr (g4 _) f7r_8).up⟩)
          · rw [sI_n _ _ _ _ (by decide), sI_n _ _ _ _ (by decide), sL_1, sI_n _ _ _ _ (by decide), sI_n _ _ _ _ (by decide), sI_n _ _ _ _ (by decide), sL_1, sI_n _ _ _ _ (by decide)]; exact p7.1
          · rw [sI_n _ _ _ _ (by decide), sI_n _ _ _ _ (by decide), sL_1, sI_at]
      · refine wp_X10_start E 199 _ _ h _ (r_isI w p1.2.1 ?_)
        rw [inr_yes hi (by omega), p7.2.2.1]
        exact bq_f (by decide) (br_t z0 (br_f (fun y => z (pn.mp y)) (thr_y (k := 3) rfl (by decide) (by decide) (tl_er (by decide) (sI_at _ _ _ _) (hK E _ rfl (hI.keep ((Fr.refl h).si rfl)))))))
    · refine wp_X10_start E 199 _ _ h _ (r_isI w p1.2.1 ?_)
      rw [inr_yes hi (by omega)]
      exact bq_f (by decide) (br_f z0 (thr_y (k := 2) rfl (by decide) (by decide) (tl_er (by decide) (sI_at _ _ _ _) (hK E _ rfl (hI.keep ((Fr.refl h).si rfl))))))
  · refine wp_X10_start E 199 _ _ h _ (r_isI w p1.2.1 ?_)
    rw [q]
    exact bq_t rfl (thr_y (k := 1) rfl (by decide) (by decide) (tl_er (by decide) (sI_at _ _ _ _) (hK E _ rfl (hI.keep ((Fr.refl h).si rfl)))))
