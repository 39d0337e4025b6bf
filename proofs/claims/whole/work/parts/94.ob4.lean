/-! obligations: write, registers, fields -/
def f6 (c j : Nat) : Bool := b6 c j || fNo c j
theorem f6_1 (c j : Nat) (q : b1 c j = true) : f6 c j = false := by
  unfold b1 isSrcC isSrcR at q
  unfold f6 b6 fNo
  simp only [Bool.or_eq_true, Bool.and_eq_true, decide_eq_true_eq, beq_iff_eq] at q
  simp only [Bool.or_eq_false_iff, Bool.and_eq_false_iff, decide_eq_false_iff_not, beq_eq_false_iff_ne]
  omega
theorem f6_2 (c j : Nat) (q : b2 c j = true) : f6 c j = false := by
  unfold b2 at q
  unfold f6 b6 fNo
  simp only [Bool.or_eq_true, Bool.and_eq_true, decide_eq_true_eq, beq_iff_eq] at q
  simp only [Bool.or_eq_false_iff, Bool.and_eq_false_iff, decide_eq_false_iff_not, beq_eq_false_iff_ne]
  omega
theorem f6_3 (c j : Nat) (q : b3 c j = true) : f6 c j = false := by
  unfold b3 at q
  unfold f6 b6 fNo
  simp only [Bool.or_eq_true, Bool.and_eq_true, decide_eq_true_eq, beq_iff_eq] at q
  simp only [Bool.or_eq_false_iff, Bool.and_eq_false_iff, decide_eq_false_iff_not, beq_eq_false_iff_ne]
  omega
theorem f6_4 (c j : Nat) (q : b4 c j = true) : f6 c j = false := by
  unfold b4 at q
  unfold f6 b6 fNo
  simp only [Bool.or_eq_true, Bool.and_eq_true, decide_eq_true_eq, beq_iff_eq] at q
  simp only [Bool.or_eq_false_iff, Bool.and_eq_false_iff, decide_eq_false_iff_not, beq_eq_false_iff_ne]
  omega
theorem f6_5 (c j : Nat) (q : b5 c j = true) : f6 c j = false := by
  unfold b5 at q
  unfold f6 b6 fNo
  simp only [Bool.or_eq_true, Bool.and_eq_true, decide_eq_true_eq, beq_iff_eq] at q
  simp only [Bool.or_eq_false_iff, Bool.and_eq_false_iff, decide_eq_false_iff_not, beq_eq_false_iff_ne]
  omega
theorem f6_7 (c j : Nat) (q : b7 c j = true) : f6 c j = false := by
  unfold b7 at q
  unfold f6 b6 fNo
  simp only [Bool.or_eq_true, Bool.and_eq_true, decide_eq_true_eq, beq_iff_eq] at q
  simp only [Bool.or_eq_false_iff, Bool.and_eq_false_iff, decide_eq_false_iff_not, beq_eq_false_iff_ne]
  omega
theorem f6_8 (c j : Nat) (q : b8 c j = true) : f6 c j = false := by
  unfold b8 at q
  unfold f6 b6 fNo
  simp only [Bool.or_eq_true, Bool.and_eq_true, decide_eq_true_eq, beq_iff_eq] at q
  simp only [Bool.or_eq_false_iff, Bool.and_eq_false_iff, decide_eq_false_iff_not, beq_eq_false_iff_ne]
  omega
def f7 (c j : Nat) : Bool := b7 c j || fNo c j
theorem f7_1 (c j : Nat) (q : b1 c j = true) : f7 c j = false := by
  unfold b1 isSrcC isSrcR at q
  unfold f7 b7 fNo
  simp only [Bool.or_eq_true, Bool.and_eq_true, decide_eq_true_eq, beq_iff_eq] at q
  simp only [Bool.or_eq_false_iff, Bool.and_eq_false_iff, decide_eq_false_iff_not, beq_eq_false_iff_ne]
  omega
theorem f7_2 (c j : Nat) (q : b2 c j = true) : f7 c j = false := by
  unfold b2 at q
  unfold f7 b7 fNo
  simp only [Bool.or_eq_true, Bool.and_eq_true, decide_eq_true_eq, beq_iff_eq] at q
  simp only [Bool.or_eq_false_iff, Bool.and_eq_false_iff, decide_eq_false_iff_not, beq_eq_false_iff_ne]
  omega
theorem f7_3 (c j : Nat) (q : b3 c j = true) : f7 c j = false := by
  unfold b3 at q
  unfold f7 b7 fNo
  simp only [Bool.or_eq_true, Bool.and_eq_true, decide_eq_true_eq, beq_iff_eq] at q
  simp only [Bool.or_eq_false_iff, Bool.and_eq_false_iff, decide_eq_false_iff_not, beq_eq_false_iff_ne]
  omega
theorem f7_4 (c j : Nat) (q : b4 c j = true) : f7 c j = false := by
  unfold b4 at q
  unfold f7 b7 fNo
  simp only [Bool.or_eq_true, Bool.and_eq_true, decide_eq_true_eq, beq_iff_eq] at q
  simp only [Bool.or_eq_false_iff, Bool.and_eq_false_iff, decide_eq_false_iff_not, beq_eq_false_iff_ne]
  omega
theorem f7_5 (c j : Nat) (q : b5 c j = true) : f7 c j = false := by
  unfold b5 at q
  unfold f7 b7 fNo
  simp only [Bool.or_eq_true, Bool.and_eq_true, decide_eq_true_eq, beq_iff_eq] at q
  simp only [Bool.or_eq_false_iff, Bool.and_eq_false_iff, decide_eq_false_iff_not, beq_eq_false_iff_ne]
  omega
theorem f7_6 (c j : Nat) (q : b6 c j = true) : f7 c j = false := by
  unfold b6 at q
  unfold f7 b7 fNo
  simp only [Bool.or_eq_true, Bool.and_eq_true, decide_eq_true_eq, beq_iff_eq] at q
  simp only [Bool.or_eq_false_iff, Bool.and_eq_false_iff, decide_eq_false_iff_not, beq_eq_false_iff_ne]
  omega
theorem f7_8 (c j : Nat) (q : b8 c j = true) : f7 c j = false := by
  unfold b8 at q
  unfold f7 b7 fNo
  simp only [Bool.or_eq_true, Bool.and_eq_true, decide_eq_true_eq, beq_iff_eq] at q
  simp only [Bool.or_eq_false_iff, Bool.and_eq_false_iff, decide_eq_false_iff_not, beq_eq_false_iff_ne]
  omega
def f3k (c j : Nat) : Bool := fKn c j || fNo c j
theorem f3k_1 (c j : Nat) (q : b1 c j = true) : f3k c j = false := by
  unfold b1 isSrcC isSrcR at q
  unfold f3k fKn fNo
  simp only [Bool.or_eq_true, Bool.and_eq_true, decide_eq_true_eq, beq_iff_eq] at q
  simp only [Bool.or_eq_false_iff, Bool.and_eq_false_iff, decide_eq_false_iff_not, beq_eq_false_iff_ne]
  omega
theorem f3k_2 (c j : Nat) (q : b2 c j = true) : f3k c j = false := by
  unfold b2 at q
  unfold f3k fKn fNo
  simp only [Bool.or_eq_true, Bool.and_eq_true, decide_eq_true_eq, beq_iff_eq] at q
  simp only [Bool.or_eq_false_iff, Bool.and_eq_false_iff, decide_eq_false_iff_not, beq_eq_false_iff_ne]
  omega
theorem f3k_4 (c j : Nat) (q : b4 c j = true) : f3k c j = false := by
  unfold b4 at q
  unfold f3k fKn fNo
  simp only [Bool.or_eq_true, Bool.and_eq_true, decide_eq_true_eq, beq_iff_eq] at q
  simp only [Bool.or_eq_false_iff, Bool.and_eq_false_iff, decide_eq_false_iff_not, beq_eq_false_iff_ne]
  omega
theorem f3k_5 (c j : Nat) (q : b5 c j = true) : f3k c j = false := by
  unfold b5 at q
  unfold f3k fKn fNo
  simp only [Bool.or_eq_true, Bool.and_eq_true, decide_eq_true_eq, beq_iff_eq] at q
  simp only [Bool.or_eq_false_iff, Bool.and_eq_false_iff, decide_eq_false_iff_not, beq_eq_false_iff_ne]
  omega
theorem f3k_6 (c j : Nat) (q : b6 c j = true) : f3k c j = false := by
  unfold b6 at q
  unfold f3k fKn fNo
  simp only [Bool.or_eq_true, Bool.and_eq_true, decide_eq_true_eq, beq_iff_eq] at q
  simp only [Bool.or_eq_false_iff, Bool.and_eq_false_iff, decide_eq_false_iff_not, beq_eq_false_iff_ne]
  omega
theorem f3k_7 (c j : Nat) (q : b7 c j = true) : f3k c j = false := by
  unfold b7 at q
  unfold f3k fKn fNo
  simp only [Bool.or_eq_true, Bool.and_eq_true, decide_eq_true_eq, beq_iff_eq] at q
  simp only [Bool.or_eq_false_iff, Bool.and_eq_false_iff, decide_eq_false_iff_not, beq_eq_false_iff_ne]
  omega
theorem f3k_8 (c j : Nat) (q : b8 c j = true) : f3k c j = false := by
  unfold b8 at q
  unfold f3k fKn fNo
  simp only [Bool.or_eq_true, Bool.and_eq_true, decide_eq_true_eq, beq_iff_eq] at q
  simp only [Bool.or_eq_false_iff, Bool.and_eq_false_iff, decide_eq_false_iff_not, beq_eq_false_iff_ne]
  omega
theorem ob5 : Ob5 Iv := by
  intro E h n hn hI K hK
  obtain ⟨D, S, Q, N, hs, sr, n0, L, pd, p0, p1, p2, p3, p4, p5, p6, p7, p8⟩ := id hI
  obtain ⟨q1, q2, q3, q4⟩ := p6
  refine c_write (d := 192) p0.1 p1.1 p1.2.2.1 (fun h1 f1 t1 e1 => ?_)
  have g1 : Fr f6 h h1 := f1.mono (fun c j q => by
    unfold f6 b6 fNo at q
    unfold fPt
    simp only [Bool.or_eq_false_iff, Bool.and_eq_false_iff, beq_eq_false_iff_ne] at q ⊢
    omega)
  have p1' := p1.fr g1 f6_1
  refine r_write (d := 194) p0.1 p0.2.1 p1'.2.1 p1'.2.2.2 (fun h2 f2 t2 e2 e3 => br_t rfl (hK E _ rfl ?_))
  have g2 : Fr f6 h h2 := g1.trans (f2.mono (fun c j q => by
    unfold f6 b6 fNo at q
    unfold fPt
    simp only [Bool.or_eq_false_iff, Bool.and_eq_false_iff, beq_eq_false_iff_ne] at q ⊢
    omega))
  refine ⟨D, S, Q, N, hs, sr, n0, (allT D S).length, pd, p0, p1.fr g2 f6_1, p2.fr g2 f6_2, p3.fr g2 f6_3, p4.fr g2 f6_4, p5.fr g2 f6_5, ⟨allT_len p0.1, ?_, e2, ?_⟩, p7.fr g2 f6_7, (p8.fr g2 f6_8).up⟩
  · rw [f2.i 3 1 rfl]; exact e1
  · rw [f2.f 4 (fun _ => rfl), t1, t2, q4]
    rw [f1.f 92 (fun _ => rfl)]
theorem ob30 : Ob30 Iv := by
  intro a1 a2 E h n hn hI K hK
  obtain ⟨D, S, Q, N, hs, sr, n0, L, pd, p0, p1, p2, p3, p4, p5, p6, p7, p8⟩ := id hI
  refine wp_L_setRegister E 199 _ _ h _ (wp_X9_setRegister E 193 _ _ h _ _ (c_chkR (fun i hi e => ?_) (fun q => ⟨rfl, ?_⟩)))
  · subst e
    have v : vp_in (nI i) 8 := vp_in_nI (by omega) (by decide)
    rw [nI_clamp (by omega)]
    refine ⟨v, v, wp_X10_setRegister E 199 _ _ _ _ (r_isK (k := 7) rfl (by decide) ?_)⟩
    rw [inr_yes hi (by omega)]
    refine br_f (by decide) (thr_n ⟨v, v, ?_⟩)
    rw [nI_clamp (by omega), sI_n _ _ _ _ (show 87 ≠ 63 by decide), sL_1, sI_n _ _ _ _ (show 87 ≠ 59 by decide), ← p7.1]
    have ff : Fr f7 h (sI (sI (sL (sI h 59 i a2) 98 0 (h.1 59 i).toInt64) 63 0 (0 : Int32)) 87 i a2) := ((((Fr.refl h).si rfl).sl rfl).si rfl).si rfl
    refine tl_ok ?_ ?_ (hK E _ rfl ⟨D, S, Q, N, hs, sr, n0, L, pd, p0, p1.fr ff f7_1, p2.fr ff f7_2, p3.fr ff f7_3, p4.fr ff f7_4, p5.fr ff f7_5, p6.fr ff f7_6, ⟨?_, ?_, ?_, p7.2.2.2⟩, (p8.fr ff f7_8).up⟩)
    · rw [sI_n _ _ _ _ (by decide), sI_at]
    · rw [sI_2]; exact l98 _ _ _
    · rw [sI_n _ _ _ _ (show 59 ≠ 87 by decide), sI_n _ _ _ _ (show 59 ≠ 63 by decide), sL_1, sI_s, sI_s, sI_n _ _ _ _ (show 87 ≠ 63 by decide), sL_1, sI_n _ _ _ _ (show 87 ≠ 59 by decide), p7.1]
    · rw [sI_n _ _ _ _ (by decide), sI_n _ _ _ _ (by decide), sL_1, sI_n _ _ _ _ (by decide)]; exact p7.2.1
    · rw [sI_n _ _ _ _ (by decide), sI_j (by decide), sL_1, sI_n _ _ _ _ (by decide)]; exact p7.2.2.1
  · refine wp_X10_setRegister E 199 _ _ h _ (r_isK (k := 7) rfl (by decide) ?_)
    rw [q]
    exact br_t rfl (thr_y (k := 1) rfl (by decide) (by decide) (tl_er (by decide) (sI_at _ _ _ _) (hK E _ rfl (hI.keep ((Fr.refl h).si rfl)))))
/-- after the fields are known -/
theorem Iv_known {h h1 h' : Hp} {n : Nat} {D : SD} {S : ST} {Q : SO} {N sr n0 L : Nat} {hs : Nat → ST} {pd : Option Nat} (p0 : B0 D S Q) (p1 : B1 D S h) (p2 : B2 D S Q h) (p3 : B3 Q h) (p4 : B4 D S N hs h) (p5 : B5 n0 h) (p6 : B6 L h) (p7 : B7 Q pd h) (p8 : B8 n sr h) (f1 : Fr fKn h h1) (e : h1.1 51 0 = 1) (fc : FldC (fl Q) h1) (f : Fr fNo h1 h') : Iv (n + 1) h' := by
  have g : Fr f3k h h' := (f1.mono (fun c j q => by
    unfold f3k at q
    simp only [Bool.or_eq_false_iff] at q
    exact q.1)).trans (f.mono (fun c j q => by
    unfold f3k at q
    simp only [Bool.or_eq_false_iff] at q
    exact q.2))
  refine ⟨D, S, Q, N, hs, sr, n0, L, pd, p0, p1.fr g f3k_1, p2.fr g f3k_2, ⟨Or.inr ⟨by rw [f.i 51 0 rfl]; exact e, fc.fr f (fun c j h1 h2 => ?_)⟩, ?_⟩, p4.fr g f3k_4, p5.fr g f3k_5, p6.fr g f3k_6, p7.fr g f3k_7, (p8.fr g f3k_8).up⟩
  · unfold fNo
    simp only [Bool.or_eq_false_iff, Bool.and_eq_false_iff, beq_eq_false_iff_ne]
    omega
  · exact (p3.2.fr f1 rfl rfl (fun _ => rfl)).fr f rfl rfl (fun _ => rfl)
theorem ob25 : Ob25 Iv := by
  intro E h n hn hI K hK
  obtain ⟨D, S, Q, N, hs, sr, n0, L, pd, p0, p1, p2, p3, p4, p5, p6, p7, p8⟩ := id hI
  have wq := (StR.ok p0.1 p0.2.1 _ Q (Nat.le_refl _) p0.2.2.2).wf p0.1
  refine wp_X9_fieldCount E 199 h _ (c_know p0.1 wq p2.2.2.1 (by decide) p3.1 (fun h1 f1 e1 fc => wp_X10_fieldCount E 200 h1 _ (br_t ?_ (hK E _ rfl (Iv_known p0 p1 p2 p3 p4 p5 p6 p7 p8 f1 e1 fc ((Fr.refl h1).si rfl))))))
  rw [fc.1, f1.i 63 30 rfl, p3.2.1]
theorem ob26 : Ob26 Iv := by
  intro E h n hn hI K hK
  obtain ⟨D, S, Q, N, hs, sr, n0, L, pd, p0, p1, p2, p3, p4, p5, p6, p7, p8⟩ := id hI
  have wq := (StR.ok p0.1 p0.2.1 _ Q (Nat.le_refl _) p0.2.2.2).wf p0.1
  refine wp_X9_fieldBits E 199 h _ (c_know p0.1 wq p2.2.2.1 (by decide) p3.1 (fun h1 f1 e1 fc => wp_X10_fieldBits E 200 h1 _ (br_t ?_ (hK E _ rfl (Iv_known p0 p1 p2 p3 p4 p5 p6 p7 p8 f1 e1 fc ((Fr.refl h1).si rfl))))))
  rw [fc.2.1, f1.i 63 31 rfl, p3.2.2.1]
