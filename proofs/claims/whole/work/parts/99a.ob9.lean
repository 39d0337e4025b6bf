/-! obligations: changes -/
def fCg (c j : Nat) : Bool := fPA c j || fLA c j || (c == 0 && j == 10) || c == 16 || c == 68 || fRe c j || fKe c j || fNo c j
theorem srcC_ch (c j : Nat) (e : isSrcC c j = true) : fCg c j = false := by
  have e1 := srcC_pa c j e
  unfold fCg
  rw [e1]
  unfold isSrcC at e
  unfold fLA fRe fKe fNo
  simp only [Bool.or_eq_true, Bool.and_eq_true, decide_eq_true_eq, beq_iff_eq] at e
  simp only [Bool.false_or, Bool.or_eq_false_iff, Bool.and_eq_false_iff, decide_eq_false_iff_not, beq_eq_false_iff_ne]
  omega
theorem srcR_ch (c j : Nat) (e : isSrcR c j = true) : fCg c j = false := by
  have e1 := srcR_lA c j e
  unfold fCg
  rw [e1]
  unfold isSrcR at e
  unfold fPA fFi fPk fRe fKe fNo
  simp only [Bool.or_eq_true, Bool.and_eq_true, decide_eq_true_eq, beq_iff_eq] at e
  simp only [Bool.or_false, Bool.or_eq_false_iff, Bool.and_eq_false_iff, decide_eq_false_iff_not, beq_eq_false_iff_ne]
  omega
theorem ch_5 (c j : Nat) (q : b5 c j = true) : fCg c j = false := by
  unfold b5 at q
  unfold fCg fPA fFi fPk fLA fRe fKe fNo
  simp only [Bool.or_eq_true, Bool.and_eq_true, decide_eq_true_eq, beq_iff_eq] at q
  simp only [Bool.or_eq_false_iff, Bool.and_eq_false_iff, decide_eq_false_iff_not, beq_eq_false_iff_ne]
  omega
theorem ch_6 (c j : Nat) (q : b6 c j = true) : fCg c j = false := by
  unfold b6 at q
  unfold fCg fPA fFi fPk fLA fRe fKe fNo
  simp only [Bool.or_eq_true, Bool.and_eq_true, decide_eq_true_eq, beq_iff_eq] at q
  simp only [Bool.or_eq_false_iff, Bool.and_eq_false_iff, decide_eq_false_iff_not, beq_eq_false_iff_ne]
  omega
theorem pa_ch (c j : Nat) (q : fCg c j = false) : fPA c j = false := by
  unfold fCg at q
  simp only [Bool.or_eq_false_iff] at q
  exact q.1.1.1.1.1.1.1
theorem la_ch (c j : Nat) (q : fCg c j = false) : fLA c j = false := by
  unfold fCg at q
  simp only [Bool.or_eq_false_iff] at q
  exact q.1.1.1.1.1.1.2
theorem re_ch (c j : Nat) (q : fCg c j = false) : fRe c j = false := by
  unfold fCg at q
  simp only [Bool.or_eq_false_iff] at q
  exact q.1.1.2
theorem ke_ch (c j : Nat) (q : fCg c j = false) : fKe c j = false := by
  unfold fCg at q
  simp only [Bool.or_eq_false_iff] at q
  exact q.1.2
theorem no_ch (c j : Nat) (q : fCg c j = false) : fNo c j = false := by
  unfold fCg at q
  simp only [Bool.or_eq_false_iff] at q
  exact q.2
theorem p16_ch (c j : Nat) (q : fCg c j = false) : (fPA c j || c == 16) = false := by
  unfold fCg at q
  simp only [Bool.or_eq_false_iff] at q ⊢
  exact ⟨q.1.1.1.1.1.1.1, q.1.1.1.1.2⟩
theorem Iv_chg {h h' : Hp} {n : Nat} {D : SD} {S S' : ST} {Q Q1 Q2 : SO} {N' sr sr' n0 L : Nat} {hs' : Nat → ST} {pd : Option Nat} (p0 : B0 D S Q) (p1 : B1 D S h) (p5 : B5 n0 h) (p6 : B6 L h) (p7 : B7 Q pd h) (p8 : B8 n sr h) (g : Fr fCg h h') (ws' : WfS D S') (cst : CSt D S' h') (rst : RSt D S' h') (wi : ∀ i, i < dI D → WI D S' i h') (rw1 : RW D S' (dI D) h') (s1 : StR D S' (dI D) Q1) (c1 : CSto D Q1 h') (s2 : StR D S' (dI D) Q2) (c2 : RSto D Q2 h') (k0 : h'.1 51 0 = 0) (fd : FldR (fl Q2) h') (hi : Hist D N' hs' h') (hN : hs' N' = S') (e58 : h'.1 58 1 = -1) (e38 : h'.1 63 38 = -1) (tf : TF0 sr' h') (hsr : sr' ≤ sr + 192) : Iv (n + 1) h' := by
  have eq := StR.uq p0.1 ws' _ Q1 Q2 (Nat.le_refl _) s1 s2
  subst eq
  refine ⟨D, S', Q1, N', hs', sr', n0, L, none, ⟨p0.1, ws', p0.2.2.1, s1⟩, ⟨p1.1.fr g srcC_ch, p1.2.1.fr g srcR_ch, cst, rst⟩, ⟨wi, rw1, c1, c2⟩, ⟨Or.inl k0, fd⟩, ⟨hi, hN⟩, p5.fr g ch_5, p6.fr g ch_6, ⟨?_, e58, e38, fun x e => by cases e⟩, ⟨tf, by have := p8.2; omega⟩⟩
  rw [g.f 59 (fun _ => rfl), g.f 87 (fun _ => rfl)]; exact p7.1
theorem ob14 : Ob14 Iv := by
  intro a1 E h n hn hI K hK
  obtain ⟨D, S, Q, N, hs, sr, n0, L, pd, p0, p1, p2, p3, p4, p5, p6, p7, p8⟩ := id hI
  have w := p0.1
  have h8 := w.2.2.1
  have bad : inr a1 3 = false → SpI E 200 MX10_setMode [.ref (eA E 63), .int a1] h (fun v2 h2 => SpI E 200 MX10_thrown [.ref (eA E 63)] h2 (fun v3 h3 => (v3 = (1 : Int32) → ((¬ (1 : Int32) = 0 → (K E h3)) ∧ ((1 : Int32) = 0 → (((lg_cmp (h3.2 98 0) v2.toInt64) = 0 → (K E h3)) ∧ (¬ (lg_cmp (h3.2 98 0) v2.toInt64) = 0 → (False)))))) ∧ (¬ v3 = (1 : Int32) → (False)))) := by
    intro q
    refine wp_X10_setMode E 199 _ h _ (r_isK (k := 2) rfl (by decide) ?_)
    rw [q]
    exact br_t rfl (thr_y (k := 1) rfl (by decide) (by decide) (tl_er (by decide) (sI_at _ _ _ _) (hK E _ rfl (hI.keep ((Fr.refl h).si rfl)))))
  have good : ∀ j, j < 3 → a1 = nI j → SpV E 198 MX1_remember [.ref (eA E 29), .int (-1 : Int32), .int (h.1 0 10)] h (fun h3 => SpV E 198 MX9_packAll [.ref (eA E 0)] (sI h3 0 10 a1) (fun h4 => SpI E 200 MX10_setMode [.ref (eA E 63), .int a1] (sL h4 98 0 (h4.1 46 4).toInt64) (fun v2 h2 => SpI E 200 MX10_thrown [.ref (eA E 63)] h2 (fun v3 h3 => (v3 = (0 : Int32) → ((¬ (0 : Int32) = 0 → (K E h3)) ∧ ((0 : Int32) = 0 → (((lg_cmp (h3.2 98 0) v2.toInt64) = 0 → (K E h3)) ∧ (¬ (lg_cmp (h3.2 98 0) v2.toInt64) = 0 → (False)))))) ∧ (¬ v3 = (0 : Int32) → (False)))))) := by
    intro j hj e
    subst e
    have ws' : WfS D (j, sK S) := ⟨by show j ≤ 2; omega, p0.2.1.2⟩
    rw [p1.2.2.1.1]
    refine c_rem p4.1.1 p4.1.2.1 (fun h1 f1 r1 r2 r3 r4 => ?_)
    have f2 : Fr (fun c j => c == 0 && j == 10) h1 (sI h1 0 10 (nI j)) := (Fr.refl h1).si rfl
    have g2 : Fr fCg h (sI h1 0 10 (nI j)) := (f1.mono re_ch).si rfl
    have cs2 : CSrc D (sI h1 0 10 (nI j)) := p1.1.fr g2 srcC_ch
    have ct2 : CSt D (j, sK S) (sI h1 0 10 (nI j)) := ⟨sI_at _ _ _ _, fun i hi k hk => by rw [f2.f 16 (fun _ => rfl), f1.f 16 (fun _ => rfl)]; exact p1.2.2.1.2 i hi k hk⟩
    have tf2 : TF0 sr (sI h1 0 10 (nI j)) := (p8.1.fr f1 rfl (fun _ => rfl)).fr f2 rfl (fun _ => rfl)
    refine c_packAll (d := 61) w ws' cs2 ct2 tf2 (by have := p8.2; omega) (fun h4 Q1 sr' f4 wi4 s1 c1 k0 e58 tf4 hsr => ?_)
    have g4 : Fr fCg h h4 := g2.trans (f4.mono pa_ch)
    have g5 : ∀ v, Fr fCg h (sI (sL h4 98 0 v) 63 0 (0 : Int32)) := fun v => g4.trans ((f980 h4 _ _).mono no_ch)
    have f45 : ∀ v, Fr fNo h4 (sI (sL h4 98 0 v) 63 0 (0 : Int32)) := fun v => f980 h4 _ _
    refine wp_X10_setMode E 199 _ _ _ (r_isK (k := 2) rfl (by decide) ?_)
    rw [inr_yes hj (by decide)]
    refine br_f (by decide) (thr_n ?_)
    have x33 : ∀ v, (sI (sL h4 98 0 v) 63 0 (0 : Int32)).1 63 33 = nI N := fun v => by rw [sI_j (by decide), sL_1, f4.i 63 33 rfl, f2.i 63 33 rfl, f1.i 63 33 rfl]; exact p4.1.2.2.1
    refine r_keeps p4.1.1 (x33 _) (fun h6 f6 k1 k2 k3 => ⟨vp_in_nI (n := 0) (by decide) (by decide), ?_⟩)
    rw [show ((0 : Int32).toNatClampNeg) = 0 from rfl]
    have g6 : Fr fCg h h6 := (g5 _).trans (f6.mono ke_ch)
    have g7 : Fr fCg h (sI h6 68 0 (nI j)) := g6.si rfl
    have rst : RSt D (j, sK S) (sI h6 68 0 (nI j)) := ⟨sI_at _ _ _ _, fun i hi => by
      rw [sI_j (by omega), f6.f 68 (fun _ => rfl), sI_n _ _ _ _ (by decide), sL_1, f4.f 68 (fun _ => rfl), f2.f 68 (fun _ => rfl), f1.f 68 (fun _ => rfl)]
      exact p1.2.2.2.2 i hi⟩
    refine r_laysAll w ws' (p1.2.1.fr g7 srcR_ch) rst (fun h8' Q2 f8 rw8 s2 c2 fd e38 => ?_)
    have g8 : Fr fCg h h8' := g7.trans (f8.mono la_ch)
    have eq := StR.uq w ws' _ Q1 Q2 (Nat.le_refl _) s1 s2
    -- from the class's last heap to the end
    have u : Fr (fun c j => fLA c j || c == 68 || fKe c j || fNo c j) h4 h8' := by
      refine (((f45 _).mono (fun c j q => ?_)).trans (f6.mono (fun c j q => ?_))).trans (((Fr.refl h6).si (v := nI j) (c := 68) (j := 0) (by simp)).trans (f8.mono (fun c j q => ?_)))
      · simp only [Bool.or_eq_false_iff] at q; exact q.2
      · simp only [Bool.or_eq_false_iff] at q; exact q.1.2
      · simp only [Bool.or_eq_false_iff] at q; exact q.1.1.1
    have uC : ∀ c j, c ≤ 62 → (fLA c j || c == 68 || fKe c j || fNo c j) = false := fun c j hc => by
      unfold fLA fKe fNo
      simp only [Bool.or_eq_false_iff, Bool.and_eq_false_iff, decide_eq_false_iff_not, beq_eq_false_iff_ne]
      omega
    have v1 : Fr (fun c j => fPA c j || (c == 0 && j == 10)) h1 h4 := (f2.mono (fun c j q => by simp only [Bool.or_eq_false_iff] at q; exact q.2)).trans (f4.mono (fun c j q => by simp only [Bool.or_eq_false_iff] at q; exact q.1))
    have hist := p4.1.push (h' := h8') (S' := (j, sK S)) (p := -1) (f := nI (sM S)) p4.2 p0.2.1 p1.2.2.2 (Or.inl ⟨rfl, rfl, fun i hi => rfl⟩) h8 (by rw [u.i 29 2 (uC 29 2 (by decide)), v1.i 29 2 rfl]; exact r1) (by rw [f8.i 63 33 rfl, sI_n _ _ _ _ (by decide)]; exact k1) (fun x hx => by rw [u.i 30 x (uC 30 x (by decide)), u.i 31 x (uC 31 x (by decide)), v1.i 30 x rfl, v1.i 31 x rfl]; exact r2 x hx) (by rw [u.i 30 _ (uC 30 _ (by decide)), v1.i 30 _ rfl]; exact r3) (by rw [u.i 31 _ (uC 31 _ (by decide)), v1.i 31 _ rfl]; exact r4) (fun x hx => by
        rw [f8.f 86 (fun _ => rfl), sI_n _ _ _ _ (by decide), k2 x hx, sI_n _ _ _ _ (by decide), sL_1, f4.f 86 (fun _ => rfl), f2.f 86 (fun _ => rfl), f1.f 86 (fun _ => rfl)]) (fun x hx => by
        rw [f8.f 86 (fun _ => rfl), sI_n _ _ _ _ (by decide), k3 x hx, sI_n _ _ _ _ (by decide), sL_1, f4.f 68 (fun _ => rfl), f2.f 68 (fun _ => rfl), f1.f 68 (fun _ => rfl)])
    have cst8 : CSt D (j, sK S) h8' := (ct2.fr f4 rfl (fun _ => rfl)).fr u (uC 0 10 (by decide)) (fun x => uC 16 x (by decide))
    have wi8 : ∀ i, i < dI D → WI D (j, sK S) i h8' := fun i hi => (wi4 i hi).fr u (fun c h1 h2 => uC c i (by omega)) (fun c k h1 h2 _ => uC c _ (by omega))
    have cs8 : CSto D Q1 h8' := c1.fr u (uC 46 4 (by decide)) (fun c j h1 h2 => uC c j (by omega))
    rw [c2.1, ← eq]
    refine tl_ok (by rw [f8.i 63 0 rfl, sI_n _ _ _ _ (by decide), f6.i 63 0 rfl, sI_at]) ?_ (hK E _ rfl (Iv_chg p0 p1 p5 p6 p7 p8 g8 ws' cst8 (rst.fr f8 (fun _ => rfl)) wi8 rw8 s1 cs8 s2 c2 (by rw [u.i 51 0 (uC 51 0 (by decide))]; exact k0) fd hist (if_neg (by omega)) (by rw [u.i 58 1 (uC 58 1 (by decide))]; exact e58) e38 (tf4.fr u (uC 32 10 (by decide)) (fun x => uC 39 x (by decide))) hsr))
    rw [f8.g 98 (fun _ => rfl), sI_2, f6.g 98 (fun _ => rfl), l98, c1.1]
  have b := inr_br (x := a1) (n := 3) (by decide) good bad bad
  refine wp_L_setMode E 199 _ h _ (wp_X9_setMode E 193 _ h _ _ ⟨fun z => ⟨rfl, b.1 z⟩, fun z => ?_⟩)
  have key : a1 ≤ (2 : Int32) ↔ a1 < nI 3 := by
    rw [fa_le, fa_lt]
    have : (2 : Int32).toInt = 2 := rfl
    have : (nI 3).toInt = 3 := rfl
    omega
  exact ⟨fun y => (b.2 z).1 (key.mp y), fun y => ⟨rfl, (b.2 z).2 (fun x => y (key.mpr x))⟩⟩
