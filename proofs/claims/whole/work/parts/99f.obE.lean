/-! obligation: load -/
theorem fr_sw {X : Nat → Nat → Bool} {h g : Hp} (f : Fr X h g) : Fr (fun c j => X c j || (5 ≤ c && c ≤ 28)) h (swH g) := by
  intro c j e
  simp only [Bool.or_eq_false_iff, Bool.and_eq_false_iff, decide_eq_false_iff_not] at e
  have z : sw c = c := by
    unfold sw
    rw [if_neg (by omega), if_neg (by omega)]
  have := f c j e.1
  show g.1 (sw c) j = h.1 c j ∧ g.2 (sw c) j = h.2 c j
  rw [z]; exact this
theorem sw_src {D : SD} {g : Hp} (a : PSrc D g) : CSrc D (swH g) := a
/-- what a refused load changes -/
def fLe (c j : Nat) : Bool := c == 1 || (17 ≤ c && c ≤ 28) || fLd c j
theorem le_C (c j : Nat) (q : isSrcC c j = true) : fLe c j = false := by
  unfold isSrcC at q
  unfold fLe fLd fPr
  simp only [Bool.or_eq_true, Bool.and_eq_true, decide_eq_true_eq, beq_iff_eq] at q
  simp only [Bool.or_eq_false_iff, Bool.and_eq_false_iff, decide_eq_false_iff_not, beq_eq_false_iff_ne]
  omega
theorem le_2 (c j : Nat) (q : b2 c j = true) : fLe c j = false := by
  unfold b2 at q
  unfold fLe fLd fPr
  simp only [Bool.or_eq_true, Bool.and_eq_true, decide_eq_true_eq, beq_iff_eq] at q
  simp only [Bool.or_eq_false_iff, Bool.and_eq_false_iff, decide_eq_false_iff_not, beq_eq_false_iff_ne]
  omega
theorem le_3 (c j : Nat) (q : b3 c j = true) : fLe c j = false := by
  unfold b3 at q
  unfold fLe fLd fPr
  simp only [Bool.or_eq_true, Bool.and_eq_true, decide_eq_true_eq, beq_iff_eq] at q
  simp only [Bool.or_eq_false_iff, Bool.and_eq_false_iff, decide_eq_false_iff_not, beq_eq_false_iff_ne]
  omega
theorem le_4 (c j : Nat) (q : b4 c j = true) : fLe c j = false := by
  unfold b4 at q
  unfold fLe fLd fPr
  simp only [Bool.or_eq_true, Bool.and_eq_true, decide_eq_true_eq, beq_iff_eq] at q
  simp only [Bool.or_eq_false_iff, Bool.and_eq_false_iff, decide_eq_false_iff_not, beq_eq_false_iff_ne]
  omega
theorem le_6 (c j : Nat) (q : b6 c j = true) : fLe c j = false := by
  unfold b6 at q
  unfold fLe fLd fPr
  simp only [Bool.or_eq_true, Bool.and_eq_true, decide_eq_true_eq, beq_iff_eq] at q
  simp only [Bool.or_eq_false_iff, Bool.and_eq_false_iff, decide_eq_false_iff_not, beq_eq_false_iff_ne]
  omega
theorem le_7 (c j : Nat) (q : b7 c j = true) : fLe c j = false := by
  unfold b7 at q
  unfold fLe fLd fPr
  simp only [Bool.or_eq_true, Bool.and_eq_true, decide_eq_true_eq, beq_iff_eq] at q
  simp only [Bool.or_eq_false_iff, Bool.and_eq_false_iff, decide_eq_false_iff_not, beq_eq_false_iff_ne]
  omega
theorem le_8 (c j : Nat) (q : b8 c j = true) : fLe c j = false := by
  unfold b8 at q
  unfold fLe fLd fPr
  simp only [Bool.or_eq_true, Bool.and_eq_true, decide_eq_true_eq, beq_iff_eq] at q
  simp only [Bool.or_eq_false_iff, Bool.and_eq_false_iff, decide_eq_false_iff_not, beq_eq_false_iff_ne]
  omega
theorem pc_le (c j : Nat) (q : fLe c j = false) : fPc c j = false := by
  unfold fLe at q
  unfold fPc
  simp only [Bool.or_eq_false_iff, Bool.and_eq_false_iff, decide_eq_false_iff_not, beq_eq_false_iff_ne] at q ⊢
  omega
theorem ld_le (c j : Nat) (q : fLe c j = false) : fLd c j = false := by
  unfold fLe at q
  simp only [Bool.or_eq_false_iff] at q
  exact q.2
/-- all that a load changes in the class before it packs -/
def fLs (c j : Nat) : Bool := c == 1 || (5 ≤ c && c ≤ 28) || (c == 29 && j == 2)
theorem ob3 : Ob3 Iv := by
  intro E h n hn hI K hK
  obtain ⟨D, S, Q, N, hs, sr, n0, L, pd, p0, p1, p2, p3, p4, p5, p6, p7, p8⟩ := id hI
  have w := p0.1
  obtain ⟨T, eT, ok, eb⟩ := tx_of p5
  obtain ⟨q1, q2, q3, q4, q5⟩ := p5
  have cb : CBuf T h := ⟨by rw [eT]; exact q2, fun k _ => eb k⟩
  refine wp_X9_load E 199 h _ (c_read (d := 192) ok cb (fun c h1 e c0 c1 f1 => br_f (fun z => ?_) ?_) (fun D' mks h1 e f1 w' wk ald ps pm => ⟨fun _ => ?_, fun z => absurd rfl z⟩))
  · have := (nI_z (n := c) (by omega)).mp z
    omega
  · have f2 : Fr fLe h (sI h1 1 0 (0 : Int32)) := (f1.mono pc_le).si rfl
    have f3 : Fr (fun c _ => decide (c ≤ 28)) h (sI h1 1 0 (0 : Int32)) := (f1.mono (fun c j q => by
      unfold fPc
      simp only [Bool.or_eq_false_iff, Bool.and_eq_false_iff, decide_eq_false_iff_not, beq_eq_false_iff_ne] at q ⊢
      omega)).si rfl
    refine r_load w ok eT (by rw [f3.i 63 41 rfl]; exact q3) (fun k => by rw [f3.f 91 (fun _ => rfl), ← q4]; exact eb k) (p1.2.1.fr f3 (fun c j q => by
      unfold isSrcR at q
      simp only [Bool.or_eq_true, Bool.and_eq_true, decide_eq_true_eq, beq_iff_eq] at q
      exact decide_eq_false (by omega))) (p1.2.2.2.fr f3 (fun _ => rfl)) (fun c' h' e' f' e41 e0 sr' st' => ?_) (fun D' mks h' e' => ?_)
    · rw [e] at e'
      injection e' with e'
      subst e'
      have g : Fr fLe h h' := f2.trans (f'.mono ld_le)
      refine br_t rfl (hK E _ rfl ⟨D, S, Q, N, hs, sr, 0, L, pd, p0, ⟨p1.1.fr g le_C, sr', p1.2.2.1.fr g rfl (fun _ => rfl), st'⟩, p2.fr g le_2, p3.fr g le_3, p4.fr g le_4, ⟨by decide, ?_, e41, ?_, ?_⟩, p6.fr g le_6, p7.fr g le_7, (p8.fr g le_8).up⟩)
      · rw [f'.i 1 0 rfl, sI_at]; rfl
      · rw [g.f 2 (fun _ => rfl), g.f 91 (fun _ => rfl)]; exact q4
      · rw [g.f 2 (fun _ => rfl)]; exact q5
    · rw [e] at e'; cases e'
  · -- the new source is taken
    have ws' : WfS D' (sM S, mks) := WfK.wf w' wk p0.2.1.1
    have cs1 : CSrc D' (swH (sI h1 1 0 (0 : Int32))) := sw_src ps
    have g2 : Fr fLs h (swH (sI h1 1 0 (0 : Int32))) := (fr_sw ((f1.mono (S2 := fun c j => c == 1 || (17 ≤ c && c ≤ 28)) (fun c j q => by
      unfold fPc
      simp only [Bool.or_eq_false_iff, Bool.and_eq_false_iff, decide_eq_false_iff_not, beq_eq_false_iff_ne] at q ⊢
      omega)).si (c := 1) (j := 0) (v := 0) rfl)).mono (fun c j q => by
      unfold fLs at q
      simp only [Bool.or_eq_false_iff, Bool.and_eq_false_iff, decide_eq_false_iff_not, beq_eq_false_iff_ne] at q ⊢
      omega)
    have ct1 : CSt D' (sM S, mks) (swH (sI h1 1 0 (0 : Int32))) := ⟨by rw [g2.i 0 10 rfl]; exact p1.2.2.1.1, pm⟩
    refine wp_X1_forget (swE E) 199 _ _ ?_
    have x3 : Fr (fun c j => c == 29 && j == 2) (swH (sI h1 1 0 (0 : Int32))) (sI (swH (sI h1 1 0 (0 : Int32))) 29 2 (0 : Int32)) := (Fr.refl _).si rfl
    have g3 : Fr fLs h (sI (swH (sI h1 1 0 (0 : Int32))) 29 2 (0 : Int32)) := g2.si rfl
    have e10 : (sI (swH (sI h1 1 0 (0 : Int32))) 29 2 (0 : Int32)).1 1 0 = 0 := by rw [sI_n _ _ _ _ (by decide)]; exact sI_at h1 1 0 0
    have e29 : (sI (swH (sI h1 1 0 (0 : Int32))) 29 2 (0 : Int32)).1 29 2 = 0 := sI_at _ _ _ _
    have cs3 := cs1.fr x3 (fun c j q => by
      unfold isSrcC at q
      simp only [Bool.or_eq_true, Bool.and_eq_true, decide_eq_true_eq, beq_iff_eq] at q
      simp only [Bool.and_eq_false_iff, beq_eq_false_iff_ne]
      omega)
    have ct3 := ct1.fr x3 rfl (fun _ => rfl)
    have tf3 := p8.1.fr g3 rfl (fun _ => rfl)
    refine c_packAll (E := swE E) (d := 62) w' ws' cs3 ct3 tf3 (by have := p8.2; omega) (fun h4 Q1 sr' f4 wi4 s1 c1 k0 e58 tf4 hsr => ?_)
    have cs4 : CSrc D' h4 := cs3.fr f4 srcC_pa
    have ct4 := ct3.fr f4 rfl (fun _ => rfl)
    rw [cs4.2.1]
    have m63 : ∀ c j, 63 ≤ c → h4.1 c j = h.1 c j := fun c j hc => by
      rw [f4.i c j (by
        unfold fPA fFi fPk
        simp only [Bool.or_eq_false_iff, Bool.and_eq_false_iff, decide_eq_false_iff_not, beq_eq_false_iff_ne]
        omega), g3.i c j (by
        unfold fLs
        simp only [Bool.or_eq_false_iff, Bool.and_eq_false_iff, decide_eq_false_iff_not, beq_eq_false_iff_ne]
        omega)]
    have g4 : Fr (fun c j => fLs c j || fPA c j) h h4 := (g3.mono (fun c j q => by simp only [Bool.or_eq_false_iff] at q; exact q.1)).trans (f4.mono (fun c j q => by simp only [Bool.or_eq_false_iff] at q; exact q.2))
    refine r_load (E := swE E) w ok eT (by rw [m63 63 41 (by decide)]; exact q3) (fun k => by rw [m63 91 k (by decide), ← q4]; exact eb k) (p1.2.1.fr g4 (fun c j q => ?_)) (p1.2.2.2.fr g4 (fun _ => rfl)) (fun c' h' e' => ?_) (fun D2 mks2 h6 e6 f6 e41 e0 sr6 rm6 e68 => ?_)
    · unfold isSrcR at q
      unfold fLs fPA fFi fPk
      simp only [Bool.or_eq_true, Bool.and_eq_true, decide_eq_true_eq, beq_iff_eq] at q
      simp only [Bool.or_eq_false_iff, Bool.and_eq_false_iff, decide_eq_false_iff_not, beq_eq_false_iff_ne]
      omega
    · rw [e] at e'; cases e'
    · rw [e] at e6
      injection e6 with e6
      injection e6 with e6 e7
      subst e6
      subst e7
      have x7 : Fr (fun c j => c == 63 && j == 33) h6 (sI h6 63 33 (0 : Int32)) := (Fr.refl h6).si rfl
      have sr7 : RSrc D' (sI h6 63 33 (0 : Int32)) := sr6.fr x7 (fun c j q => by
        unfold isSrcR at q
        simp only [Bool.or_eq_true, Bool.and_eq_true, decide_eq_true_eq, beq_iff_eq] at q
        simp only [Bool.and_eq_false_iff, beq_eq_false_iff_ne]
        omega)
      have st7 : RSt D' (sM S, mks) (sI h6 63 33 (0 : Int32)) := ⟨by rw [x7.i 68 0 rfl]; exact e68, fun i hi => by rw [x7.i 68 _ rfl]; exact rm6 i hi⟩
      refine r_laysAll (E := swE E) (d := 193) w' ws' sr7 st7 (fun h8 Q2 f8 rw8 s2 c2 fd e38 => ?_)
      have sr8 : RSrc D' h8 := sr7.fr f8 srcR_lA
      have eq := StR.uq w' ws' _ Q1 Q2 (Nat.le_refl _) s1 s2
      subst eq
      rw [sr8.2.1]
      have u : Fr (fun c _ => decide (63 ≤ c)) h4 h8 := ((f6.mono (fun c j q => by
        unfold fLd fPr
        simp only [Bool.or_eq_false_iff, Bool.and_eq_false_iff, decide_eq_false_iff_not, beq_eq_false_iff_ne] at q ⊢
        omega)).si (c := 63) (j := 33) (v := 0) rfl).trans (f8.mono (fun c j q => by
        unfold fLA
        simp only [Bool.or_eq_false_iff, Bool.and_eq_false_iff, decide_eq_false_iff_not, beq_eq_false_iff_ne] at q ⊢
        omega))
      have uC : ∀ c, c ≤ 62 → decide (63 ≤ c) = false := fun c hc => decide_eq_false (by omega)
      have m8 : ∀ c j, fLs c j = false → fPA c j = false → c ≤ 62 → h8.1 c j = h.1 c j := fun c j a1 a2 a3 => by rw [u.i c j (uC c a3), f4.i c j a2, g3.i c j a1]
      have n8 : ∀ c j, 63 ≤ c → fLd c j = false → fLA c j = false → (c == 63 && j == 33) = false → h8.1 c j = h.1 c j := fun c j a1 a2 a3 a4 => by rw [f8.i c j a3, x7.i c j a4, f6.i c j a2, m63 c j a1]
      have e2 : h8.1 2 = h.1 2 := funext fun j => m8 2 j rfl rfl (by decide)
      have e91 : h8.1 91 = h.1 91 := funext fun j => n8 91 j (by decide) rfl rfl rfl
      refine br_t rfl (hK (swE E) _ rfl ⟨D', (sM S, mks), Q1, 0, fun _ => (sM S, mks), sr', 0, L, none, ⟨w', ws', ald, s1⟩, ⟨cs4.fr u (fun c j q => ?_), sr8, ct4.fr u rfl (fun _ => rfl), st7.fr f8 (fun _ => rfl)⟩, ⟨fun j hj => (wi4 j hj).fr u (fun c h1 h2 => uC c (by omega)) (fun c x h1 h2 _ => uC c (by omega)), rw8, c1.fr u rfl (fun c j h1 h2 => uC c (by omega)), c2⟩, ⟨Or.inl (by rw [u.i 51 0 rfl]; exact k0), fd⟩, ⟨⟨by decide, ?_, ?_, fun j hj => absurd hj (Nat.not_lt_zero j)⟩, rfl⟩, ⟨by decide, ?_, ?_, ?_, ?_⟩, ⟨p6.1, ?_, ?_, ?_⟩, ⟨?_, ?_, e38, fun x e => by cases e⟩, ⟨tf4.fr u rfl (fun _ => rfl), by have := p8.2; omega⟩⟩)
      · unfold isSrcC at q
        simp only [Bool.or_eq_true, Bool.and_eq_true, decide_eq_true_eq, beq_iff_eq] at q
        exact uC c (by omega)
      · rw [u.i 29 2 rfl, f4.i 29 2 rfl]; exact e29
      · rw [f8.i 63 33 rfl, sI_at]; rfl
      · rw [u.i 1 0 rfl, f4.i 1 0 rfl]; exact e10
      · rw [f8.i 63 41 rfl, x7.i 63 41 rfl]; exact e41
      · rw [e2, e91]; exact q4
      · rw [e2]; exact q5
      · rw [m8 3 1 rfl rfl (by decide)]; exact p6.2.1
      · rw [n8 63 43 (by decide) rfl rfl rfl]; exact p6.2.2.1
      · rw [show h8.1 4 = h.1 4 from funext fun j => m8 4 j rfl rfl (by decide), show h8.1 92 = h.1 92 from funext fun j => n8 92 j (by decide) rfl rfl rfl]; exact p6.2.2.2
      · rw [show h8.1 59 = h.1 59 from funext fun j => m8 59 j rfl rfl (by decide), show h8.1 87 = h.1 87 from funext fun j => n8 87 j (by decide) rfl rfl rfl]; exact p7.1
      · rw [u.i 58 1 rfl]; exact e58
