/-! obligations: undo -/
section UND
variable {E : En} {d : Nat} {D : SD} {S S' : ST} {h : Hp} {PV : Hp → Prop} {i sr : Nat}
theorem c_change2 {k : Nat} {v : Int32} (w : Wf D) (ws' : WfS D S') (sr0 : CSrc D h) (hi : i < dI D) (hk : k < dL D i) (eM : sM S' = sM S) (eK : ∀ j, j < dI D → j ≠ i → sK S' j = sK S j) (wi : ∀ j, j < dI D → WI D S j h) (st : CSt D S' (sI h 16 (24 * i + k) (vp_nar .boolean v))) (tf : TF0 sr h) (hsr : sr + 250 < 2 ^ 26) (t : ∀ h' Q sr', Fr (fun c j => fPA c j || c == 16) h h' → CSt D S' h' → (∀ i, i < dI D → WI D S' i h') → StR D S' (dI D) Q → CSto D Q h' → h'.1 51 0 = 0 → h'.1 58 1 = -1 → TF0 sr' h' → sr' ≤ sr + 192 → PV h') : SpV E (d + 137) MX9_changeMark [.ref (eA E 0), .int (nI (24 * i + k)), .int v] h PV := by
  have hI := w.2.2.1
  obtain ⟨l0, l24, hrow⟩ := w.2.2.2.1 i hi
  refine wp_X9_changeMark E (d + 136) _ _ h PV ⟨vp_in_nI (by omega) (by decide), ?_⟩
  have em := st.1
  rw [sI_n _ _ _ _ (by decide)] at em
  rw [nI_clamp (by omega), show (24 : Int32) = nI 24 from rfl, pk_div (by omega) (by decide) (by decide), show (24 * i + k) / 24 = i by omega, em]
  have f0 : Fr (fun c _ => c == 16) h (sI h 16 (24 * i + k) (vp_nar .boolean v)) := (Fr.refl h).si rfl
  have sr1 : CSrc D (sI h 16 (24 * i + k) (vp_nar .boolean v)) := sr0.fr f0 (fun c j e => by
    unfold isSrcC at e
    simp only [Bool.or_eq_true, Bool.and_eq_true, decide_eq_true_eq, beq_iff_eq] at e
    rw [beq_eq_false_iff_ne]
    omega)
  refine c_words w ws' sr1 st hi (tf.fr f0 rfl (fun _ => rfl)) (by omega) (fun h2 s2 f2 w2 tf2 hs2 => ?_)
  have fb : Fr (fun c j => fPA c j || c == 16) h h2 := (f0.mono (fun c j e => by
    rw [Bool.or_eq_false_iff] at e
    exact e.2)).trans (f2.mono (fun c j e => by
    rw [Bool.or_eq_false_iff] at e
    exact wp_pa c j e.1))
  have wi2 : ∀ j, j < dI D → WI D S' j h2 := by
    intro j hj
    by_cases q : j = i
    · rw [q]; exact w2
    · refine ((WI_cong (eK j hj q) eM (wi j hj)).fr f0 (fun c h1 h2 => ?_) (fun c k h1 h2 hk => ?_)).fr f2 (fun c h1 h2 => ?_) (fun c k h1 h2 hk => ?_)
      · rw [beq_eq_false_iff_ne]; omega
      · rw [beq_eq_false_iff_ne]; omega
      · unfold fWp
        rw [pk_41 c j (by omega) (by omega)]
        unfold fWa
        simp only [Bool.false_or, Bool.or_eq_false_iff, Bool.and_eq_false_iff, decide_eq_false_iff_not, beq_eq_false_iff_ne]
        omega
      · have wl := (wd_ok w ws' (i := j) (by omega)).2.1
        unfold fWp
        rw [pk_41 c _ (by omega) (by omega)]
        unfold fWa
        simp only [Bool.false_or, Bool.or_eq_false_iff, Bool.and_eq_false_iff, decide_eq_false_iff_not, beq_eq_false_iff_ne]
        omega
  refine c_fillS w ws' (sr1.fr f2 srcC_wp) wi2 (fun h3 Q f3 sq cs e1 e2 => ?_)
  refine t h3 Q s2 (fb.trans (f3.mono (fun c j e => ?_))) ((st.fr f2 rfl (fun _ => rfl)).fr f3 rfl (fun _ => rfl)) (fun j hj => (wi2 j hj).fr f3 (fun c h1 h2 => ?_) (fun c k h1 h2 _ => ?_)) sq cs e1 e2 (tf2.fr f3 rfl (fun _ => rfl)) (by omega)
  · rw [Bool.or_eq_false_iff] at e
    exact fi_pa c j e.1
  · unfold fFi
    simp only [Bool.false_or, Bool.or_eq_false_iff, Bool.and_eq_false_iff, decide_eq_false_iff_not, beq_eq_false_iff_ne]
    omega
  · unfold fFi
    simp only [Bool.false_or, Bool.or_eq_false_iff, Bool.and_eq_false_iff, decide_eq_false_iff_not, beq_eq_false_iff_ne]
    omega
end UND
theorem ob17 : Ob17 Iv := by
  intro E h n hn hI K hK
  obtain ⟨D, S, Q, N, hs, sr, n0, L, pd, p0, p1, p2, p3, p4, p5, p6, p7, p8⟩ := id hI
  have w := p0.1
  have h8 := w.2.2.1
  obtain ⟨q1, q2, q3, q4⟩ := p4.1
  refine wp_X9_undo E 199 h _ ?_
  rw [q2]
  refine bj_if (nI_z (by omega)) (fun z => ?_) (fun z => ?_)
  · obtain ⟨m, rfl⟩ : ∃ m, N = m + 1 := ⟨N - 1, by omega⟩
    obtain ⟨wsm, e86, k86, tr⟩ := q4 m (by omega)
    have hS : hs (m + 1) = S := p4.2
    rw [hS] at tr
    have v : vp_in (nI m) 8 := vp_in_nI (by omega) (by decide)
    rw [sub1_s, nI_clamp (by omega)]
    have f29 : Fr fRe h (sI h 29 2 (nI m)) := (Fr.refl h).si rfl
    -- what the class has done, and then the reference
    have ref : ∀ (h4 : Hp) (Q1 : SO) (sr' : Nat), Fr (fun c j => fPA c j || (c == 0 && j == 10) || c == 16 || (c == 29 && j == 2)) h h4 → h4.1 29 2 = nI m → CSt D (hs m) h4 → (∀ i, i < dI D → WI D (hs m) i h4) → StR D (hs m) (dI D) Q1 → CSto D Q1 h4 → h4.1 51 0 = 0 → h4.1 58 1 = -1 → TF0 sr' h4 → sr' ≤ sr + 192 → SpI E 200 MX10_undo [.ref (eA E 63)] h4 (fun v2 h2 => (nI m = v2 → (K E h2)) ∧ (¬ nI m = v2 → (False))) := by
      intro h4 Q1 sr' f4 e29 ct4 wi4 s1 c1 k0 e58 tf4 hsr
      have g4 : Fr fCg h h4 := f4.mono (fun c j q => by
        unfold fCg fRe at q
        simp only [Bool.or_eq_false_iff, Bool.and_eq_false_iff, beq_eq_false_iff_ne] at q ⊢
        refine ⟨⟨⟨q.1.1.1.1.1.1.1, ?_⟩, ?_⟩, ?_⟩
        all_goals omega)
      have x33 : h4.1 63 33 = nI (m + 1) := by rw [f4.i 63 33 rfl]; exact q3
      have x86 : h4.1 86 = h.1 86 := f4.f 86 (fun _ => rfl)
      have x68 : h4.1 68 = h.1 68 := f4.f 68 (fun _ => rfl)
      refine wp_X10_undo E 199 h4 _ (fun ga => ?_)
      rw [x33, sub1_s]
      refine bq_f (fun y => by have := (nI_z (n := m + 1) (by omega)).mp y; omega) ?_
      have u0 : Fr fU h4 (sI (sI h4 63 0 (0 : Int32)) 63 33 (nI m)) := ((Fr.refl h4).si rfl).si rfl
      have loop : ∀ (PP : Int32 → Hp → Prop), (∀ h6, Fr fU h4 h6 → h6.1 63 33 = nI m → h6.1 63 0 = 0 → (∀ x, x < 9 → h6.1 68 x = h.1 86 (9 * m + x)) → h6.1 86 = h.1 86 → SpV E 199 MX10_laysAll [.ref (eA E 63)] h6 (fun h2 => PP (h2.1 63 33) h2)) → ∀ x, x ≤ 9 → ∀ h5, Fr fU h4 h5 → h5.1 63 33 = nI m → h5.1 63 0 = 0 → (∀ y, y < x → h5.1 68 y = h.1 86 (9 * m + y)) → h5.1 86 = h.1 86 → VX10_undo_26 E 199 ga PP (nI x) h5 := by
        intro PP t
        refine up_ind _ ?_ ?_
        · intro h5 u5 e33 e0 al e86'
          exact sg_X10_undo_26 E 199 ga _ h5 PP (br_t (nI_le (Nat.le_refl 9) (by decide)) (t h5 u5 e33 e0 al e86'))
        · intro x hx ih h5 u5 e33 e0 al e86'
          refine sg_X10_undo_26 E 199 ga _ h5 PP (br_f (nI_ge (b := 9) hx (by decide)) ?_)
          rw [e33, show (9 : Int32) * nI m = nI (9 * m) from pk_mul 9 m, nI_add, nI_1, nI_clamp (n := 9 * m + x) (by omega), nI_clamp (n := x) (by omega), e86']
          refine ⟨vp_in_nI (by omega) (by decide), vp_in_nI hx (by decide), ih _ (u5.si (by unfold fU; simp)) (by rw [sI_n _ _ _ _ (by decide)]; exact e33) (by rw [sI_n _ _ _ _ (by decide)]; exact e0) (fun y hy => ?_) (by rw [sI_n _ _ _ _ (by decide)]; exact e86')⟩
          by_cases q : y = x
          · rw [q, sI_at]
          · rw [sI_j q]; exact al y (by omega)
      refine loop _ (fun h6 u6 e33 e0 al e86' => ?_) 0 (by decide) _ u0 (sI_at _ _ _ _) (by rw [sI_j (by decide), sI_at]) (fun y hy => absurd hy (Nat.not_lt_zero y)) (by rw [sI_n _ _ _ _ (by decide), sI_n _ _ _ _ (by decide)]; exact x86)
      have rst : RSt D (hs m) h6 := ⟨by rw [al 0 (by decide), Nat.add_zero]; exact e86, fun i hi => by rw [al (1 + i) (by omega)]; exact k86 i hi⟩
      have g6 : Fr fCg h h6 := g4.trans (u6.mono u_ch)
      refine r_laysAll w wsm (p1.2.1.fr g6 srcR_ch) rst (fun h8' Q2 f8 rw8 s2 c2 fd e38 => ?_)
      have u : Fr fU h4 h8' := u6.trans (f8.mono la_u)
      have g8 : Fr fCg h h8' := g4.trans (u.mono u_ch)
      have y33 : h8'.1 63 33 = nI m := by rw [f8.i 63 33 rfl]; exact e33
      rw [y33]
      have hist : Hist D m hs h8' := by
        refine ⟨by omega, by rw [u.i 29 2 (fU_c 29 2 (by decide))]; exact e29, y33, fun j hj => ?_⟩
        rw [f8.f 86 (fun _ => rfl), e86', u.f 30 (fun x => fU_c 30 x (by decide)), u.f 31 (fun x => fU_c 31 x (by decide)), f4.f 30 (fun _ => rfl), f4.f 31 (fun _ => rfl)]
        exact q4 j (by omega)
      exact br_t rfl (hK E _ rfl (Iv_chg p0 p1 p5 p6 p7 p8 g8 wsm (ct4.fr u (fU_c 0 10 (by decide)) (fun x => fU_c 16 x (by decide))) (rst.fr f8 (fun _ => rfl)) (fun j hj => (wi4 j hj).fr u (fun c h1 h2 => fU_c c j (by omega)) (fun c x h1 h2 _ => fU_c c _ (by omega))) rw8 s1 (c1.fr u (fU_c 46 4 (by decide)) (fun c j h1 h2 => fU_c c j (by omega))) s2 c2 (by rw [u.i 51 0 (fU_c 51 0 (by decide))]; exact k0) fd hist rfl (by rw [u.i 58 1 (fU_c 58 1 (by decide))]; exact e58) e38 (tf4.fr u (fU_c 32 10 (by decide)) (fun x => fU_c 39 x (by decide))) hsr))
    rcases tr with ⟨t1, t2, t3⟩ | ⟨i, k, v', t1, t2, t3, t4, t5, t6, t7⟩
    · rw [t1, t2]
      refine ⟨v, v, bq_t rfl ?_⟩
      have f0 : Fr (fun c j => (c == 0 && j == 10) || (c == 29 && j == 2)) h (sI (sI h 29 2 (nI m)) 0 10 (nI (sM (hs m)))) := ((Fr.refl h).si rfl).si rfl
      have g0 : Fr fCg h (sI (sI h 29 2 (nI m)) 0 10 (nI (sM (hs m)))) := ((Fr.refl h).si rfl).si rfl
      have ct0 : CSt D (hs m) (sI (sI h 29 2 (nI m)) 0 10 (nI (sM (hs m)))) := ⟨sI_at _ _ _ _, fun i hi k hk => by rw [f0.f 16 (fun _ => rfl), t3 i hi]; exact p1.2.2.1.2 i hi k hk⟩
      refine c_packAll (d := 62) w wsm (p1.1.fr g0 srcC_ch) ct0 (p8.1.fr f0 rfl (fun _ => rfl)) (by have := p8.2; omega) (fun h4 Q1 sr' f4 wi4 s1 c1 k0 e58 tf4 hsr => ?_)
      have e29 : h4.1 29 2 = nI m := by rw [f4.i 29 2 rfl, sI_n _ _ _ _ (by decide), sI_at]
      rw [e29]
      refine ref h4 Q1 sr' ((f0.mono (fun c j q => ?_)).trans (f4.mono (fun c j q => ?_))) e29 (ct0.fr f4 rfl (fun _ => rfl)) wi4 s1 c1 k0 e58 tf4 hsr
      · simp only [Bool.or_eq_false_iff] at q ⊢; exact ⟨q.1.1.2, q.2⟩
      · simp only [Bool.or_eq_false_iff] at q; exact q.1.1.1
    · obtain ⟨l0, l24, hr⟩ := w.2.2.2.1 i t1
      rw [t3, t4]
      have fin : SpV E 199 MX9_changeMark [.ref (eA E 0), .int (nI (24 * i + k)), .int (b2i v')] (sI h 29 2 (nI m)) (fun h6 => SpI E 200 MX10_undo [.ref (eA E 63)] h6 (fun v2 h2 => (h6.1 29 2 = v2 → (K E h2)) ∧ (¬ h6.1 29 2 = v2 → (False)))) := by
        have f0 : Fr (fun c j => c == 29 && j == 2) h (sI h 29 2 (nI m)) := (Fr.refl h).si rfl
        have g0 : Fr fCg h (sI h 29 2 (nI m)) := (Fr.refl h).si rfl
        have ct0 : CSt D (hs m) (sI (sI h 29 2 (nI m)) 16 (24 * i + k) (vp_nar .boolean (b2i v'))) := by
          rw [nar_b2i]
          refine ⟨by rw [sI_n _ _ _ _ (by decide), sI_n _ _ _ _ (by decide), t5]; exact p1.2.2.1.1, fun j hj x hx => ?_⟩
          have lj := (w.2.2.2.1 j hj).2.1
          by_cases q : j = i
          · subst q
            rw [t7 x]
            by_cases y : x = k
            · subst y; rw [if_pos rfl, sI_at]; rfl
            · rw [if_neg y, sI_j (by omega), sI_n _ _ _ _ (by decide)]; exact p1.2.2.1.2 j hj x hx
          · rw [t6 j hj q, sI_j (by omega), sI_n _ _ _ _ (by decide)]; exact p1.2.2.1.2 j hj x hx
        refine c_change2 (d := 62) (S := S) w wsm (p1.1.fr g0 srcC_ch) t1 t2 t5 t6 (fun j hj => (p2.1 j hj).fr f0 (fun c h1 h2 => ?_) (fun c x h1 h2 _ => ?_)) ct0 (p8.1.fr f0 rfl (fun _ => rfl)) (by have := p8.2; omega) (fun h4 Q1 sr' f4 ct4 wi4 s1 c1 k0 e58 tf4 hsr => ?_)
        · simp only [Bool.and_eq_false_iff, beq_eq_false_iff_ne]; omega
        · simp only [Bool.and_eq_false_iff, beq_eq_false_iff_ne]; omega
        · have e29 : h4.1 29 2 = nI m := by rw [f4.i 29 2 rfl, sI_at]
          rw [e29]
          refine ref h4 Q1 sr' ((f0.mono (fun c j q => ?_)).trans (f4.mono (fun c j q => ?_))) e29 ct4 wi4 s1 c1 k0 e58 tf4 hsr
          · simp only [Bool.or_eq_false_iff] at q; exact q.2
          · simp only [Bool.or_eq_false_iff] at q ⊢; exact ⟨q.1.1.1, q.1.2⟩
      refine ⟨v, v, bq_f (nI_m1 (by omega)) (bj_if (b2i_1 _) (fun y => ?_) (fun y => ?_))⟩
      · rw [ts_nt' y] at fin; exact fin
      · rw [y] at fin; exact fin
  · refine wp_X10_undo E 199 h _ (fun ga => ?_)
    rw [q3]
    exact bq_t ((nI_z (by omega)).mpr z) (br_t rfl (hK E _ rfl (hI.keep ((Fr.refl h).si rfl))))
