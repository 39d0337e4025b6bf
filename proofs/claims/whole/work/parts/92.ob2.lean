/-! obligations: places, words, registers, texts -/
theorem ob11 : Ob11 Iv := by
  intro a1 a2 E h n hn hI K hK
  obtain ⟨D, S, Q, N, hs, sr, n0, L, pd, p0, p1, p2, p3, p4, p5, p6, p7, p8⟩ := id hI
  have w := p0.1
  have h8 := w.2.2.1
  refine wp_L_operationAt E 199 _ _ h _ (wp_X9_operationAt E 193 _ _ h _ _ (c_chkP w p1.1 (fun i k hi hk e e2 => ?_) (fun q => ⟨rfl, ?_⟩) (fun i hi e q => ⟨rfl, ?_⟩)))
  · subst e e2
    have l24 := (w.2.2.2.1 i hi).2.1
    rw [show (24 : Int32) = nI 24 from rfl, pk_mul, nI_add, show i * 24 + k = 24 * i + k by omega, nI_clamp (by omega), (p1.1.2.2.2 i hi).2.2 k hk]
    refine ⟨vp_in_nI (by omega) (by decide), wp_X10_operationAt E 199 _ _ _ _ (r_isAt w (p1.fr (f98 h _) b_no1).2.1 (fun q => ?_) (fun j hj e q => ?_) (fun _ _ _ _ _ _ => ?_))⟩
    · rw [inr_yes hi (by omega)] at q; cases q
    · have := nI_inj (by omega) (by omega) e
      subst this
      rw [inr_yes hk (by omega)] at q; cases q
    · refine br_f (by decide) (thr_n (r_at w (p1.fr (f980 h _ _) b_no1).2.1 hi hk ?_))
      exact tl_ok (sI_at _ _ _ _) (l98 _ _ _) (hK E _ rfl (hI.keep (f980 h _ _)))
  · refine wp_X10_operationAt E 199 _ _ h _ (r_isAt w p1.2.1 (fun _ => ?_) (fun j hj e q2 => ?_) (fun j k hj _ e _ => ?_))
    · exact br_t rfl (thr_y (k := 1) rfl (by decide) (by decide) (tl_er (by decide) (sI_at _ _ _ _) (hK E _ rfl (hI.keep ((Fr.refl h).si rfl)))))
    · exact br_t rfl (thr_y (k := 1) rfl (by decide) (by decide) (tl_er (by decide) (sI_at _ _ _ _) (hK E _ rfl (hI.keep ((Fr.refl h).si rfl)))))
    · subst e; rw [inr_yes hj (by omega)] at q; cases q
  · refine wp_X10_operationAt E 199 _ _ h _ (r_isAt w p1.2.1 (fun _ => ?_) (fun j hj e q2 => ?_) (fun j k hj hk e2 e3 => ?_))
    · exact br_t rfl (thr_y (k := 1) rfl (by decide) (by decide) (tl_er (by decide) (sI_at _ _ _ _) (hK E _ rfl (hI.keep ((Fr.refl h).si rfl)))))
    · exact br_t rfl (thr_y (k := 1) rfl (by decide) (by decide) (tl_er (by decide) (sI_at _ _ _ _) (hK E _ rfl (hI.keep ((Fr.refl h).si rfl)))))
    · subst e
      have := nI_inj (by omega) (by omega) e2
      subst this
      subst e3
      have l24 := (w.2.2.2.1 i hi).2.1
      rw [inr_yes hk (by omega)] at q; cases q
theorem tl_bo {E : En} {d : Nat} {h : Hp} {K : En → Hp → Prop} {b : Bool} (e0 : h.1 63 0 = 0) (e98 : h.2 98 0 = if b then 1 else 0) (k : K E h) : SpI E d MX10_thrown [.ref (eA E 63)] h (fun v3 h3 => (v3 = (0 : Int32) → ((¬ (0 : Int32) = 0 → (K E h3)) ∧ ((0 : Int32) = 0 → ((b2i b = 0 → (((lg_cmp (h3.2 98 0) (0 : Int64)) = 0 → (K E h3)) ∧ (¬ (lg_cmp (h3.2 98 0) (0 : Int64)) = 0 → (False)))) ∧ (¬ b2i b = 0 → (((lg_cmp (h3.2 98 0) (1 : Int64)) = 0 → (K E h3)) ∧ (¬ (lg_cmp (h3.2 98 0) (1 : Int64)) = 0 → (False)))))))) ∧ (¬ v3 = (0 : Int32) → (False))) := by
  refine wp_X10_thrown E d h _ ?_
  rw [e0, e98]
  refine br_t rfl (bq_t rfl ?_)
  cases b with
  | true => exact br_f (by decide) (br_t (lg_same _) k)
  | false => exact br_t rfl (br_t (lg_same _) k)
theorem ob12 : Ob12 Iv := by
  intro a1 a2 E h n hn hI K hK
  obtain ⟨D, S, Q, N, hs, sr, n0, L, pd, p0, p1, p2, p3, p4, p5, p6, p7, p8⟩ := id hI
  have w := p0.1
  have h8 := w.2.2.1
  refine wp_L_hasMark E 199 _ _ h _ (wp_X9_hasMark E 193 _ _ h _ _ (c_chkP w p1.1 (fun i k hi hk e e2 => ?_) (fun q => ⟨rfl, ?_⟩) (fun i hi e q => ⟨rfl, ?_⟩)))
  · subst e e2
    have l24 := (w.2.2.2.1 i hi).2.1
    have mk : h.1 16 (24 * i + k) = b2i ((sK S i).testBit k) := p1.2.2.1.2 i hi k hk
    rw [show (24 : Int32) = nI 24 from rfl, pk_mul, nI_add, show i * 24 + k = 24 * i + k by omega, nI_clamp (by omega), mk]
    have go : ∀ v : Int64, v = (if (sK S i).testBit k then 1 else 0) → SpI E 200 MX10_hasMark [.ref (eA E 63), .int (nI i), .int (nI k)] (sL h 98 0 v) (fun v2 h2 => SpI E 200 MX10_thrown [.ref (eA E 63)] h2 (fun v3 h3 => (v3 = (0 : Int32) → ((¬ (0 : Int32) = 0 → (K E h3)) ∧ ((0 : Int32) = 0 → ((v2 = 0 → (((lg_cmp (h3.2 98 0) (0 : Int64)) = 0 → (K E h3)) ∧ (¬ (lg_cmp (h3.2 98 0) (0 : Int64)) = 0 → (False)))) ∧ (¬ v2 = 0 → (((lg_cmp (h3.2 98 0) (1 : Int64)) = 0 → (K E h3)) ∧ (¬ (lg_cmp (h3.2 98 0) (1 : Int64)) = 0 → (False)))))))) ∧ (¬ v3 = (0 : Int32) → (False)))) := by
      intro v hv
      refine wp_X10_hasMark E 199 _ _ _ _ (r_isAt w (p1.fr (f98 h _) b_no1).2.1 (fun q => ?_) (fun j hj e q => ?_) (fun _ _ _ _ _ _ => ?_))
      · rw [inr_yes hi (by omega)] at q; cases q
      · have := nI_inj (by omega) (by omega) e
        subst this
        rw [inr_yes hk (by omega)] at q; cases q
      · refine br_f (by decide) (thr_n' (r_mk w p0.2.1 (p1.fr (f980 h _ _) b_no1).2.2.2 hi (by omega) ?_))
        have t := tl_bo (E := E) (d := 200) (h := sI (sL h 98 0 v) 63 0 (0 : Int32)) (K := K) (b := (sK S i).testBit k) (sI_at _ _ _ _) (by rw [l98, hv]) (hK E _ rfl (hI.keep (f980 h _ _)))
        refine ek_if (b2i_0 _) (fun z => ?_) (fun z => ?_)
        · rw [z] at t; exact t
        · rw [ts_nf' z] at t; exact t
    refine ⟨vp_in_nI (by omega) (by decide), b2i_01 _, ek_if (b2i_0 _) (fun z => go _ (by rw [z]; rfl)) (fun z => go _ (by rw [ts_nf' z]; rfl))⟩
  · refine wp_X10_hasMark E 199 _ _ h _ (r_isAt w p1.2.1 (fun _ => ?_) (fun j hj e q2 => ?_) (fun j k hj _ e _ => ?_))
    · exact br_t rfl (thr_y' (k := 1) rfl (by decide) (by decide) (tl_er (by decide) (sI_at _ _ _ _) (hK E _ rfl (hI.keep ((Fr.refl h).si rfl)))))
    · exact br_t rfl (thr_y' (k := 1) rfl (by decide) (by decide) (tl_er (by decide) (sI_at _ _ _ _) (hK E _ rfl (hI.keep ((Fr.refl h).si rfl)))))
    · subst e; rw [inr_yes hj (by omega)] at q; cases q
  · refine wp_X10_hasMark E 199 _ _ h _ (r_isAt w p1.2.1 (fun _ => ?_) (fun j hj e q2 => ?_) (fun j k hj hk e2 e3 => ?_))
    · exact br_t rfl (thr_y' (k := 1) rfl (by decide) (by decide) (tl_er (by decide) (sI_at _ _ _ _) (hK E _ rfl (hI.keep ((Fr.refl h).si rfl)))))
    · exact br_t rfl (thr_y' (k := 1) rfl (by decide) (by decide) (tl_er (by decide) (sI_at _ _ _ _) (hK E _ rfl (hI.keep ((Fr.refl h).si rfl)))))
    · subst e
      have := nI_inj (by omega) (by omega) e2
      subst this
      subst e3
      have l24 := (w.2.2.2.1 i hi).2.1
      rw [inr_yes hk (by omega)] at q; cases q
theorem ob18 : Ob18 Iv := by
  intro a1 E h n hn hI K hK
  obtain ⟨D, S, Q, N, hs, sr, n0, L, pd, p0, p1, p2, p3, p4, p5, p6, p7, p8⟩ := id hI
  have w := p0.1
  have h8 := w.2.2.1
  refine wp_L_wordCount E 199 _ h _ (wp_X9_wordCount E 193 _ h _ _ (c_chkI w p1.1 (fun i hi e => ?_) (fun q => ⟨rfl, ?_⟩)))
  · subst e
    have v : vp_in (nI i) 8 := vp_in_nI (by omega) (by decide)
    have wl := (wd_ok w p0.2.1 hi).2.1
    rw [nI_clamp (by omega), (p2.1 i hi).1]
    refine ⟨v, wp_X10_wordCount E 199 _ _ _ (r_isI w (p1.fr (f98 h _) b_no1).2.1 ?_)⟩
    rw [inr_yes hi (by omega)]
    have rw6 := (p2.fr (f980 h (nI (wd D S i).length).toInt64 (0 : Int32)) b_no2).2.1
    refine br_f (by decide) (thr_n (wp_X10_wordsOf E _ _ _ _ ?_))
    rw [nI_1, nI_clamp (n := i) (by omega), nI_clamp (n := i + 1) (by omega), rw6.1 i (by omega) (by omega), rw6.1 (i + 1) (by omega) (by omega), show mo D S (i + 1) = mo D S i + (wd D S i).length from rfl, pk_sub (by omega), show mo D S i + (wd D S i).length - mo D S i = (wd D S i).length by omega]
    exact ⟨vp_in_nI (by omega) (by decide), vp_in_nI (by omega) (by decide), tl_ok (sI_at _ _ _ _) (l98 _ _ _) (hK E _ rfl (hI.keep (f980 h _ _)))⟩
  · refine wp_X10_wordCount E 199 _ h _ (r_isI w p1.2.1 ?_)
    rw [q]
    exact br_t rfl (thr_y (k := 1) rfl (by decide) (by decide) (tl_er (by decide) (sI_at _ _ _ _) (hK E _ rfl (hI.keep ((Fr.refl h).si rfl)))))
theorem ob19 : Ob19 Iv := by
  intro a1 a2 E h n hn hI K hK
  obtain ⟨D, S, Q, N, hs, sr, n0, L, pd, p0, p1, p2, p3, p4, p5, p6, p7, p8⟩ := id hI
  have w := p0.1
  have h8 := w.2.2.1
  have ml : ∀ i, i < dI D → mo D S i ≤ 24 * i := fun i hi => mo_le w p0.2.1 i (by omega)
  have fin0 : ∀ h1, Fr fNo h h1 → SpI E 199 MX10_throwsAs [.ref (eA E 63), .int (1 : Int32)] h1 (fun v3 h3 => (v3 = 0 → (vp_in a1 9 ∧ (vp_in ((h3.1 76 a1.toNatClampNeg) + a2) 192 ∧ (SpI E 200 MX10_thrown [.ref (eA E 63)] h3 (fun v4 h4 => (v4 = (1 : Int32) → ((¬ (1 : Int32) = 0 → (K E h4)) ∧ ((1 : Int32) = 0 → (((lg_cmp (h4.2 98 0) (h3.1 74 (((h3.1 76 a1.toNatClampNeg) + a2).toNatClampNeg)).toInt64) = 0 → (K E h4)) ∧ (¬ (lg_cmp (h4.2 98 0) (h3.1 74 (((h3.1 76 a1.toNatClampNeg) + a2).toNatClampNeg)).toInt64) = 0 → (False)))))) ∧ (¬ v4 = (1 : Int32) → (False))))))) ∧ (¬ v3 = 0 → (SpI E 200 MX10_thrown [.ref (eA E 63)] h3 (fun v4 h4 => (v4 = (1 : Int32) → ((¬ (1 : Int32) = 0 → (K E h4)) ∧ ((1 : Int32) = 0 → (((lg_cmp (h4.2 98 0) (0 : Int32).toInt64) = 0 → (K E h4)) ∧ (¬ (lg_cmp (h4.2 98 0) (0 : Int32).toInt64) = 0 → (False)))))) ∧ (¬ v4 = (1 : Int32) → (False)))))) := fun h1 f => r_thr (k := 1) rfl (by decide) (br_f (by decide) (tl_er (by decide) (sI_at _ _ _ _) (hK E _ rfl (hI.keep (f.si rfl)))))
  refine wp_L_word E 199 _ _ h _ (wp_X9_word E 193 _ _ h _ _ (c_chkI w p1.1 (fun i hi e => ?_) (fun q => ⟨rfl, ?_⟩)))
  · subst e
    have v : vp_in (nI i) 8 := vp_in_nI (by omega) (by decide)
    have v9 : vp_in (nI i) 9 := vp_in_nI (by omega) (by decide)
    have wl := (wd_ok w p0.2.1 hi).2.1
    have mli := ml i hi
    rw [nI_clamp (n := i) (by omega), (p2.1 i hi).1]
    have ref : ∀ (h1 : Hp) (PP : Int32 → Hp → Prop), Fr fNo h h1 → (∀ k, k < (wd D S i).length → a2 = nI k → PP (nI ((wd D S i).getD k (0, false)).1) (sI h1 63 0 (0 : Int32))) → (inr a2 (wd D S i).length = false → PP (0 : Int32) (sI h1 63 0 (nI 1))) → SpI E 200 MX10_word [.ref (eA E 63), .int (nI i), .int a2] h1 PP := by
      intro h1 PP f t1 t0
      have rw1 := (p2.fr f b_no2).2.1
      refine wp_X10_word E 199 _ _ h1 PP (r_isI w (p1.fr f b_no1).2.1 ?_)
      rw [inr_yes hi (by omega)]
      refine br_f (by decide) (wp_X10_wordsOf E _ _ _ _ ?_)
      rw [nI_1, nI_clamp (n := i) (by omega), nI_clamp (n := i + 1) (by omega), rw1.1 i (by omega) (by omega), rw1.1 (i + 1) (by omega) (by omega), show mo D S (i + 1) = mo D S i + (wd D S i).length from rfl, pk_sub (by omega), show mo D S i + (wd D S i).length - mo D S i = (wd D S i).length by omega]
      refine ⟨vp_in_nI (by omega) (by decide), v9, r_isIn (by omega) ?_⟩
      by_cases q : inr a2 (wd D S i).length = true
      · obtain ⟨k, hk, e⟩ := inr_t q (by omega)
        subst e
        rw [q]
        refine br_f (by decide) (thr_n ⟨v9, ?_⟩)
        rw [sI_n _ _ _ _ (by decide), sI_n _ _ _ _ (by decide), rw1.1 i (by omega) (by omega), nI_add, nI_clamp (n := mo D S i + k) (by omega), ((rw1.2 i hi).1 k hk).1]
        exact ⟨vp_in_nI (by omega) (by decide), t1 k hk rfl⟩
      · rw [ts_nt' q]
        exact br_t rfl (thr_y (k := 1) rfl (by decide) (by decide) (t0 (ts_nt' q)))
    have bad : inr a2 (wd D S i).length = false → SpI E 200 MX10_word [.ref (eA E 63), .int (nI i), .int a2] h (fun v2 h2 => SpI E 200 MX10_thrown [.ref (eA E 63)] h2 (fun v3 h3 => (v3 = (1 : Int32) → ((¬ (1 : Int32) = 0 → (K E h3)) ∧ ((1 : Int32) = 0 → (((lg_cmp (h3.2 98 0) v2.toInt64) = 0 → (K E h3)) ∧ (¬ (lg_cmp (h3.2 98 0) v2.toInt64) = 0 → (False)))))) ∧ (¬ v3 = (1 : Int32) → (False)))) := fun q => ref h _ (Fr.refl h) (fun k hk e => by subst e; rw [inr_yes hk (by omega)] at q; cases q) (fun _ => tl_er (by decide) (sI_at _ _ _ _) (hK E _ rfl (hI.keep ((Fr.refl h).si rfl))))
    have b := inr_br (x := a2) (n := (wd D S i).length) (B := ∃ k, k < (wd D S i).length ∧ a2 = nI k) (by omega) (fun k hk e => ⟨k, hk, e⟩) bad bad
    refine ⟨fun z => ⟨rfl, b.1 z⟩, fun z => ⟨v, fun z2 => ?_, fun z2 => ⟨rfl, (b.2 z).2 z2⟩⟩⟩
    obtain ⟨k, hk, e⟩ := (b.2 z).1 z2
    subst e
    rw [show (24 : Int32) = nI 24 from rfl, pk_mul, nI_add, show i * 24 + k = 24 * i + k by omega, nI_clamp (by omega), ((p2.1 i hi).2.2.2 k hk).1]
    refine ⟨vp_in_nI (by omega) (by decide), ref _ _ (f98 h _) (fun k' hk' e => ?_) (fun q => ?_)⟩
    · have := nI_inj (by omega) (by omega) e
      subst this
      exact tl_ok (sI_at _ _ _ _) (l98 _ _ _) (hK E _ rfl (hI.keep (f980 h _ _)))
    · rw [inr_yes hk (by omega)] at q; cases q
  · refine wp_X10_word E 199 _ _ h _ (r_isI w p1.2.1 ?_)
    rw [q]
    exact br_t rfl (fin0 h (Fr.refl h))
