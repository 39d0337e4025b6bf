/-! obligations: agreement -/
theorem ex_hi {D : SD} (w : Wf D) {s : Nat} (hs : s < 2 ^ dN D) (f : Nat → Int32) {j : Nat} (hj : ¬ j < 8) : ex D s f j = f j := by
  unfold ex
  refine exT_hi D s _ f 12 (fun m _ hb e => ?_)
  have hm : m < dN D := by
    rcases Nat.lt_or_ge m (dN D) with q | q
    · exact q
    · rw [tb_lt hs q] at hb; cases hb
  have := (w.2.1 m hm).2.1
  omega
theorem sqX_hi {D : SD} (w : Wf D) {i : Nat} (hi : i < dI D) (f : Nat → Int32) {j : Nat} (hj : ¬ j < 8) : ∀ k, k ≤ dL D i → sqX D i f k j = f j
  | 0, _ => rfl
  | k + 1, hk => by
    show upd (sqX D i f k) (dT D (dR D i k)) _ j = f j
    have hr := (w.2.2.2.1 i hi).2.2 k (by omega)
    have := (w.2.1 _ hr).2.1
    rw [pk_un (by omega)]
    exact sqX_hi w hi f hj k (by omega)
theorem rnW_hi {D : SD} {Q : SO} (w : Wf D) (wq : WfQ D Q) {x : Int32} {j : Nat} (hj : ¬ j < 8) : ∀ (k : Nat) (a : Option Nat) (e : Nat) (f : Nat → Int32), (∀ y, a = some y → y < qN Q) → (rnW D Q x k a e f).2.2 j = f j
  | 0, _, _, _, _ => rfl
  | _ + 1, none, _, _, _ => rfl
  | k + 1, some a, e, f, ha => by
    have h1 := ha a rfl
    obtain ⟨rk, hrk⟩ := wq.2.2.1
    have nx : ∀ y, qX Q a = some y → y < qN Q := fun y hy => ((hrk a h1).2.2.2 y hy).1
    show (if ¬ nI (e + 1) < x ∧ qF Q a = true then (e + 1, qX Q a, ex D (qS Q a) f) else rnW D Q x k (qX Q a) (e + 1) (ex D (qS Q a) f)).2.2 j = f j
    by_cases z : ¬ nI (e + 1) < x ∧ qF Q a = true
    · rw [if_pos z]; exact ex_hi w (wq.2.1 a h1) f hj
    · rw [if_neg z, rnW_hi w wq hj k _ _ _ nx]; exact ex_hi w (wq.2.1 a h1) f hj
theorem ob36 : Ob36 Iv := by
  intro a1 E h n hn hI K hK
  obtain ⟨D, S, Q, N, hs, sr, n0, L, pd, p0, p1, p2, p3, p4, p5, p6, p7, p8⟩ := id hI
  have w := p0.1
  have h8 := w.2.2.1
  have wq := (StR.ok p0.1 p0.2.1 _ Q (Nat.le_refl _) p0.2.2.2).wf p0.1
  refine wp_L_agrees E 199 _ h _ (wp_X9_agrees E 193 _ h _ _ (c_chkI w p1.1 (fun i hi e => ?_) (fun q => ⟨rfl, ?_⟩)))
  · subst e
    have v : vp_in (nI i) 8 := vp_in_nI (by omega) (by decide)
    have hE : ∀ x, qE Q i = some x → x < qN Q := fun x e => by
      obtain ⟨a, a1, a2⟩ := wq.2.2.2 i hi
      rw [a2] at e
      cases e; exact a1
    refine c_agr w wq p1.1 p2.2.2.1 hi (fun h1 f1 => ⟨b2i_01 _, ?_⟩)
    have g1 : Fr f7r h h1 := f1.mono ag_7r
    have go : ∀ v64 : Int64, v64 = (if agr D Q i (h.1 59) then 1 else 0) → SpI E 200 MX10_agrees [.ref (eA E 63), .int (nI i)] (sL h1 98 0 v64) (fun v2 h2 => SpI E 200 MX10_thrown [.ref (eA E 63)] h2 (fun v3 h3 => (v3 = (0 : Int32) → ((¬ (0 : Int32) = 0 → (K E h3)) ∧ ((0 : Int32) = 0 → ((v2 = 0 → (((lg_cmp (h3.2 98 0) (0 : Int64)) = 0 → (K E h3)) ∧ (¬ (lg_cmp (h3.2 98 0) (0 : Int64)) = 0 → (False)))) ∧ (¬ v2 = 0 → (((lg_cmp (h3.2 98 0) (1 : Int64)) = 0 → (K E h3)) ∧ (¬ (lg_cmp (h3.2 98 0) (1 : Int64)) = 0 → (False)))))))) ∧ (¬ v3 = (0 : Int32) → (False)))) := by
      intro v64 hv
      have g2 : Fr f7r h (sL h1 98 0 v64) := g1.trans ((f98 h1 _).mono no_7r)
      have g3 : Fr f7r h (sI (sL h1 98 0 v64) 63 0 (0 : Int32)) := g1.trans ((f980 h1 _ _).mono no_7r)
      refine wp_X10_agrees E 199 _ _ _ (fun ga => r_isI w (p1.fr g2 f7r_1).2.1 ?_)
      rw [inr_yes hi (by omega)]
      refine br_f (by decide) (thr_n ?_)
      have x87 : (sI (sL h1 98 0 v64) 63 0 (0 : Int32)).1 87 = h.1 59 := by rw [sI_n _ _ _ _ (by decide), sL_1, f1.f 87 (fun _ => rfl), p7.1]
      have x38 : (sI (sL h1 98 0 v64) 63 0 (0 : Int32)).1 63 38 = oI pd := by rw [sI_j (by decide), sL_1, f1.i 63 38 rfl]; exact p7.2.2.1
      rw [x38]
      refine r_copies lay_87 lay_89 (by decide) (fun h4 f4 t4 => ?_)
      rw [x87] at t4
      have g4 : Fr f7r h h4 := g3.trans (f4.mono (sq_7r 89 (by omega)))
      have y87 : h4.1 87 = h.1 59 := by rw [f4.f 87 (fun _ => rfl), x87]
      refine r_seq w (p1.fr g4 f7r_1).2.1 hi (fun h5 f5' t5 => ?_)
      rw [y87] at t5
      have g5 : Fr f7r h h5 := g4.trans (f5'.mono do_7r)
      refine r_copies lay_87 lay_90 (by decide) (fun h6 f6' t6 => ?_)
      rw [t5] at t6
      have g6 : Fr f7r h h6 := g5.trans (f6'.mono (sq_7r 90 (by omega)))
      refine r_copies lay_89 lay_87 (by decide) (fun h7 f7' t7 => ⟨v, ?_⟩)
      have g7 : Fr f7r h h7 := g6.trans (f7'.mono (sq_7r 87 (by omega)))
      have e89 : h6.1 89 = cp8 (h.1 59) ((sI (sL h1 98 0 v64) 63 0 (0 : Int32)).1 89) := by rw [f6'.f 89 (fun _ => rfl), f5'.f 89 (fun _ => rfl), t4]
      have e87 : h6.1 87 = sqX D i (h.1 59) (dL D i) := by rw [f6'.f 87 (fun _ => rfl), t5]
      have z87 : h7.1 87 = h.1 59 := by
        rw [t7, e89, e87]
        funext j
        by_cases q : j < 8
        · rw [cp8_lo q, cp8_lo q]
        · rw [cp8_hi q]; exact sqX_hi w hi _ q _ (Nat.le_refl _)
      rw [nI_clamp (by omega), (p2.fr g7 f7r_2).2.2.2.2.2 i hi]
      refine r_goes w wq (p1.fr g7 f7r_1).2.1 (p2.fr g7 f7r_2).2.2.2 hE (fun h8' f8 t8 e8 => ?_)
      rw [z87] at t8
      have g8 : Fr f7r h h8' := g7.trans (f8.mono go_7r)
      have w90 : h8'.1 90 = cp8 (sqX D i (h.1 59) (dL D i)) (h5.1 90) := by rw [f8.f 90 (fun _ => rfl), f7'.f 90 (fun _ => rfl), t6]
      have w89 : h8'.1 89 = cp8 (h.1 59) ((sI (sL h1 98 0 v64) 63 0 (0 : Int32)).1 89) := by rw [f8.f 89 (fun _ => rfl), f7'.f 89 (fun _ => rfl), e89]
      have w0 : h8'.1 63 0 = 0 := by rw [f8.i 63 0 rfl, f7'.i 63 0 rfl, f6'.i 63 0 rfl, f5'.i 63 0 rfl, f4.i 63 0 rfl, sI_at]
      have w98 : h8'.2 98 0 = v64 := by rw [f8.g 98 (fun _ => rfl), f7'.g 98 (fun _ => rfl), f6'.g 98 (fun _ => rfl), f5'.g 98 (fun _ => rfl), f4.g 98 (fun _ => rfl)]; exact l98 _ _ _
      have w59 : h8'.1 59 = h.1 59 := by rw [f8.f 59 (fun _ => rfl), f7'.f 59 (fun _ => rfl), f6'.f 59 (fun _ => rfl), f5'.f 59 (fun _ => rfl), f4.f 59 (fun _ => rfl), sI_n _ _ _ _ (by decide), sL_1, f1.f 59 (fun _ => rfl)]
      have w58 : h8'.1 58 1 = oI pd := by rw [f8.i 58 1 rfl, f7'.i 58 1 rfl, f6'.i 58 1 rfl, f5'.i 58 1 rfl, f4.i 58 1 rfl, sI_n _ _ _ _ (by decide), sL_1, f1.i 58 1 rfl]; exact p7.2.1
      have loop : ∀ (PP : Int32 → Hp → Prop) (x3 : Int32), (∀ h2, Fr (fSq 87) h8' h2 → h2.1 87 = h.1 59 → PP (b2i (agr D Q i (h.1 59))) (sI h2 63 38 (oI pd))) → ∀ r, r ≤ 8 → VX10_agrees_85 E 199 ga PP (nI i) (oI pd) x3 (b2i (eqR (sqX D i (h.1 59) (dL D i)) (rnW D Q 2147483647 24 (qE Q i) 0 (h.1 59)).2.2 r)) (nI r) h8' := by
        intro PP x3 t
        refine up_ind _ ?_ ?_
        · refine sg_X10_agrees_85 E 199 ga _ _ _ _ _ h8' PP (br_t (nI_le (Nat.le_refl 8) (by decide)) (r_copies lay_89 lay_87 (by decide) (fun h9 f9 t9 => ⟨b2i_01 _, t h9 f9 ?_⟩)))
          rw [t9, w89, t8]
          funext j
          by_cases q : j < 8
          · rw [cp8_lo q, cp8_lo q]
          · rw [cp8_hi q]; exact rnW_hi w wq q _ _ _ _ hE
        · intro r hr ih
          have v8 : vp_in (nI r) 8 := vp_in_nI hr (by decide)
          have e1 : eqR (sqX D i (h.1 59) (dL D i)) (rnW D Q 2147483647 24 (qE Q i) 0 (h.1 59)).2.2 (r + 1) = (eqR (sqX D i (h.1 59) (dL D i)) (rnW D Q 2147483647 24 (qE Q i) 0 (h.1 59)).2.2 r && decide (sqX D i (h.1 59) (dL D i) r = (rnW D Q 2147483647 24 (qE Q i) 0 (h.1 59)).2.2 r)) := rfl
          refine sg_X10_agrees_85 E 199 ga _ _ _ _ _ h8' PP (br_f (nI_ge (b := 8) hr (by decide)) ?_)
          rw [nI_1, nI_clamp (by omega), t8, w90, cp8_lo hr]
          refine ek_if (b2i_0 _) (fun z => ?_) (fun z => ⟨v8, v8, ?_⟩)
          · rw [z] at e1
            rw [e1] at ih; exact ih
          · rw [ts_nf' z] at e1
            refine ⟨fun y => ?_, fun y => ?_⟩
            · rw [decide_eq_false (fun x => y x.symm)] at e1
              rw [e1] at ih; exact ih
            · rw [decide_eq_true y.symm] at e1
              rw [e1] at ih; exact ih
      refine loop _ _ (fun h9 f9 t9 => ?_) 0 (by decide)
      have g9 : Fr f7r h (sI h9 63 38 (oI pd)) := (g8.trans (f9.mono (sq_7r 87 (by omega)))).si rfl
      refine tl_bo (by rw [sI_j (by decide), f9.i 63 0 rfl]; exact w0) (by rw [sI_2, f9.g 98 (fun _ => rfl), w98, hv]) (hK E _ rfl ⟨D, S, Q, N, hs, sr, n0, L, pd, p0, p1.fr g9 f7r_1, p2.fr g9 f7r_2, p3.fr g9 f7r_3, p4.fr g9 f7r_4, p5.fr g9 f7r_5, p6.fr g9 f7r_6, ⟨?_, ?_, sI_at _ _ _ _, p7.2.2.2⟩, (p8.fr g9 f7r_8).up⟩)
      · rw [sI_n _ _ _ _ (by decide), sI_n _ _ _ _ (by decide), f9.f 59 (fun _ => rfl), w59, t9]
      · rw [sI_n _ _ _ _ (by decide), f9.i 58 1 rfl]; exact w58
    exact ek_if (b2i_0 _) (fun z => go _ (by rw [z]; rfl)) (fun z => go _ (by rw [ts_nf' z]; rfl))
  · refine wp_X10_agrees E 199 _ h _ (fun ga => r_isI w p1.2.1 ?_)
    rw [q]
    exact br_t rfl (thr_y (k := 1) rfl (by decide) (by decide) (tl_er (by decide) (sI_at _ _ _ _) (hK E _ rfl (hI.keep ((Fr.refl h).si rfl)))))
