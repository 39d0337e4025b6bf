/-! obligations: registers, texts -/
def bw (x : Int32) (s : Nat) : Int32 := (x >>> (nI s &&& 31)).toInt8.toInt32
theorem nar_byte (y : Int32) : vp_nar .byte y.toInt8.toInt32 = y.toInt8.toInt32 := fb_byte_twice y
theorem low8 {x y : Int32} (h : ∀ i, i < 8 → bt x i = bt y i) : x.toInt8 = y.toInt8 := by
  rw [← fa_byte_low x, ← fa_byte_low y]
  congr 1
  apply b_ext
  intro i hi
  rw [b_and, b_and, b_255]
  by_cases q : i < 8
  · rw [h i q]
  · rw [decide_eq_false q, Bool.and_false, Bool.and_false]
theorem bw_u (x : Int32) {s : Nat} (hs : s ≤ 24) : ((x.toUInt32 >>> ((nI s).toUInt32 &&& Int32.toUInt32 31)).toInt32).toInt8.toInt32 = bw x s := by
  unfold bw
  congr 1
  apply low8
  intro i hi
  rw [b_ushr s (by omega), b_sshr s (by omega) x (by omega), if_pos (by omega)]
theorem bw_sb (x : Int32) (s : Nat) : ∃ t, t < 256 ∧ bw x s = sb t := by
  unfold bw
  obtain ⟨m, _, e⟩ := wb_of32 (x >>> (nI s &&& 31))
  refine ⟨m % 256, Nat.mod_lt _ (by decide), ?_⟩
  unfold sb
  rw [e, ← fa_byte_low (nI m), show (255 : Int32) = nI (2 ^ 8 - 1) from rfl, fa_mask]
def pt4 (f : Nat → Int32) (m : Nat) (x : Int32) : Nat → Int32 := upd (upd (upd (upd f m (bw x 24)) (m + 1) (bw x 16)) (m + 2) (bw x 8)) (m + 3) (bw x 0)
theorem pt4_sb {f : Nat → Int32} {m : Nat} {x : Int32} (h : ∀ k, ∃ t, t < 256 ∧ f k = sb t) : ∀ k, ∃ t, t < 256 ∧ pt4 f m x k = sb t := by
  intro k
  unfold pt4
  simp only [upd_1]
  repeat' split
  all_goals first
    | exact bw_sb _ _
    | exact h k
section OB3
variable {E : En} {d : Nat} {h : Hp} {PV : Hp → Prop}
theorem c_putI {m : Nat} {x : Int32} (e : h.1 1 0 = nI m) (hm : m + 4 ≤ 1200) (t : ∀ h', Fr (fun c j => c == 2 || (c == 1 && j == 0)) h h' → h'.1 1 0 = nI (m + 4) → h'.1 2 = pt4 (h.1 2) m x → PV h') : SpV E d MX2_put [.ref (eA E 1), .int x] h PV := by
  refine wp_X2_put E d _ h PV (fun ga => ?_)
  have one : ∀ (s k : Nat) (h1 : Hp) (x2 : Int32), s ≤ 24 → k < 1200 → x2 = nI s → h1.1 1 0 = nI k → VX2_put_3 E d ga PV x (nI s + (-8 : Int32)) (sI (sI h1 2 k (bw x s)) 1 0 (nI (k + 1))) → VX2_put_3 E d ga PV x x2 h1 := by
    intro s k h1 x2 hs hk ex e1 g
    subst ex
    refine sg_X2_put_3 E d ga _ _ h1 PV (br_f (nI_n0 (by omega)) ?_)
    rw [e1, bw_u x hs, nI_1, nI_clamp (by omega)]
    refine br_f (nI_ge (b := 1200) hk (by decide)) ⟨vp_in_nI hk (by decide), ?_⟩
    have : vp_nar .byte (bw x s) = bw x s := nar_byte _
    rw [this]
    exact g
  refine one 24 m h _ (by decide) (by omega) rfl e (one 16 (m + 1) _ _ (by decide) (by omega) (by decide) (sI_at _ _ _ _) (one 8 (m + 2) _ _ (by decide) (by omega) (by decide) (sI_at _ _ _ _) (one 0 (m + 3) _ _ (by decide) (by omega) (by decide) (sI_at _ _ _ _) (sg_X2_put_3 E d ga _ _ _ PV (br_t (by decide) (t _ ?_ (sI_at _ _ _ _) ?_))))))
  · exact ((((((((Fr.refl h).si rfl).si rfl).si rfl).si rfl).si rfl).si rfl).si rfl).si rfl
  · rw [sI_n _ _ _ _ (by decide), sI_s, sI_n _ _ _ _ (by decide), sI_s, sI_n _ _ _ _ (by decide), sI_s, sI_n _ _ _ _ (by decide), sI_s]; rfl
theorem r_putB4 {m : Nat} {x : Int32} (e : h.1 63 41 = nI m) (hm : m + 4 ≤ 1200) (t : ∀ h', Fr (fun c j => c == 91 || (c == 63 && j == 41)) h h' → h'.1 63 41 = nI (m + 4) → h'.1 91 = pt4 (h.1 91) m x → PV h') : SpV E d MX10_puts [.ref (eA E 63), .int x] h PV := by
  refine wp_X10_puts E d _ h PV (fun ga => ?_)
  have one : ∀ (s k : Nat) (h1 : Hp) (x2 : Int32), s ≤ 24 → k < 1200 → x2 = nI s → h1.1 63 41 = nI k → VX10_puts_3 E d ga PV x (nI s + (-8 : Int32)) (sI (sI h1 91 k (bw x s)) 63 41 (nI (k + 1))) → VX10_puts_3 E d ga PV x x2 h1 := by
    intro s k h1 x2 hs hk ex e1 g
    subst ex
    refine sg_X10_puts_3 E d ga _ _ h1 PV (br_f (nI_n0 (by omega)) ?_)
    rw [e1, nI_1, nI_clamp (by omega)]
    refine ⟨vp_in_nI hk (by decide), ?_⟩
    have : vp_nar .byte ((x >>> (nI s &&& 31)).toInt8.toInt32) = bw x s := nar_byte _
    rw [this]
    exact g
  refine one 24 m h _ (by decide) (by omega) rfl e (one 16 (m + 1) _ _ (by decide) (by omega) (by decide) (sI_at _ _ _ _) (one 8 (m + 2) _ _ (by decide) (by omega) (by decide) (sI_at _ _ _ _) (one 0 (m + 3) _ _ (by decide) (by omega) (by decide) (sI_at _ _ _ _) (sg_X10_puts_3 E d ga _ _ _ PV (br_t (by decide) (t _ ?_ (sI_at _ _ _ _) ?_))))))
  · exact ((((((((Fr.refl h).si rfl).si rfl).si rfl).si rfl).si rfl).si rfl).si rfl).si rfl
  · rw [sI_n _ _ _ _ (by decide), sI_s, sI_n _ _ _ _ (by decide), sI_s, sI_n _ _ _ _ (by decide), sI_s, sI_n _ _ _ _ (by decide), sI_s]; rfl
end OB3
/-- all but the buffer -/
def f5 (c j : Nat) : Bool := b5 c j || fNo c j
theorem f5_1 (c j : Nat) (q : b1 c j = true) : f5 c j = false := by
  unfold b1 isSrcC isSrcR at q
  unfold f5 b5 fNo
  simp only [Bool.or_eq_true, Bool.and_eq_true, decide_eq_true_eq, beq_iff_eq] at q
  simp only [Bool.or_eq_false_iff, Bool.and_eq_false_iff, beq_eq_false_iff_ne]
  omega
theorem f5_2 (c j : Nat) (q : b2 c j = true) : f5 c j = false := by
  unfold b2 at q
  unfold f5 b5 fNo
  simp only [Bool.or_eq_true, Bool.and_eq_true, decide_eq_true_eq, beq_iff_eq] at q
  simp only [Bool.or_eq_false_iff, Bool.and_eq_false_iff, beq_eq_false_iff_ne]
  omega
theorem f5_3 (c j : Nat) (q : b3 c j = true) : f5 c j = false := by
  unfold b3 at q
  unfold f5 b5 fNo
  simp only [Bool.or_eq_true, Bool.and_eq_true, decide_eq_true_eq, beq_iff_eq] at q
  simp only [Bool.or_eq_false_iff, Bool.and_eq_false_iff, beq_eq_false_iff_ne]
  omega
theorem f5_4 (c j : Nat) (q : b4 c j = true) : f5 c j = false := by
  unfold b4 at q
  unfold f5 b5 fNo
  simp only [Bool.or_eq_true, Bool.and_eq_true, decide_eq_true_eq, beq_iff_eq] at q
  simp only [Bool.or_eq_false_iff, Bool.and_eq_false_iff, beq_eq_false_iff_ne]
  omega
theorem f5_6 (c j : Nat) (q : b6 c j = true) : f5 c j = false := by
  unfold b6 at q
  unfold f5 b5 fNo
  simp only [Bool.or_eq_true, Bool.and_eq_true, decide_eq_true_eq, beq_iff_eq] at q
  simp only [Bool.or_eq_false_iff, Bool.and_eq_false_iff, beq_eq_false_iff_ne]
  omega
theorem f5_7 (c j : Nat) (q : b7 c j = true) : f5 c j = false := by
  unfold b7 at q
  unfold f5 b5 fNo
  simp only [Bool.or_eq_true, Bool.and_eq_true, decide_eq_true_eq, beq_iff_eq] at q
  simp only [Bool.or_eq_false_iff, Bool.and_eq_false_iff, beq_eq_false_iff_ne]
  omega
theorem f5_8 (c j : Nat) (q : b8 c j = true) : f5 c j = false := by
  unfold b8 at q
  unfold f5 b5 fNo
  simp only [Bool.or_eq_true, Bool.and_eq_true, decide_eq_true_eq, beq_iff_eq] at q
  simp only [Bool.or_eq_false_iff, Bool.and_eq_false_iff, beq_eq_false_iff_ne]
  omega
theorem ob0 : Ob0 Iv := by
  intro a1 a2 a3 a4 a5 E h n hn hI K hK
  obtain ⟨D, S, Q, N, hs, sr, n0, L, pd, p0, p1, p2, p3, p4, p5, p6, p7, p8⟩ := id hI
  obtain ⟨q1, q2, q3, q4, q5⟩ := p5
  refine wp_X9_append E 199 _ _ _ _ _ h _ ?_
  rw [q2, show nI n0 + (20 : Int32) = nI (n0 + 20) from nI_add n0 20]
  refine ek_if (nI_leI (b := 1200) (by omega) (by decide)) (fun z => ?_) (fun z => ?_)
  · refine c_putI q2 (by omega) (fun h2 f2 e2 t2 => c_putI e2 (by omega) (fun h3 f3 e3 t3 => c_putI e3 (by omega) (fun h4 f4 e4 t4 => c_putI e4 (by omega) (fun h5 g5 e5 t5 => c_putI e5 (by omega) (fun h6 f6 e6 t6 => ?_)))))
    have fc := (((f2.trans f3).trans f4).trans g5).trans f6
    refine wp_X10_append E 199 _ _ _ _ _ h6 _ ?_
    have r1 : h6.1 63 41 = nI n0 := by rw [fc.i 63 41 rfl]; exact q3
    rw [r1, show nI n0 + (20 : Int32) = nI (n0 + 20) from nI_add n0 20]
    refine br_t (nI_le (b := 1200) z (by decide)) (r_putB4 (m := n0) (by rw [sI_j (by decide)]; exact r1) (by omega) (fun h8 f8 e8 t8 => r_putB4 e8 (by omega) (fun h9 f9 e9 t9 => r_putB4 e9 (by omega) (fun hA fA eA tA => r_putB4 eA (by omega) (fun hB fB eB tB => r_putB4 eB (by omega) (fun hC fC eC tC => ?_))))))
    have fr : Fr (fun c j => c == 91 || (c == 63 && j == 41)) (sI h6 63 0 (0 : Int32)) hC := (((f8.trans f9).trans fA).trans fB).trans fC
    have f0 : Fr (fun c j => c == 63 && j == 0) h6 (sI h6 63 0 (0 : Int32)) := (Fr.refl h6).si rfl
    have x10 : hC.1 1 0 = nI (n0 + 4 + 4 + 4 + 4 + 4) := by rw [fr.i 1 0 rfl, f0.i 1 0 rfl]; exact e6
    have e91 : h6.1 91 = h.1 91 := fc.f 91 (fun _ => rfl)
    have x2 : hC.1 2 = h6.1 2 := by rw [fr.f 2 (fun _ => rfl), f0.f 2 (fun _ => rfl)]
    have x91 : hC.1 91 = h6.1 2 := by
      rw [tC, tB, tA, t9, t8, f0.f 91 (fun _ => rfl), e91, ← q4, t6, t5, t4, t3, t2]
    have ff : Fr f5 h hC := ((fc.mono (fun c j q => ?_)).trans (f0.mono (fun c j q => ?_))).trans (fr.mono (fun c j q => ?_))
    · rw [e6, eC]
      refine br_t rfl (hK E _ rfl ⟨D, S, Q, N, hs, sr, n0 + 4 + 4 + 4 + 4 + 4, L, pd, p0, p1.fr ff f5_1, p2.fr ff f5_2, p3.fr ff f5_3, p4.fr ff f5_4, ⟨by omega, x10, eC, by rw [x2, x91], fun k => ?_⟩, p6.fr ff f5_6, p7.fr ff f5_7, (p8.fr ff f5_8).up⟩)
      rw [x2, t6]
      refine pt4_sb ?_ k
      rw [t5]
      refine pt4_sb ?_
      rw [t4]
      refine pt4_sb ?_
      rw [t3]
      refine pt4_sb ?_
      rw [t2]
      exact pt4_sb q5
    all_goals
      unfold f5 b5 fNo at q
      simp only [Bool.or_eq_false_iff, Bool.and_eq_false_iff, beq_eq_false_iff_ne] at q ⊢
      omega
  · refine wp_X10_append E 199 _ _ _ _ _ h _ ?_
    rw [q3, show nI n0 + (20 : Int32) = nI (n0 + 20) from nI_add n0 20]
    exact br_f (fun y => z ((nI_leI (b := 1200) (by omega) (by decide)).mp y)) (br_t rfl (hK E _ rfl (hI.keep ((Fr.refl h).si rfl))))
theorem ob1 : Ob1 Iv := by
  intro a1 E h n hn hI K hK
  obtain ⟨D, S, Q, N, hs, sr, n0, L, pd, p0, p1, p2, p3, p4, p5, p6, p7, p8⟩ := id hI
  obtain ⟨q1, q2, q3, q4, q5⟩ := p5
  have bad : inr a1 (n0 + 1) = false → SpI E 200 MX10_truncate [.ref (eA E 63), .int a1] h (fun v2 h2 => ((0 : Int32) = v2 → (K E h2)) ∧ (¬ (0 : Int32) = v2 → (False))) := by
    intro q
    refine wp_X10_truncate E 199 _ h _ ?_
    rw [q3]
    refine r_isK (k := n0) rfl (by omega) ?_
    rw [q]
    exact bq_t rfl (br_t rfl (hK E _ rfl (hI.keep ((Fr.refl h).si rfl))))
  have good : ∀ j, j < n0 + 1 → a1 = nI j → SpI E 200 MX10_truncate [.ref (eA E 63), .int a1] (sI h 1 0 a1) (fun v2 h2 => ((1 : Int32) = v2 → (K E h2)) ∧ (¬ (1 : Int32) = v2 → (False))) := by
    intro j hj e
    subst e
    refine wp_X10_truncate E 199 _ _ _ ?_
    rw [sI_n _ _ _ _ (by decide), q3]
    refine r_isK (k := n0) rfl (by omega) ?_
    rw [inr_yes hj (by omega)]
    have ff : Fr f5 h (sI (sI (sI h 1 0 (nI j)) 63 0 (0 : Int32)) 63 41 (nI j)) := (((Fr.refl h).si rfl).si rfl).si rfl
    refine bq_f (by decide) (br_t rfl (hK E _ rfl ⟨D, S, Q, N, hs, sr, j, L, pd, p0, p1.fr ff f5_1, p2.fr ff f5_2, p3.fr ff f5_3, p4.fr ff f5_4, ⟨by omega, ?_, sI_at _ _ _ _, ?_, ?_⟩, p6.fr ff f5_6, p7.fr ff f5_7, (p8.fr ff f5_8).up⟩))
    · rw [sI_n _ _ _ _ (by decide), sI_n _ _ _ _ (by decide), sI_at]
    · rw [sI_n _ _ _ _ (by decide), sI_n _ _ _ _ (by decide), sI_n _ _ _ _ (by decide), sI_n _ _ _ _ (by decide), sI_n _ _ _ _ (by decide), sI_n _ _ _ _ (by decide)]; exact q4
    · rw [sI_n _ _ _ _ (by decide), sI_n _ _ _ _ (by decide), sI_n _ _ _ _ (by decide)]; exact q5
  have b := inr_br (x := a1) (n := n0 + 1) (by omega) good bad bad
  refine wp_X9_truncate E 200 _ h _ ⟨b.1, fun z => ?_⟩
  rw [q2]
  have key : a1 ≤ nI n0 ↔ a1 < nI (n0 + 1) := by
    rw [fa_le, fa_lt, nI_toInt (by omega), nI_toInt (by omega)]
    omega
  exact ⟨fun y => (b.2 z).1 (key.mp y), fun y => (b.2 z).2 (fun x => y (key.mpr x))⟩
theorem ob31 : Ob31 Iv := by
  intro a1 E h n hn hI K hK
  obtain ⟨D, S, Q, N, hs, sr, n0, L, pd, p0, p1, p2, p3, p4, p5, p6, p7, p8⟩ := id hI
  refine wp_L_register E 199 _ h _ (wp_X9_register E 193 _ h _ _ (c_chkR (fun i hi e => ?_) (fun q => ⟨rfl, ?_⟩)))
  · subst e
    have v : vp_in (nI i) 8 := vp_in_nI (by omega) (by decide)
    rw [nI_clamp (by omega)]
    refine ⟨v, wp_X10_register E 199 _ _ _ (r_isK (k := 7) rfl (by decide) ?_)⟩
    rw [inr_yes hi (by omega)]
    refine br_f (by decide) (thr_n ⟨v, ?_⟩)
    rw [nI_clamp (by omega), sI_n _ _ _ _ (by decide), sL_1, ← p7.1]
    exact tl_ok (sI_at _ _ _ _) (l98 _ _ _) (hK E _ rfl (hI.keep (f980 h _ _)))
  · refine wp_X10_register E 199 _ h _ (r_isK (k := 7) rfl (by decide) ?_)
    rw [q]
    exact br_t rfl (thr_y (k := 1) rfl (by decide) (by decide) (tl_er (by decide) (sI_at _ _ _ _) (hK E _ rfl (hI.keep ((Fr.refl h).si rfl)))))
theorem ob6 : Ob6 Iv := by
  intro a1 E h n hn hI K hK
  obtain ⟨D, S, Q, N, hs, sr, n0, L, pd, p0, p1, p2, p3, p4, p5, p6, p7, p8⟩ := id hI
  obtain ⟨q1, q2, q3, q4⟩ := p6
  have bad : inr a1 L = false → SpI E 200 MX10_outputByte [.ref (eA E 63), .int a1] h (fun v2 h2 => SpI E 200 MX10_thrown [.ref (eA E 63)] h2 (fun v3 h3 => (v3 = (1 : Int32) → ((¬ (1 : Int32) = 0 → (K E h3)) ∧ ((1 : Int32) = 0 → (((lg_cmp (h3.2 98 0) v2.toInt64) = 0 → (K E h3)) ∧ (¬ (lg_cmp (h3.2 98 0) v2.toInt64) = 0 → (False)))))) ∧ (¬ v3 = (1 : Int32) → (False)))) := by
    intro q
    refine wp_X10_outputByte E 199 _ h _ ?_
    rw [q3]
    refine r_isIn (by omega) ?_
    rw [q]
    exact br_t rfl (thr_y (k := 1) rfl (by decide) (by decide) (tl_er (by decide) (sI_at _ _ _ _) (hK E _ rfl (hI.keep ((Fr.refl h).si rfl)))))
  refine wp_L_outputByte E 199 _ h _ (wp_X9_outputByte E 193 _ h _ _ ?_)
  rw [q2]
  refine inr_br (by omega) (fun j hj e => ?_) (fun q => ⟨rfl, bad q⟩) (fun q => ⟨rfl, bad q⟩)
  subst e
  rw [nI_clamp (by omega)]
  refine ⟨vp_in_nI (by omega) (by decide), wp_X10_outputByte E 199 _ _ _ ?_⟩
  rw [sL_1, q3]
  refine r_isIn (by omega) ?_
  rw [inr_yes hj (by omega)]
  refine br_f (by decide) (thr_n ⟨vp_in_nI (by omega) (by decide), ?_⟩)
  rw [nI_clamp (by omega), sI_n _ _ _ _ (by decide), sL_1, ← q4]
  exact tl_ok (sI_at _ _ _ _) (l98 _ _ _) (hK E _ rfl (hI.keep (f980 h _ _)))
