/-! segments when a mark changes -/
theorem sgE_is (mk : Nat → Bool) (last : Nat) : ∀ (f k : Nat), last ≤ k + f → (sgE mk last f k ≤ last → mk (sgE mk last f k - 1) = true) ∧ ∀ j, k ≤ j → j + 1 < sgE mk last f k → mk j = false
  | 0, k, h => by
    refine ⟨fun q => ?_, fun j h1 h2 => ?_⟩
    · have q : k + 1 ≤ last := q
      omega
    · have h2 : j + 1 < k + 1 := h2
      omega
  | f + 1, k, h => by
    rw [sgE_step]
    by_cases q : k < last ∧ mk k = false
    · rw [if_pos q]
      obtain ⟨i1, i2⟩ := sgE_is mk last f (k + 1) (by omega)
      refine ⟨i1, fun j h1 h2 => ?_⟩
      by_cases e : j = k
      · rw [e]; exact q.2
      · exact i2 j (by omega) h2
    · rw [if_neg q]
      refine ⟨fun z => ?_, fun j h1 h2 => by omega⟩
      rw [show k + 1 - 1 = k by omega]
      exact ts_nf' (fun e => q ⟨by omega, e⟩)
def SB (D : SD) (S : ST) (i : Nat) : Prop := ∀ k, k < dL D i → sEnd D S i k ≤ k + 10
section MKS
variable {E : En} {d : Nat} {D : SD} {S S' : ST} {h : Hp} {P : Int32 → Hp → Prop} {i k : Nat}
theorem sEnd_is (l24 : dL D i ≤ 24) (hk : k < dL D i) : (sEnd D S i k < dL D i → (sK S i).testBit (sEnd D S i k - 1) = true) ∧ ∀ j, k ≤ j → j + 1 < sEnd D S i k → (sK S i).testBit j = false := by
  obtain ⟨a, b⟩ := sgE_is (fun j => (sK S i).testBit j) (dL D i - 1) 24 k (by omega)
  exact ⟨fun q => a (by unfold sEnd at q; omega), b⟩
theorem sEnd_uq {e : Nat} (l24 : dL D i ≤ 24) (hk : k < dL D i) (h1 : k < e) (h2 : e ≤ dL D i) (h3 : e < dL D i → (sK S i).testBit (e - 1) = true) (h4 : ∀ j, k ≤ j → j + 1 < e → (sK S i).testBit j = false) : sEnd D S i k = e := by
  obtain ⟨a, b⟩ := sEnd_is (S := S) l24 hk
  have g1 := sEnd_gt D S i k
  have g2 := sEnd_le S hk
  rcases Nat.lt_or_ge (sEnd D S i k) e with q | q
  · have := a (by omega)
    rw [h4 (sEnd D S i k - 1) (by omega) (by omega)] at this
    cases this
  · rcases Nat.lt_or_ge e (sEnd D S i k) with q2 | q2
    · have := h3 (by omega)
      rw [b (e - 1) (by omega) (by omega)] at this
      cases this
    · omega
/-- within a segment -/
theorem sEnd_in {k' : Nat} (l24 : dL D i ≤ 24) (hk : k < dL D i) (h1 : k ≤ k') (h2 : k' < sEnd D S i k) : sEnd D S i k' = sEnd D S i k := by
  obtain ⟨a, b⟩ := sEnd_is (S := S) l24 hk
  have g2 := sEnd_le S hk
  exact sEnd_uq l24 (by omega) h2 g2 a (fun j hj => b j (by omega))
theorem r_mk2 (w : Wf D) (hb : sK S i < 2 ^ 24) (s : RSt D S h) (hi : i < dI D) (hk : k < 24) (t : P (b2i ((sK S i).testBit k)) h) : SpI E d MX10_isMarked [.ref (eA E 63), .int (nI i), .int (nI k)] h P := by
  have := w.2.2.1
  refine wp_X10_isMarked E d _ _ h P ?_
  rw [show (1 : Int32) + nI i = nI (1 + i) from nI_add 1 i, nI_clamp (by omega), s.2 i hi]
  refine ⟨vp_in_nI (by omega) (by decide), bj_if (bitB (by omega) (by omega)) (fun q => ?_) (fun q => ?_)⟩
  · cases hb : (sK S i).testBit k with
    | true => exact absurd hb q
    | false => rw [hb] at t; exact t
  · rw [q] at t; exact t
theorem r_end2 (w : Wf D) (hb : sK S i < 2 ^ 24) (sr : RSrc D h) (st : RSt D S h) (hi : i < dI D) (hk : k < dL D i) (t : P (nI (sEnd D S i k)) h) : SpI E (d + 1) MX10_behind [.ref (eA E 63), .int (nI i), .int (nI k)] h P := by
  have hI := w.2.2.1
  obtain ⟨l0, l24, hrow⟩ := w.2.2.2.1 i hi
  refine wp_X10_behind E d _ _ h P (fun g => ?_)
  have loop : ∀ (f j : Nat), j ≤ dL D i - 1 → dL D i - 1 ≤ j + f → P (nI (sgE (fun j => (sK S i).testBit j) (dL D i - 1) f j)) h → VX10_behind_2 E d g P (nI i) (nI k) (nI j) h := by
    intro f
    induction f with
    | zero =>
      intro j hj hf t
      obtain rfl : j = dL D i - 1 := by omega
      refine sg_X10_behind_2 E d g _ _ _ h P ?_
      rw [nI_clamp (by omega), r_len w sr hi, nI_1, show (1 : Int32) = nI 1 from rfl, pk_sub (by omega)]
      exact ⟨vp_in_nI (by omega) (by decide), br_t (nI_le (Nat.le_refl _) (by omega)) t⟩
    | succ f ih =>
      intro j hj hf t
      refine sg_X10_behind_2 E d g _ _ _ h P ?_
      rw [nI_clamp (by omega), r_len w sr hi, nI_1, show (1 : Int32) = nI 1 from rfl, pk_sub (by omega)]
      rw [sgE_step] at t
      refine ⟨vp_in_nI (by omega) (by decide), ek_if (nI_leI (by omega) (by omega)) (fun q => ?_) (fun q => ?_)⟩
      · rw [if_neg (fun z => by omega)] at t
        exact t
      · refine r_mk2 w hb st hi (by omega) (bj_if (b2i_0 _) (fun z => ?_) (fun z => ?_))
        · rw [if_neg (fun y => z y.2)] at t
          exact t
        · rw [if_pos ⟨by omega, z⟩] at t
          exact ih (j + 1) (by omega) (by omega) t
  exact loop 24 k (by omega) (by omega) t
theorem r_longest (w : Wf D) (hb : sK S i < 2 ^ 24) (sr : RSrc D h) (st : RSt D S h) (hi : i < dI D) (t : ∀ M, M ≤ 24 → (M ≤ 10 ↔ SB D S i) → P (nI M) h) : SpI E (d + 2) MX10_longestSegment [.ref (eA E 63), .int (nI i)] h P := by
  have hI := w.2.2.1
  obtain ⟨l0, l24, hrow⟩ := w.2.2.2.1 i hi
  have vi : vp_in (nI i) 8 := vp_in_nI (by omega) (by decide)
  refine wp_X10_longestSegment E (d + 1) _ h P (fun ga => ?_)
  have loop : ∀ f b mx, dL D i ≤ b + f → b ≤ dL D i → mx ≤ 24 → (mx ≤ 10 ↔ ∀ k, k < b → sEnd D S i k ≤ k + 10) → VX10_longestSegment_4 E (d + 1) ga P (nI i) (nI mx) (nI b) h := by
    intro f
    induction f with
    | zero =>
      intro b mx h1 h2 h3 h4
      have e : b = dL D i := by omega
      subst e
      refine sg_X10_longestSegment_4 E (d + 1) ga _ _ _ h P ⟨vi, ?_⟩
      rw [nI_clamp (by omega), r_len w sr hi]
      exact br_t (nI_le (Nat.le_refl _) (by omega)) (t mx h3 h4)
    | succ f ih =>
      intro b mx h1 h2 h3 h4
      refine sg_X10_longestSegment_4 E (d + 1) ga _ _ _ h P ⟨vi, ?_⟩
      rw [nI_clamp (by omega), r_len w sr hi]
      refine ek_if (nI_leI (by omega) (by omega)) (fun q => ?_) (fun q => ?_)
      · have e : b = dL D i := by omega
        subst e
        exact t mx h3 h4
      · have g1 := sEnd_gt D S i b
        have g2 := sEnd_le (D := D) S (i := i) (k := b) (by omega)
        refine r_end2 w hb sr st hi (by omega) (r_end2 w hb sr st hi (by omega) ?_)
        rw [pk_sub (by omega), nI_max (by omega) (by omega)]
        refine ih (sEnd D S i b) (max mx (sEnd D S i b - b)) (by omega) g2 (by omega) ?_
        constructor
        · intro z k hk
          rcases Nat.lt_or_ge k b with q2 | q2
          · exact h4.mp (by omega) k q2
          · rw [sEnd_in l24 (by omega) q2 hk]
            omega
        · intro z
          have := h4.mpr (fun k hk => z k (by omega))
          have := z b (by omega)
          omega
  refine loop 24 0 0 (by omega) (by omega) (by decide) ⟨fun _ k hk => absurd hk (Nat.not_lt_zero k), fun _ => by decide⟩
theorem SB_more (l24 : dL D i ≤ 24) (sb : SB D S i) (m : ∀ b, (sK S i).testBit b = true → (sK S' i).testBit b = true) : SB D S' i := by
  intro k hk
  have := sb k hk
  obtain ⟨a, b⟩ := sEnd_is (S := S) l24 hk
  obtain ⟨a', b'⟩ := sEnd_is (S := S') l24 hk
  have g1 := sEnd_gt D S i k
  have g2 := sEnd_le S hk
  have g2' := sEnd_le S' hk
  rcases Nat.lt_or_ge (sEnd D S i k) (sEnd D S' i k) with q | q
  · have := m _ (a (by omega))
    rw [b' (sEnd D S i k - 1) (by omega) (by omega)] at this
    cases this
  · omega
theorem c_joined (w : Wf D) (sr : CSrc D h) (st : CSt D S h) (hi : i < dI D) (hk : k + 1 < dL D i) (sb : SB D S i) (hb : ∀ b, (sK S' i).testBit b = if b = k then false else (sK S i).testBit b) (t : ∀ J, J ≤ 24 → (J ≤ 10 ↔ SB D S' i) → P (nI J) h) : SpI E (d + 1) MX6_joinedLength [.ref (eA E 5), .int (nI i), .int (nI k)] h P := by
  have hI := w.2.2.1
  obtain ⟨l0, l24, hrow⟩ := w.2.2.2.1 i hi
  refine wp_X6_joinedLength E d _ _ h P (fun ga => ?_)
  rw [show (24 : Int32) = nI 24 from rfl, pk_mul, show i * 24 = 24 * i by omega]
  have g1 := sEnd_gt D S i (k + 1)
  have g2 := sEnd_le S hk
  obtain ⟨a1, a2⟩ := sEnd_is (S := S) l24 hk
  have fin : ∀ b, b ≤ k → (∀ j, b ≤ j → j < k → (sK S i).testBit j = false) → (0 < b → (sK S i).testBit (b - 1) = true) → SpI E d MX6_segmentEnd [.ref (eA E 5), .int (nI i), .int (nI k + (1 : Int32))] h (fun v2 h2 => P (v2 - nI b) h2) := by
    intro b hbk no mk
    rw [nI_1]
    refine c_end w sr st hi hk ?_
    rw [pk_sub (by omega)]
    have seg : ∀ j, b ≤ j → j ≤ k → sEnd D S' i j = sEnd D S i (k + 1) := by
      intro j h1 h2
      refine sEnd_uq l24 (by omega) (by omega) g2 (fun q => ?_) (fun x hx1 hx2 => ?_)
      · rw [hb, if_neg (by omega)]; exact a1 q
      · rw [hb]
        by_cases q : x = k
        · rw [if_pos q]
        · rw [if_neg q]
          rcases Nat.lt_or_ge x k with q2 | q2
          · exact no x (by omega) q2
          · exact a2 x (by omega) hx2
    refine t _ (by omega) ⟨fun q x hx => ?_, fun q => ?_⟩
    · rcases Nat.lt_or_ge x b with q2 | q2
      · -- before the segment
        have m1 := mk (by omega)
        obtain ⟨c1, c2⟩ := sEnd_is (S := S) l24 hx
        have le : sEnd D S i x ≤ b := by
          rcases Nat.lt_or_ge b (sEnd D S i x) with q3 | q3
          · rw [c2 (b - 1) (by omega) (by omega)] at m1; cases m1
          · exact q3
        have e : sEnd D S' i x = sEnd D S i x := by
          refine sEnd_uq l24 hx (sEnd_gt D S i x) (sEnd_le S hx) (fun q3 => ?_) (fun y hy1 hy2 => ?_)
          · rw [hb, if_neg (by have := sEnd_gt D S i x; omega)]; exact c1 q3
          · rw [hb, if_neg (by omega)]; exact c2 y hy1 hy2
        rw [e]
        exact sb x hx
      · rcases Nat.lt_or_ge k x with q3 | q3
        · obtain ⟨c1, c2⟩ := sEnd_is (S := S) l24 hx
          have e : sEnd D S' i x = sEnd D S i x := by
            refine sEnd_uq l24 hx (sEnd_gt D S i x) (sEnd_le S hx) (fun q4 => ?_) (fun y hy1 hy2 => ?_)
            · rw [hb, if_neg (by have := sEnd_gt D S i x; omega)]; exact c1 q4
            · rw [hb, if_neg (by omega)]; exact c2 y hy1 hy2
          rw [e]
          exact sb x hx
        · rw [seg x q2 q3]
          omega
    · have := q b (by omega)
      rw [seg b (Nat.le_refl _) hbk] at this
      omega
  have loop : ∀ b, b ≤ k → (∀ j, b ≤ j → j < k → (sK S i).testBit j = false) → VX6_joinedLength_13 E d ga P (nI i) (nI k) (nI (24 * i)) (nI b) (nI b - (1 : Int32)) h := by
    intro b
    induction b with
    | zero =>
      intro h1 h2
      exact sg_X6_joinedLength_13 E d ga _ _ _ _ _ h P (br_t sub1_0 (fin 0 h1 h2 (fun z => absurd z (Nat.lt_irrefl 0))))
    | succ b ih =>
      intro h1 h2
      refine sg_X6_joinedLength_13 E d ga _ _ _ _ _ h P ?_
      rw [sub1_s, nI_add, nI_clamp (n := 24 * i + b) (by omega), st.2 i hi b (by omega), subm1]
      refine br_f (nI_n0 (by omega)) ⟨vp_in_nI (by omega) (by decide), bj_if (bI _) (fun z => ?_) (fun z => ?_)⟩
      · exact fin (b + 1) h1 h2 (fun _ => ts_nf' z)
      · refine ih (by omega) (fun j hj1 hj2 => ?_)
        by_cases e : j = b
        · rw [e]; exact z
        · exact h2 j (by omega) hj2
  exact loop k (Nat.le_refl _) (fun j h1 h2 => by omega)
end MKS
