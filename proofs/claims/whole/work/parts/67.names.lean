/-! names, words of the grammar -/
def ltr (T : Tx) (a e k : Nat) : Nat := if a + k < e then T.2 (a + k) else 0
theorem nmF_lo {f : Nat → Nat} : ∀ c, (∀ j, j < c + 1 → f j ≠ 0) → 256 ^ c ≤ nmF f (c + 1)
  | 0, h => by
    show 1 ≤ if f 0 = 0 then _ else _
    rw [if_neg (h 0 (by omega))]
    have := h 0 (by omega)
    show 1 ≤ 0 * 256 + f 0
    omega
  | c + 1, h => by
    have := nmF_lo c (fun j hj => h j (by omega))
    show 256 ^ (c + 1) ≤ if f (c + 1) = 0 then _ else nmF f (c + 1) * 256 + f (c + 1)
    rw [if_neg (h _ (by omega)), Nat.pow_succ]
    omega
theorem nmN_inj {f g : Nat → Nat} (hf : NmOK f) (hg : NmOK g) (e : nmN f = nmN g) : ∀ k, k < 8 → f k = g k := by
  obtain ⟨c, c1, c2, c3⟩ := nm_c hf
  obtain ⟨c', c1', c2', c3'⟩ := nm_c hg
  have ef : nmN f = nmF f c := by
    have := nmF_end c3 (8 - c) (by omega)
    rw [show c + (8 - c) = 8 by omega] at this
    exact this
  have eg : nmN g = nmF g c' := by
    have := nmF_end c3' (8 - c') (by omega)
    rw [show c' + (8 - c') = 8 by omega] at this
    exact this
  have pos : 0 < c := by
    rcases Nat.eq_zero_or_pos c with q | q
    · have := c3 0 (by omega) (by decide)
      have := hf.1
      omega
    · exact q
  have pos' : 0 < c' := by
    rcases Nat.eq_zero_or_pos c' with q | q
    · have := c3' 0 (by omega) (by decide)
      have := hg.1
      omega
    · exact q
  have lo := nmF_lo (f := f) (c - 1) (fun j hj => c2 j (by omega))
  have lo' := nmF_lo (f := g) (c' - 1) (fun j hj => c2' j (by omega))
  rw [show c - 1 + 1 = c by omega] at lo
  rw [show c' - 1 + 1 = c' by omega] at lo'
  have hi := nmF_lt hf c c1
  have hi' := nmF_lt hg c' c1'
  rw [ef, eg] at e
  have ec : c = c' := by
    rcases Nat.lt_or_ge c c' with q | q
    · have := Nat.pow_le_pow_right (n := 256) (by decide) (show c ≤ c' - 1 by omega)
      omega
    · rcases Nat.lt_or_ge c' c with q2 | q2
      · have := Nat.pow_le_pow_right (n := 256) (by decide) (show c' ≤ c - 1 by omega)
        omega
      · omega
  subst ec
  intro k hk
  rcases Nat.lt_or_ge k c with q | q
  · have a := nmF_dig hf c1 c2 (c - 1 - k) (by omega)
    have b := nmF_dig hg c1 c2' (c - 1 - k) (by omega)
    rw [show c - 1 - (c - 1 - k) = k by omega] at a b
    rw [← a, ← b, e]
  · rw [c3 k q hk, c3' k q hk]
theorem nmN_cong {f g : Nat → Nat} (h : ∀ k, k < 8 → f k = g k) : nmN f = nmN g := by
  have key : ∀ n, n ≤ 8 → nmF f n = nmF g n := by
    intro n
    induction n with
    | zero => intro _; rfl
    | succ n ih =>
      intro hn
      show (if f n = 0 then nmF f n else nmF f n * 256 + f n) = (if g n = 0 then nmF g n else nmF g n * 256 + g n)
      rw [h n (by omega), ih (by omega)]
  exact key 8 (Nat.le_refl _)
theorem nmN_lt {f : Nat → Nat} (h : NmOK f) : nmN f < 2 ^ 63 := by
  have h7 := nmF_lt h 7 (by decide)
  have b7 := h.2.1 7 (by decide)
  have h6 := nmF_lt h 6 (by decide)
  have e : nmN f = if f 7 = 0 then nmF f 7 else nmF f 7 * 256 + f 7 := rfl
  have e7 : nmF f 7 = if f 6 = 0 then nmF f 6 else nmF f 6 * 256 + f 6 := rfl
  have e6 : nmF f 6 = if f 5 = 0 then nmF f 5 else nmF f 5 * 256 + f 5 := rfl
  have e5 : nmF f 5 = if f 4 = 0 then nmF f 4 else nmF f 4 * 256 + f 4 := rfl
  have e4 : nmF f 4 = if f 3 = 0 then nmF f 3 else nmF f 3 * 256 + f 3 := rfl
  have e3 : nmF f 3 = if f 2 = 0 then nmF f 2 else nmF f 2 * 256 + f 2 := rfl
  have e2 : nmF f 2 = if f 1 = 0 then nmF f 1 else nmF f 1 * 256 + f 1 := rfl
  have e1 : nmF f 1 = if f 0 = 0 then 0 else 0 * 256 + f 0 := rfl
  have b0 := h.2.1 0 (by decide)
  have b1 := h.2.1 1 (by decide)
  have b2 := h.2.1 2 (by decide)
  have b3 := h.2.1 3 (by decide)
  have b4 := h.2.1 4 (by decide)
  have b5 := h.2.1 5 (by decide)
  have b6 := h.2.1 6 (by decide)
  have t1 : nmF f 1 ≤ 127 := by rw [e1]; split <;> omega
  have t2 : nmF f 2 ≤ 32639 := by rw [e2]; split <;> omega
  have t3 : nmF f 3 ≤ 8355711 := by rw [e3]; split <;> omega
  have t4 : nmF f 4 ≤ 2139062143 := by rw [e4]; split <;> omega
  have t5 : nmF f 5 ≤ 547599908735 := by rw [e5]; split <;> omega
  have t6 : nmF f 6 ≤ 140185576636287 := by rw [e6]; split <;> omega
  have t7 : nmF f 7 ≤ 35887507618889599 := by rw [e7]; split <;> omega
  rw [e]
  split <;> omega
section NAM
variable {E : En} {d : Nat} {T : Tx} {h : Hp} {P : Int32 → Hp → Prop} {PV : Hp → Prop} {D : SD} {a e : Nat}
theorem nmb_ltr {L : Nat} (hL : L ≤ 8) (hb : ∀ k, k < L → 0 < T.2 (a + k) ∧ T.2 (a + k) < 128) : nmN (ltr T a (a + L)) = nmb T.2 a L := by
  have key : ∀ n, n ≤ L → nmF (ltr T a (a + L)) n = nmb T.2 a n := by
    intro n
    induction n with
    | zero => intro _; rfl
    | succ n ih =>
      intro hn
      have el : ltr T a (a + L) n = T.2 (a + n) := if_pos (by omega)
      show (if ltr T a (a + L) n = 0 then nmF _ n else nmF _ n * 256 + ltr T a (a + L) n) = nmb T.2 a n * 256 + T.2 (a + n)
      rw [el, if_neg (by have := hb n (by omega); omega), ih (by omega)]
  have := nmF_end (f := ltr T a (a + L)) (c := L) (fun j h1 h2 => if_neg (by omega)) (8 - L) (by omega)
  rw [show L + (8 - L) = 8 by omega] at this
  show nmF _ 8 = _
  rw [this, key L (Nat.le_refl _)]
theorem ltr_ok {L : Nat} (hL : 0 < L) (hb : ∀ k, k < L → 0 < T.2 (a + k) ∧ T.2 (a + k) < 128) : NmOK (ltr T a (a + L)) := by
  refine ⟨?_, fun k hk => ?_, fun k hk z => ?_⟩
  · show 0 < if _ then _ else _
    rw [if_pos (by omega)]; exact (hb 0 hL).1
  · show (if _ then _ else _) < 128
    by_cases q : a + k < a + L
    · rw [if_pos q]; exact (hb k (by omega)).2
    · rw [if_neg q]; decide
  · by_cases q : a + k < a + L
    · have z : (if a + k < a + L then T.2 (a + k) else 0) = 0 := z
      rw [if_pos q] at z
      have := (hb k (by omega)).1
      omega
    · exact if_neg (by omega)
/-- a row of names in the class -/
theorem c_idx {cn ncn N v : Nat} {f : Nat → Nat → Nat} (hcn : lay[cn]? = some (.inr (3, ncn))) (hN : N ≤ ncn) (hn2 : ncn ≤ 12) (hv : v < 2 ^ 63) (hf : ∀ m, m < N → h.2 cn m = lN (nmN (f m)) ∧ NmOK (f m)) (t1 : ∀ m, m < N → nmN (f m) = v → (∀ j, j < m → nmN (f j) ≠ v) → P (nI m) h) (t0 : (∀ j, j < N → nmN (f j) ≠ v) → P (-1) h) : SpI E d MX6_indexOf [.long (lN v), .ref (eA E cn), .int (nI N)] h P := by
  refine wp_X6_indexOf E d cn ncn hcn _ _ h P (fun ga => ?_)
  have loop : ∀ m, m ≤ N → (∀ j, j < m → nmN (f j) ≠ v) → VX6_indexOf_3 E d ga P cn (lN v) (nI N) (nI m) h := by
    refine up_ind _ ?_ ?_
    · intro no
      exact sg_X6_indexOf_3 E d ga cn ncn hcn _ _ _ h P (br_t (nI_le (Nat.le_refl _) (by omega)) (t0 no))
    · intro m hm ih no
      obtain ⟨f1, f2⟩ := hf m hm
      refine sg_X6_indexOf_3 E d ga cn ncn hcn _ _ _ h P ?_
      rw [nI_clamp (by omega), f1, nI_1]
      refine br_f (nI_ge hm (by omega)) ⟨vp_in_nI (by omega) (by omega), bj_if (lcmp_z (nmN_lt f2) hv) (fun z => ih (fun j hj => ?_)) (fun z => t1 m hm z no)⟩
      by_cases q : j = m
      · rw [q]; exact z
      · exact no j (by omega)
  exact loop 0 (Nat.zero_le _) (fun j hj => absurd hj (Nat.not_lt_zero j))
/-- whose name stands in the reference -/
def vN (D : SD) (i : Nat) : Prop := i < dN D ∨ (12 ≤ i ∧ i < 12 + dI D)
theorem r_letter {k : Nat} (ok : TxOK T) (rb : RBuf T h) (e4 : h.1 63 44 = nI a) (e5 : h.1 63 45 = nI e) (ha : a ≤ e) (he : e ≤ T.1) (hk : k < 8) (t : P (nI (ltr T a e k)) h) : SpI E (d + 1) MX10_letterHere [.ref (eA E 63), .int (nI k)] h P := by
  have := ok.1
  refine wp_X10_letterHere E d _ h P ?_
  rw [e4, e5, nI_add]
  unfold ltr at t
  refine ek_if (nI_leI (by omega) (by omega)) (fun q => ?_) (fun q => r_byte ok rb (by omega) ?_)
  · rw [if_neg (by omega)] at t; exact t
  · rw [if_pos (by omega)] at t
    unfold bA
    rw [if_pos (by omega)]; exact t
theorem r_named (w : Wf D) (ok : TxOK T) (rb : RBuf T h) (sr : RSrc D h) (e4 : h.1 63 44 = nI a) (e5 : h.1 63 45 = nI e) (ha : a ≤ e) (he : e ≤ T.1) (t1 : ∀ i, vN D i → (∀ k, k < 8 → dM D i k = ltr T a e k) → (∀ j, j < i → vN D j → ¬ ∀ k, k < 8 → dM D j k = ltr T a e k) → P (nI i) h) (t0 : (∀ j, vN D j → ¬ ∀ k, k < 8 → dM D j k = ltr T a e k) → P (-1) h) : SpI E (d + 2) MX10_named [.ref (eA E 63)] h P := by
  have hI := w.2.2.1
  have hN := w.1
  refine wp_X10_named E (d + 1) h P (fun ga => ?_)
  have lc : ∀ k, ltr T a e k < 256 := fun k => by
    unfold ltr
    by_cases q : a + k < e
    · rw [if_pos q]; exact ok.2 _ (by omega)
    · rw [if_neg q]; decide
  have outer : ∀ i, i ≤ 12 + dI D → (∀ j, j < i → vN D j → ¬ ∀ k, k < 8 → dM D j k = ltr T a e k) → VX10_named_2 E (d + 1) ga P (nI i) h := by
    refine up_ind _ ?_ ?_
    · intro no
      refine sg_X10_named_2 E (d + 1) ga _ h P ?_
      rw [sr.2.1, show (12 : Int32) = nI 12 from rfl, nI_add]
      refine br_t (nI_le (Nat.le_refl _) (by omega)) (t0 (fun j hj => no j ?_ hj))
      rcases hj with q | q <;> omega
    · intro i hi ih no
      have more : (¬ (vN D i ∧ ∀ k, k < 8 → dM D i k = ltr T a e k)) → VX10_named_2 E (d + 1) ga P (nI (i + 1)) h := fun z => ih (fun j hj vj al => by
        by_cases q : j = i
        · subst q; exact z ⟨vj, al⟩
        · exact no j (by omega) vj al)
      -- no name there
      have skip : ¬ vN D i → VX10_named_35 E (d + 1) ga P (nI i) (0 : Int32) (0 : Int32) h := fun nv =>
        sg_X10_named_35 E (d + 1) ga _ _ _ h P (br_f (by decide) (br_t rfl (br_t rfl (by rw [nI_1]; exact more (fun z => nv z.1)))))
      have try1 : vN D i → VX10_named_35 E (d + 1) ga P (nI i) (1 : Int32) (0 : Int32) h := by
        intro vi
        have nm : ∀ k, k < 8 → h.1 65 (8 * i + k) = nI (dM D i k) ∧ dM D i k < 128 := by
          intro k hk
          rcases vi with q | ⟨q1, q2⟩
          · exact ⟨sr.2.2.2.1 i q k hk, (w.2.2.2.2.1 i q).2.1 k hk⟩
          · have := sr.2.2.2.2.1 (i - 12) (by omega) k hk
            have b := (w.2.2.2.2.2 (i - 12) (by omega)).2.1 k hk
            rw [show 12 + (i - 12) = i by omega] at this b
            exact ⟨this, b⟩
        have inner : ∀ k, k ≤ 8 → (∀ j, j < k → dM D i j = ltr T a e j) → VX10_named_35 E (d + 1) ga P (nI i) (1 : Int32) (nI k) h := by
          refine up_ind _ ?_ ?_
          · intro al
            exact sg_X10_named_35 E (d + 1) ga _ _ _ h P (br_t (nI_le (Nat.le_refl 8) (by decide)) (br_f (by decide) (t1 i vi al no)))
          · intro k hk ihk al
            obtain ⟨n1, n2⟩ := nm k hk
            refine sg_X10_named_35 E (d + 1) ga _ _ _ h P (br_f (nI_ge (b := 8) hk (by decide)) (br_f (by decide) ?_))
            rw [show (8 : Int32) = nI 8 from rfl, pk_mul, nI_add, nI_clamp (n := 8 * i + k) (by omega), n1, nI_1]
            refine ⟨vp_in_nI (by omega) (by decide), r_letter ok rb e4 e5 ha he hk (bj_if (nI_eq (by omega) (by have := lc k; omega)) (fun z => ?_) (fun z => ihk (fun j hj => ?_)))⟩
            · -- a letter differs: the rest is passed over
              have bad : ∀ k', k' ≤ 8 → VX10_named_35 E (d + 1) ga P (nI i) (0 : Int32) (nI k') h := by
                intro k' hk'
                have m := more (fun x => z (x.2 k hk))
                refine sg_X10_named_35 E (d + 1) ga _ _ _ h P ?_
                rw [nI_1]
                exact ek_if (nI_leI (a := 8) (by decide) (by omega)) (fun _ => br_t rfl m) (fun _ => br_t rfl (br_t rfl m))
              exact bad (k + 1) (by omega)
            · by_cases q : j = k
              · rw [q]; exact z
              · exact al j (by omega)
        exact inner 0 (by decide) (fun j hj => absurd hj (Nat.not_lt_zero j))
      refine sg_X10_named_2 E (d + 1) ga _ h P ?_
      rw [sr.2.1, sr.1, show (12 : Int32) = nI 12 from rfl, nI_add]
      refine br_f (nI_ge hi (by omega)) (ek_if (nI_ltI (by omega) (by omega)) (fun q => try1 (Or.inl q)) (fun q => ek_if (nI_ltI (b := 12) (by omega) (by decide)) (fun q2 => skip (fun v => ?_)) (fun q2 => try1 (Or.inr ⟨by omega, hi⟩))))
      rcases v with v | v <;> omega
  exact outer 0 (Nat.zero_le _) (fun j hj => absurd hj (Nat.not_lt_zero j))
/-- the words of the grammar by their numbers -/
theorem nmb_w {x : Nat → Nat} {L : Nat} (h0 : 0 < L) (h8 : L ≤ 8) (hb : ∀ k, k < L → 48 ≤ x (a + k) ∧ x (a + k) ≤ 122) : ((29232 ≤ nmb x a L ∧ nmb x a L < 29240) ↔ (L = 2 ∧ x a = 114 ∧ 48 ≤ x (a + 1) ∧ x (a + 1) ≤ 55)) ∧ (nmb x a L = 28528 ↔ (L = 2 ∧ x a = 111 ∧ x (a + 1) = 112)) ∧ (nmb x a L = 1970170228 ↔ (L = 4 ∧ x a = 117 ∧ x (a + 1) = 110 ∧ x (a + 2) = 105 ∧ x (a + 3) = 116)) ∧ (nmb x a L = 452824626290 ↔ (L = 5 ∧ x a = 105 ∧ x (a + 1) = 110 ∧ x (a + 2) = 115 ∧ x (a + 3) = 116 ∧ x (a + 4) = 114)) ∧ (L = 2 → nmb x a L = x a * 256 + x (a + 1)) := by
  have e1 : nmb x a 1 = x a := by show 0 * 256 + x (a + 0) = x a; rw [Nat.add_zero]; omega
  have e2 : nmb x a 2 = nmb x a 1 * 256 + x (a + 1) := rfl
  have e3 : nmb x a 3 = nmb x a 2 * 256 + x (a + 2) := rfl
  have e4 : nmb x a 4 = nmb x a 3 * 256 + x (a + 3) := rfl
  have e5 : nmb x a 5 = nmb x a 4 * 256 + x (a + 4) := rfl
  have e6 : nmb x a 6 = nmb x a 5 * 256 + x (a + 5) := rfl
  have e7 : nmb x a 7 = nmb x a 6 * 256 + x (a + 6) := rfl
  have e8 : nmb x a 8 = nmb x a 7 * 256 + x (a + 7) := rfl
  have b0 := hb 0 h0
  rw [Nat.add_zero] at b0
  have cs : L = 1 ∨ L = 2 ∨ L = 3 ∨ L = 4 ∨ L = 5 ∨ L = 6 ∨ L = 7 ∨ L = 8 := by omega
  rcases cs with q | q | q | q | q | q | q | q
  · subst q; omega
  · subst q; have b1 := hb 1 (by decide); omega
  · subst q; have b1 := hb 1 (by decide); have b2 := hb 2 (by decide); omega
  · subst q; have b1 := hb 1 (by decide); have b2 := hb 2 (by decide); have b3 := hb 3 (by decide); omega
  · subst q; have b1 := hb 1 (by decide); have b2 := hb 2 (by decide); have b3 := hb 3 (by decide); have b4 := hb 4 (by decide); omega
  · subst q; have b1 := hb 1 (by decide); have b2 := hb 2 (by decide); have b3 := hb 3 (by decide); have b4 := hb 4 (by decide); omega
  · subst q; have b1 := hb 1 (by decide); have b2 := hb 2 (by decide); have b3 := hb 3 (by decide); have b4 := hb 4 (by decide); omega
  · subst q; have b1 := hb 1 (by decide); have b2 := hb 2 (by decide); have b3 := hb 3 (by decide); have b4 := hb 4 (by decide); omega
end NAM
