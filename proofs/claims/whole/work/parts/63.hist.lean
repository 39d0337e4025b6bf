/-! the history -/
/-- a step from S to S', and how the class notes it -/
def Tr (D : SD) (S S' : ST) (p f : Int32) : Prop := (p = -1 ∧ f = nI (sM S) ∧ ∀ i, i < dI D → sK S i = sK S' i) ∨ ∃ i k v, i < dI D ∧ k < dL D i ∧ p = nI (24 * i + k) ∧ f = b2i v ∧ sM S = sM S' ∧ (∀ j, j < dI D → j ≠ i → sK S j = sK S' j) ∧ ∀ b, (sK S i).testBit b = if b = k then v else (sK S' i).testBit b
def Hist (D : SD) (n : Nat) (hs : Nat → ST) (h : Hp) : Prop := n ≤ 8 ∧ h.1 29 2 = nI n ∧ h.1 63 33 = nI n ∧ ∀ j, j < n → WfS D (hs j) ∧ h.1 86 (9 * j) = nI (sM (hs j)) ∧ (∀ i, i < dI D → h.1 86 (9 * j + (1 + i)) = nI (sK (hs j) i)) ∧ Tr D (hs j) (hs (j + 1)) (h.1 30 j) (h.1 31 j)
theorem Hist.fr {D : SD} {n : Nat} {hs : Nat → ST} {h h' : Hp} {X : Nat → Nat → Bool} (a : Hist D n hs h) (f : Fr X h h') (e1 : X 29 2 = false) (e2 : X 63 33 = false) (e3 : ∀ j, X 30 j = false) (e4 : ∀ j, X 31 j = false) (e5 : ∀ j, X 86 j = false) : Hist D n hs h' := by
  unfold Hist
  rw [f.i 29 2 e1, f.i 63 33 e2, f.f 30 e3, f.f 31 e4, f.f 86 e5]
  exact a
theorem Tr.cong {D : SD} {S S' S2 : ST} {p f : Int32} (t : Tr D S S' p f) (em : sM S' = sM S2) (ek : ∀ i, i < dI D → sK S' i = sK S2 i) : Tr D S S2 p f := by
  rcases t with ⟨t1, t2, t3⟩ | ⟨i, k, v, t1, t2, t3, t4, t5, t6, t7⟩
  · exact Or.inl ⟨t1, t2, fun i hi => by rw [t3 i hi, ek i hi]⟩
  · exact Or.inr ⟨i, k, v, t1, t2, t3, t4, t5.trans em, fun j hj hn => by rw [t6 j hj hn, ek j hj], fun b => by rw [t7 b, ek i t1]⟩
/-- how many fall out -/
def off (n : Nat) : Nat := if n = 8 then 1 else 0
section HIS
variable {E : En} {d : Nat} {D : SD} {S S' : ST} {h : Hp} {P : Int32 → Hp → Prop} {PV : Hp → Prop} {n : Nat}
def fRe (c j : Nat) : Bool := c == 30 || c == 31 || (c == 29 && j == 2)
def fKe (c j : Nat) : Bool := c == 86 || (c == 63 && j == 33)
theorem c_rem {p f : Int32} (hn : n ≤ 8) (e : h.1 29 2 = nI n) (t : ∀ h', Fr fRe h h' → h'.1 29 2 = nI (n - off n + 1) → (∀ j, j < n - off n → h'.1 30 j = h.1 30 (j + off n) ∧ h'.1 31 j = h.1 31 (j + off n)) → h'.1 30 (n - off n) = p → h'.1 31 (n - off n) = f → PV h') : SpV E d MX1_remember [.ref (eA E 29), .int p, .int f] h PV := by
  refine wp_X1_remember E d _ _ h PV (fun ga => ?_)
  rw [e]
  refine bj_if (nI_eq (b := 8) (by omega) (by decide)) (fun q => ?_) (fun q => ?_)
  · have e0 : off n = 0 := if_neg q
    rw [e0] at t
    rw [nI_clamp (by omega), nI_1]
    have v : vp_in (nI n) 8 := vp_in_nI (by omega) (by decide)
    refine ⟨v, v, t _ (((Fr.refl h).si rfl).si rfl |>.si rfl) (sI_at _ _ _ _) (fun j hj => ?_) ?_ ?_⟩
    · rw [sI_n _ _ _ _ (show 30 ≠ 29 by decide), sI_n _ _ _ _ (show 31 ≠ 29 by decide), sI_j (by omega), sI_j (by omega), sI_j (by omega), sI_j (by omega)]
      exact ⟨rfl, rfl⟩
    · rw [sI_n _ _ _ _ (show 30 ≠ 29 by decide), sI_n _ _ _ _ (show 30 ≠ 31 by decide)]
      exact sI_at _ _ _ _
    · rw [sI_n _ _ _ _ (show 31 ≠ 29 by decide)]
      exact sI_at _ _ _ _
  · subst q
    have e0 : off 8 = 1 := rfl
    rw [e0] at t
    have loop : ∀ k, k ≤ 8 → ∀ h1, 1 ≤ k → Fr fRe h h1 → h1.1 29 2 = nI 8 → (∀ j, j + 1 < k → h1.1 30 j = h.1 30 (j + 1) ∧ h1.1 31 j = h.1 31 (j + 1)) → (∀ j, k ≤ j → h1.1 30 j = h.1 30 j ∧ h1.1 31 j = h.1 31 j) → VX1_remember_11 E d ga PV p f (nI k) h1 := by
      refine up_ind _ ?_ ?_
      · intro h1 _ fr e1 lo hi
        refine sg_X1_remember_11 E d ga _ _ _ h1 PV (br_t (nI_le (Nat.le_refl 8) (by decide)) ?_)
        rw [e1, sub_1 (by decide), nI_1, nI_clamp (n := 8 - 1) (by decide)]
        have v : vp_in (nI (8 - 1)) 8 := vp_in_nI (by decide) (by decide)
        refine ⟨v, v, t _ ((((fr.si rfl).si rfl).si rfl).si rfl) (sI_at _ _ _ _) (fun j hj => ?_) ?_ ?_⟩
        · rw [sI_n _ _ _ _ (show 30 ≠ 29 by decide), sI_n _ _ _ _ (show 30 ≠ 31 by decide), sI_j (show j ≠ 8 - 1 by omega), sI_n _ _ _ _ (show 30 ≠ 29 by decide), sI_n _ _ _ _ (show 31 ≠ 29 by decide), sI_j (show j ≠ 8 - 1 by omega), sI_n _ _ _ _ (show 31 ≠ 30 by decide), sI_n _ _ _ _ (show 31 ≠ 29 by decide)]
          exact lo j (by omega)
        · rw [sI_n _ _ _ _ (show 30 ≠ 29 by decide), sI_n _ _ _ _ (show 30 ≠ 31 by decide)]
          exact sI_at _ _ _ _
        · rw [sI_n _ _ _ _ (show 31 ≠ 29 by decide)]
          exact sI_at _ _ _ _
      · intro k hk ih h1 hk1 fr e1 lo hi
        have v : vp_in (nI k) 8 := vp_in_nI (by omega) (by decide)
        have v2 : vp_in (nI (k - 1)) 8 := vp_in_nI (by omega) (by decide)
        refine sg_X1_remember_11 E d ga _ _ _ h1 PV (br_f (nI_ge (b := 8) hk (by decide)) ?_)
        rw [sub_1 (by omega), nI_1, nI_clamp (n := k - 1) (by omega), nI_clamp (n := k) (by omega)]
        refine ⟨v, v2, v, v2, ih _ (by omega) ((fr.si rfl).si rfl) (by rw [sI_n _ _ _ _ (by decide), sI_n _ _ _ _ (by decide)]; exact e1) (fun j hj => ?_) (fun j hj => ?_)⟩
        · by_cases z : j = k - 1
          · subst z
            rw [sI_n _ _ _ _ (show 30 ≠ 31 by decide), sI_at, sI_at, (hi k (Nat.le_refl _)).1, (hi k (Nat.le_refl _)).2, show k - 1 + 1 = k by omega]
            exact ⟨rfl, rfl⟩
          · rw [sI_j z, sI_j z, sI_j z, sI_j z]
            exact lo j (by omega)
        · rw [sI_j (by omega), sI_j (by omega), sI_j (by omega), sI_j (by omega)]
          exact hi j (by omega)
    exact loop 1 (by decide) h (Nat.le_refl _) (Fr.refl h) e (fun j hj => by omega) (fun j _ => ⟨rfl, rfl⟩)
theorem r_keeps (hn : n ≤ 8) (e : h.1 63 33 = nI n) (t : ∀ h', Fr fKe h h' → h'.1 63 33 = nI (n - off n + 1) → (∀ x, x < 9 * (n - off n) → h'.1 86 x = h.1 86 (x + 9 * off n)) → (∀ x, x < 9 → h'.1 86 (9 * (n - off n) + x) = h.1 68 x) → PV h') : SpV E d MX10_keeps [.ref (eA E 63)] h PV := by
  refine wp_X10_keeps E d h PV (fun ga => ?_)
  have last : ∀ m, m < 8 → m = n - off n → ∀ h1, Fr fKe h h1 → h1.1 63 33 = nI m → (∀ x, x < 9 * m → h1.1 86 x = h.1 86 (x + 9 * off n)) → ∀ k, k ≤ 9 → ∀ h2, Fr fKe h h2 → h2.1 63 33 = nI m → (∀ x, x < 9 * m → h2.1 86 x = h.1 86 (x + 9 * off n)) → (∀ x, x < k → h2.1 86 (9 * m + x) = h.1 68 x) → VX10_keeps_51 E d ga PV (nI k) h2 := by
    intro m hm em h1 _ _ _
    refine up_ind _ ?_ ?_
    · intro h2 fr e2 lo hi
      refine sg_X10_keeps_51 E d ga _ h2 PV (br_t (nI_le (Nat.le_refl 9) (by decide)) ?_)
      rw [e2, nI_1]
      refine t _ (fr.si rfl) (by rw [sI_at, em]) (fun x hx => ?_) (fun x hx => ?_)
      · rw [sI_n _ _ _ _ (by decide)]; exact lo x (by omega)
      · rw [sI_n _ _ _ _ (by decide), ← em]; exact hi x hx
    · intro k hk ih h2 fr e2 lo hi
      refine sg_X10_keeps_51 E d ga _ h2 PV (br_f (nI_ge (b := 9) hk (by decide)) ?_)
      rw [e2, show (9 : Int32) = nI 9 from rfl, pk_mul, nI_add, nI_1, nI_clamp (n := 9 * m + k) (by omega), nI_clamp (n := k) (by omega), fr.f 68 (fun _ => rfl)]
      refine ⟨vp_in_nI hk (by decide), vp_in_nI (by omega) (by decide), ih _ (fr.si rfl) (by rw [sI_n _ _ _ _ (by decide)]; exact e2) (fun x hx => ?_) (fun x hx => ?_)⟩
      · rw [sI_j (by omega)]; exact lo x hx
      · by_cases z : x = k
        · rw [z, sI_at]
        · rw [sI_j (by omega)]; exact hi x (by omega)
  rw [e]
  refine bj_if (nI_eq (b := 8) (by omega) (by decide)) (fun q => ?_) (fun q => ?_)
  · have e0 : off n = 0 := if_neg q
    have z0 : ∀ x, x < 9 * n → h.1 86 x = h.1 86 (x + 9 * off n) := fun x _ => by rw [e0]; rfl
    exact last n (by omega) (by rw [e0]; rfl) h (Fr.refl h) e z0 0 (by decide) h (Fr.refl h) e z0 (fun x hx => absurd hx (Nat.not_lt_zero x))
  · subst q
    have loop : ∀ k, k ≤ 72 → ∀ h1, 9 ≤ k → Fr fKe h h1 → h1.1 63 33 = nI 8 → (∀ j, j + 9 < k → h1.1 86 j = h.1 86 (j + 9)) → (∀ j, k ≤ j → h1.1 86 j = h.1 86 j) → VX10_keeps_12 E d ga PV (nI k) h1 := by
      refine up_ind _ ?_ ?_
      · intro h1 _ fr e1 lo hi
        refine sg_X10_keeps_12 E d ga _ h1 PV (br_t (nI_le (Nat.le_refl 72) (by decide)) ?_)
        rw [e1, sub_1 (by decide)]
        have f7 : Fr fKe h (sI h1 63 33 (nI (8 - 1))) := fr.si rfl
        have lo7 : ∀ x, x < 9 * 7 → (sI h1 63 33 (nI (8 - 1))).1 86 x = h.1 86 (x + 9 * off 8) := fun x hx => by
          rw [sI_n _ _ _ _ (by decide)]
          exact lo x (by omega)
        exact last 7 (by decide) rfl _ f7 (sI_at _ _ _ _) lo7 0 (by decide) _ f7 (sI_at _ _ _ _) lo7 (fun x hx => absurd hx (Nat.not_lt_zero x))
      · intro k hk ih h1 hk1 fr e1 lo hi
        refine sg_X10_keeps_12 E d ga _ h1 PV (br_f (nI_ge (b := 72) hk (by decide)) ?_)
        rw [show (9 : Int32) = nI 9 from rfl, pk_sub (by omega), nI_1, nI_clamp (n := k - 9) (by omega), nI_clamp (n := k) (by omega)]
        refine ⟨vp_in_nI hk (by decide), vp_in_nI (by omega) (by decide), ih _ (by omega) (fr.si rfl) (by rw [sI_n _ _ _ _ (by decide)]; exact e1) (fun j hj => ?_) (fun j hj => ?_)⟩
        · by_cases z : j = k - 9
          · subst z
            rw [sI_at, hi k (Nat.le_refl _), show k - 9 + 9 = k by omega]
          · rw [sI_j z]
            exact lo j (by omega)
        · rw [sI_j (by omega)]
          exact hi j (by omega)
    exact loop 9 (by decide) h (Nat.le_refl _) (Fr.refl h) e (fun j hj => by omega) (fun j _ => rfl)
/-- the history after a step -/
theorem Hist.push {hs : Nat → ST} {h' : Hp} {p f : Int32} (a : Hist D n hs h) (en : hs n = S) (ws : WfS D S) (st : RSt D S h) (tr : Tr D S S' p f) (hI : dI D ≤ 8) (e1 : h'.1 29 2 = nI (n - off n + 1)) (e2 : h'.1 63 33 = nI (n - off n + 1)) (c1 : ∀ j, j < n - off n → h'.1 30 j = h.1 30 (j + off n) ∧ h'.1 31 j = h.1 31 (j + off n)) (c2 : h'.1 30 (n - off n) = p) (c3 : h'.1 31 (n - off n) = f) (r1 : ∀ x, x < 9 * (n - off n) → h'.1 86 x = h.1 86 (x + 9 * off n)) (r2 : ∀ x, x < 9 → h'.1 86 (9 * (n - off n) + x) = h.1 68 x) : Hist D (n - off n + 1) (fun j => if j ≤ n - off n then hs (j + off n) else S') h' := by
  obtain ⟨a1, a2, a3, a4⟩ := a
  have o1 : off n ≤ n ∧ n - off n < 8 := by
    unfold off
    by_cases q : n = 8
    · rw [if_pos q]; omega
    · rw [if_neg q]; omega
  have en' : hs (n - off n + off n) = S := by rw [show n - off n + off n = n by omega]; exact en
  refine ⟨by omega, e1, e2, fun j hj => ?_⟩
  dsimp only
  rw [if_pos (show j ≤ n - off n by omega)]
  by_cases q : j = n - off n
  · subst q
    rw [if_neg (by omega), en', c2, c3]
    refine ⟨ws, ?_, fun i hi => ?_, tr⟩
    · have := r2 0 (by decide)
      rw [Nat.add_zero] at this
      rw [this, st.1]
    · rw [r2 (1 + i) (by omega), st.2 i hi]
  · obtain ⟨b1, b2, b3, b4⟩ := a4 (j + off n) (by omega)
    rw [if_pos (by omega), (c1 j (by omega)).1, (c1 j (by omega)).2]
    refine ⟨b1, ?_, fun i hi => ?_, ?_⟩
    · rw [r1 _ (by omega), show 9 * j + 9 * off n = 9 * (j + off n) by omega, b2]
    · rw [r1 _ (by omega), show 9 * j + (1 + i) + 9 * off n = 9 * (j + off n) + (1 + i) by omega, b3 i hi]
    · rw [show j + 1 + off n = j + off n + 1 by omega]
      exact b4
end HIS
