/-! packings with the fewest words, as mathematics -/
/-- a word that may come next -/
def Ok (g : SG) (dn w : Nat) : Prop := w ≠ 0 ∧ w < 2 ^ gS g ∧ ∀ j, w.testBit j = true → dn.testBit j = false ∧ dif (gX g j) dn = 0 ∧ dif (gW g j) (dn ||| w) = 0 ∧ ∀ q, w.testBit q = true → gU g q = gU g j → q = j
/-- the rest fits into so many words -/
def Pk (g : SG) : Nat → Nat → Prop
  | 0, dn => dn = gA g
  | n + 1, dn => dn = gA g ∨ ∃ w, Ok g dn w ∧ Pk g n (dn ||| w)
theorem Pk.mono1 {g : SG} : ∀ {n dn : Nat}, Pk g n dn → Pk g (n + 1) dn
  | 0, _, h => Or.inl h
  | n + 1, _, h => by
    rcases h with h | ⟨w, h1, h2⟩
    · exact Or.inl h
    · exact Or.inr ⟨w, h1, h2.mono1⟩
theorem Pk.mono {g : SG} {n dn : Nat} (h : Pk g n dn) : ∀ k, Pk g (n + k) dn
  | 0 => h
  | k + 1 => (h.mono k).mono1
theorem Pk.le {g : SG} {n m dn : Nat} (h : Pk g n dn) (e : n ≤ m) : Pk g m dn := by
  have := h.mono (m - n)
  rw [show n + (m - n) = m by omega] at this
  exact this
def Cl (g : SG) (dn : Nat) : Prop := dn < 2 ^ gS g ∧ ∀ j, dn.testBit j = true → dif (gX g j) dn = 0 ∧ dif (gW g j) dn = 0
theorem Cl.zero (g : SG) : Cl g 0 := ⟨Nat.two_pow_pos _, fun j h => by rw [Nat.zero_testBit] at h; cases h⟩
theorem dif_or {a d w : Nat} (h : dif a d = 0) : dif a (d ||| w) = 0 := by
  rw [dif_0] at h ⊢
  intro i hi
  rw [Nat.testBit_or, h i hi]; rfl
theorem Cl.step {g : SG} {dn w : Nat} (c : Cl g dn) (o : Ok g dn w) : Cl g (dn ||| w) := by
  refine ⟨or_lt c.1 o.2.1, fun j hj => ?_⟩
  rw [Nat.testBit_or] at hj
  cases hd : dn.testBit j with
  | true => exact ⟨dif_or (c.2 j hd).1, dif_or (c.2 j hd).2⟩
  | false =>
    rw [hd, Bool.false_or] at hj
    obtain ⟨_, h2, h3, _⟩ := o.2.2 j hj
    exact ⟨dif_or h2, h3⟩
/-- heights are lower bounds -/
theorem Pk_hgt {g : SG} {H : Nat → Nat} (hg : HgOK g H) : ∀ (n dn : Nat), Cl g dn → Pk g n dn → ∀ p, p < gS g → dn.testBit p = false → H p ≤ n := by
  intro n
  induction n with
  | zero =>
    intro dn c h p hp hb
    have h : dn = gA g := h
    rw [h, gA_bit, decide_eq_true hp] at hb; cases hb
  | succ n ih =>
    intro dn c h
    rcases h with h | ⟨w, o, h⟩
    · intro p hp hb
      rw [h, gA_bit, decide_eq_true hp] at hb; cases hb
    · have c2 := c.step o
      have key : ∀ k p, p < gS g → gS g ≤ p + k → dn.testBit p = false → H p ≤ n + 1 := by
        intro k
        induction k with
        | zero => intro p h1 h2; omega
        | succ k ihk =>
          intro p hp hk hb
          cases hw : w.testBit p with
          | false =>
            have := ih (dn ||| w) c2 h p hp (by rw [Nat.testBit_or, hb, hw]; rfl)
            omega
          | true =>
            rcases (hg p hp).2.2 with z | ⟨q, q1, q2, z⟩
            · omega
            · rcases z with ⟨x, e⟩ | ⟨x, e⟩
              · have nd : dn.testBit q = false := ts_nt' (fun y => by
                  have := dif_0.mp (c.2 q y).1 p x
                  rw [hb] at this; cases this)
                have nw : w.testBit q = false := ts_nt' (fun y => by
                  have := dif_0.mp (o.2.2 q y).2.1 p x
                  rw [hb] at this; cases this)
                have := ih (dn ||| w) c2 h q q2 (by rw [Nat.testBit_or, nd, nw]; rfl)
                omega
              · have nd : dn.testBit q = false := ts_nt' (fun y => by
                  have := dif_0.mp (c.2 q y).2 p x
                  rw [hb] at this; cases this)
                have := ihk q q2 (by omega) nd
                omega
      intro p hp hb
      exact key (gS g) p hp (by omega) hb
/-- units are lower bounds -/
theorem ct_one {p q : Nat → Bool} {k0 : Nat} : ∀ n, (∀ k, k < n → k ≠ k0 → p k = true → q k = true) → fb_ct p n ≤ fb_ct q n + 1 ∧ (n ≤ k0 → fb_ct p n ≤ fb_ct q n)
  | 0, _ => ⟨by show 0 ≤ _; omega, fun _ => by show 0 ≤ _; omega⟩
  | n + 1, h => by
    obtain ⟨a, b⟩ := ct_one n (fun k hk => h k (by omega))
    rw [fb_ct_succ, fb_ct_succ]
    have le1 : (if p n = true then 1 else 0) ≤ 1 := by cases p n <;> decide
    have mono : n ≠ k0 → (if p n = true then 1 else 0) ≤ (if q n = true then 1 else 0) := by
      intro e
      cases hp : p n with
      | false => exact Nat.zero_le _
      | true => rw [h n (by omega) e hp]; exact Nat.le_refl _
    by_cases e : n = k0
    · have := b (by omega)
      exact ⟨by omega, fun z => by omega⟩
    · have := mono e
      exact ⟨by omega, fun z => by have := b (by omega); omega⟩
def ctU (g : SG) (x dn : Nat) : Nat := fb_ct (fun p => decide (gU g p = x) && !dn.testBit p) (gS g)
theorem Pk_unit {g : SG} {x : Nat} : ∀ (n dn : Nat), Pk g n dn → ctU g x dn ≤ n := by
  intro n
  have all : ctU g x (gA g) = 0 := by
    unfold ctU
    rw [fb_ct_zero]
    intro k hk
    rw [gA_bit, decide_eq_true hk, Bool.not_true, Bool.and_false]
  induction n with
  | zero =>
    intro dn h
    have h : dn = gA g := h
    rw [h, all]; exact Nat.le_refl 0
  | succ n ih =>
    intro dn h
    rcases h with h | ⟨w, o, h⟩
    · rw [h, all]; omega
    · have := ih _ h
      have key : ∃ k0, ∀ k, k < gS g → k ≠ k0 → (decide (gU g k = x) && !dn.testBit k) = true → (decide (gU g k = x) && !(dn ||| w).testBit k) = true := by
        by_cases e : ∃ j, w.testBit j = true ∧ gU g j = x
        · obtain ⟨j, j1, j2⟩ := e
          refine ⟨j, fun k hk hne hp => ?_⟩
          simp only [Bool.and_eq_true, decide_eq_true_eq, Bool.not_eq_true'] at hp
          have nw : w.testBit k = false := ts_nt' (fun y => hne ((o.2.2 j j1).2.2.2 k y (by rw [hp.1, j2])))
          rw [decide_eq_true hp.1, Nat.testBit_or, hp.2, nw]; rfl
        · refine ⟨gS g, fun k hk _ hp => ?_⟩
          simp only [Bool.and_eq_true, decide_eq_true_eq, Bool.not_eq_true'] at hp
          have nw : w.testBit k = false := ts_nt' (fun y => e ⟨k, y, hp.1⟩)
          rw [decide_eq_true hp.1, Nat.testBit_or, hp.2, nw]; rfl
      obtain ⟨k0, hk0⟩ := key
      have := (ct_one (p := fun p => decide (gU g p = x) && !dn.testBit p) (q := fun p => decide (gU g p = x) && !(dn ||| w).testBit p) (k0 := k0) (gS g) hk0).1
      unfold ctU at *
      omega
theorem ct_ext (p : Nat → Bool) : ∀ {n m : Nat}, n ≤ m → (∀ k, n ≤ k → p k = false) → fb_ct p m = fb_ct p n := by
  intro n m h a
  obtain ⟨k, rfl⟩ : ∃ k, m = n + k := ⟨m - n, by omega⟩
  clear h
  induction k with
  | zero => rfl
  | succ k ih =>
    show fb_ct p (n + k + 1) = _
    rw [fb_ct_succ, ih, a (n + k) (by omega)]; rfl
theorem ctU_pcn {g : SG} (w : WfG g) (x dn : Nat) : pcn (dif (ofU g x) dn) = ctU g x dn := by
  unfold pcn ctU
  have e : ∀ p, (dif (ofU g x) dn).testBit p = (decide (p < gS g) && (decide (gU g p = x) && !dn.testBit p)) := by
    intro p
    unfold ofU
    rw [dif_bit, mskF_bit, Bool.and_assoc]
  have w2 := w.2.1
  rw [ct_ext (n := gS g) _ (by omega) (fun k hk => by rw [e, decide_eq_false (by omega)]; rfl)]
  exact fb_ct_cong (fun k hk => by rw [e, decide_eq_true hk, Bool.true_and])
/-- the greatest words, one after the other, among those behind which the rest fits -/
def Bs (g : SG) : Nat → Nat → List Nat → Prop
  | _, dn, [] => dn = gA g
  | 0, _, _ :: _ => False
  | n + 1, dn, w :: l => dn ≠ gA g ∧ Ok g dn w ∧ Pk g n (dn ||| w) ∧ (∀ w', Ok g dn w' → Pk g n (dn ||| w') → w' ≤ w) ∧ Bs g n (dn ||| w) l
theorem Bs.one {g : SG} : ∀ (l1 l2 : List Nat) (n dn : Nat), Bs g n dn l1 → Bs g n dn l2 → l1 = l2
  | [], [], _, _, _, _ => rfl
  | [], _ :: _, 0, _, _, h2 => h2.elim
  | [], _ :: _, n + 1, dn, h1, h2 => by
    cases n <;> exact absurd h1 h2.1
  | _ :: _, [], 0, _, h1, _ => h1.elim
  | _ :: _, [], n + 1, dn, h1, h2 => by
    cases n <;> exact absurd h2 h1.1
  | _ :: _, _ :: _, 0, _, h1, _ => h1.elim
  | w1 :: l1, w2 :: l2, n + 1, dn, h1, h2 => by
    obtain ⟨_, a2, a3, a4, a5⟩ := h1
    obtain ⟨_, b2, b3, b4, b5⟩ := h2
    have e : w1 = w2 := Nat.le_antisymm (b4 w1 a2 a3) (a4 w2 b2 b3)
    subst e
    rw [Bs.one l1 l2 n _ a5 b5]
theorem Bs.pk {g : SG} : ∀ (l : List Nat) (n dn : Nat), Bs g n dn l → Pk g l.length dn
  | [], n, dn, h => by cases n <;> exact h
  | _ :: _, 0, _, h => h.elim
  | w :: l, n + 1, dn, h => Or.inr ⟨w, h.2.1, Bs.pk l n _ h.2.2.2.2⟩
theorem Bs.len {g : SG} : ∀ (l : List Nat) (n dn : Nat), Bs g n dn l → l.length ≤ n
  | [], _, _, _ => Nat.zero_le _
  | _ :: _, 0, _, h => h.elim
  | w :: l, n + 1, dn, h => by
    have := Bs.len l n _ h.2.2.2.2
    show l.length + 1 ≤ n + 1
    omega
theorem Bs.mem {g : SG} : ∀ (l : List Nat) (n dn : Nat), Bs g n dn l → ∀ x, x ∈ l → x < 2 ^ gS g
  | [], _, _, _, x, hx => by cases hx
  | _ :: _, 0, _, h, _, _ => h.elim
  | w :: l, n + 1, dn, h, x, hx => by
    rw [List.mem_cons] at hx
    rcases hx with rfl | hx
    · exact h.2.1.2.1
    · exact Bs.mem l n _ h.2.2.2.2 x hx
/-- the packing with the fewest words that is wanted -/
def BestP (g : SG) (l : List Nat) : Prop := ∃ n, Pk g n 0 ∧ (∀ m, m < n → ¬ Pk g m 0) ∧ Bs g n 0 l
theorem BestP.one {g : SG} {l1 l2 : List Nat} (h1 : BestP g l1) (h2 : BestP g l2) : l1 = l2 := by
  obtain ⟨n, a1, a2, a3⟩ := h1
  obtain ⟨m, b1, b2, b3⟩ := h2
  have e : n = m := by
    rcases Nat.lt_or_ge n m with q | q
    · exact absurd a1 (b2 n q)
    · rcases Nat.lt_or_ge m n with z | z
      · exact absurd b1 (a2 m z)
      · omega
  subst e
  exact Bs.one _ _ _ _ a3 b3
/-- one position after the other always does -/
theorem Pk_all {g : SG} (w : WfG g) : ∀ (f dn : Nat), dn < 2 ^ gS g → lft g dn ≤ f → Pk g f dn := by
  intro f
  induction f with
  | zero => intro dn h a; exact lft_0 h (by omega)
  | succ f ih =>
    intro dn h a
    by_cases e : dn = gA g
    · exact Or.inl e
    · obtain ⟨p, h1, h2, h3⟩ := not_all h e
      obtain ⟨-, x, y⟩ := w.2.2 p h1
      refine Or.inr ⟨2 ^ p, ⟨?_, p2_lt h1, fun j hj => ?_⟩, ih _ (or_lt h (p2_lt h1)) ?_⟩
      · have := Nat.two_pow_pos p; omega
      · rw [p2_bit, decide_eq_true_iff] at hj
        subst hj
        refine ⟨h2, sub_done x h3, dif_or (sub_done y h3), fun q hq _ => ?_⟩
        rw [p2_bit, decide_eq_true_iff] at hq
        exact hq.symm
      · have := lft_lt (w := 2 ^ p) h1 h2 (by rw [p2_bit, decide_eq_true rfl])
        omega
theorem BestP.len {g : SG} (w : WfG g) {l : List Nat} (h : BestP g l) : 0 < l.length ∧ l.length ≤ gS g := by
  obtain ⟨n, a1, a2, a3⟩ := h
  have h1 := Bs.len _ _ _ a3
  have h2 := Bs.pk _ _ _ a3
  constructor
  · rcases Nat.eq_zero_or_pos l.length with e | e
    · rw [e] at h2
      have h2 : 0 = gA g := h2
      have b := gA_bit g 0
      rw [← h2, Nat.zero_testBit, decide_eq_true w.1] at b
      cases b
    · exact e
  · have : Pk g (gS g) 0 := Pk_all w _ _ (Nat.two_pow_pos _) (lft_le g 0)
    rcases Nat.lt_or_ge (gS g) n with q | q
    · exact absurd this (a2 _ q)
    · omega
theorem BestP.mem {g : SG} {l : List Nat} (h : BestP g l) {x : Nat} (hx : x ∈ l) : x < 2 ^ gS g := by
  obtain ⟨n, _, _, a3⟩ := h
  exact Bs.mem _ _ _ a3 x hx
noncomputable def pkB (g : SG) : List Nat := Classical.epsilon (BestP g)
theorem pkB_is {g : SG} {l : List Nat} (h : BestP g l) : pkB g = l := BestP.one (Classical.epsilon_spec ⟨l, h⟩) h
