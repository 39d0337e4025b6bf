/-! fields in the class: the search -/
theorem low_tab : ∀ a : Nat, a < 64 → ∀ b : Nat, b < 64 → (64 * a + b = 0 ∨ nI (64 * a + b) &&& (-(nI (64 * a + b))) = nI (2 ^ lowi (64 * a + b))) := by decide +kernel
theorem low_ok {s : Nat} (hs : s < 4096) (z : s ≠ 0) : nI s &&& (-(nI s)) = nI (2 ^ lowi s) := by
  have := low_tab (s / 64) (by omega) (s % 64) (by omega)
  rw [show 64 * (s / 64) + s % 64 = s by omega] at this
  rcases this with q | q
  · exact absurd q z
  · exact q
theorem sub_1 {n : Nat} (h : 0 < n) : nI n - (1 : Int32) = nI (n - 1) := by rw [show (1 : Int32) = nI 1 from rfl, pk_sub h]
theorem pcn_p2 : ∀ m, m < 12 → pcn (2 ^ m - 1) = m ∧ 2 ^ m - 1 < 4096 ∧ pcn (2 ^ m) = 1 := by decide +kernel
theorem BITS_ok : ∀ n, n < 13 → BITS.getD n 0 = nI (bl n) ∧ PBITS.getD n 0 = nI (PB n) ∧ PB n ≤ 5 := by decide +kernel
theorem and_z {a b : Nat} (ha : a < 4096) : nI a &&& nI b = 0 ↔ ∀ i, a.testBit i = true → b.testBit i = false := by
  rw [nI_and, nI_z (Nat.lt_of_le_of_lt Nat.and_le_left (by omega))]
  constructor
  · intro e i hi
    have : (a &&& b).testBit i = false := by rw [e, Nat.zero_testBit]
    rw [Nat.testBit_and, hi] at this
    exact this
  · intro h
    apply Nat.eq_of_testBit_eq
    intro i
    rw [Nat.testBit_and, Nat.zero_testBit]
    cases e : a.testBit i with
    | false => rfl
    | true => rw [h i e]; rfl
def TgC (T : Nat → Nat) (h : Hp) : Prop := ∀ m, m < 12 → h.1 55 m = nI (T m)
/-- what is noted of the costs -/
def LBc (T : Nat → Nat) (h : Hp) : Prop := ∀ x, x < 4096 → ∃ c, h.1 56 x = nI c ∧ (c = 0 ∨ (x ≠ 0 ∧ c ≤ mc T x ∧ (Fld T x → c = mc T x)))
def W57 (T : Nat → Nat) (h h' : Hp) : Prop := ∀ x, h'.1 57 x = h.1 57 x ∨ h'.1 57 x = nI (bf T x)
def Gd (T : Nat → Nat) : Nat → Nat → Hp → Prop
  | 0, _, _ => True
  | n + 1, s, h => s = 0 ∨ (h.1 57 s = nI (bf T s) ∧ Gd T n (dif s (bf T s)) h)
theorem Gd.w {T : Nat → Nat} {h h' : Hp} (w : W57 T h h') : ∀ n s, Gd T n s h → Gd T n s h'
  | 0, _, _ => trivial
  | n + 1, s, g => by
    rcases g with g | ⟨g1, g2⟩
    · exact Or.inl g
    · refine Or.inr ⟨?_, Gd.w w n _ g2⟩
      rcases w s with q | q
      · rw [q, g1]
      · exact q
theorem W57.trans {T : Nat → Nat} {h h1 h2 : Hp} (a : W57 T h h1) (b : W57 T h1 h2) : W57 T h h2 := fun x => by
  rcases b x with q | q
  · rw [q]; exact a x
  · exact Or.inr q
theorem W57.of {T : Nat → Nat} {h h1 : Hp} (a : h1.1 57 = h.1 57) : W57 T h h1 := fun x => Or.inl (by rw [a])
def fCo (c _ : Nat) : Bool := c == 56 || c == 57
section FLC
variable {E : En} {L : Nat} {T : Nat → Nat} {h : Hp} {P : Int32 → Hp → Prop}
theorem TgC.fr {h' : Hp} {X : Nat → Nat → Bool} (a : TgC T h) (f : Fr X h h') (e : ∀ j, X 55 j = false) : TgC T h' := by
  unfold TgC
  rw [f.f 55 e]
  exact a
theorem c_isFld {s : Nat} (tg : TgC T h) (hs : s < 4096) (t1 : Fld T s → P 1 h) (t0 : ¬ Fld T s → P 0 h) : SpI E L MX0_isField [.ref (eA E 51), .int (nI s)] h P := by
  refine wp_X0_isField E L _ h P (fun ga => ?_)
  have loop : ∀ m, m ≤ 12 → (∀ j, j < m → s.testBit j = true → ∀ k, s.testBit k = true → (T j).testBit k = false) → VX0_isField_2 E L ga P (nI s) (nI m) h := by
    refine up_ind _ ?_ ?_
    · intro al
      refine sg_X0_isField_2 E L ga _ _ h P (br_t (nI_le (Nat.le_refl 12) (by decide)) (t1 (fun m k hm hk => ?_)))
      rcases Nat.lt_or_ge m 12 with q | q
      · exact al m q hm k hk
      · rw [tb12 hs q] at hm; cases hm
    · intro m hm ih al
      refine sg_X0_isField_2 E L ga _ _ h P (br_f (nI_ge (b := 12) hm (by decide)) ?_)
      rw [nI_1, nI_clamp (by omega), tg m hm]
      refine ek_if (bitA (by omega)) (fun z => ih (fun j hj hj2 => ?_)) (fun z => ⟨vp_in_nI hm (by decide), ?_⟩)
      · by_cases e : j = m
        · rw [e, z] at hj2; cases hj2
        · exact al j (by omega) hj2
      · refine ek_if (and_z hs) (fun y => ih (fun j hj hj2 => ?_)) (fun y => t0 (fun f => y (fun i hi => f m i (ts_nf' z) hi)))
        by_cases e : j = m
        · rw [e]; exact y
        · exact al j (by omega) hj2
  exact loop 0 (by decide) (fun j hj => absurd hj (Nat.not_lt_zero j))
theorem c_costOf {F : Nat} (hL : 1 ≤ L) (hF : F < 4096) (t : P (nI (own F)) h) : SpI E L MX0_costOf [.int (nI F)] h P := by
  obtain ⟨L, rfl⟩ : ∃ k, L = k + 1 := ⟨L - 1, by omega⟩
  have := pcn_le F
  refine wp_X0_costOf E L _ h P (s_bc hF ⟨vp_in_nI (by omega) (by decide), ?_⟩)
  rw [nI_clamp (by omega), (BITS_ok _ (by omega)).1, show (16 : Int32) = nI 16 from rfl, pk_mul, nI_1]
  exact t
theorem c_cal {x : Nat} (ok : TOk T) (hL : 2 ≤ L) (tg : TgC T h) (lb : LBc T h) (hx : x < 4096) (t : ∀ c h', Fr (fun c _ => c == 56) h h' → LBc T h' → h'.1 56 x = nI c → c ≤ mc T x → (x ≠ 0 → 0 < c) → (Fld T x → x ≠ 0 → c = mc T x) → (∀ c0, h.1 56 x = nI c0 → c0 < 1000 → c0 ≠ 0 → c = c0) → P (nI c) h') : SpI E L MX0_costAtLeast [.ref (eA E 51), .int (nI x)] h P := by
  obtain ⟨L, rfl⟩ : ∃ k, L = k + 1 := ⟨L - 1, by omega⟩
  have v : vp_in (nI x) 4096 := vp_in_nI hx (by decide)
  obtain ⟨c, e, hc⟩ := lb x hx
  have mx := (mc_max ok hx).1
  have c1000 : c < 1000 := by rcases hc with q | q <;> omega
  refine wp_X0_costAtLeast E L _ h P ⟨v, ?_⟩
  rw [nI_clamp (by omega), e]
  have wr : ∀ c', 0 < c' → x ≠ 0 → c' ≤ mc T x → (Fld T x → c' = mc T x) → c = 0 → P (nI c') (sI h 56 x (nI c')) := by
    intro c' h0 z h1 h2 hc0
    refine t c' _ ((Fr.refl h).si rfl) (fun y hy => ?_) (sI_at _ _ _ _) h1 (fun _ => h0) (fun f _ => h2 f) (fun c0 e0 l0 n0 => ?_)
    · by_cases q : y = x
      · subst q
        exact ⟨c', sI_at _ _ _ _, Or.inr ⟨z, h1, h2⟩⟩
      · rw [sI_j q]
        exact lb y hy
    · rw [e] at e0
      have := nI_inj (by omega) (by omega) e0
      omega
  refine bj_if (nI_z (by omega)) (fun z => ⟨v, ?_⟩) (fun z => ?_)
  · rcases hc with q | ⟨q1, q2, q3⟩
    · exact absurd q z
    · refine t c h (Fr.refl h) lb e q2 (fun _ => by omega) (fun f _ => q3 f) (fun c0 e0 l0 _ => ?_)
      rw [e] at e0
      exact nI_inj (by omega) (by omega) e0
  · refine ek_if (nI_z (by omega)) (fun y => ⟨v, ?_⟩) (fun y => c_isFld tg hx (fun f => ?_) (fun f => ?_))
    · refine t c h (Fr.refl h) lb e (by omega) (fun n => absurd y n) (fun _ n => absurd y n) (fun c0 e0 l0 n0 => ?_)
      rw [e] at e0
      exact nI_inj (by omega) (by omega) e0
    · refine br_f (by decide) (c_costOf (by omega) hx ⟨v, v, ?_⟩)
      obtain ⟨m1, _⟩ := mc_fld ok hx y f
      exact wr (own x) (by unfold own; omega) y (by omega) (fun _ => m1.symm) z
    · have := pcn_le x
      refine br_t rfl (s_bc hx ⟨vp_in_nI (by omega) (by decide), v, v, ?_⟩)
      rw [nI_clamp (by omega), (BITS_ok _ (by omega)).2.1, show (16 : Int32) = nI 16 from rfl, pk_mul, show (2 : Int32) = nI 2 from rfl, nI_add]
      exact wr _ (by omega) y (mc_par ok hx y f) (fun q => absurd q f) z
def Fam (T : Nat → Nat) (s f o F : Nat) : Prop := FF T s F ∧ Sub f F ∧ ∀ i, F.testBit i = true → f.testBit i = true ∨ o.testBit i = true
def OpOK (T : Nat → Nat) (s f o : Nat) : Prop := Sub o s ∧ (∀ i, o.testBit i = true → f.testBit i = false) ∧ ∀ m k, o.testBit m = true → f.testBit k = true → (T m).testBit k = false
def Att (T : Nat → Nat) (s F : Nat) : Prop := mc T s = own F + mc T (dif s F)
def CWs (E : En) (T : Nat → Nat) (k : Nat) : Prop := ∀ (L s b p : Nat) (h : Hp) (P : Int32 → Hp → Prop), k + 3 ≤ L → s < 4096 → b ≤ mc T s → 2 * pcn s ≤ k → p + 2 * pcn s ≤ 24 → TgC T h → LBc T h → (∀ r h', Fr fCo h h' → LBc T h' → W57 T h h' → h'.1 56 s = nI r → r ≤ mc T s → (r ≤ b → r = mc T s ∧ ∀ n, Gd T n s h') → P (nI r) h') → SpI E L MX0_costWithin [.ref (eA E 51), .int (nI s), .int (nI b), .int (nI p)] h P
def GWs (E : En) (T : Nat → Nat) (k : Nat) : Prop := ∀ (L s f o b p : Nat) (h : Hp) (P : Int32 → Hp → Prop), k + 3 ≤ L → s < 4096 → s ≠ 0 → FF T s f → OpOK T s f o → b ≤ mc T s → 2 * pcn s ≤ k + pcn f → p + 2 * pcn s ≤ 24 + pcn f → TgC T h → LBc T h → (∀ r h', Fr fCo h h' → LBc T h' → (∀ x, x ≠ s → h'.1 57 x = h.1 57 x ∨ h'.1 57 x = nI (bf T x)) → r ≤ own f + mc T (dif s f) → (r ≤ b → r = mc T s ∧ ∃ F, Fam T s f o F ∧ Att T s F ∧ (∀ G, Fam T s f o G → Att T s G → F ≤ G) ∧ h'.1 57 s = nI F ∧ (F = bf T s → ∀ n, Gd T n (dif s F) h')) → (b < r → (h'.1 57 s = h.1 57 s ∨ h'.1 57 s = nI (bf T s)) ∧ ∀ F, Fam T s f o F → r ≤ own F + mc T (dif s F)) → P (nI r) h') → SpI E L MX0_growField [.ref (eA E 51), .int (nI s), .int (nI f), .int (nI o), .int (nI b), .int (nI p)] h P
theorem dif_dif {s a : Nat} {b : Nat} : dif (dif s a) b = dif s (a ||| b) := by
  apply Nat.eq_of_testBit_eq
  intro i
  rw [dif_bit, dif_bit, dif_bit, Nat.testBit_or]
  cases s.testBit i <;> cases a.testBit i <;> cases b.testBit i <;> rfl
theorem cw_of (ok : TOk T) {k : Nat} (g : ∀ j, k = j + 1 → GWs E T j) : CWs E T k := by
  intro L s b p h P hL hs hb hk hp tg lb t
  obtain ⟨L, rfl⟩ : ∃ k, L = k + 1 := ⟨L - 1, by omega⟩
  have v : vp_in (nI s) 4096 := vp_in_nI hs (by decide)
  have mx := (mc_max ok hs).1
  refine wp_X0_costWithin E L _ _ _ h P (c_cal ok (by omega) tg lb hs (fun c h1 f1 lb1 e1 l1 n1 fl1 _ => ?_))
  have w1 : W57 T h h1 := W57.of (f1.f 57 (fun _ => rfl))
  have fc1 : Fr fCo h h1 := f1.mono (fun c j e => by
    unfold fCo at e
    simp only [Bool.or_eq_false_iff] at e
    exact e.1)
  refine ek_if (nI_ltI (by omega) (by omega)) (fun q => t c h1 fc1 lb1 w1 e1 l1 (fun q2 => by omega)) (fun q => ?_)
  refine bj_if (nI_z (by omega)) (fun z => ?_) (fun z => ?_)
  · refine br_t (nI_le (b := 24) (by omega) (by decide)) (c_isFld (tg.fr f1 (fun _ => rfl)) hs (fun f => ?_) (fun f => ?_))
    · refine br_f (by decide) ⟨v, ?_⟩
      obtain ⟨m1, m2⟩ := mc_fld ok hs z f
      rw [nI_clamp (by omega)]
      have w2 : W57 T h1 (sI h1 57 s (nI s)) := fun x => by
        by_cases y : x = s
        · subst y
          rw [m2]
          exact Or.inr (sI_at _ _ _ _)
        · exact Or.inl (sI_j y)
      refine t c _ (fc1.si rfl) (fun x hx => ?_) (w1.trans w2) (by rw [sI_n _ _ _ _ (by decide)]; exact e1) l1 (fun _ => ⟨fl1 f z, fun n => ?_⟩)
      · rw [sI_n _ _ _ _ (by decide)]
        exact lb1 x hx
      · cases n with
        | zero => trivial
        | succ n =>
          refine Or.inr ⟨by rw [sI_at, m2], ?_⟩
          rw [m2, dif_self]
          cases n with
          | zero => trivial
          | succ n => exact Or.inl rfl
    · obtain ⟨k1, k2, k3⟩ := nz_low hs z
      have pp := pcn_pos hs z
      have p12 := pcn_p2 (lowi s) k1
      rw [low_ok hs z, nI_dif, sub_1 (Nat.two_pow_pos _)]
      refine br_t rfl (s_bc p12.2.1 ?_)
      rw [p12.1, nI_clamp (n := lowi s) (by omega), tg.fr f1 (fun _ => rfl) _ k1, nI_dif, nI_1, nI_clamp (n := s) (by omega)]
      refine ⟨vp_in_nI k1 (by decide), ?_⟩
      obtain ⟨j, hj⟩ : ∃ j, k = j + 1 := ⟨k - 1, by omega⟩
      have ffo := FF_one ok hs z
      have opo : OpOK T s (2 ^ lowi s) (dif (dif s (2 ^ lowi s)) (T (lowi s))) := by
        refine ⟨fun i hi => dif_sub _ _ i (dif_sub _ _ i hi), fun i hi => ?_, fun m k hm hk => ?_⟩
        · have := dif_sub _ _ i hi
          rw [dif_bit] at this
          cases e : (2 ^ lowi s).testBit i with
          | false => rfl
          | true => rw [e, Bool.not_true, Bool.and_false] at this; cases this
        · rw [p2_bit, decide_eq_true_iff] at hk
          rw [← hk, ok.2]
          rw [dif_bit] at hm
          cases e : (T (lowi s)).testBit m with
          | false => rfl
          | true => rw [e, Bool.not_true, Bool.and_false] at hm; cases hm
      have allF : ∀ G, FF T s G → Fam T s (2 ^ lowi s) (dif (dif s (2 ^ lowi s)) (T (lowi s))) G := by
        intro G fg
        refine ⟨fg, fun i hi => ?_, fun i hi => ?_⟩
        · rw [p2_bit, decide_eq_true_iff] at hi
          rw [← hi]; exact fg.2.1
        · by_cases e : lowi s = i
          · left
            rw [p2_bit]
            exact decide_eq_true e
          · right
            rw [dif_bit, dif_bit, fg.1 i hi, p2_bit, decide_eq_false e, fg.2.2 _ i fg.2.1 hi]; rfl
      refine g j hj L s (2 ^ lowi s) _ b (p + 1) h1 _ (by omega) hs z ffo opo hb (by omega) (by omega) (tg.fr f1 (fun _ => rfl)) lb1 (fun r h9 f9 lb9 w9 r9 a9 b9 => ⟨v, v, ?_⟩)
      obtain ⟨⟨bf1, bf2⟩, bf3⟩ := bf_is ok hs z
      have rle : r ≤ mc T s := by
        rcases Nat.lt_or_ge b r with q2 | q2
        · rw [bf2]; exact (b9 q2).2 _ (allF _ bf1)
        · rw [(a9 q2).1]; exact Nat.le_refl _
      have full : W57 T h1 h9 := by
        intro x
        by_cases y : x = s
        · subst y
          rcases Nat.lt_or_ge b r with q2 | q2
          · exact (b9 q2).1
          · obtain ⟨_, F, F1, F2, F3, F4, _⟩ := a9 q2
            rw [bf_uq ok hs z F1.1 F2 (fun G g1 g2 => F3 G (allF G g1) g2)]
            exact Or.inr F4
        · exact w9 x y
      have w10 : W57 T h1 (sI h9 56 s (nI r)) := full.trans (W57.of (sI_n _ _ _ _ (by decide)))
      refine t r _ ((fc1.trans f9).si rfl) (fun x hx => ?_) (w1.trans w10) (sI_at _ _ _ _) rle (fun q2 => ⟨(a9 q2).1, fun n => ?_⟩)
      · by_cases y : x = s
        · subst y
          exact ⟨r, sI_at _ _ _ _, Or.inr ⟨z, rle, fun q => absurd q f⟩⟩
        · rw [sI_j y]
          exact lb9 x hx
      · obtain ⟨_, F, F1, F2, F3, F4, F5⟩ := a9 q2
        have eb := bf_uq ok hs z F1.1 F2 (fun G g1 g2 => F3 G (allF G g1) g2)
        cases n with
        | zero => trivial
        | succ n =>
          refine Or.inr ⟨by rw [sI_n _ _ _ _ (by decide), eb]; exact F4, ?_⟩
          rw [eb]
          exact Gd.w (W57.of (sI_n _ _ _ _ (by decide))) n _ (F5 eb.symm n)
  · have : c = 0 := by
      subst z
      obtain ⟨c', e', hc'⟩ := lb1 0 (by decide)
      rw [e1] at e'
      rcases hc' with q | q
      · rw [q] at e'
        exact nI_inj (by omega) (by decide) e'
      · exact absurd rfl q.1
    refine t c h1 fc1 lb1 w1 e1 l1 (fun _ => ⟨by rw [this, z, mc_0 ok], fun n => ?_⟩)
    cases n with
    | zero => trivial
    | succ n => exact Or.inl z
end FLC
