/-! fields in the reference -/
theorem one_tab : ∀ a : Nat, a < 64 → ∀ b : Nat, b < 64 → (64 * a + b = 0 ∨ pcn (64 * a + b) = pcn ((64 * a + b) &&& (64 * a + b - 1)) + 1) := by decide +kernel
theorem one_ok {s : Nat} (hs : s < 4096) (z : s ≠ 0) : pcn s = pcn (s &&& (s - 1)) + 1 := by
  have := one_tab (s / 64) (by omega) (s % 64) (by omega)
  rw [show 64 * (s / 64) + s % 64 = s by omega] at this
  rcases this with q | q
  · exact absurd q z
  · exact q
/-- the bits of a field at 0 -/
def FldR (Fs : List Nat) (h : Hp) : Prop := h.1 63 30 = nI Fs.length ∧ h.1 63 31 = nI (bts Fs) ∧ ∀ f, f < Fs.length → h.1 85 f = nI (Fs.getD f 0)
theorem FldR.fr {Fs : List Nat} {h h' : Hp} {X : Nat → Nat → Bool} (a : FldR Fs h) (f : Fr X h h') (e1 : X 63 30 = false) (e2 : X 63 31 = false) (e : ∀ j, X 85 j = false) : FldR Fs h' := by
  unfold FldR
  rw [f.i 63 30 e1, f.i 63 31 e2, f.f 85 e]
  exact a
theorem pcn_two {y : Nat} (hy : y < 4096) : pcn y < 2 ↔ ∀ i k, y.testBit i = true → y.testBit k = true → i = k := by
  constructor
  · intro h i k hi hk
    have key : ∀ i k, y.testBit i = true → y.testBit k = true → ¬ i < k := by
      intro i k hi hk q
      have k12 : k < 12 := by
        rcases Nat.lt_or_ge k 12 with q | q
        · exact q
        · rw [tb12 hy q] at hk; cases hk
      have s1 : fb_ct (fun i => y.testBit i) (i + 1) = fb_ct (fun i => y.testBit i) i + 1 := by rw [fb_ct_succ]; simp [hi]
      have s2 : fb_ct (fun i => y.testBit i) (k + 1) = fb_ct (fun i => y.testBit i) k + 1 := by rw [fb_ct_succ]; simp [hk]
      have m1 := fb_ct_mono (fun i => y.testBit i) (m := i + 1) (n := k) (by omega)
      have m2 := fb_ct_mono (fun i => y.testBit i) (m := k + 1) (n := 12) (by omega)
      unfold pcn at h
      omega
    have := key i k hi hk
    have := key k i hk hi
    omega
  · intro h
    rcases Nat.lt_or_ge (pcn y) 2 with q | q
    · exact q
    · obtain ⟨i, _, i2, i3⟩ := fb_ct_kth (p := fun i => y.testBit i) (k := 0) (n := 12) (by unfold pcn at q; omega)
      obtain ⟨k, _, k2, k3⟩ := fb_ct_kth (p := fun i => y.testBit i) (k := 1) (n := 12) (by unfold pcn at q; omega)
      have := h i k i2 k2
      subst this
      omega
theorem fld_tog {D : SD} {Q : SO} (w : Wf D) (wq : WfQ D Q) (s : Nat) : Fld (tog Q) s ↔ ∀ a, a < qN Q → pcn (qS Q a &&& s) < 2 := by
  have hN := p12_lt w.1
  have lt : ∀ a, a < qN Q → (qS Q a &&& s) < 4096 := fun a ha => Nat.lt_of_le_of_lt Nat.and_le_left (by have := wq.2.1 a ha; omega)
  constructor
  · intro f a ha
    refine (pcn_two (lt a ha)).mpr (fun i k hi hk => ?_)
    rw [Nat.testBit_and, Bool.and_eq_true] at hi hk
    have := f i k hi.2 hk.2
    by_cases e : i = k
    · exact e
    · unfold tog at this
      rw [(togF_bit Q i k _).mpr ⟨e, a, ha, hi.1, hk.1⟩] at this
      cases this
  · intro al m k hm hk
    refine ts_nt' (fun e => ?_)
    obtain ⟨h1, a, h2, h3, h4⟩ := (togF_bit Q m k _).mp e
    exact h1 ((pcn_two (lt a h2)).mp (al a h2) m k (by rw [Nat.testBit_and, h3, hm]; rfl) (by rw [Nat.testBit_and, h4, hk]; rfl))
section FLR
variable {E : En} {L : Nat} {D : SD} {Q : SO} {T : Nat → Nat} {h : Hp} {P : Int32 → Hp → Prop} {PV : Hp → Prop}
theorem r_ones {s : Nat} (hs : s < 4096) (t : P (nI (pcn s)) h) : SpI E L MX10_ones [.int (nI s)] h P := by
  refine wp_X10_ones E L _ h P (fun ga => ?_)
  have loop : ∀ v n, v < 4096 → n + pcn v = pcn s → VX10_ones_4 E L ga P (nI s) (nI n) (nI v) h := by
    intro v
    induction v using Nat.strongRecOn with
    | _ v ih =>
      intro n hv e
      refine sg_X10_ones_4 E L ga _ _ _ h P (ek_if (nI_z (by omega)) (fun z => ?_) (fun z => ?_))
      · have : pcn (0 : Nat) = 0 := by decide
        rw [z, this] at e
        rw [show n = pcn s by omega]
        exact t
      · rw [sub_1 (by omega), nI_and, nI_1]
        have le : v &&& (v - 1) ≤ v - 1 := Nat.and_le_right
        have := one_ok hv z
        exact ih _ (by omega) (n + 1) (by omega) (by omega)
  exact loop s 0 hs (Nat.zero_add _)
theorem bl_is {n : Nat} (hn : n < 4096) : bl n < 13 ∧ n < 2 ^ bl n ∧ ∀ b, b < bl n → ¬ n < 2 ^ b := by
  have no := fa_first_no (fun b => decide (n < 2 ^ b)) 13
  have l : bl n < 13 := by
    rcases Nat.lt_or_ge (bl n) 13 with q | q
    · exact q
    · have : decide (n < 2 ^ 12) = false := no 12 (by unfold bl at q; omega)
      rw [decide_eq_false_iff_not] at this
      exact absurd hn this
  exact ⟨l, of_decide_eq_true (fa_first_yes (fun b => decide (n < 2 ^ b)) 13 l), fun b hb => of_decide_eq_false (no b hb)⟩
theorem r_bitsFor {n : Nat} (hn : n < 4096) (t : P (nI (bl n)) h) : SpI E L MX10_bitsFor [.int (nI n)] h P := by
  obtain ⟨b1, b2, b3⟩ := bl_is hn
  refine wp_X10_bitsFor E L _ h P (fun ga => ?_)
  have loop : ∀ b, b ≤ bl n → VX10_bitsFor_2 E L ga P (nI n) (nI b) h := by
    refine up_ind _ ?_ ?_
    · refine sg_X10_bitsFor_2 E L ga _ _ h P ?_
      rw [sh1 _ (by omega)]
      exact br_t (nI_lt b2 (Nat.lt_of_le_of_lt (Nat.pow_le_pow_right (by decide) (show bl n ≤ 12 by omega)) (by decide))) t
    · intro b hb ih
      refine sg_X10_bitsFor_2 E L ga _ _ h P ?_
      have p12 : 2 ^ b ≤ 4096 := p12_lt (by omega)
      rw [sh1 _ (by omega), nI_1]
      exact br_f (fun q => b3 b hb ((nI_ltI (by omega) (by omega)).mp q)) ih
  exact loop 0 (Nat.zero_le _)
/-- which sets may be fields -/
def IsF (T : Nat → Nat) (h : Hp) : Prop := ∀ x, x < 4096 → (Fld T x ∧ h.1 83 x = 1) ∨ (¬ Fld T x ∧ h.1 83 x = 0)
theorem r_tog (w : Wf D) (wq : WfQ D Q) (cs : RSto D Q h) (t : ∀ h', Fr (fun c _ => c == 83) h h' → IsF (tog Q) h' → PV h') : SpV E (L + 1) MX10_laysTogether [.ref (eA E 63)] h PV := by
  have hN := p12_lt w.1
  have hq := wq.1
  refine wp_X10_laysTogether E L h PV (fun ga => ?_)
  have outer : ∀ x, x ≤ 4096 → ∀ h1, Fr (fun c _ => c == 83) h h1 → (∀ y, y < x → (Fld (tog Q) y ∧ h1.1 83 y = 1) ∨ (¬ Fld (tog Q) y ∧ h1.1 83 y = 0)) → VX10_laysTogether_2 E L ga PV (nI x) h1 := by
    refine up_ind _ ?_ ?_
    · intro h1 f1 al
      exact sg_X10_laysTogether_2 E L ga _ h1 PV (br_t (nI_le (Nat.le_refl 4096) (by decide)) (t h1 f1 al))
    · intro x hx ih h1 f1 al
      have v : vp_in (nI x) 4096 := vp_in_nI hx (by decide)
      refine sg_X10_laysTogether_2 E L ga _ h1 PV (br_f (nI_ge (b := 4096) hx (by decide)) ⟨v, ?_⟩)
      rw [nI_clamp (by omega)]
      have nxt : ∀ h2, Fr (fun c _ => c == 83) h h2 → (∀ y, y < x → h2.1 83 y = h1.1 83 y) → ((Fld (tog Q) x ∧ h2.1 83 x = 1) ∨ (¬ Fld (tog Q) x ∧ h2.1 83 x = 0)) → VX10_laysTogether_2 E L ga PV (nI (x + 1)) h2 := by
        intro h2 f2 e2 c2
        refine ih h2 f2 (fun y hy => ?_)
        by_cases e : y = x
        · rw [e]; exact c2
        · rw [e2 y (by omega)]
          exact al y (by omega)
      have inner : ∀ a, a ≤ qN Q → ∀ h2, Fr (fun c _ => c == 83) h h2 → (∀ y, y < x → h2.1 83 y = h1.1 83 y) → (h2.1 83 x = 1 ∧ ∀ j, j < a → pcn (qS Q j &&& x) < 2) ∨ (h2.1 83 x = 0 ∧ ¬ Fld (tog Q) x) → VX10_laysTogether_18 E L ga PV (nI x) (nI a) h2 := by
        refine up_ind _ ?_ ?_
        · intro h2 f2 e2 iv
          refine sg_X10_laysTogether_18 E L ga _ _ h2 PV ?_
          rw [f2.i 63 26 rfl, cs.1, nI_1]
          refine br_t (nI_le (Nat.le_refl _) (by omega)) (nxt h2 f2 e2 ?_)
          rcases iv with ⟨i1, i2⟩ | ⟨i1, i2⟩
          · exact Or.inl ⟨(fld_tog w wq x).mpr i2, i1⟩
          · exact Or.inr ⟨i2, i1⟩
        · intro a ha iha h2 f2 e2 iv
          have sa := wq.2.1 a ha
          refine sg_X10_laysTogether_18 E L ga _ _ h2 PV ?_
          rw [f2.i 63 26 rfl, cs.1, nI_1, nI_1, nI_clamp (n := x) (by omega), nI_clamp (n := a) (by omega), f2.f 79 (fun _ => rfl), (cs.2.1 a ha).1, nI_and]
          refine br_f (nI_ge ha (by omega)) ⟨v, ?_⟩
          rcases iv with ⟨i1, i2⟩ | ⟨i1, i2⟩
          · rw [i1]
            have pl := pcn_le (qS Q a &&& x)
            refine br_f (by decide) ⟨vp_in_nI (by omega) (by decide), r_ones (Nat.lt_of_le_of_lt Nat.and_le_right hx) ?_⟩
            refine ek_if (nI_leI (a := 2) (by decide) (by omega)) (fun z => ⟨v, ?_⟩) (fun z => ⟨v, ?_⟩)
            · refine iha _ (f2.si rfl) (fun y hy => by rw [sI_j (by omega)]; exact e2 y hy) (Or.inr ⟨by rw [sI_at]; rfl, fun f => ?_⟩)
              have := (fld_tog w wq x).mp f a ha
              omega
            · refine iha _ (f2.si rfl) (fun y hy => by rw [sI_j (by omega)]; exact e2 y hy) (Or.inl ⟨by rw [sI_at]; rfl, fun j hj => ?_⟩)
              by_cases e : j = a
              · rw [e]; omega
              · exact i2 j (by omega)
          · rw [i1]
            exact br_t rfl (nxt h2 f2 e2 (Or.inr ⟨i2, i1⟩))
      refine inner 0 (Nat.zero_le _) _ (f1.si rfl) (fun y hy => sI_j (by omega)) (Or.inl ⟨by rw [sI_at]; rfl, fun j hj => absurd hj (Nat.not_lt_zero j)⟩)
  exact outer 0 (by decide) h (Fr.refl h) (fun j hj => absurd hj (Nat.not_lt_zero j))
theorem r_bestF {s : Nat} (ok : TOk T) (hs : s < 4096) (z : s ≠ 0) (isf : IsF T h) (co : ∀ x, Sub x s → x ≠ s → h.1 84 x = nI (cv (mc T x))) (t : P (nI (bf T s)) (sI h 84 s (nI (cv (mc T s))))) : SpI E (L + 1) MX10_bestField [.ref (eA E 63), .int (nI s)] h P := by
  obtain ⟨k1, k2, k3⟩ := nz_low hs z
  have p12 := p12_lt (n := lowi s) (by omega)
  refine wp_X10_bestField E L _ h P (fun ga => ?_)
  rw [low_ok hs z, nI_dif]
  have rs : ∀ m, Sub m (dif s (2 ^ lowi s)) → m.testBit (lowi s) = false ∧ Sub (m ||| 2 ^ lowi s) s ∧ m < 4096 ∧ (m ||| 2 ^ lowi s).testBit (lowi s) = true := by
    intro m hm
    refine ⟨ts_nt' (fun e => ?_), fun i hi => ?_, sub_lt hs (fun i hi => dif_sub _ _ i (hm i hi)), ?_⟩
    · have := hm _ e
      rw [dif_bit, p2_bit, decide_eq_true rfl, Bool.not_true, Bool.and_false] at this
      cases this
    · rw [Nat.testBit_or, p2_bit] at hi
      cases e : m.testBit i with
      | true => exact dif_sub _ _ i (hm i e)
      | false =>
        rw [e, Bool.false_or, decide_eq_true_iff] at hi
        rw [← hi]; exact k2
    · rw [Nat.testBit_or, p2_bit, decide_eq_true rfl, Bool.or_true]
  -- two subsets and their fields come in the same order
  have ord : ∀ m m', Sub m (dif s (2 ^ lowi s)) → Sub m' (dif s (2 ^ lowi s)) → m ≤ m' → m ||| 2 ^ lowi s ≤ m' ||| 2 ^ lowi s := by
    intro m m' h1 h2 hle
    have or_add : ∀ m, Sub m (dif s (2 ^ lowi s)) → m ||| 2 ^ lowi s = m + 2 ^ lowi s := by
      intro m hm
      have b := (rs m hm).1
      have : m &&& 2 ^ lowi s = 0 := (fb_bit_nat m (lowi s)).mpr b
      have e := Nat.two_pow_add_eq_or_of_lt (b := 2 ^ lowi s) (i := 12) (a := 0)
      clear e
      have h3 : (m ||| 2 ^ lowi s) = m ^^^ 2 ^ lowi s := by
        apply Nat.eq_of_testBit_eq
        intro i
        rw [Nat.testBit_or, Nat.testBit_xor, p2_bit]
        by_cases q : lowi s = i
        · rw [← q, b]; simp
        · rw [decide_eq_false q]; cases m.testBit i <;> rfl
      have low0 : m % 2 ^ (lowi s + 1) = 0 := by
        apply Nat.eq_of_testBit_eq
        intro i
        rw [Nat.testBit_mod_two_pow, Nat.zero_testBit]
        by_cases q : i < lowi s + 1
        · rw [decide_eq_true q, Bool.true_and]
          refine ts_nt' (fun e => ?_)
          by_cases q2 : i = lowi s
          · rw [q2, b] at e; cases e
          · have := dif_sub _ _ i (hm i e)
            rw [k3 i (by omega)] at this; cases this
        · rw [decide_eq_false q, Bool.false_and]
      have hm2 : m = 2 ^ (lowi s + 1) * (m / 2 ^ (lowi s + 1)) := by
        have := Nat.div_add_mod m (2 ^ (lowi s + 1))
        omega
      have := Nat.two_pow_add_eq_or_of_lt (i := lowi s + 1) (b := 2 ^ lowi s) (p2_lt (Nat.lt_succ_self _)) (m / 2 ^ (lowi s + 1))
      rw [← hm2] at this
      exact this.symm
    rw [or_add m h1, or_add m' h2]
    omega
  have loop : ∀ more, Sub more (dif s (2 ^ lowi s)) → ∀ best its, ((best = 0 ∧ its = 0 ∧ ∀ m, Sub m (dif s (2 ^ lowi s)) → more < m → ¬ Fld T (m ||| 2 ^ lowi s)) ∨ (FF T s best ∧ best ≠ 0 ∧ its = cv (own best + mc T (dif s best)) ∧ (∀ m, Sub m (dif s (2 ^ lowi s)) → more < m → Fld T (m ||| 2 ^ lowi s) → own best + mc T (dif s best) ≤ own (m ||| 2 ^ lowi s) + mc T (dif s (m ||| 2 ^ lowi s)) ∧ (own best + mc T (dif s best) = own (m ||| 2 ^ lowi s) + mc T (dif s (m ||| 2 ^ lowi s)) → best ≤ m ||| 2 ^ lowi s)))) → VX10_bestField_20 E L ga P (nI s) (nI (2 ^ lowi s)) (nI (dif s (2 ^ lowi s))) (nI best) (nI its) (nI more) h := by
    intro more
    induction more using Nat.strongRecOn with
    | _ more ih =>
      intro hm best its iv
      obtain ⟨r1, r2, r3, r4⟩ := rs more hm
      have flt := sub_lt hs r2
      have fnz : more ||| 2 ^ lowi s ≠ 0 := fun e => by rw [e, Nat.zero_testBit] at r4; cases r4
      have dl : dif s (more ||| 2 ^ lowi s) < s := dif_lt k2 r4
      have pl := pcn_le (more ||| 2 ^ lowi s)
      have dsub := dif_sub s (more ||| 2 ^ lowi s)
      have mx := mc_max ok (s := dif s (more ||| 2 ^ lowi s)) (by omega)
      have co1 := co _ dsub (by omega)
      obtain ⟨v1, v2⟩ := cv_own (more ||| 2 ^ lowi s)
      have cvle : ∀ x, x ≤ 300 → cv x < 3000 := fun x hx => by unfold cv; omega
      have ce := cv_add (a := own (more ||| 2 ^ lowi s)) (b := mc T (dif s (more ||| 2 ^ lowi s))) (by omega)
      have ow := own_le (more ||| 2 ^ lowi s)
      have cl := cvle (own (more ||| 2 ^ lowi s) + mc T (dif s (more ||| 2 ^ lowi s))) (by omega)
      have vs : vp_in (nI s) 4096 := vp_in_nI hs (by decide)
      refine sg_X10_bestField_20 E L ga _ _ _ _ _ _ h P ?_
      rw [nI_or, nI_dif]
      refine r_ones flt (r_bitsFor (by omega) ?_)
      rw [nI_clamp (n := more ||| 2 ^ lowi s) (by omega), nI_clamp (n := dif s (more ||| 2 ^ lowi s)) (by omega), nI_clamp (n := s) (by omega), co1, show (100 : Int32) = nI 100 from rfl, pk_mul, nI_1, nI_add, ← v1, ← ce]
      refine ⟨vp_in_nI (by omega) (by decide), vp_in_nI flt (by decide), ?_⟩
      -- the next subset, or the end
      have next : ∀ best its, ((best = 0 ∧ its = 0 ∧ ∀ m, Sub m (dif s (2 ^ lowi s)) → more ≤ m → ¬ Fld T (m ||| 2 ^ lowi s)) ∨ (FF T s best ∧ best ≠ 0 ∧ its = cv (own best + mc T (dif s best)) ∧ (∀ m, Sub m (dif s (2 ^ lowi s)) → more ≤ m → Fld T (m ||| 2 ^ lowi s) → own best + mc T (dif s best) ≤ own (m ||| 2 ^ lowi s) + mc T (dif s (m ||| 2 ^ lowi s)) ∧ (own best + mc T (dif s best) = own (m ||| 2 ^ lowi s) + mc T (dif s (m ||| 2 ^ lowi s)) → best ≤ m ||| 2 ^ lowi s)))) → ((¬ nI more = 0 → (VX10_bestField_20 E L ga P (nI s) (nI (2 ^ lowi s)) (nI (dif s (2 ^ lowi s))) (nI best) (nI its) ((nI more - (1 : Int32)) &&& nI (dif s (2 ^ lowi s))) h)) ∧ (nI more = 0 → (vp_in (nI s) 4096 ∧ (P (nI best) (sI h 84 s (nI its)))))) := by
        intro best its iv
        refine bj_if (nI_z (by omega)) (fun y => ?_) (fun y => ⟨vs, ?_⟩)
        · rw [sub_1 (by omega), nI_and]
          have lt : (more - 1) &&& dif s (2 ^ lowi s) ≤ more - 1 := Nat.and_le_left
          have sb : Sub ((more - 1) &&& dif s (2 ^ lowi s)) (dif s (2 ^ lowi s)) := and_sub _ _
          have nx : ∀ m, Sub m (dif s (2 ^ lowi s)) → (more - 1) &&& dif s (2 ^ lowi s) < m → more ≤ m := by
            intro m hm2 hlt
            rcases Nat.lt_or_ge m more with q | q
            · have := sub_next more _ m hm hm2 q
              omega
            · exact q
          refine ih _ (by omega) sb best its ?_
          rcases iv with ⟨i1, i2, i3⟩ | ⟨i1, i2, i3, i4⟩
          · exact Or.inl ⟨i1, i2, fun m h1 h2 => i3 m h1 (nx m h1 h2)⟩
          · exact Or.inr ⟨i1, i2, i3, fun m h1 h2 => i4 m h1 (nx m h1 h2)⟩
        · have toM : ∀ G, FF T s G → Sub (dif G (2 ^ lowi s)) (dif s (2 ^ lowi s)) ∧ dif G (2 ^ lowi s) ||| 2 ^ lowi s = G := by
            intro G g
            refine ⟨fun i hi => ?_, ?_⟩
            · rw [dif_bit] at hi ⊢
              cases e : G.testBit i with
              | false => rw [e] at hi; cases hi
              | true => rw [e] at hi; rw [g.1 i e]; exact hi
            · apply Nat.eq_of_testBit_eq
              intro i
              rw [Nat.testBit_or, dif_bit, p2_bit]
              by_cases q : lowi s = i
              · rw [← q, g.2.1]; simp
              · rw [decide_eq_false q]; cases G.testBit i <;> rfl
          rcases iv with ⟨i1, i2, i3⟩ | ⟨i1, i2, i3, i4⟩
          · have fo := FF_one ok hs z
            obtain ⟨m1, m2⟩ := toM _ fo
            have := i3 _ m1 (by omega)
            rw [m2] at this
            exact absurd fo.2.2 this
          · obtain ⟨⟨b1, b2⟩, b3⟩ := bf_is ok hs z
            have cmp : ∀ G, FF T s G → own best + mc T (dif s best) ≤ own G + mc T (dif s G) ∧ (own best + mc T (dif s best) = own G + mc T (dif s G) → best ≤ G) := by
              intro G g
              obtain ⟨m1, m2⟩ := toM G g
              have := i4 _ m1 (by omega) (by rw [m2]; exact g.2.2)
              rw [m2] at this
              exact this
            have le1 := (cmp _ b1).1
            have le2 := mc_le ok hs z i1
            have e1 : mc T s = own best + mc T (dif s best) := by omega
            have e2 := bf_uq ok hs z i1 e1 (fun G g1 g2 => (cmp G g1).2 (by omega))
            rw [i3, ← e1, ← e2]
            exact t
      have isx := isf _ flt
      have its3 : its < 3000 := by
        rcases iv with ⟨_, i2, _⟩ | ⟨i1, i2, i3, _⟩
        · omega
        · rw [i3]
          have := own_le best
          have := (mc_max ok (s := dif s best) (by have := dif_le s best; omega)).1
          exact cvle _ (by omega)
      have best4 : best < 4096 := by
        rcases iv with ⟨i1, _⟩ | ⟨i1, _⟩
        · omega
        · exact sub_lt hs i1.1
      have take : Fld T (more ||| 2 ^ lowi s) → (best = 0 ∨ own (more ||| 2 ^ lowi s) + mc T (dif s (more ||| 2 ^ lowi s)) ≤ own best + mc T (dif s best)) → ((more ||| 2 ^ lowi s = 0 ∧ cv (own (more ||| 2 ^ lowi s) + mc T (dif s (more ||| 2 ^ lowi s))) = 0 ∧ ∀ m, Sub m (dif s (2 ^ lowi s)) → more ≤ m → ¬ Fld T (m ||| 2 ^ lowi s)) ∨ (FF T s (more ||| 2 ^ lowi s) ∧ more ||| 2 ^ lowi s ≠ 0 ∧ cv (own (more ||| 2 ^ lowi s) + mc T (dif s (more ||| 2 ^ lowi s))) = cv (own (more ||| 2 ^ lowi s) + mc T (dif s (more ||| 2 ^ lowi s))) ∧ (∀ m, Sub m (dif s (2 ^ lowi s)) → more ≤ m → Fld T (m ||| 2 ^ lowi s) → own (more ||| 2 ^ lowi s) + mc T (dif s (more ||| 2 ^ lowi s)) ≤ own (m ||| 2 ^ lowi s) + mc T (dif s (m ||| 2 ^ lowi s)) ∧ (own (more ||| 2 ^ lowi s) + mc T (dif s (more ||| 2 ^ lowi s)) = own (m ||| 2 ^ lowi s) + mc T (dif s (m ||| 2 ^ lowi s)) → more ||| 2 ^ lowi s ≤ m ||| 2 ^ lowi s)))) := by
        intro fd cmp
        refine Or.inr ⟨⟨r2, r4, fd⟩, fnz, rfl, fun m hm2 hle fm => ⟨?_, fun _ => ord more m hm hm2 hle⟩⟩
        by_cases q : m = more
        · rw [q]; exact Nat.le_refl _
        · rcases iv with ⟨i1, i2, i3⟩ | ⟨i1, i2, i3, i4⟩
          · exact absurd fm (i3 m hm2 (by omega))
          · have := (i4 m hm2 (by omega) fm).1
            rcases cmp with q2 | q2
            · exact absurd q2 i2
            · omega
      rcases isx with ⟨fd, ex⟩ | ⟨fd, ex⟩
      · rw [ex]
        refine br_f (by decide) (ek_if (nI_z (by omega)) (fun y => next _ _ (take fd (Or.inl y))) (fun y => ?_))
        rcases iv with ⟨i1, i2, i3⟩ | ⟨i1, i2, i3, i4⟩
        · exact absurd i1 y
        · refine ek_if (nI_ltI (by omega) (by omega)) (fun q => next best its ?_) (fun q => next _ _ (take fd (Or.inr ?_)))
          · refine Or.inr ⟨i1, i2, i3, fun m hm2 hle fm => ?_⟩
            by_cases q2 : m = more
            · rw [q2]
              rw [i3] at q
              have : own best + mc T (dif s best) < own (more ||| 2 ^ lowi s) + mc T (dif s (more ||| 2 ^ lowi s)) := by
                rcases Nat.lt_or_ge (own best + mc T (dif s best)) (own (more ||| 2 ^ lowi s) + mc T (dif s (more ||| 2 ^ lowi s))) with q3 | q3
                · exact q3
                · have := cv_le.mpr q3
                  omega
              exact ⟨by omega, fun e => by omega⟩
            · exact i4 m hm2 (by omega) fm
          · rw [i3] at q
            exact cv_le.mp (by omega)
      · rw [ex]
        refine br_t rfl (next best its ?_)
        rcases iv with ⟨i1, i2, i3⟩ | ⟨i1, i2, i3, i4⟩
        · refine Or.inl ⟨i1, i2, fun m hm2 hle => ?_⟩
          by_cases q2 : m = more
          · rw [q2]; exact fd
          · exact i3 m hm2 (by omega)
        · refine Or.inr ⟨i1, i2, i3, fun m hm2 hle fm => ?_⟩
          by_cases q2 : m = more
          · rw [q2] at fm; exact absurd fm fd
          · exact i4 m hm2 (by omega) fm
  exact loop (dif s (2 ^ lowi s)) (fun _ q => q) 0 0 (Or.inl ⟨rfl, rfl, fun m hm hlt => absurd (sub_le hm) (by omega)⟩)
end FLR
