/-! fields in the class: fields that grow, the search -/
section FLG
variable {E : En} {L : Nat} {T : Nat → Nat} {h : Hp} {P : Int32 → Hp → Prop} {PV : Hp → Prop}
theorem nI_min {a b : Nat} (ha : a < 2 ^ 31) (hb : b < 2 ^ 31) : (if nI a < nI b then nI a else nI b) = nI (min a b) := by
  by_cases q : a < b
  · rw [if_pos ((nI_ltI ha hb).mpr q), Nat.min_eq_left (by omega)]
  · rw [if_neg (fun z => q ((nI_ltI ha hb).mp z)), Nat.min_eq_right (by omega)]
theorem sub_le {a b : Nat} (h : Sub a b) : a ≤ b := by
  rw [← sub_and h]
  exact Nat.and_le_right
theorem pcn_set {f m : Nat} (hm : m < 12) (h : f.testBit m = false) : pcn (f ||| 2 ^ m) = pcn f + 1 := by
  have s : Sub f (f ||| 2 ^ m) := fun i hi => by rw [Nat.testBit_or, hi]; rfl
  have e := pcn_dif s
  have : dif (f ||| 2 ^ m) f = 2 ^ m := by
    apply Nat.eq_of_testBit_eq
    intro i
    rw [dif_bit, Nat.testBit_or, p2_bit]
    by_cases q : m = i
    · rw [← q, h]; simp
    · rw [decide_eq_false q]; cases f.testBit i <;> rfl
  rw [this, (pcn_p2 m hm).2.2] at e
  exact e
/-- the highest bit of G that f has not -/
theorem top_bit {G f m : Nat} (hG : G < 4096) (h : ∃ i, m ≤ i ∧ G.testBit i = true ∧ f.testBit i = false) : ∃ i, m ≤ i ∧ i < 12 ∧ G.testBit i = true ∧ f.testBit i = false ∧ ∀ j, i < j → G.testBit j = true → f.testBit j = true := by
  obtain ⟨i, i1, i2, i3⟩ := h
  have i12 : i < 12 := by
    rcases Nat.lt_or_ge i 12 with q | q
    · exact q
    · rw [tb12 hG q] at i2; cases i2
  obtain ⟨k, k1, k2, k3⟩ := fb_last (p := fun i => m ≤ i ∧ G.testBit i = true ∧ f.testBit i = false) (n := 12) ⟨i, i12, i1, i2, i3⟩
  refine ⟨k, k2.1, k1, k2.2.1, k2.2.2, fun j hj hG2 => ?_⟩
  have j12 : j < 12 := by
    rcases Nat.lt_or_ge j 12 with q | q
    · exact q
    · rw [tb12 hG q] at hG2; cases hG2
  cases e : f.testBit j with
  | true => rfl
  | false => exact absurd ⟨by have := k2.1; omega, hG2, e⟩ (k3 j hj j12)
theorem gw_of (ok : TOk T) {k : Nat} (g : ∀ j, k = j + 1 → CWs E T j ∧ GWs E T j) : GWs E T k := by
  intro L s f o b p h P hL hs z ff op hb hk hp tg lb t
  obtain ⟨L, rfl⟩ : ∃ k, L = k + 1 := ⟨L - 1, by omega⟩
  have v : vp_in (nI s) 4096 := vp_in_nI hs (by decide)
  have hf := sub_lt hs ff.1
  have ho := sub_lt hs op.1
  have pf := pcn_dif ff.1
  have f0 : f ≠ 0 := fun e => by have := ff.2.1; rw [e, Nat.zero_testBit] at this; cases this
  have pf1 := pcn_pos hf f0
  have mx := (mc_max ok hs).1
  have dl := FF_lt hs z ff
  have ow := own_le f
  have mle := mc_le ok hs z ff
  have mxd := (mc_max ok (s := dif s f) (by omega)).1
  obtain ⟨j, hj⟩ : ∃ j, k = j + 1 := ⟨k - 1, by omega⟩
  obtain ⟨cw, gw⟩ := g j hj
  have famf : Fam T s f o f := ⟨ff, fun _ q => q, fun _ q => Or.inl q⟩
  have dx : dif s (f ||| o) < 4096 := by have := dif_le s (f ||| o); omega
  refine wp_X0_growField E L _ _ _ _ _ h P (fun ga => c_costOf (by omega) hf ?_)
  rw [nI_or, nI_dif]
  refine c_cal ok (by omega) tg lb dx (fun c h2 f2 lb2 e2 l2 n2 fl2 _ => ?_)
  have mxx := (mc_max ok dx).1
  have fc2 : Fr fCo h h2 := f2.mono (fun c j e => by
    unfold fCo at e
    simp only [Bool.or_eq_false_iff] at e
    exact e.1)
  have e57 : h2.1 57 = h.1 57 := f2.f 57 (fun _ => rfl)
  rw [nI_add]
  refine ek_if (nI_leI (by omega) (by omega)) (fun q => ?_) (fun q => ?_)
  · refine br_t (nI_le (b := 24) (by omega) (by decide)) ?_
    rw [nI_dif, pk_sub (by omega), nI_1]
    refine cw L (dif s f) (b - own f) (p + 1) h2 _ (by omega) (by omega) (by omega) (by omega) (by omega) (tg.fr f2 (fun _ => rfl)) lb2 (fun r5 h5 f5 lb5 w5 e5 l5 a5 => ?_)
    have fc5 : Fr fCo h h5 := fc2.trans f5
    have w25 : ∀ x, h5.1 57 x = h.1 57 x ∨ h5.1 57 x = nI (bf T x) := fun x => by have := w5 x; rw [e57] at this; exact this
    rw [nI_add]
    refine ek_if (nI_ltI (by omega) (by omega)) (fun q2 => ?_) (fun q2 => ⟨v, ?_⟩)
    · -- the loop over the open operations
      have loop : ∀ m, m ≤ 12 → ∀ (Lc : Nat) (h1 : Hp), b < Lc → Lc ≤ own f + mc T (dif s f) → Fr fCo h h1 → LBc T h1 → (∀ x, x ≠ s → h1.1 57 x = h.1 57 x ∨ h1.1 57 x = nI (bf T x)) → (h1.1 57 s = h.1 57 s ∨ h1.1 57 s = nI (bf T s)) → (∀ F, Fam T s f o F → (∀ i, m ≤ i → F.testBit i = true → f.testBit i = true) → Lc ≤ own F + mc T (dif s F)) → VX0_growField_85 E L ga P (nI s) (nI f) (nI o) (nI b) (nI p) (nI (own f)) (nI Lc) (nI m) h1 := by
        refine up_ind _ ?_ ?_
        · intro Lc h1 q3 q4 fr1 lb1 w1 es1 al
          refine sg_X0_growField_85 E L ga _ _ _ _ _ _ _ _ h1 P (br_t (nI_le (Nat.le_refl 12) (by decide)) (t Lc h1 fr1 lb1 w1 q4 (fun q => by omega) (fun _ => ⟨es1, fun F hF => al F hF (fun i hi hb => ?_)⟩)))
          rw [tb12 (sub_lt hs hF.1.1) hi] at hb
          cases hb
        · intro m hm ih Lc h1 q3 q4 fr1 lb1 w1 es1 al
          have tg1 : TgC T h1 := tg.fr fr1 (fun _ => rfl)
          refine sg_X0_growField_85 E L ga _ _ _ _ _ _ _ _ h1 P (br_f (nI_ge (b := 12) hm (by decide)) (br_f (nI_ge q3 (by omega)) ?_))
          rw [nI_1, nI_clamp (by omega), tg1 m hm]
          refine ek_if (bitA (by omega)) (fun y => ih Lc h1 q3 q4 fr1 lb1 w1 es1 (fun F hF hi => al F hF (fun i hmi hFi => ?_))) (fun y => ⟨vp_in_nI hm (by decide), ?_⟩)
          · by_cases e : i = m
            · subst e
              rcases hF.2.2 i hFi with q | q
              · exact q
              · rw [y] at q; cases q
            · exact hi i (by omega) hFi
          · have y := ts_nf' y
            have fm := op.2.1 m y
            rw [sh1 m (by omega), sub_1 (Nat.two_pow_pos m), nI_or, nI_and, nI_dif, nI_1]
            have pf2 := pcn_set hm fm
            have orb : ∀ i, (f ||| 2 ^ m).testBit i = (f.testBit i || decide (m = i)) := fun i => by rw [Nat.testBit_or, p2_bit]
            have o'b : ∀ i, (dif (o &&& (2 ^ m - 1)) (T m)).testBit i = true → o.testBit i = true ∧ i < m ∧ (T m).testBit i = false := by
              intro i hi
              rw [dif_bit, Nat.testBit_and, Nat.testBit_two_pow_sub_one] at hi
              cases e1 : o.testBit i with
              | false => rw [e1] at hi; cases hi
              | true =>
                rw [e1] at hi
                cases e2 : (T m).testBit i with
                | true => rw [e2, Bool.not_true, Bool.and_false] at hi; cases hi
                | false =>
                  rw [e2] at hi
                  have hi : ((true && decide (i < m)) && !false) = true := hi
                  rw [Bool.true_and, Bool.not_false, Bool.and_true, decide_eq_true_iff] at hi
                  exact ⟨rfl, hi, rfl⟩
            have o'i : ∀ i, o.testBit i = true → i < m → (T m).testBit i = false → (dif (o &&& (2 ^ m - 1)) (T m)).testBit i = true := by
              intro i h1 h2 h3
              rw [dif_bit, Nat.testBit_and, Nat.testBit_two_pow_sub_one, h1, h3, decide_eq_true h2]; rfl
            have ff' : FF T s (f ||| 2 ^ m) := by
              refine ⟨fun i hi => ?_, by rw [orb, ff.2.1]; rfl, fun a c ha hc => ?_⟩
              · rw [orb] at hi
                cases e : f.testBit i with
                | true => exact ff.1 i e
                | false =>
                  rw [e, Bool.false_or, decide_eq_true_iff] at hi
                  rw [← hi]; exact op.1 m y
              · rw [orb] at ha hc
                cases ea : f.testBit a with
                | true =>
                  cases ec : f.testBit c with
                  | true => exact ff.2.2 a c ea ec
                  | false =>
                    rw [ec, Bool.false_or, decide_eq_true_iff] at hc
                    rw [← hc, ok.2]
                    exact op.2.2 m a y ea
                | false =>
                  rw [ea, Bool.false_or, decide_eq_true_iff] at ha
                  rw [← ha]
                  cases ec : f.testBit c with
                  | true => exact op.2.2 m c y ec
                  | false =>
                    rw [ec, Bool.false_or, decide_eq_true_iff] at hc
                    rw [← hc]
                    exact (ok.1 m).2
            have op' : OpOK T s (f ||| 2 ^ m) (dif (o &&& (2 ^ m - 1)) (T m)) := by
              refine ⟨fun i hi => op.1 i (o'b i hi).1, fun i hi => ?_, fun a c ha hc => ?_⟩
              · obtain ⟨b1, b2, b3⟩ := o'b i hi
                rw [orb, op.2.1 i b1, decide_eq_false (by omega)]; rfl
              · obtain ⟨b1, b2, b3⟩ := o'b a ha
                rw [orb] at hc
                cases ec : f.testBit c with
                | true => exact op.2.2 a c b1 ec
                | false =>
                  rw [ec, Bool.false_or, decide_eq_true_iff] at hc
                  rw [← hc, ok.2]
                  exact b3
            have famUp : ∀ F, Fam T s (f ||| 2 ^ m) (dif (o &&& (2 ^ m - 1)) (T m)) F → Fam T s f o F := by
              intro F hF
              refine ⟨hF.1, fun i hi => hF.2.1 i (by rw [orb, hi]; rfl), fun i hi => ?_⟩
              rcases hF.2.2 i hi with q | q
              · rw [orb] at q
                cases e : f.testBit i with
                | true => exact Or.inl rfl
                | false =>
                  rw [e, Bool.false_or, decide_eq_true_iff] at q
                  rw [← q]; exact Or.inr y
              · exact Or.inr (o'b i q).1
            have famIn : ∀ F, Fam T s f o F → F.testBit m = true → (∀ i, m < i → F.testBit i = true → f.testBit i = true) → Fam T s (f ||| 2 ^ m) (dif (o &&& (2 ^ m - 1)) (T m)) F := by
              intro F hF hFm hi
              refine ⟨hF.1, fun i hi2 => ?_, fun i hFi => ?_⟩
              · rw [orb] at hi2
                cases e : f.testBit i with
                | true => exact hF.2.1 i e
                | false =>
                  rw [e, Bool.false_or, decide_eq_true_iff] at hi2
                  rw [← hi2]; exact hFm
              · by_cases e : f.testBit i = true
                · left; rw [orb, e]; rfl
                · have e := ts_nt' e
                  rcases Nat.lt_or_ge m i with q | q
                  · have := hi i q hFi; rw [e] at this; cases this
                  · by_cases em : m = i
                    · left; rw [orb, decide_eq_true em, Bool.or_true]
                    · right
                      rcases hF.2.2 i hFi with q2 | q2
                      · rw [e] at q2; cases q2
                      · exact o'i i q2 (by omega) (hF.1.2.2 m i hFm hFi)
            have dl' := FF_lt hs z ff'
            have ow' := own_le (f ||| 2 ^ m)
            have mxd' := (mc_max ok (s := dif s (f ||| 2 ^ m)) (by omega)).1
            refine gw L s (f ||| 2 ^ m) _ b (p + 1) h1 _ (by omega) hs z ff' op' hb (by omega) (by omega) tg1 lb1 (fun r6 h6 f6 lb6 w6 l6 a6 b6 => ?_)
            have fr6 : Fr fCo h h6 := fr1.trans f6
            have w16 : ∀ x, x ≠ s → h6.1 57 x = h.1 57 x ∨ h6.1 57 x = nI (bf T x) := fun x hx => by
              rcases w6 x hx with q | q
              · rw [q]; exact w1 x hx
              · exact Or.inr q
            rw [nI_min (by omega) (by omega)]
            rcases Nat.lt_or_ge b r6 with q5 | q5
            · obtain ⟨b61, b62⟩ := b6 q5
              refine ih (min r6 Lc) h6 (by omega) (by omega) fr6 lb6 w16 (by rcases b61 with q | q; (· rw [q]; exact es1); (· exact Or.inr q)) (fun F hF hi => ?_)
              by_cases e : F.testBit m = true
              · have := b62 F (famIn F hF e (fun i hi2 => hi i (by omega)))
                omega
              · have := al F hF (fun i hi2 hFi => by
                  by_cases em : i = m
                  · subst em; exact absurd hFi e
                  · exact hi i (by omega) hFi)
                omega
            · obtain ⟨r6e, F, F1, F2, F3, F4, F5⟩ := a6 q5
              rw [show min r6 Lc = r6 by omega]
              have fin : P (nI r6) h6 := by
                refine t r6 h6 fr6 lb6 w16 (by omega) (fun _ => ⟨r6e, F, famUp F F1, F2, fun G g1 g2 => ?_, F4, F5⟩) (fun q => by omega)
                by_cases c1 : ∀ i, m ≤ i → G.testBit i = true → f.testBit i = true
                · have := al G g1 c1
                  unfold Att at g2
                  omega
                · by_cases c2 : ∀ i, m < i → G.testBit i = true → f.testBit i = true
                  · refine F3 G (famIn G g1 ?_ c2) g2
                    cases e : G.testBit m with
                    | true => rfl
                    | false =>
                      refine absurd (fun i hi hGi => ?_) c1
                      by_cases em : i = m
                      · subst em; rw [e] at hGi; cases hGi
                      · exact c2 i (by omega) hGi
                  · have ex : ∃ i, m + 1 ≤ i ∧ G.testBit i = true ∧ f.testBit i = false := by
                      refine Classical.byContradiction (fun no => c2 (fun i hi hGi => ?_))
                      cases e : f.testBit i with
                      | true => rfl
                      | false => exact absurd ⟨i, hi, hGi, e⟩ no
                    obtain ⟨i, i1, i2, i3, i4, i5⟩ := top_bit (sub_lt hs g1.1.1) ex
                    have Fhi : ∀ j, m < j → F.testBit j = f.testBit j := by
                      intro j hj
                      cases e : F.testBit j with
                      | false =>
                        cases e2 : f.testBit j with
                        | false => rfl
                        | true =>
                          have := F1.2.1 j (by rw [orb, e2]; rfl)
                          rw [e] at this; cases this
                      | true =>
                        rcases F1.2.2 j e with q | q
                        · rw [orb, decide_eq_false (by omega), Bool.or_false] at q
                          exact q.symm
                        · have := (o'b j q).2.1; omega
                    have := lt_bit (x := F) (y := G) i (by rw [Fhi i (by omega), i4]) i3 (fun j hj => by
                      rw [Fhi j (by omega)]
                      cases e : G.testBit j with
                      | true => exact i5 j hj e
                      | false =>
                        cases e2 : f.testBit j with
                        | false => rfl
                        | true => have := g1.2.1 j e2; rw [e] at this; cases this)
                    omega
              refine sg_X0_growField_85 E L ga _ _ _ _ _ _ _ _ h6 P (ek_if (nI_leI (a := 12) (b := m + 1) (by decide) (by omega)) (fun _ => fin) (fun _ => br_t (nI_le q5 (by omega)) fin))
      refine loop 0 (by decide) (own f + r5) h5 (by omega) (by omega) fc5 lb5 (fun x _ => w25 x) (w25 s) (fun F hF hi => ?_)
      · have e : F = f := by
          apply Nat.eq_of_testBit_eq
          intro i
          cases e : F.testBit i with
          | true => exact (hi i (Nat.zero_le _) e).symm
          | false =>
            cases e2 : f.testBit i with
            | false => rfl
            | true => have := hF.2.1 i e2; rw [e] at this; cases this
        rw [e]
        omega
    · have q2 : r5 ≤ b - own f := by omega
      obtain ⟨e6, g6⟩ := a5 q2
      have eq : own f + r5 = mc T s := by omega
      rw [nI_clamp (by omega)]
      refine t (own f + r5) _ (fc5.si rfl) (fun x hx => ?_) (fun x hx => ?_) (by omega) (fun _ => ⟨eq, f, famf, by unfold Att; omega, fun G g1 _ => sub_le g1.2.1, sI_at _ _ _ _, fun ef n => ?_⟩) (fun q => by omega)
      · rw [sI_n _ _ _ _ (by decide)]
        exact lb5 x hx
      · rw [sI_j hx]
        exact w25 x
      · refine Gd.w (fun x => ?_) n _ (g6 n)
        by_cases y : x = s
        · subst y
          rw [← ef]
          exact Or.inr (sI_at _ _ _ _)
        · exact Or.inl (sI_j y)
  · refine t (own f + c) h2 fc2 lb2 (fun x _ => Or.inl (by rw [e57])) ?_ (fun q3 => by omega) (fun _ => ⟨Or.inl (by rw [e57]), fun F hF => ?_⟩)
    · have := mc_mono ok (dif s f) (dif s (f ||| o)) (by omega) (fun i hi => by rw [← dif_dif] at hi; exact dif_sub _ _ i hi)
      omega
    · have o1 := own_mono hF.2.1
      have dF := FF_lt hs z hF.1
      have m1 := mc_mono ok (dif s F) (dif s (f ||| o)) (by omega) (fun i hi => by
        rw [dif_bit, Nat.testBit_or] at hi
        rw [dif_bit]
        cases e1 : s.testBit i with
        | false => rw [e1] at hi; cases hi
        | true =>
          cases e2 : F.testBit i with
          | false => rfl
          | true =>
            rcases hF.2.2 i e2 with q | q
            · rw [e1, q] at hi; cases hi
            · rw [e1, q, Bool.or_true] at hi; cases hi)
      omega
theorem cg_all (ok : TOk T) : ∀ k, CWs E T k ∧ GWs E T k := by
  intro k
  induction k with
  | zero => exact ⟨cw_of ok (fun j e => by cases e), gw_of ok (fun j e => by cases e)⟩
  | succ k ih => exact ⟨cw_of ok (fun j e => by cases e; exact ih.2), gw_of ok (fun j e => by cases e; exact ih)⟩
theorem c_fill {ca n : Nat} {v : Int32} (hca : lay[ca]? = some (.inr (0, n))) (hn : n < 2 ^ 31) (t : ∀ h', Fr (fun c _ => c == ca) h h' → (∀ j, j < n → h'.1 ca j = v) → PV h') : SpV E L MJ7_fill_53178 [.ref (eA E ca), .int v] h PV := by
  refine wp_J7_fill_53178 E L ca n hca v h PV (fun ga => ?_)
  have loop : ∀ k, k ≤ n → ∀ h1, Fr (fun c _ => c == ca) h h1 → (∀ j, j < k → h1.1 ca j = v) → VJ7_fill_53178_5 E L ga PV ca v (nI k) (Int32.ofNat n) h1 := by
    refine up_ind _ ?_ ?_
    · intro h1 f al
      exact sg_J7_fill_53178_5 E L ga ca n hca _ _ _ h1 PV (br_t (nI_le (Nat.le_refl n) hn) (t h1 f al))
    · intro k hk ih h1 f al
      refine sg_J7_fill_53178_5 E L ga ca n hca _ _ _ h1 PV (br_f (nI_ge (b := n) hk hn) ⟨vp_in_nI hk hn, ?_⟩)
      rw [nI_1, nI_clamp (by omega)]
      refine ih _ (f.si (by simp)) (fun j hj => ?_)
      by_cases e : j = k
      · rw [e, sI_at]
      · rw [sI_j e]; exact al j (by omega)
  exact loop 0 (Nat.zero_le _) h (Fr.refl h) (fun j hj => absurd hj (Nat.not_lt_zero j))
/-- the search for fields -/
theorem c_search {u : Nat} (ok : TOk T) (hL : 27 ≤ L) (hu : u < 4096) (tg : TgC T h) (t : ∀ h', Fr fCo h h' → (∀ n, Gd T n u h') → PV h') : SpV E (L + 1) MX0_search [.ref (eA E 51), .int (nI u)] h PV := by
  refine wp_X0_search E L _ h PV (fun ga => c_fill lay_56 (by decide) (fun h1 f1 z1 => ?_))
  have mx := (mc_max ok hu).1
  have pl := pcn_le u
  have fc1 : Fr fCo h h1 := f1.mono (fun c j e => by
    unfold fCo at e
    simp only [Bool.or_eq_false_iff] at e
    exact e.1)
  have loop : ∀ n, n ≤ 208 → ∀ h2, Fr fCo h h2 → LBc T h2 → (n = 0 ∨ ∃ c0, h2.1 56 u = nI c0 ∧ n + 1 ≤ c0 ∧ c0 ≤ mc T u) → VX0_search_12 E L ga PV (nI u) (0 : Int32) (nI n) h2 := by
    refine up_ind _ ?_ ?_
    · intro h2 f2 lb2 iv
      rcases iv with q | ⟨c0, _, q1, q2⟩ <;> omega
    · intro n hn ih h2 f2 lb2 iv
      have tg2 : TgC T h2 := tg.fr f2 (fun _ => rfl)
      refine sg_X0_search_12 E L ga _ _ _ h2 PV (br_f (nI_ge (b := 208) hn (by decide)) (bq_t rfl (c_cal ok (by omega) tg2 lb2 hu (fun c h3 f3 lb3 e3 l3 p3 fl3 k3 => ?_))))
      have fc3 : Fr fCo h2 h3 := f3.mono (fun c j e => by
        unfold fCo at e
        simp only [Bool.or_eq_false_iff] at e
        exact e.1)
      refine (cg_all ok 24).1 L u c 0 h3 _ (by omega) hu l3 (by omega) (by omega) (tg2.fr f3 (fun _ => rfl)) lb3 (fun r h4 f4 lb4 w4 e4 l4 a4 => ?_)
      rw [nI_1]
      refine ek_if (nI_ltI (by omega) (by omega)) (fun q => ?_) (fun q => ?_)
      · refine ih h4 ((f2.trans fc3).trans f4) lb4 (Or.inr ⟨r, e4, ?_, l4⟩)
        have hc : n + 1 ≤ c := by
          rcases iv with q3 | ⟨c0, q4, q5, q6⟩
          · have z : u ≠ 0 := fun z => by
              rw [z, mc_0 ok] at l4
              omega
            have := p3 z
            omega
          · rw [k3 c0 q4 (by omega) (by omega)]
            exact q5
        omega
      · have fin := t h4 ((f2.trans fc3).trans f4) (a4 (by omega)).2
        exact sg_X0_search_12 E L ga _ _ _ h4 PV (ek_if (nI_leI (a := 208) (b := n + 1) (by decide) (by omega)) (fun _ => fin) (fun _ => bq_f (by decide) fin))
  refine loop 0 (by decide) h1 fc1 (fun x hx => ⟨0, z1 x hx, Or.inl rfl⟩) (Or.inl rfl)
end FLG
