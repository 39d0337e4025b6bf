/-! the fewest words, in the reference -/
def Sub (a b : Nat) : Prop := ∀ i, a.testBit i = true → b.testBit i = true
theorem and_half (x y : Nat) : (x &&& y) / 2 = (x / 2) &&& (y / 2) := by
  apply Nat.eq_of_testBit_eq
  intro i
  rw [← Nat.testBit_succ, Nat.testBit_and, Nat.testBit_and, Nat.testBit_succ, Nat.testBit_succ]
theorem sub_and {a b : Nat} (h : Sub a b) : a &&& b = a := by
  apply Nat.eq_of_testBit_eq
  intro i
  rw [Nat.testBit_and]
  cases ha : a.testBit i with
  | false => rfl
  | true => rw [h i ha]; rfl
theorem Sub.half {a b : Nat} (h : Sub a b) : Sub (a / 2) (b / 2) := fun i hi => by
  rw [← Nat.testBit_succ] at hi ⊢
  exact h _ hi
theorem sub_next : ∀ (word rest v : Nat), Sub word rest → Sub v rest → v < word → v ≤ (word - 1) &&& rest := by
  intro word
  induction word using Nat.strongRecOn with
  | _ word ih =>
    intro rest v h1 h2 h3
    have eu := and_half (word - 1) rest
    by_cases q : word % 2 = 1
    · rw [show (word - 1) / 2 = word / 2 by omega, sub_and h1.half] at eu
      omega
    · have := ih (word / 2) (by omega) (rest / 2) (v / 2) h1.half h2.half (by omega)
      rw [show (word - 1) / 2 = word / 2 - 1 by omega] at eu
      rw [← eu] at this
      have b : ((word - 1) &&& rest).testBit 0 = rest.testBit 0 := by
        rw [Nat.testBit_and, Nat.testBit_zero, Nat.testBit_zero, decide_eq_true (show (word - 1) % 2 = 1 by omega), Bool.true_and]
      have c := h2 0
      rw [Nat.testBit_zero, Nat.testBit_zero, decide_eq_true_iff, decide_eq_true_iff] at c
      rw [Nat.testBit_zero, Nat.testBit_zero, decide_eq_decide] at b
      omega
theorem and_sub (a b : Nat) : Sub (a &&& b) b := fun i hi => by
  rw [Nat.testBit_and] at hi
  cases hb : b.testBit i with
  | true => rfl
  | false => rw [hb, Bool.and_false] at hi; cases hi
section BSR
variable {E : En} {d : Nat} {D : SD} {g : SG} {h : Hp} {P : Int32 → Hp → Prop} {PV : Hp → Prop} {i b m : Nat}
theorem r_mayBe {word done : Nat} (wg : WfG g) (sg : SegR g h) (h1 : word < 2 ^ gS g) (h2 : done < 2 ^ gS g) (h0 : word ≠ 0) (hd : ∀ j, word.testBit j = true → done.testBit j = false) (t1 : Ok g done word → P 1 h) (t0 : ¬ Ok g done word → P 0 h) : SpI E d MX10_mayBe [.ref (eA E 63), .int (nI word), .int (nI done)] h P := by
  obtain ⟨w1, w2, w3⟩ := wg
  have p10 := p2_10 w2
  refine wp_X10_mayBe E d _ _ h P (fun ga => ?_)
  have loop : ∀ p, p ≤ gS g → ∀ us : Nat, us < 2 ^ 6 → (∀ x, us.testBit x = true ↔ ∃ r, r < p ∧ word.testBit r = true ∧ gU g r = x) → (∀ j, j < p → word.testBit j = true → dif (gX g j) done = 0 ∧ dif (gW g j) (done ||| word) = 0 ∧ ∀ q, q < p → word.testBit q = true → gU g q = gU g j → q = j) → VX10_mayBe_5 E d ga P (nI word) (nI done) (nI us) (nI p) h := by
    refine up_ind _ ?_ ?_
    · intro us hu hus ok
      refine sg_X10_mayBe_5 E d ga _ _ _ _ h P ?_
      rw [sg.1]
      refine br_t (nI_le (Nat.le_refl _) (by omega)) (t1 ⟨h0, h1, fun j hj => ?_⟩)
      have js : ∀ q, word.testBit q = true → q < gS g := fun q hq => by
        rcases Nat.lt_or_ge q (gS g) with z | z
        · exact z
        · rw [tb_lt h1 z] at hq; cases hq
      obtain ⟨o1, o2, o3⟩ := ok j (js j hj) hj
      exact ⟨hd j hj, o1, o2, fun q hq hu => o3 q (js q hq) hq hu⟩
    · intro p hp ih us hu hus ok
      obtain ⟨u6, x, y⟩ := w3 p hp
      obtain ⟨s1, s2, s3⟩ := sg.2 p hp
      have hx : gX g p < 2 ^ 31 := Nat.lt_trans x (p2_lt (by omega))
      have hy : gW g p < 2 ^ 31 := Nat.lt_trans y (p2_lt (by omega))
      have vp : vp_in (nI p) 10 := vp_in_nI (by omega) (by decide)
      refine sg_X10_mayBe_5 E d ga _ _ _ _ h P ?_
      rw [sg.1, nI_clamp (by omega), s1, s2, s3, nI_1, nI_or, nI_dif, nI_dif, sh1 (gU g p) (by omega), nI_or]
      refine br_f (nI_ge hp (by omega)) (bj_if (bitB0 (by omega) (by omega)) (fun z => ⟨vp, bj_if (nI0 (Nat.lt_of_le_of_lt (dif_le _ _) hx)) (fun v => t0 (fun o => v (o.2.2 p (ts_nf' z)).2.1)) (fun v => ⟨vp, bj_if (nI0 (Nat.lt_of_le_of_lt (dif_le _ _) hy)) (fun u => t0 (fun o => u (o.2.2 p (ts_nf' z)).2.2.1)) (fun u => ⟨vp, bj_if (bitB (by omega) (by omega)) (fun s => ⟨vp, ?_⟩) (fun s => t0 (fun o => ?_))⟩)⟩)⟩) (fun z => ?_))
      · have z := ts_nf' z
        refine ih _ (or_lt hu (p2_lt u6)) (fun k => ?_) (fun j hj hwj => ?_)
        · rw [Nat.testBit_or, p2_bit]
          constructor
          · intro q
            simp only [Bool.or_eq_true, decide_eq_true_eq] at q
            rcases q with q | q
            · obtain ⟨r, r1, r2, r3⟩ := (hus k).mp q
              exact ⟨r, by omega, r2, r3⟩
            · exact ⟨p, by omega, z, q⟩
          · intro ⟨r, r1, r2, r3⟩
            simp only [Bool.or_eq_true, decide_eq_true_eq]
            by_cases q : p = r
            · right; rw [q]; exact r3
            · exact Or.inl ((hus k).mpr ⟨r, by omega, r2, r3⟩)
        · have nou : ∀ q, q < p → word.testBit q = true → gU g q ≠ gU g p := fun q hq hwq e => s ((hus _).mpr ⟨q, hq, hwq, e⟩)
          by_cases e : j = p
          · subst e
            refine ⟨v, u, fun q hq hwq hu => ?_⟩
            rcases Nat.lt_or_ge q j with l | l
            · exact absurd hu (nou q l hwq)
            · omega
          · obtain ⟨o1, o2, o3⟩ := ok j (by omega) hwj
            refine ⟨o1, o2, fun q hq hwq hu => ?_⟩
            rcases Nat.lt_or_ge q p with l | l
            · exact o3 q l hwq hu
            · obtain rfl : q = p := by omega
              exact absurd hu.symm (nou j (by omega) hwj)
      · obtain ⟨r, r1, r2, r3⟩ := (hus _).mp s
        have := (o.2.2 p (ts_nf' z)).2.2.2 r r2 r3
        omega
      · refine ih us hu (fun k => (hus k).trans ⟨fun ⟨r, r1, r2, r3⟩ => ⟨r, by omega, r2, r3⟩, fun ⟨r, r1, r2, r3⟩ => ?_⟩) (fun j hj hwj => ?_)
        · rcases Nat.lt_or_ge r p with l | l
          · exact ⟨r, l, r2, r3⟩
          · obtain rfl : r = p := by omega
            rw [z] at r2; cases r2
        · have jp : j ≠ p := fun e => by rw [e, z] at hwj; cases hwj
          obtain ⟨o1, o2, o3⟩ := ok j (by omega) hwj
          refine ⟨o1, o2, fun q hq hwq hu => ?_⟩
          have qp : q ≠ p := fun e => by rw [e, z] at hwq; cases hwq
          exact o3 q (by omega) hwq hu
  exact loop 0 (by omega) 0 (by decide) (fun x => by
    rw [Nat.zero_testBit]
    exact ⟨fun q => (by cases q), fun ⟨r, r1, _⟩ => (by omega)⟩) (fun j hj => by omega)
/-- the greatest word behind which the fewest come, by a table L -/
def IsBw (g : SG) (L : Nat → Nat) (done best lo : Nat) : Prop := (best = 0 ∧ ∀ w, Ok g done w → w ≤ lo) ∨ (Ok g done best ∧ lo < best ∧ ∀ w, Ok g done w → lo < w → L (done ||| best) ≤ L (done ||| w) ∧ (L (done ||| w) = L (done ||| best) → w ≤ best))
theorem r_best {done : Nat} {L : Nat → Nat} (wg : WfG g) (sg : SegR g h) (h2 : done < 2 ^ gS g) (hL : ∀ x, done < x → x < 2 ^ gS g → h.1 72 x = nI (L x) ∧ L x < 100) (t : ∀ best, best < 2 ^ gS g → IsBw g L done best 0 → P (nI best) h) : SpI E (d + 1) MX10_bestWord [.ref (eA E 63), .int (nI done)] h P := by
  have wg' := wg
  obtain ⟨w1, w2, w3⟩ := wg
  have p10 := p2_10 w2
  have ga := gA_lt g
  refine wp_X10_bestWord E d _ h P (fun gg => ?_)
  rw [sg.1, allI w2, nI_dif]
  generalize hrest : dif (2 ^ gS g - 1) done = rest
  have rb : ∀ j, rest.testBit j = (decide (j < gS g) && !done.testBit j) := fun j => by
    rw [← hrest, dif_bit]
    show ((gA g).testBit j && _) = _
    rw [gA_bit]
  have rl : rest < 2 ^ gS g := by rw [← hrest]; exact Nat.lt_of_le_of_lt (dif_le _ _) ga
  have okS : ∀ w, Ok g done w → Sub w rest := by
    intro w o j hj
    rw [rb, (o.2.2 j hj).1]
    have : j < gS g := by
      rcases Nat.lt_or_ge j (gS g) with z | z
      · exact z
      · rw [tb_lt o.2.1 z] at hj; cases hj
    rw [decide_eq_true this]; rfl
  have gt : ∀ w, Sub w rest → w ≠ 0 → done < done ||| w ∧ done ||| w < 2 ^ gS g := by
    intro w hs hz
    have wl : w < 2 ^ gS g := by
      have : w ≤ rest := by
        have := sub_and hs
        rw [← this]
        exact Nat.and_le_right
      omega
    refine ⟨?_, or_lt h2 wl⟩
    have le : done ≤ done ||| w := Nat.left_le_or
    rcases Nat.eq_or_lt_of_le le with e | e
    · exfalso
      apply hz
      apply Nat.eq_of_testBit_eq
      intro j
      rw [Nat.zero_testBit]
      apply ts_nt'
      intro hj
      have hr := hs j hj
      rw [rb] at hr
      have b : done.testBit j = true := by
        rw [e, Nat.testBit_or, hj, Bool.or_true]
      rw [b, Bool.not_true, Bool.and_false] at hr
      cases hr
    · exact e
  have loop : ∀ f word best : Nat, word < f → Sub word rest → Sub best rest → IsBw g L done best word → VX10_bestWord_18 E d gg P (nI done) (nI rest) (nI best) (nI word) h := by
    intro f
    induction f with
    | zero => intro word best hf; omega
    | succ f ih =>
      intro word best hf sw sb isb
      have wl : word ≤ rest := by rw [← sub_and sw]; exact Nat.and_le_right
      have bl : best ≤ rest := by rw [← sub_and sb]; exact Nat.and_le_right
      refine sg_X10_bestWord_18 E d gg _ _ _ _ h P ?_
      by_cases z : word = 0
      · rw [z]
        rw [z] at isb
        exact br_t (by decide) (t best (by omega) isb)
      · rw [nI_or, nI_or, show (1 : Int32) = nI 1 from rfl, pk_sub (by omega), nI_and]
        have nle : (word - 1) &&& rest ≤ word - 1 := Nat.and_le_left
        have nx : ∀ b2, Sub b2 rest → IsBw g L done b2 ((word - 1) &&& rest) → VX10_bestWord_18 E d gg P (nI done) (nI rest) (nI b2) (nI ((word - 1) &&& rest)) h := fun b2 s2 i2 => ih _ b2 (by omega) (and_sub _ _) s2 i2
        have wd : ∀ j, word.testBit j = true → done.testBit j = false := fun j hj => by
          have := sw j hj
          rw [rb] at this
          simp only [Bool.and_eq_true, Bool.not_eq_true'] at this
          exact this.2
        -- a word between the next one and this one is this one
        have btw : ∀ w, Ok g done w → (word - 1) &&& rest < w → w ≤ word → w = word := by
          intro w o h1 h3
          rcases Nat.eq_or_lt_of_le h3 with e | e
          · exact e
          · have := sub_next word rest w sw (okS w o) e
            omega
        have keepB : ¬ Ok g done word → IsBw g L done best ((word - 1) &&& rest) := by
          intro no
          rcases isb with ⟨e, a⟩ | ⟨o, a, c⟩
          · refine Or.inl ⟨e, fun w ow => ?_⟩
            have h1 := a w ow
            rcases Nat.lt_or_ge ((word - 1) &&& rest) w with q | q
            · exact absurd (btw w ow q h1 ▸ ow) no
            · exact q
          · refine Or.inr ⟨o, by omega, fun w ow hw => ?_⟩
            rcases Nat.lt_or_ge word w with q | q
            · exact c w ow q
            · exact absurd (btw w ow hw q ▸ ow) no
        have takeB : Ok g done word → (best = 0 ∨ L (done ||| word) < L (done ||| best)) → IsBw g L done word ((word - 1) &&& rest) := by
          intro ow hb
          refine Or.inr ⟨ow, by omega, fun w o2 hw => ?_⟩
          rcases Nat.lt_or_ge word w with q | q
          · rcases isb with ⟨e, a⟩ | ⟨o, a, c⟩
            · have := a w o2; omega
            · rcases hb with hb | hb
              · omega
              · have := (c w o2 q).1
                exact ⟨by omega, fun e => by omega⟩
          · rw [btw w o2 hw q]
            exact ⟨Nat.le_refl _, fun _ => Nat.le_refl _⟩
        refine br_f (nI_nle (by omega) (by omega)) (ek_if (nI_leI (b := 0) (by omega) (by decide)) (fun q => ?_) (fun q => ?_))
        · refine r_mayBe wg' sg (by omega) h2 z wd (fun o => bq_f (by decide) ?_) (fun o => bq_t rfl ?_)
          · exact nx word sw (takeB o (Or.inl (by omega)))
          · exact nx best sb (keepB o)
        · have g1 := gt word sw z
          have g2 := gt best sb (by omega)
          obtain ⟨e1, e1'⟩ := hL _ g1.1 g1.2
          obtain ⟨e2, e2'⟩ := hL _ g2.1 g2.2
          rw [nI_clamp (n := done ||| best) (by omega), nI_clamp (n := done ||| word) (by omega), e1, e2]
          refine ⟨vp_in_nI (by omega) (by decide), vp_in_nI (by omega) (by decide), ek_if (nI_leI (by omega) (by omega)) (fun y => ?_) (fun y => ?_)⟩
          · refine nx best sb ?_
            rcases isb with ⟨e, a⟩ | ⟨o, a, c⟩
            · omega
            · refine Or.inr ⟨o, by omega, fun w ow hw => ?_⟩
              rcases Nat.lt_or_ge word w with q2 | q2
              · exact c w ow q2
              · rw [btw w ow hw q2]
                exact ⟨y, fun _ => by omega⟩
          · refine r_mayBe wg' sg (by omega) h2 z wd (fun o => bq_f (by decide) ?_) (fun o => bq_t rfl ?_)
            · exact nx word sw (takeB o (Or.inr (by omega)))
            · exact nx best sb (keepB o)
  refine loop (rest + 1) rest 0 (by omega) (fun _ h => h) (fun j hj => by rw [Nat.zero_testBit] at hj; cases hj) (Or.inl ⟨rfl, fun w o => ?_⟩)
  have := sub_and (okS w o)
  rw [← this]
  exact Nat.and_le_right
/-- the least number of words for the rest -/
def IsLs (g : SG) (n dn : Nat) : Prop := Pk g n dn ∧ ∀ k, k < n → ¬ Pk g k dn
theorem IsLs.le {n dn : Nat} (wg : WfG g) (a : IsLs g n dn) (hd : dn < 2 ^ gS g) : n ≤ 10 := by
  have := Pk_all wg _ dn hd (lft_le g dn)
  rcases Nat.lt_or_ge (gS g) n with q | q
  · exact absurd this (a.2 _ q)
  · have := wg.2.1; omega
theorem bw_ls {L : Nat → Nat} {done best : Nat} (wg : WfG g) (hd : done < 2 ^ gS g) (hna : done ≠ gA g) (hL : ∀ x, done < x → x < 2 ^ gS g → IsLs g (L x) x) (a : IsBw g L done best 0) : Ok g done best ∧ IsLs g (1 + L (done ||| best)) done ∧ (∀ w, Ok g done w → Pk g (L (done ||| best)) (done ||| w) → w ≤ best) := by
  have gt : ∀ w, Ok g done w → done < done ||| w ∧ done ||| w < 2 ^ gS g := by
    intro w o
    refine ⟨?_, or_lt hd o.2.1⟩
    have le : done ≤ done ||| w := Nat.left_le_or
    rcases Nat.eq_or_lt_of_le le with e | e
    · exfalso
      apply o.1
      apply Nat.eq_of_testBit_eq
      intro j
      rw [Nat.zero_testBit]
      apply ts_nt'
      intro hj
      have b := (o.2.2 j hj).1
      rw [e, Nat.testBit_or, hj, Bool.or_true] at b
      cases b
    · exact e
  rcases a with ⟨e, a⟩ | ⟨o, -, c⟩
  · exfalso
    have := Pk_all wg _ done hd (Nat.le_refl _)
    cases hl : lft g done with
    | zero => exact hna (lft_0 hd hl)
    | succ n =>
      rw [hl] at this
      rcases this with q | ⟨w, ow, _⟩
      · exact hna q
      · have := a w ow
        exact ow.1 (by omega)
  · have g1 := gt best o
    have l1 := hL _ g1.1 g1.2
    refine ⟨o, ⟨?_, fun k hk => ?_⟩, fun w ow hw => ?_⟩
    · rw [Nat.add_comm]
      exact Or.inr ⟨best, o, l1.1⟩
    · intro pk
      cases k with
      | zero => exact hna pk
      | succ k =>
        rcases pk with q | ⟨w, ow, pw⟩
        · exact hna q
        · have g2 := gt w ow
          have l2 := hL _ g2.1 g2.2
          have hpos : 0 < w := Nat.pos_of_ne_zero ow.1
          have := (c w ow hpos).1
          exact l2.2 k (by omega) pw
    · have g2 := gt w ow
      have l2 := hL _ g2.1 g2.2
      have hpos : 0 < w := Nat.pos_of_ne_zero ow.1
      obtain ⟨c1, c2⟩ := c w ow hpos
      apply c2
      rcases Nat.lt_or_ge (L (done ||| best)) (L (done ||| w)) with q | q
      · exact absurd hw (l2.2 _ q)
      · omega
def fBe (c j : Nat) : Bool := fWd c j || c == 72
theorem AtR.be {h' : Hp} (a : AtR D i b g h) (f : Fr fBe h h') : AtR D i b g h' := by
  obtain ⟨a1, a2, a3, a4, a5, a6⟩ := a
  refine ⟨by rw [f.i 63 8 rfl]; exact a1, by rw [f.i 63 9 rfl]; exact a2, a3.fr f rfl (fun _ => rfl) (fun _ => rfl) (fun _ => rfl), a4.fr f (fun c j e => ?_), a5, a6⟩
  unfold fBe
  rw [srcR_wd c j e]
  unfold isSrcR at e
  simp only [Bool.or_eq_true, Bool.and_eq_true, beq_iff_eq] at e
  simp only [Bool.false_or, beq_eq_false_iff_ne]
  omega
theorem r_fewest (w : Wf D) (wg : WfG g) (a : AtR D i b g h) (hm : h.1 63 21 = nI m) (hm2 : m + gS g ≤ 192) (t : ∀ h0 h', Fr (fun c _ => c == 72) h h0 → WApp h0 m ((pkB g).map (fun x => opF D i b x (gS g))) h' → BestP g (pkB g) → PV h') : SpV E (d + 3) MX10_packsBest [.ref (eA E 63)] h PV := by
  have wg' := wg
  obtain ⟨w1, w2, w3⟩ := wg
  have p10 := p2_10 w2
  have gal := gA_lt g
  have g2 : 2 ≤ 2 ^ gS g := Nat.pow_le_pow_right (n := 2) (i := 1) (by decide) w1
  refine wp_X10_packsBest E (d + 2) h PV (fun ga => ?_)
  rw [a.2.2.1.1, allI w2, nI_clamp (by omega), show (1 : Int32) = nI 1 from rfl, pk_sub (by omega)]
  refine ⟨vp_in_nI (by omega) (by decide), ?_⟩
  have fr72 : ∀ {h1 : Hp}, Fr (fun c _ => c == 72) h h1 → Fr fBe h h1 := fun f => f.mono (fun c j e => by
    unfold fBe at e
    simp only [Bool.or_eq_false_iff] at e
    exact e.2)
  have second : ∀ (h0 : Hp) (L : Nat → Nat), Fr (fun c _ => c == 72) h h0 → (∀ x, x < 2 ^ gS g → h0.1 72 x = nI (L x) ∧ IsLs g (L x) x) → ∀ (n done : Nat) (pre : List Nat) (h1 : Hp), done < 2 ^ gS g → IsLs g n done → pre.length + n ≤ gS g → WApp h0 m (pre.map (fun x => opF D i b x (gS g))) h1 → (∀ h' l, Bs g n done l → WApp h0 m ((pre ++ l).map (fun x => opF D i b x (gS g))) h' → PV h') → VX10_packsBest_66 E (d + 2) ga PV (nI (2 ^ gS g - 1)) (nI done) h1 := by
    intro h0 L f0 hL n
    have a0 := a.be (fr72 f0)
    induction n with
    | zero =>
      intro done pre h1 hd ls hl ap k
      have e : done = gA g := ls.1
      refine sg_X10_packsBest_66 E (d + 2) ga _ _ h1 PV (br_t (by rw [e]; rfl) ?_)
      refine k h1 [] e ?_
      rw [List.append_nil]; exact ap
    | succ n ih =>
      intro done pre h1 hd ls hl ap k
      have hna : done ≠ gA g := fun e => ls.2 0 (by omega) e
      have a1 := a0.wd ap.1
      refine sg_X10_packsBest_66 E (d + 2) ga _ _ h1 PV (br_f (fun e => hna (nI_inj (by omega) (by omega) e)) ?_)
      refine r_best (L := L) wg' a1.2.2.1 hd (fun x x1 x2 => ?_) (fun best bl isb => ?_)
      · rw [ap.1.f 72 (fun _ => rfl)]
        have := (hL x x2).2.le wg' x2
        exact ⟨(hL x x2).1, by omega⟩
      · obtain ⟨o, l1, big⟩ := bw_ls wg' hd hna (fun x _ x2 => (hL x x2).2) isb
        have dl : done ||| best < 2 ^ gS g := or_lt hd bl
        have en : n = L (done ||| best) := by
          have e : n + 1 = 1 + L (done ||| best) := by
            rcases Nat.lt_or_ge (n + 1) (1 + L (done ||| best)) with q | q
            · exact absurd ls.1 (l1.2 _ q)
            · rcases Nat.lt_or_ge (1 + L (done ||| best)) (n + 1) with z | z
              · exact absurd l1.1 (ls.2 _ z)
              · omega
          omega
        have e21 := ap.2.1
        rw [List.length_map] at e21
        refine r_word w wg' a1 bl e21 (by omega) ?_
        rw [nI_or]
        refine ih (done ||| best) (pre ++ [best]) _ dl (by rw [en]; exact (hL _ dl).2) (by rw [List.length_append]; show _ + 1 + _ ≤ _; omega) ?_ (fun h' l bs ap2 => ?_)
        · have := ap.one (x := opF D i b best (gS g))
          rw [List.length_map] at this
          rw [List.map_append]
          exact this
        · refine k h' (best :: l) ⟨hna, o, ?_, ?_, bs⟩ (by rw [List.append_assoc] at ap2; exact ap2)
          · rw [en]; exact (hL _ dl).2.1
          · rw [en]; exact big
  have first : ∀ k, k ≤ 2 ^ gS g - 1 → ∀ (h1 : Hp) (L : Nat → Nat) (x : Int32), (k = 0 → x = (-1 : Int32)) → (∀ q, k = q + 1 → x = nI q) → Fr (fun c _ => c == 72) h h1 → (∀ y, k ≤ y → y < 2 ^ gS g → h1.1 72 y = nI (L y) ∧ IsLs g (L y) y) → VX10_packsBest_20 E (d + 2) ga PV (nI (2 ^ gS g - 1)) x h1 := by
    intro k
    induction k with
    | zero =>
      intro _ h1 L x hx _ f1 hL
      rw [hx rfl]
      refine sg_X10_packsBest_20 E (d + 2) ga _ _ h1 PV (br_t (by decide) ?_)
      have hL' := fun y hy => hL y (Nat.zero_le y) hy
      have l0 := (hL' 0 (by omega)).2
      have := l0.le wg' (by omega)
      have ls : L 0 ≤ gS g := by
        have := Pk_all wg' (gS g) 0 (by omega) (lft_le g 0)
        rcases Nat.lt_or_ge (gS g) (L 0) with q | q
        · exact absurd this (l0.2 _ q)
        · exact q
      refine second h1 L f1 hL' (L 0) 0 [] h1 (by omega) l0 (by show 0 + _ ≤ _; omega) (WApp.nil (by rw [f1.i 63 21 rfl]; exact hm)) (fun h' l bs ap => ?_)
      have bp : BestP g l := ⟨L 0, l0.1, l0.2, bs⟩
      have eb := pkB_is bp
      refine t h1 h' f1 ?_ (by rw [eb]; exact bp)
      rw [eb]; exact ap
    | succ q ih =>
      intro hk h1 L x _ hx f1 hL
      rw [hx q rfl]
      refine sg_X10_packsBest_20 E (d + 2) ga _ _ h1 PV (br_f (nI_pos (by omega)) ⟨vp_in_nI (by omega) (by decide), ?_⟩)
      rw [nI_clamp (by omega)]
      have f2 : Fr (fun c _ => c == 72) h (sI h1 72 q (24 : Int32)) := f1.si rfl
      have a2 := a.be (fr72 f2)
      have hna : q ≠ gA g := by unfold gA; omega
      refine r_best (L := L) wg' a2.2.2.1 (by omega) (fun y y1 y2 => ?_) (fun best bl isb => ?_)
      · rw [sI_j (by omega)]
        have := (hL y (by omega) y2).2.le wg' y2
        exact ⟨(hL y (by omega) y2).1, by omega⟩
      · obtain ⟨o, l1, big⟩ := bw_ls wg' (by omega) hna (fun y y1 y2 => (hL y (by omega) y2).2) isb
        have dl : q ||| best < 2 ^ gS g := or_lt (by omega) bl
        have dg : q < q ||| best := by
          have le : q ≤ q ||| best := Nat.left_le_or
          rcases Nat.eq_or_lt_of_le le with e | e
          · exfalso
            apply o.1
            apply Nat.eq_of_testBit_eq
            intro j
            rw [Nat.zero_testBit]
            apply ts_nt'
            intro hj
            have b := (o.2.2 j hj).1
            rw [e, Nat.testBit_or, hj, Bool.or_true] at b
            cases b
          · exact e
        have bpos : 0 < best := Nat.pos_of_ne_zero o.1
        refine br_f (nI_nle bpos (by omega)) ?_
        rw [nI_or, nI_clamp (by omega), sI_j (by omega), (hL _ (by omega) dl).1, show (1 : Int32) + nI (L (q ||| best)) = nI (1 + L (q ||| best)) from nI_add 1 _]
        refine ⟨vp_in_nI (by omega) (by decide), vp_in_nI (by omega) (by decide), ?_⟩
        refine ih (by omega) _ (fun y => if y = q then 1 + L (q ||| best) else L y) _ (fun e => ?_) (fun p e => ?_) (f2.si rfl) (fun y y1 y2 => ?_)
        · subst e; decide
        · subst e; exact pk_m1 p
        · by_cases e : y = q
          · subst e
            rw [sI_at, if_pos rfl]
            exact ⟨rfl, l1⟩
          · rw [sI_j e, sI_j e, if_neg e]
            exact hL y (by omega) y2
  refine first (2 ^ gS g - 1) (Nat.le_refl _) _ (fun _ => 0) _ (fun e => by omega) (fun q e => ?_) ((Fr.refl h).si rfl) (fun y y1 y2 => ?_)
  · rw [e]; rfl
  · obtain rfl : y = 2 ^ gS g - 1 := by omega
    rw [sI_at]
    exact ⟨rfl, rfl, fun k hk => by omega⟩
end BSR
