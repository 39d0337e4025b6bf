/-! the class's search for the fewest words -/
section FIT
variable {E : En} {g : SG} {H : Nat → Nat} {sr wn : Nat}
def PkC (g : SG) (H : Nat → Nat) (sr wn : Nat) (h : Hp) : Prop := SegC g h ∧ (∀ p, p < gS g → h.1 37 p = nI (H p)) ∧ h.1 32 10 = nI sr ∧ h.1 32 11 = nI wn
def TF (g : SG) (sr : Nat) (h : Hp) : Prop := ∀ x, x < 1024 → ∃ a b, a ≤ sr ∧ b < 16 ∧ h.1 39 x = nI (16 * a + b) ∧ (a = sr → x < 2 ^ gS g → ¬ Pk g b x)
def fSe (c _ : Nat) : Bool := c == 33 || c == 39
theorem PkC.fr {h h' : Hp} (a : PkC g H sr wn h) (f : Fr fSe h h') : PkC g H sr wn h' := by
  obtain ⟨a1, a2, a3, a4⟩ := a
  refine ⟨a1.fr f rfl (fun _ => rfl) (fun _ => rfl) (fun _ => rfl) (fun _ => rfl), fun p hp => ?_, ?_, ?_⟩
  · rw [f.f 37 (fun _ => rfl)]; exact a2 p hp
  · rw [f.i 32 10 rfl]; exact a3
  · rw [f.i 32 11 rfl]; exact a4
theorem TF.fr33 {h : Hp} {k : Nat} {v : Int32} (a : TF g sr h) : TF g sr (sI h 33 k v) := by
  intro x hx
  rw [sI_n _ _ _ _ (by decide)]
  exact a x hx
theorem c_need {d packed : Nat} {h : Hp} {P : Int32 → Hp → Prop} (w : WfG g) (hg : HgOK g H) (a : PkC g H sr wn h) (hp : Cl g packed) (t : ∀ nd, nd ≤ 12 → (∀ n, Pk g n packed → nd ≤ n) → P (nI nd) h) : SpI E (d + 1) MX4_wordsNeeded [.ref (eA E 32), .int (nI packed)] h P := by
  obtain ⟨a1, a2, a3, a4⟩ := a
  have w' := w
  obtain ⟨w1, w2, w3⟩ := w
  have p10 := p2_10 w2
  have hp1 := hp.1
  refine wp_X4_wordsNeeded E d _ h P (fun ga => ?_)
  have l2 : ∀ x, x ≤ 6 → ∀ v, v ≤ 12 → (∀ n, Pk g n packed → v ≤ n) → VX4_wordsNeeded_39 E d ga P (nI packed) (nI v) (nI x) h := by
    refine up_ind _ ?_ ?_
    · intro v v1 v2
      exact sg_X4_wordsNeeded_39 E d ga _ _ _ h P (br_t (nI_le (Nat.le_refl 6) (by decide)) (t v v1 v2))
    · intro x hx ih v v1 v2
      have ho : ofU g x < 2 ^ gS g := mskF_lt _ _
      have hd := dif_le (ofU g x) packed
      refine sg_X4_wordsNeeded_39 E d ga _ _ _ h P (br_f (nI_ge (b := 6) hx (by decide)) ⟨vp_in_nI hx (by decide), ?_⟩)
      rw [nI_clamp (by omega), a1.2.2 x hx, nI_dif]
      refine s_bc (by omega) ?_
      have := pcn_le (dif (ofU g x) packed)
      rw [nI_max (by omega) (by omega), nI_1]
      refine ih _ (by omega) (fun n hn => ?_)
      have e1 := v2 n hn
      have e2 := Pk_unit (x := x) n packed hn
      rw [← ctU_pcn w'] at e2
      omega
  have l1 : ∀ p, p ≤ gS g → ∀ v, v ≤ 12 → (∀ n, Pk g n packed → v ≤ n) → VX4_wordsNeeded_4 E d ga P (nI packed) (nI v) (nI p) h := by
    refine up_ind _ ?_ ?_
    · intro v v1 v2
      refine sg_X4_wordsNeeded_4 E d ga _ _ _ h P ?_
      rw [a1.1]
      exact br_t (nI_le (Nat.le_refl _) (by omega)) (l2 0 (by decide) v v1 v2)
    · intro p hp2 ih v v1 v2
      have hh := hg.le (gS g) p hp2 (by omega)
      refine sg_X4_wordsNeeded_4 E d ga _ _ _ h P ?_
      rw [a1.1, nI_clamp (by omega), a2 p hp2, nI_max (by omega) (by omega), nI_1]
      refine br_f (nI_ge hp2 (by omega)) (bj_if (bitA (by omega)) (fun z => ih v v1 v2) (fun z => ⟨vp_in_nI (by omega) (by decide), ih _ (by omega) (fun n hn => ?_)⟩))
      have e1 := v2 n hn
      have e2 := Pk_hgt hg n packed hp hn p hp2 z
      omega
  exact l1 0 (by omega) 0 (by decide) (fun n _ => Nat.zero_le n)
def urg (g : SG) (H : Nat → Nat) (packed left : Nat) : Nat := dif (mskF (fun p => decide (left ≤ H p)) (gS g)) packed
theorem c_urg {d packed left : Nat} {h : Hp} {P : Int32 → Hp → Prop} (w : WfG g) (hg : HgOK g H) (a : PkC g H sr wn h) (hl : left < 100) (t : P (nI (urg g H packed left)) h) : SpI E d MX4_urgent [.ref (eA E 32), .int (nI packed), .int (nI left)] h P := by
  obtain ⟨a1, a2, a3, a4⟩ := a
  obtain ⟨w1, w2, w3⟩ := w
  refine wp_X4_urgent E d _ _ h P (fun ga => ?_)
  have l1 : ∀ p, p ≤ gS g → VX4_urgent_5 E d ga P (nI packed) (nI left) (nI (mskF (fun p => decide (left ≤ H p)) p)) (nI p) h := by
    refine up_ind _ ?_ ?_
    · refine sg_X4_urgent_5 E d ga _ _ _ _ h P ?_
      rw [a1.1, nI_dif]
      exact br_t (nI_le (Nat.le_refl _) (by omega)) t
    · intro p hp ih
      have hh := hg.le (gS g) p hp (by omega)
      have e1 : mskF (fun p => decide (left ≤ H p)) (p + 1) = mskF (fun p => decide (left ≤ H p)) p ||| (if decide (left ≤ H p) then 2 ^ p else 0) := rfl
      refine sg_X4_urgent_5 E d ga _ _ _ _ h P ?_
      rw [a1.1, nI_clamp (by omega), a2 p hp, nI_1, sh1 _ (by omega), nI_or]
      refine br_f (nI_ge hp (by omega)) ⟨vp_in_nI (by omega) (by decide), ek_if (nI_ltI (by omega) (by omega)) (fun z => ?_) (fun z => ?_)⟩
      · rw [decide_eq_false (by omega)] at e1
        have e1 : mskF (fun p => decide (left ≤ H p)) (p + 1) = mskF (fun p => decide (left ≤ H p)) p ||| 0 := e1
        rw [Nat.or_zero] at e1
        rw [← e1]; exact ih
      · rw [decide_eq_true (by omega)] at e1
        have e1 : mskF (fun p => decide (left ≤ H p)) (p + 1) = mskF (fun p => decide (left ≤ H p)) p ||| 2 ^ p := e1
        rw [← e1]; exact ih
  exact l1 0 (by omega)
/-- what fits() does -/
def FitsS (E : En) (g : SG) (H : Nat → Nat) (sr wn D0 packed index : Nat) : Prop := ∀ (h : Hp) (P : Int32 → Hp → Prop), PkC g H sr wn h → TF g sr h → Cl g packed → index ≤ wn →
  (∀ h', Fr fSe h h' → TF g sr h' → (∀ k, k < index → h'.1 33 k = h.1 33 k) → ¬ Pk g (wn - index) packed → P 0 h') →
  (∀ h' l, Fr fSe h h' → TF g sr h' → (∀ k, k < index → h'.1 33 k = h.1 33 k) → Bs g (wn - index) packed l → (∀ k, k < l.length → h'.1 33 (index + k) = nI (l.getD k 0)) → P 1 h') →
  SpI E D0 MX4_fits [.ref (eA E 32), .int (nI packed), .int (nI index)] h P
/-- words that go on with a word above a limit -/
def Cd (g : SG) (n packed word limit w : Nat) : Prop := Ok g packed w ∧ Pk g n (packed ||| w) ∧ ∀ b, limit ≤ b → w.testBit b = word.testBit b
def WdOK (g : SG) (packed word limit : Nat) : Prop := word < 2 ^ gS g ∧ ∀ j, word.testBit j = true → limit ≤ j ∧ packed.testBit j = false ∧ dif (gX g j) packed = 0 ∧ ∀ q, word.testBit q = true → gU g q = gU g j → q = j
def NdOK (g : SG) (n packed word needed limit : Nat) : Prop := needed < 2 ^ gS g ∧ (∀ b, needed.testBit b = true → b < limit ∧ ∀ w, Cd g n packed word limit w → w.testBit b = true) ∧ ∀ j b, word.testBit j = true → (gW g j).testBit b = true → packed.testBit b = true ∨ word.testBit b = true ∨ needed.testBit b = true
def ExtS (E : En) (g : SG) (H : Nat → Nat) (sr wn D0 packed index word needed limit : Nat) : Prop := ∀ (h : Hp) (P : Int32 → Hp → Prop) (n : Nat), PkC g H sr wn h → TF g sr h → Cl g packed → wn = index + 1 + n → limit ≤ gS g → WdOK g packed word limit → NdOK g n packed word needed limit →
  (∀ h', Fr fSe h h' → TF g sr h' → (∀ k, k < index → h'.1 33 k = h.1 33 k) → (∀ w, ¬ Cd g n packed word limit w) → P 0 h') →
  (∀ h' w l, Fr fSe h h' → TF g sr h' → (∀ k, k < index → h'.1 33 k = h.1 33 k) → Cd g n packed word limit w → (∀ w', Cd g n packed word limit w' → w' ≤ w) → Bs g n (packed ||| w) l → h'.1 33 index = nI w → (∀ k, k < l.length → h'.1 33 (index + 1 + k) = nI (l.getD k 0)) → P 1 h') →
  SpI E D0 MX4_extend [.ref (eA E 32), .int (nI packed), .int (nI index), .int (nI word), .int (nI needed), .int (nI limit)] h P
theorem sh4 : ∀ x : Int32, x <<< ((4 : Int32) &&& 31) = x <<< (nI 4 &&& 31) := fun _ => rfl
theorem ext_ok (w : WfG g) (hsr : sr < 2 ^ 26) (hwn : wn ≤ gS g) {μ D0 packed index word needed limit : Nat} (hμ : lft g packed * 12 + limit = μ) (hD : μ + 2 ≤ D0)
    (ihF : ∀ D1 p1 i1, lft g p1 * 12 + 11 < μ → lft g p1 * 12 + 11 + 2 ≤ D1 → FitsS E g H sr wn D1 p1 i1)
    (ihE : ∀ D1 i1 w1 n1 l1, lft g packed * 12 + l1 < μ → lft g packed * 12 + l1 + 2 ≤ D1 → ExtS E g H sr wn D1 packed i1 w1 n1 l1) : ExtS E g H sr wn D0 packed index word needed limit := by
  obtain ⟨d, rfl⟩ : ∃ d, D0 = d + 1 := ⟨D0 - 1, by omega⟩
  intro h P n pk tf cl hn hlim wd nd t0 t1
  have w' := w
  obtain ⟨w1, w2, w3⟩ := w
  have p10 := p2_10 w2
  have hp1 := cl.1
  have hw1 := wd.1
  have hn1 := nd.1
  refine wp_X4_extend E d _ _ _ _ _ h P (fun ga => ?_)
  have loop : ∀ k, k ≤ limit → ∀ (h1 : Hp) (x : Int32), (k = 0 → x = (-1 : Int32)) → (∀ q, k = q + 1 → x = nI q) → Fr fSe h h1 → TF g sr h1 → (∀ j, j < index → h1.1 33 j = h.1 33 j) → (∀ w, Cd g n packed word limit w → ∀ b, k ≤ b → b < limit → w.testBit b = false) → (∀ b, k ≤ b → needed.testBit b = false) → VX4_extend_6 E d ga P (nI packed) (nI index) (nI word) (nI needed) (nI limit) x h1 := by
    intro k
    induction k with
    | zero =>
      intro _ h1 x hx _ fr tf1 keep hi ndz
      rw [hx rfl]
      have only : ∀ v, Cd g n packed word limit v → v = word := by
        intro v hv
        apply Nat.eq_of_testBit_eq
        intro b
        rcases Nat.lt_or_ge b limit with q | q
        · rw [hi v hv b (by omega) q]
          exact (ts_nt' (fun z => by have := (wd.2 b z).1; omega)).symm
        · exact hv.2.2 b q
      refine sg_X4_extend_6 E d ga _ _ _ _ _ _ h1 P (br_t (by decide) ?_)
      rw [((pk.fr fr).1).1, nI_or, nI_1]
      refine ek_if (nI0 (by omega)) (fun z => ?_) (fun z => br_t (nI_lt (by omega) (by omega)) ⟨vp_in_nI (by omega) (by decide), ?_⟩)
      · refine t0 h1 fr tf1 keep (fun v hv => ?_)
        have := only v hv
        exact hv.1.1 (by omega)
      · have okw : Ok g packed word := by
          refine ⟨z, hw1, fun j hj => ?_⟩
          obtain ⟨_, b2, b3, b4⟩ := wd.2 j hj
          refine ⟨b2, b3, ?_, b4⟩
          rw [dif_0]
          intro b hb
          rw [Nat.testBit_or]
          rcases nd.2.2 j b hj hb with y | y | y
          · rw [y]; rfl
          · rw [y, Bool.or_true]
          · rw [ndz b (by omega)] at y; cases y
        have lt : lft g (packed ||| word) < lft g packed := by
          have : ∃ j, j < gS g ∧ word.testBit j = true := by
            apply Classical.byContradiction
            intro no
            apply z
            apply Nat.eq_of_testBit_eq
            intro j
            rw [Nat.zero_testBit]
            apply ts_nt'
            intro y
            rcases Nat.lt_or_ge j (gS g) with q | q
            · exact no ⟨j, q, y⟩
            · rw [tb_lt hw1 q] at y; cases y
          obtain ⟨j, j1, j2⟩ := this
          exact lft_lt j1 (wd.2 j j2).2.1 j2
        rw [nI_clamp (by omega)]
        refine ihF d (packed ||| word) (index + 1) (by omega) (by omega) _ _ ((pk.fr fr).fr ((Fr.refl h1).si rfl)) tf1.fr33 (cl.step okw) (by omega) (fun h2 f2 tf2 keep2 no => ⟨Or.inl rfl, ?_⟩) (fun h2 l f2 tf2 keep2 bs lst => ⟨Or.inr rfl, ?_⟩)
        · have f3 : Fr fSe h h2 := (fr.si rfl).trans f2
          refine t0 h2 f3 tf2 (fun j hj => ?_) (fun v hv => ?_)
          · rw [keep2 j (by omega), sI_j (by omega)]; exact keep j hj
          · rw [only v hv] at hv
            rw [show wn - (index + 1) = n by omega] at no
            exact no hv.2.1
        · have f3 : Fr fSe h h2 := (fr.si rfl).trans f2
          rw [show wn - (index + 1) = n by omega] at bs
          have pkn : Pk g n (packed ||| word) := (Bs.pk _ _ _ bs).le (Bs.len _ _ _ bs)
          refine t1 h2 word l f3 tf2 (fun j hj => ?_) ⟨okw, pkn, fun _ _ => rfl⟩ (fun v hv => ?_) bs ?_ lst
          · rw [keep2 j (by omega), sI_j (by omega)]; exact keep j hj
          · rw [only v hv]; exact Nat.le_refl _
          · rw [keep2 index (by omega), sI_at]
    | succ p ih =>
      intro hk h1 x _ hx fr tf1 keep hi ndz
      rw [hx p rfl]
      have pk1 := pk.fr fr
      have hps : p < gS g := by omega
      obtain ⟨u6, gx, gw⟩ := w3 p hps
      have gw31 : gW g p < 2 ^ gS g := Nat.lt_trans gw (p2_lt hps)
      have cont : ∀ h2, Fr fSe h h2 → TF g sr h2 → (∀ j, j < index → h2.1 33 j = h.1 33 j) → (∀ v, Cd g n packed word limit v → v.testBit p = false) → ((nI needed &&& ((1 : Int32) <<< (nI p &&& 31))) = 0 → VX4_extend_6 E d ga P (nI packed) (nI index) (nI word) (nI needed) (nI limit) (nI p + (-1 : Int32)) h2) ∧ (¬ (nI needed &&& ((1 : Int32) <<< (nI p &&& 31))) = 0 → P (0 : Int32) h2) := by
        intro h2 f2 tf2 keep2 no
        refine ek_if (bitA (by omega)) (fun z => ?_) (fun z => ?_)
        · refine ih (by omega) h2 _ (fun q => ?_) (fun q e => ?_) f2 tf2 keep2 (fun v hv b b1 b2 => ?_) (fun b hb => ?_)
          · subst q; decide
          · subst e; exact pk_m1 q
          · rcases Nat.eq_or_lt_of_le b1 with e | e
            · rw [← e]; exact no v hv
            · exact hi v hv b (by omega) b2
          · rcases Nat.eq_or_lt_of_le hb with e | e
            · rw [← e]; exact z
            · exact ndz b (by omega)
        · refine t0 h2 f2 tf2 keep2 (fun v hv => ?_)
          have := (nd.2.1 p (ts_nf' z)).2 v hv
          rw [no v hv] at this; cases this
      have wp0 : word.testBit p = false := ts_nt' (fun z => by have := (wd.2 p z).1; omega)
      refine sg_X4_extend_6 E d ga _ _ _ _ _ _ h1 P (br_f (nI_pos (by omega)) ?_)
      refine c_may w' pk1.1 hps hp1 hw1 ?_
      refine ek_if (b2i_0 _) (fun z => cont h1 fr tf1 keep (fun v hv => ?_)) (fun z => ⟨vp_in_nI (by omega) (by decide), ?_⟩)
      · apply ts_nt'
        intro y
        obtain ⟨o1, o2, o3, o4⟩ := hv.1.2.2 p y
        unfold mayE at z
        rw [Nat.testBit_or, o1, wp0, decide_eq_true o2] at z
        have z : decide (ofU g (gU g p) &&& word = 0) = false := z
        have z := of_decide_eq_false z
        apply z
        rw [and_0]
        intro q hq
        apply ts_nt'
        intro hwq
        unfold ofU at hq
        rw [mskF_bit] at hq
        simp only [Bool.and_eq_true, decide_eq_true_eq] at hq
        have l1 := (wd.2 q hwq).1
        have := o4 q (by rw [hv.2.2 q l1]; exact hwq) hq.2
        omega
      · have z := ts_nf' z
        unfold mayE at z
        simp only [Bool.and_eq_true, Bool.not_eq_true', decide_eq_true_eq] at z
        obtain ⟨⟨z1, z2⟩, z3⟩ := z
        rw [Nat.testBit_or, Bool.or_eq_false_iff] at z1
        rw [nI_clamp (by omega), (pk1.1.2.1 p hps).2.2, sh1 _ (by omega), nI_or, nI_or, nI_or, nI_dif]
        have b2p : (2 : Nat) ^ p < 2 ^ gS g := p2_lt hps
        have bw : ∀ b, (word ||| 2 ^ p).testBit b = (word.testBit b || decide (p = b)) := fun b => by rw [Nat.testBit_or, p2_bit]
        have up : ∀ v, Cd g n packed word limit v → v.testBit p = true → Cd g n packed (word ||| 2 ^ p) p v := by
          intro v hv y
          refine ⟨hv.1, hv.2.1, fun b hb => ?_⟩
          rw [bw]
          rcases Nat.eq_or_lt_of_le hb with e | e
          · rw [← e, y, decide_eq_true rfl, Bool.or_true]
          · rw [decide_eq_false (by omega), Bool.or_false]
            rcases Nat.lt_or_ge b limit with q | q
            · rw [hi v hv b (by omega) q]
              exact (ts_nt' (fun z => by have := (wd.2 b z).1; omega)).symm
            · exact hv.2.2 b q
        have down : ∀ v, Cd g n packed (word ||| 2 ^ p) p v → Cd g n packed word limit v := by
          intro v hv
          refine ⟨hv.1, hv.2.1, fun b hb => ?_⟩
          rw [hv.2.2 b (by omega), bw, decide_eq_false (by omega), Bool.or_false]
        refine ihE d index (word ||| 2 ^ p) _ p (by omega) (by omega) h1 _ n pk1 tf1 cl hn (by omega) ?_ ?_ (fun h2 f2 tf2 keep2 no => ?_) (fun h2 v l f2 tf2 keep2 cd big bs e1 e2 => ?_)
        · refine ⟨or_lt hw1 b2p, fun j hj => ?_⟩
          rw [bw] at hj
          by_cases e : p = j
          · subst e
            refine ⟨Nat.le_refl _, z1.1, z2, fun q hq hu => ?_⟩
            rw [bw] at hq
            by_cases e : p = q
            · exact e.symm
            · rw [decide_eq_false e, Bool.or_false] at hq
              have := and_0.mp z3 q (by
                unfold ofU
                rcases Nat.lt_or_ge q (gS g) with y | y
                · rw [mskF_bit, decide_eq_true y, decide_eq_true hu]; rfl
                · rw [tb_lt hw1 y] at hq; cases hq)
              rw [hq] at this; cases this
          · rw [decide_eq_false e, Bool.or_false] at hj
            obtain ⟨b1, b2, b3, b4⟩ := wd.2 j hj
            refine ⟨by omega, b2, b3, fun q hq hu => ?_⟩
            rw [bw] at hq
            by_cases e2 : p = q
            · subst e2
              have := and_0.mp z3 j (by
                unfold ofU
                rcases Nat.lt_or_ge j (gS g) with y | y
                · rw [mskF_bit, decide_eq_true y, decide_eq_true hu.symm]; rfl
                · rw [tb_lt hw1 y] at hj; cases hj)
              rw [hj] at this; cases this
            · rw [decide_eq_false e2, Bool.or_false] at hq
              exact b4 q hq hu
        · refine ⟨Nat.lt_of_le_of_lt (dif_le _ _) (or_lt hn1 gw31), fun b hb => ?_, fun j b hj hb => ?_⟩
          · rw [dif_bit, Nat.testBit_or, Nat.testBit_or, p2_bit] at hb
            simp only [Bool.and_eq_true, Bool.or_eq_true, Bool.not_eq_true', Bool.or_eq_false_iff, decide_eq_false_iff_not] at hb
            obtain ⟨c1, c2, c3⟩ := hb
            rcases c1 with c1 | c1
            · refine ⟨?_, fun v hv => (nd.2.1 b c1).2 v (down v hv)⟩
              rcases Nat.lt_or_ge b (p + 1) with q | q
              · omega
              · rw [ndz b q] at c1; cases c1
            · refine ⟨?_, fun v hv => ?_⟩
              · rcases Nat.lt_or_ge b p with q | q
                · exact q
                · rw [tb_lt gw q] at c1; cases c1
              · have vp : v.testBit p = true := by rw [hv.2.2 p (Nat.le_refl _), bw, decide_eq_true rfl, Bool.or_true]
                have := dif_0.mp (hv.1.2.2 p vp).2.2.1 b c1
                rw [Nat.testBit_or, c2, Bool.false_or] at this
                exact this
          · have key : (needed.testBit b = true ∨ (gW g p).testBit b = true) → packed.testBit b = true ∨ (word ||| 2 ^ p).testBit b = true ∨ (dif (needed ||| gW g p) (packed ||| 2 ^ p)).testBit b = true := by
              intro c
              cases hpb : packed.testBit b with
              | true => exact Or.inl rfl
              | false =>
                by_cases e : p = b
                · right; left; rw [bw, decide_eq_true e, Bool.or_true]
                · right; right
                  rw [dif_bit, Nat.testBit_or, Nat.testBit_or, p2_bit, hpb, decide_eq_false e]
                  rcases c with c | c
                  · rw [c]; rfl
                  · rw [c, Bool.or_true]; rfl
            rw [bw] at hj
            by_cases e : p = j
            · subst e; exact key (Or.inr hb)
            · rw [decide_eq_false e, Bool.or_false] at hj
              rcases nd.2.2 j b hj hb with y | y | y
              · exact Or.inl y
              · right; left; rw [bw, y]; rfl
              · exact key (Or.inl y)
        · have c := cont h2 (fr.trans f2) tf2 (fun j hj => by rw [keep2 j hj]; exact keep j hj) (fun v hv => ts_nt' (fun y => no v (up v hv y)))
          rw [sh1 _ (by omega)] at c
          exact br_t rfl c
        · refine br_f (by decide) (t1 h2 v l (fr.trans f2) tf2 (fun j hj => by rw [keep2 j hj]; exact keep j hj) (down v cd) (fun v2 hv2 => ?_) bs e1 e2)
          have vp : v.testBit p = true := by rw [cd.2.2 p (Nat.le_refl _), bw, decide_eq_true rfl, Bool.or_true]
          cases hb : v2.testBit p with
          | true => exact big v2 (up v2 hv2 hb)
          | false =>
            refine Nat.le_of_lt (lt_bit p hb vp (fun j hj => ?_))
            rw [cd.2.2 j (by omega), bw, decide_eq_false (by omega), Bool.or_false]
            rcases Nat.lt_or_ge j limit with q | q
            · rw [hi v2 hv2 j (by omega) q]
              exact (ts_nt' (fun z => by have := (wd.2 j z).1; omega)).symm
            · exact hv2.2.2 j q
  refine loop limit (Nat.le_refl _) h _ (fun q => ?_) (fun q e => ?_) (Fr.refl h) tf (fun _ _ => rfl) (fun v hv b b1 b2 => by omega) (fun b hb => ?_)
  · subst q; decide
  · subst e
    rw [show (1 : Int32) = nI 1 from rfl, pk_sub (by omega)]; rfl
  · exact ts_nt' (fun z => by have := (nd.2.1 b z).1; omega)
theorem fits_ok (w : WfG g) (hg : HgOK g H) (hsr : sr < 2 ^ 26) (hwn : wn ≤ gS g) {D0 packed index : Nat} (hD : lft g packed * 12 + 11 + 2 ≤ D0)
    (ihE : ∀ D1 i1 w1 n1 l1, lft g packed * 12 + l1 < lft g packed * 12 + 11 → lft g packed * 12 + l1 + 2 ≤ D1 → ExtS E g H sr wn D1 packed i1 w1 n1 l1) : FitsS E g H sr wn D0 packed index := by
  obtain ⟨d, rfl⟩ : ∃ d, D0 = d + 2 := ⟨D0 - 2, by omega⟩
  intro h P pk tf cl hi t0 t1
  have w' := w
  obtain ⟨w1, w2, w3⟩ := w
  have p10 := p2_10 w2
  have hp1 := cl.1
  refine wp_X4_fits E (d + 1) _ _ h P ?_
  rw [pk.1.1, allI w2, pk.2.2.2, pk_sub hi]
  refine bj_if (nI_eq (by omega) (by omega)) (fun q => ?_) (fun q => ?_)
  · have q : packed ≠ gA g := q
    refine ek_if (nI_leI (b := 0) (by omega) (by decide)) (fun z => t0 h (Fr.refl h) tf (fun _ _ => rfl) ?_) (fun z => ?_)
    · rw [show wn - index = 0 by omega]; exact q
    · obtain ⟨n, hn⟩ : ∃ n, wn = index + 1 + n := ⟨wn - index - 1, by omega⟩
      have el : wn - index = n + 1 := by omega
      rw [el] at t0 t1
      refine c_need w' hg pk cl (fun nd nd1 nd2 => ?_)
      rw [el]
      refine ek_if (nI_leI (by omega) (by omega)) (fun y => ⟨vp_in_nI (by omega) (by decide), ?_⟩) (fun y => t0 h (Fr.refl h) tf (fun _ _ => rfl) (fun c => y (nd2 _ c)))
      obtain ⟨a, b, f1, f2, f3, f4⟩ := tf packed (by omega)
      rw [nI_clamp (by omega), f3, pk.2.2.1, pk_shrN (by omega) _ 4 (by decide), show (16 * a + b) / 2 ^ 4 = a by omega, show (15 : Int32) = nI (2 ^ 4 - 1) from rfl, fa_mask, show (16 * a + b) % 2 ^ 4 = b by omega]
      have go : SpI E (d + 1) MX4_urgent [.ref (eA E 32), .int (nI packed), .int (nI (n + 1))] h (fun v7 h7 => SpI E (d + 1) MX4_extend [.ref (eA E 32), .int (nI packed), .int (nI index), .int (0 : Int32), .int v7, .int (h7.1 32 3)] h7 (fun v8 h8 => (v8 = 0 → (vp_in (nI packed) 1024 ∧ (P (0 : Int32) (sI h8 39 packed (((h8.1 32 10) <<< ((4 : Int32) &&& 31)) ||| nI (n + 1)))))) ∧ (¬ v8 = 0 → (P (1 : Int32) h8)))) := by
        refine c_urg w' hg pk (by omega) ?_
        rw [pk.1.1]
        have ul : urg g H packed (n + 1) < 2 ^ gS g := Nat.lt_of_le_of_lt (dif_le _ _) (mskF_lt _ _)
        have ub : ∀ b, (urg g H packed (n + 1)).testBit b = true → b < gS g ∧ n + 1 ≤ H b ∧ packed.testBit b = false := by
          intro b hb
          unfold urg at hb
          rw [dif_bit, mskF_bit] at hb
          simp only [Bool.and_eq_true, Bool.not_eq_true', decide_eq_true_eq] at hb
          exact ⟨hb.1.1, hb.1.2, hb.2⟩
        refine ihE (d + 1) index 0 (urg g H packed (n + 1)) (gS g) (by omega) (by omega) h _ n pk tf cl hn (Nat.le_refl _) ⟨Nat.two_pow_pos _, fun j hj => by rw [Nat.zero_testBit] at hj; cases hj⟩ ⟨ul, fun b hb => ⟨(ub b hb).1, fun v hv => ?_⟩, fun j b hj => by rw [Nat.zero_testBit] at hj; cases hj⟩ (fun h2 fr tf2 keep no => ?_) (fun h2 v l fr tf2 keep cd big bs e1 e2 => ?_)
        · apply ts_nf'
          intro nv
          obtain ⟨c1, c2, c3⟩ := ub b hb
          have := Pk_hgt hg n _ (cl.step hv.1) hv.2.1 b c1 (by rw [Nat.testBit_or, c3, nv]; rfl)
          omega
        · have noPk : ¬ Pk g (n + 1) packed := by
            intro c
            rcases c with c | ⟨v, c1, c2⟩
            · exact q c
            · refine no v ⟨c1, c2, fun b hb => ?_⟩
              rw [tb_lt c1.2.1 hb, Nat.zero_testBit]
          refine br_t rfl ⟨vp_in_nI (by omega) (by decide), ?_⟩
          have e16 : ((h2.1 32 10) <<< ((4 : Int32) &&& 31)) ||| nI (n + 1) = nI (16 * sr + (n + 1)) := by
            rw [fr.i 32 10 rfl, pk.2.2.1, pk_shlN _ 4 (by decide) (by omega), show sr * 2 ^ 4 = 2 ^ 4 * sr by omega, fa_or_sum sr (by omega)]
          rw [e16]
          refine t0 _ (fr.si rfl) (fun x hx => ?_) (fun k hk => ?_) noPk
          · by_cases e : x = packed
            · subst e
              refine ⟨sr, n + 1, Nat.le_refl _, by omega, by rw [sI_at], fun _ _ => noPk⟩
            · rw [sI_j e]; exact tf2 x hx
          · rw [sI_n _ _ _ _ (by decide)]; exact keep k hk
        · refine br_f (by decide) (t1 h2 (v :: l) fr tf2 keep ⟨q, cd.1, cd.2.1, fun v2 o2 k2 => ?_, bs⟩ (fun k hk => ?_))
          · refine big v2 ⟨o2, k2, fun b hb => ?_⟩
            rw [tb_lt o2.2.1 hb, Nat.zero_testBit]
          · cases k with
            | zero => exact e1
            | succ k =>
              rw [show index + (k + 1) = index + 1 + k by omega]
              have hk : k + 1 < l.length + 1 := hk
              exact e2 k (by omega)
      refine bj_if (nI_eq (by omega) (by omega)) (fun _ => go) (fun ea => ek_if (nI_ltI (by omega) (by omega)) (fun _ => go) (fun y2 => ?_))
      exact t0 h (Fr.refl h) tf (fun _ _ => rfl) (fun c => f4 ea hp1 (c.le (by omega)))
  · have q : packed = gA g := q
    refine t1 h [] (Fr.refl h) tf (fun _ _ => rfl) ?_ (fun k hk => by cases hk)
    cases wn - index <;> exact q
theorem search_ok (w : WfG g) (hg : HgOK g H) (hsr : sr < 2 ^ 26) (hwn : wn ≤ gS g) : ∀ μ, (∀ D0 packed index, lft g packed * 12 + 11 = μ → μ + 2 ≤ D0 → FitsS E g H sr wn D0 packed index) ∧ (∀ D0 packed index word needed limit, lft g packed * 12 + limit = μ → μ + 2 ≤ D0 → ExtS E g H sr wn D0 packed index word needed limit) := by
  intro μ
  induction μ using Nat.strongRecOn with
  | _ μ ih =>
    refine ⟨fun D0 packed index e hD => ?_, fun D0 packed index word needed limit e hD => ?_⟩
    · refine fits_ok w hg hsr hwn (by omega) (fun D1 i1 w1 n1 l1 h1 h2 => ?_)
      exact (ih _ (by omega)).2 D1 packed i1 w1 n1 l1 rfl h2
    · refine ext_ok w hsr hwn e hD (fun D1 p1 i1 h1 h2 => ?_) (fun D1 i1 w1 n1 l1 h1 h2 => ?_)
      · exact (ih _ h1).1 D1 p1 i1 rfl h2
      · exact (ih _ h1).2 D1 packed i1 w1 n1 l1 rfl h2
end FIT
