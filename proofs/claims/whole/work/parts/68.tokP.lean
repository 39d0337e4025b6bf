/-! what a token is, asked in the reference -/
section TKP
variable {E : En} {d : Nat} {T : Tx} {h : Hp} {P : Int32 → Hp → Prop} {PV : Hp → Prop} {p : Nat}
theorem tok_w (hp : p ≤ T.1) (pl : tPl T p < T.1) (zl : isL (T.2 (tPl T p)) = true) : rK T p = 1 ∧ nx T p = wEn T (tPl T p) ∧ tPl T p < nx T p ∧ nx T p ≤ T.1 ∧ (∀ k, k < nx T p - tPl T p → 48 ≤ T.2 (tPl T p + k) ∧ T.2 (tPl T p + k) ≤ 122 ∧ isLD (T.2 (tPl T p + k)) = true) ∧ tK T p = if nx T p - tPl T p ≤ 8 then wK (nmb T.2 (tPl T p) (nx T p - tPl T p)) else 1 := by
  have en : nx T p = wEn T (tPl T p) := by unfold nx; rw [if_pos pl, if_pos zl]
  have ek : rK T p = 1 := by unfold rK; rw [if_pos pl, if_pos zl]
  have gt : tPl T p < wEn T (tPl T p) := by
    rcases Nat.lt_or_ge (tPl T p) (wEn T (tPl T p)) with q | q
    · exact q
    · have ge := scn_ge (fun k => isLD (T.2 k)) T.1 T.1 (tPl T p)
      have e : wEn T (tPl T p) = tPl T p := by unfold wEn at *; omega
      have := scn_end (fun k => isLD (T.2 k)) T.1 T.1 (tPl T p) (by omega) (by unfold wEn at e; omega)
      have this : isLD (T.2 (wEn T (tPl T p))) = false := this
      rw [e] at this
      unfold isLD at this
      rw [zl] at this
      cases this
  refine ⟨ek, en, by omega, nx_le T hp, fun k hk => ?_, by unfold tK; rw [if_pos pl, if_pos zl]⟩
  have := wEn_b T (tPl T p) (tPl T p + k) (by omega) (by omega)
  have b := ld_b this
  exact ⟨b.1, b.2, this⟩
theorem tok_n (pl : tPl T p < T.1) (zl : isL (T.2 (tPl T p)) = false) (zd : isD (T.2 (tPl T p)) = true) : rK T p = (if nx T p - tPl T p ≤ 4 then 2 else 4) ∧ tK T p = if nx T p - tPl T p ≤ 4 then 4 else 1 := by
  refine ⟨?_, ?_⟩
  · unfold rK; rw [if_pos pl, zl, zd]; rfl
  · unfold tK; rw [if_pos pl, zl, zd]; rfl
theorem tok_s (pl : tPl T p < T.1) (zl : isL (T.2 (tPl T p)) = false) (zd : isD (T.2 (tPl T p)) = false) : rK T p = (if sgl (T.2 (tPl T p)) then 3 else 4) ∧ tK T p = if sgl (T.2 (tPl T p)) then T.2 (tPl T p) else 1 := by
  refine ⟨?_, ?_⟩
  · unfold rK; rw [if_pos pl, zl, zd]; rfl
  · unfold tK; rw [if_pos pl, zl, zd]; rfl
theorem tok_e (pl : ¬ tPl T p < T.1) : rK T p = 0 ∧ tK T p = 0 := by
  refine ⟨?_, ?_⟩
  · unfold rK; rw [if_neg pl]
  · unfold tK; rw [if_neg pl]
theorem wK_le (v : Nat) : wK v = 3 ∨ wK v = 5 ∨ wK v = 6 ∨ wK v = 7 ∨ wK v = 2 := by
  unfold wK
  repeat' split
  all_goals omega
/-- each kind in turn -/
theorem tok_all (hp : p ≤ T.1) : (rK T p = 0 ↔ tK T p = 0) ∧ (rK T p = 2 ↔ tK T p = 4) ∧ (rK T p = 3 → tK T p = T.2 (tPl T p)) ∧ (33 ≤ tK T p → rK T p = 3) ∧ (rK T p ≠ 1 → tK T p ≠ 2 ∧ tK T p ≠ 3 ∧ tK T p ≠ 5 ∧ tK T p ≠ 6 ∧ tK T p ≠ 7) ∧ rK T p ≤ 4 ∧ tK T p < 128 := by
  by_cases pl : tPl T p < T.1
  · by_cases zl : isL (T.2 (tPl T p)) = true
    · obtain ⟨a1, a2, a3, a4, a5, a6⟩ := tok_w hp pl zl
      have wk := wK_le (nmb T.2 (tPl T p) (nx T p - tPl T p))
      rw [a1, a6]
      by_cases q : nx T p - tPl T p ≤ 8
      · rw [if_pos q]; omega
      · rw [if_neg q]; omega
    · have zl := ts_nt' zl
      by_cases zd : isD (T.2 (tPl T p)) = true
      · obtain ⟨a1, a2⟩ := tok_n pl zl zd
        rw [a1, a2]
        by_cases q : nx T p - tPl T p ≤ 4
        · rw [if_pos q, if_pos q]; omega
        · rw [if_neg q, if_neg q]; omega
      · obtain ⟨a1, a2⟩ := tok_s pl zl (ts_nt' zd)
        rw [a1, a2]
        by_cases q : sgl (T.2 (tPl T p)) = true
        · have := sgl_b q
          rw [if_pos q, if_pos q]; omega
        · rw [if_neg q, if_neg q]; omega
  · obtain ⟨a1, a2⟩ := tok_e (T := T) pl
    rw [a1, a2]; omega
theorem tV_n (hp : p ≤ T.1) (h4 : tK T p = 4) : tV T p = val T.2 (tPl T p) (nx T p - tPl T p) := by
  by_cases pl : tPl T p < T.1
  · by_cases zl : isL (T.2 (tPl T p)) = true
    · have a := (tok_all hp).2.1.mpr h4
      rw [(tok_w hp pl zl).1] at a
      cases a
    · unfold tV
      rw [if_neg zl]
  · rw [(tok_e (T := T) pl).2] at h4; cases h4
theorem val_lt (x : Nat → Nat) (a : Nat) (hd : ∀ k, isD (x (a + k)) = true → True) : ∀ l, (∀ k, k < l → 48 ≤ x (a + k) ∧ x (a + k) ≤ 57) → val x a l < 10 ^ l
  | 0, _ => Nat.one_pos
  | l + 1, h => by
    have := val_lt x a hd l (fun k hk => h k (by omega))
    have := h l (by omega)
    show 10 * val x a l + x (a + l) - 48 < 10 ^ (l + 1)
    rw [Nat.pow_succ]
    omega
theorem tV_lt (hp : p ≤ T.1) (h4 : tK T p = 4) : tV T p < 10000 := by
  rw [tV_n hp h4]
  by_cases pl : tPl T p < T.1
  · by_cases zl : isL (T.2 (tPl T p)) = true
    · have a := (tok_all hp).2.1.mpr h4
      rw [(tok_w hp pl zl).1] at a
      cases a
    · have zl := ts_nt' zl
      by_cases zd : isD (T.2 (tPl T p)) = true
      · obtain ⟨a1, a2⟩ := tok_n pl zl zd
        have l4 : nx T p - tPl T p ≤ 4 := by
          rcases Nat.lt_or_ge 4 (nx T p - tPl T p) with q | q
          · rw [a2, if_neg (by omega)] at h4; cases h4
          · exact q
        have en : nx T p = dEn T (tPl T p) := by unfold nx; rw [if_pos pl, zl, zd]; rfl
        have b : val T.2 (tPl T p) (nx T p - tPl T p) < 10 ^ (nx T p - tPl T p) := val_lt T.2 (tPl T p) (fun _ _ => trivial) _ (fun k hk => by
          have : isD (T.2 (tPl T p + k)) = true := scn_in (fun k => isD (T.2 k)) T.1 T.1 (tPl T p) _ (by omega) (by unfold dEn at en; omega)
          exact of_decide_eq_true this)
        exact Nat.lt_of_lt_of_le b (Nat.pow_le_pow_right (n := 10) (by decide) l4)
      · obtain ⟨a1, a2⟩ := tok_s pl zl (ts_nt' zd)
        rw [a2] at h4
        by_cases q : sgl (T.2 (tPl T p)) = true
        · have := sgl_b q
          rw [if_pos q] at h4; omega
        · rw [if_neg q] at h4; cases h4
  · rw [(tok_e (T := T) pl).2] at h4; cases h4
/-- a register, a word of the grammar, a name -/
theorem tok_reg (hp : p ≤ T.1) (h3 : tK T p = 3) : tV T p < 8 := by
  by_cases pl : tPl T p < T.1
  · by_cases zl : isL (T.2 (tPl T p)) = true
    · obtain ⟨a1, a2, a3, a4, a5, a6⟩ := tok_w hp pl zl
      rw [a6] at h3
      by_cases q : nx T p - tPl T p ≤ 8
      · rw [if_pos q] at h3
        unfold tV
        rw [if_pos zl]
        unfold wK at h3
        by_cases r : 29232 ≤ nmb T.2 (tPl T p) (nx T p - tPl T p) ∧ nmb T.2 (tPl T p) (nx T p - tPl T p) < 29240
        · omega
        · rw [if_neg r] at h3
          repeat' split at h3
          all_goals omega
      · rw [if_neg q] at h3; cases h3
    · have := (tok_all hp).2.2.2.2.1 (fun e => by
        have zl := ts_nt' zl
        by_cases zd : isD (T.2 (tPl T p)) = true
        · rw [(tok_n pl zl zd).1] at e
          split at e <;> omega
        · rw [(tok_s pl zl (ts_nt' zd)).1] at e
          split at e <;> omega)
      exact absurd h3 this.2.1
  · rw [(tok_e (T := T) pl).2] at h3; cases h3
theorem rK1 (hp : p ≤ T.1) (h1 : rK T p = 1) : tPl T p < T.1 ∧ isL (T.2 (tPl T p)) = true := by
  by_cases pl : tPl T p < T.1
  · by_cases zl : isL (T.2 (tPl T p)) = true
    · exact ⟨pl, zl⟩
    · have zl := ts_nt' zl
      by_cases zd : isD (T.2 (tPl T p)) = true
      · rw [(tok_n pl zl zd).1] at h1
        split at h1 <;> omega
      · rw [(tok_s pl zl (ts_nt' zd)).1] at h1
        split at h1 <;> omega
  · rw [(tok_e (T := T) pl).1] at h1; cases h1
/-- the word at a token, letter by letter -/
def isWd (T : Tx) (p : Nat) (s : List Nat) : Prop := rK T p = 1 ∧ nx T p - tPl T p = s.length ∧ ∀ k, k < s.length → T.2 (tPl T p + k) = s.getD k 0
theorem wd_kind (hp : p ≤ T.1) : (isWd T p [111, 112] ↔ tK T p = 5) ∧ (isWd T p [117, 110, 105, 116] ↔ tK T p = 6) ∧ (isWd T p [105, 110, 115, 116, 114] ↔ tK T p = 7) ∧ (tK T p = 3 ↔ rK T p = 1 ∧ nx T p - tPl T p = 2 ∧ T.2 (tPl T p) = 114 ∧ 48 ≤ T.2 (tPl T p + 1) ∧ T.2 (tPl T p + 1) ≤ 55) ∧ (tK T p = 3 → tV T p = T.2 (tPl T p + 1) - 48) := by
  by_cases h1 : rK T p = 1
  · obtain ⟨pl, zl⟩ := rK1 hp h1
    obtain ⟨a1, a2, a3, a4, a5, a6⟩ := tok_w hp pl zl
    have tv : tV T p = nmb T.2 (tPl T p) (nx T p - tPl T p) - 29232 := by unfold tV; rw [if_pos zl]
    by_cases q : nx T p - tPl T p ≤ 8
    · rw [if_pos q] at a6
      obtain ⟨n1, n2, n3, n4, n5⟩ := nmb_w (x := T.2) (a := tPl T p) (L := nx T p - tPl T p) (by omega) q (fun k hk => ⟨(a5 k hk).1, (a5 k hk).2.1⟩)
      have w5 : wK (nmb T.2 (tPl T p) (nx T p - tPl T p)) = 5 ↔ nmb T.2 (tPl T p) (nx T p - tPl T p) = 28528 := by
        unfold wK
        repeat' split
        all_goals omega
      have w6 : wK (nmb T.2 (tPl T p) (nx T p - tPl T p)) = 6 ↔ nmb T.2 (tPl T p) (nx T p - tPl T p) = 1970170228 := by
        unfold wK
        repeat' split
        all_goals omega
      have w7 : wK (nmb T.2 (tPl T p) (nx T p - tPl T p)) = 7 ↔ nmb T.2 (tPl T p) (nx T p - tPl T p) = 452824626290 := by
        unfold wK
        repeat' split
        all_goals omega
      have w3 : wK (nmb T.2 (tPl T p) (nx T p - tPl T p)) = 3 ↔ (29232 ≤ nmb T.2 (tPl T p) (nx T p - tPl T p) ∧ nmb T.2 (tPl T p) (nx T p - tPl T p) < 29240) := by
        unfold wK
        repeat' split
        all_goals omega
      rw [a6, w5, w6, w7, w3, n1, n2, n3, n4]
      have c0 : ∀ s : List Nat, (∀ k, k < s.length → T.2 (tPl T p + k) = s.getD k 0) → 0 < s.length → T.2 (tPl T p) = s.getD 0 0 := fun s al z => al 0 z
      refine ⟨⟨fun z => ?_, fun z => ⟨h1, z.1, fun k hk => ?_⟩⟩, ⟨fun z => ?_, fun z => ⟨h1, z.1, fun k hk => ?_⟩⟩, ⟨fun z => ?_, fun z => ⟨h1, z.1, fun k hk => ?_⟩⟩, ⟨fun z => ⟨h1, z⟩, fun z => z.2⟩, fun z => ?_⟩
      · exact ⟨z.2.1, z.2.2 0 (by decide), z.2.2 1 (by decide)⟩
      · have hk : k < 2 := hk
        have : k = 0 ∨ k = 1 := by omega
        rcases this with e | e
        · rw [e]; exact z.2.1
        · rw [e]; exact z.2.2
      · exact ⟨z.2.1, z.2.2 0 (by decide), z.2.2 1 (by decide), z.2.2 2 (by decide), z.2.2 3 (by decide)⟩
      · have hk : k < 4 := hk
        have : k = 0 ∨ k = 1 ∨ k = 2 ∨ k = 3 := by omega
        rcases this with e | e | e | e
        · rw [e]; exact z.2.1
        · rw [e]; exact z.2.2.1
        · rw [e]; exact z.2.2.2.1
        · rw [e]; exact z.2.2.2.2
      · exact ⟨z.2.1, z.2.2 0 (by decide), z.2.2 1 (by decide), z.2.2 2 (by decide), z.2.2 3 (by decide), z.2.2 4 (by decide)⟩
      · have hk : k < 5 := hk
        have : k = 0 ∨ k = 1 ∨ k = 2 ∨ k = 3 ∨ k = 4 := by omega
        rcases this with e | e | e | e | e
        · rw [e]; exact z.2.1
        · rw [e]; exact z.2.2.1
        · rw [e]; exact z.2.2.2.1
        · rw [e]; exact z.2.2.2.2.1
        · rw [e]; exact z.2.2.2.2.2
      · rw [tv]
        have := n5 z.1
        omega
    · rw [if_neg q] at a6
      rw [a6]
      refine ⟨⟨fun z => ?_, fun z => by cases z⟩, ⟨fun z => ?_, fun z => by cases z⟩, ⟨fun z => ?_, fun z => by cases z⟩, ⟨(fun z => by cases z), (fun z => by omega)⟩, (fun z => by cases z)⟩
      · have := z.2.1; have : nx T p - tPl T p = 2 := this; omega
      · have := z.2.1; have : nx T p - tPl T p = 4 := this; omega
      · have := z.2.1; have : nx T p - tPl T p = 5 := this; omega
  · obtain ⟨z2, z3, z5, z6, z7⟩ := (tok_all hp).2.2.2.2.1 h1
    exact ⟨⟨fun z => absurd z.1 h1, fun z => absurd z z5⟩, ⟨fun z => absurd z.1 h1, fun z => absurd z z6⟩, ⟨fun z => absurd z.1 h1, fun z => absurd z z7⟩, ⟨fun z => absurd z z3, fun z => absurd z.1 h1⟩, fun z => absurd z z3⟩
theorem nm_kind (hp : p ≤ T.1) : tK T p = 2 ↔ (rK T p = 1 ∧ nx T p - tPl T p ≤ 8 ∧ tK T p ≠ 3 ∧ tK T p ≠ 5 ∧ tK T p ≠ 6 ∧ tK T p ≠ 7) := by
  constructor
  · intro z
    have h1 : rK T p = 1 := Classical.byContradiction (fun n => ((tok_all hp).2.2.2.2.1 n).1 z)
    obtain ⟨pl, zl⟩ := rK1 hp h1
    have a6 := (tok_w hp pl zl).2.2.2.2.2
    refine ⟨h1, ?_, by omega, by omega, by omega, by omega⟩
    rcases Nat.lt_or_ge 8 (nx T p - tPl T p) with q | q
    · rw [if_neg (by omega)] at a6; omega
    · exact q
  · rintro ⟨h1, h8, z3, z5, z6, z7⟩
    obtain ⟨pl, zl⟩ := rK1 hp h1
    have a6 := (tok_w hp pl zl).2.2.2.2.2
    rw [if_pos h8] at a6
    have := wK_le (nmb T.2 (tPl T p) (nx T p - tPl T p))
    omega
theorem r_isSign {c : Nat} (ok : TxOK T) (hp : p ≤ T.1) (tk : RTk T p h) (hc : 33 ≤ c) (hc2 : c < 128) (t : P (b2i (decide (tK T p = c))) h) : SpI E d MX10_isSign [.ref (eA E 63), .int (nI c)] h P := by
  obtain ⟨_, _, t3, t4, t5, t6, t7⟩ := tok_all hp
  refine wp_X10_isSign E d _ h P ?_
  rw [tk.2.2.1]
  refine bj_if (nI_eq (b := 3) (by omega) (by decide)) (fun z => ?_) (fun z => ?_)
  · rw [decide_eq_false (fun e => z (t4 (by omega)))] at t; exact t
  · have e := t3 z
    rw [tk.2.2.2.2 z, ← e]
    refine bj_if (nI_eq (by omega) (by omega)) (fun y => ?_) (fun y => ?_)
    · rw [decide_eq_false y] at t; exact t
    · rw [decide_eq_true y] at t; exact t
theorem r_reg (ok : TxOK T) (hp : p ≤ T.1) (rb : RBuf T h) (tk : RTk T p h) (t1 : tK T p = 3 → P (nI (tV T p)) h) (t0 : tK T p ≠ 3 → P (-1) h) : SpI E (d + 1) MX10_registerHere [.ref (eA E 63)] h P := by
  obtain ⟨_, _, _, w4, w5⟩ := wd_kind hp
  have nle := ok.1
  have nl := nx_le T hp
  have pl := tPl_le T hp
  have rk := (tok_all hp).2.2.2.2.2.1
  refine wp_X10_registerHere E d h P ?_
  rw [tk.2.2.1, tk.2.1, tk.1]
  refine bj_if (nI_eq (b := 1) (by omega) (by decide)) (fun z => t0 (fun e => z (w4.mp e).1)) (fun z => ?_)
  obtain ⟨pl2, zl⟩ := rK1 hp z
  obtain ⟨a1, a2, a3, a4, a5, a6⟩ := tok_w hp pl2 zl
  rw [pk_sub (by omega)]
  refine bj_if (nI_eq (b := 2) (by omega) (by decide)) (fun y => t0 (fun e => y (w4.mp e).2.1)) (fun y => r_byte ok rb (by omega) ?_)
  refine bj_if (bA_eq (c := 114) ok (by decide)) (fun x => t0 (fun e => x ⟨pl2, (w4.mp e).2.2.1⟩)) (fun x => ?_)
  rw [tk.1, nI_1]
  have b1 := a5 1 (by omega)
  have eb : bA T (tPl T p + 1) = nI (T.2 (tPl T p + 1)) := by unfold bA; rw [if_pos (by omega)]
  refine r_byte ok rb (by omega) (wp_X10_isIn E d _ _ _ h _ ?_)
  rw [eb]
  have fin0 : ¬ (48 ≤ T.2 (tPl T p + 1) ∧ T.2 (tPl T p + 1) ≤ 55) → P (-1) h := fun n => t0 (fun e => n (w4.mp e).2.2.2)
  refine ek_if (nI_ltI (b := 48) (by omega) (by decide)) (fun q => br_t rfl (fin0 (by omega))) (fun q => ek_if (nI_ltI (a := 55) (by decide) (by omega)) (fun q2 => br_t rfl (fin0 (by omega))) (fun q2 => br_f (by decide) ?_))
  rw [tk.1, nI_1]
  refine r_byte ok rb (by omega) ?_
  rw [eb, show (48 : Int32) = nI 48 from rfl, pk_sub (by omega)]
  have k3 := w4.mpr ⟨z, y, x.2, by omega, by omega⟩
  rw [← w5 k3]
  exact t1 k3
theorem r_isWd {i : Nat} (ok : TxOK T) (hp : p ≤ T.1) (rb : RBuf T h) (tk : RTk T p h) (hi : i < 8) (t1 : isWd T p (sTx.getD i []) → P 1 h) (t0 : ¬ isWd T p (sTx.getD i []) → P 0 h) : SpI E (d + 5) MX10_isWord [.ref (eA E 63), .ref (eK E i)] h P := by
  have nle := ok.1
  have nl := nx_le T hp
  have rk := (tok_all hp).2.2.2.2.2.1
  have sl := sTx_le i hi
  refine wp_X10_isWord E (d + 4) i hi h P (fun ga => ?_)
  rw [tk.2.2.1]
  refine bj_if (nI_eq (b := 1) (by omega) (by decide)) (fun z => t0 (fun e => z e.1)) (fun z => s_len hi ?_)
  obtain ⟨pl2, zl⟩ := rK1 hp z
  obtain ⟨a1, a2, a3, a4, a5, a6⟩ := tok_w hp pl2 zl
  rw [tk.2.1, tk.1, pk_sub (by omega)]
  refine ek_if (nI_eq (by omega) (by omega)) (fun y => ?_) (fun y => t0 (fun e => y e.2.1.symm))
  have loop : ∀ k, k ≤ (sTx.getD i []).length → (∀ j, j < k → T.2 (tPl T p + j) = (sTx.getD i []).getD j 0) → VX10_isWord_28 E (d + 4) ga P i (nI k) h := by
    refine up_ind _ ?_ ?_
    · intro al
      exact sg_X10_isWord_28 E (d + 4) ga i hi _ h P (s_len hi (br_t (nI_le (Nat.le_refl _) (by omega)) (t1 ⟨z, y.symm, al⟩)))
    · intro k hk ih al
      obtain ⟨b1, b2⟩ := sby_tab i hi k (by omega) hk
      refine sg_X10_isWord_28 E (d + 4) ga i hi _ h P (s_len hi (br_f (nI_ge hk (by omega)) (s_ch hi hk ?_)))
      rw [tk.1, nI_add, nI_1]
      have bk := a5 k (by omega)
      have eb : bA T (tPl T p + k) = nI (T.2 (tPl T p + k)) := by unfold bA; rw [if_pos (by omega)]
      refine r_byte ok rb (by omega) ?_
      rw [eb]
      refine ek_if (nI_eq (by omega) (by omega)) (fun x => ih (fun j hj => ?_)) (fun x => t0 (fun e => x (e.2.2 k hk).symm))
      by_cases q : j = k
      · rw [q, x]
      · exact al j (by omega)
  exact loop 0 (Nat.zero_le _) (fun j hj => absurd hj (Nat.not_lt_zero j))
/-- 5 op, 6 unit, 7 instr -/
theorem r_isGw {i : Nat} (ok : TxOK T) (hp : p ≤ T.1) (rb : RBuf T h) (tk : RTk T p h) (hi : i = 5 ∨ i = 6 ∨ i = 7) (t : P (b2i (decide (tK T p = i))) h) : SpI E (d + 5) MX10_isWord [.ref (eA E 63), .ref (eK E i)] h P := by
  obtain ⟨w5, w6, w7, _⟩ := wd_kind hp
  have key : isWd T p (sTx.getD i []) ↔ tK T p = i := by
    rcases hi with e | e | e
    · rw [e]; exact w5
    · rw [e]; exact w6
    · rw [e]; exact w7
  refine r_isWd ok hp rb tk (by omega) (fun z => ?_) (fun z => ?_)
  · rw [decide_eq_true (key.mp z)] at t; exact t
  · rw [decide_eq_false (fun e => z (key.mpr e))] at t; exact t
theorem r_isName (ok : TxOK T) (hp : p ≤ T.1) (rb : RBuf T h) (tk : RTk T p h) (t : P (b2i (decide (tK T p = 2))) h) : SpI E (d + 6) MX10_isName [.ref (eA E 63)] h P := by
  have nk := nm_kind hp
  have nle := ok.1
  have nl := nx_le T hp
  have rk := (tok_all hp).2.2.2.2.2.1
  have no : tK T p ≠ 2 → P 0 h := fun n => by rw [decide_eq_false n] at t; exact t
  refine wp_X10_isName E (d + 5) h P ?_
  rw [tk.2.2.1, tk.2.1, tk.1]
  refine bj_if (nI_eq (b := 1) (by omega) (by decide)) (fun z => no (fun e => z (nk.mp e).1)) (fun z => ?_)
  obtain ⟨pl2, zl⟩ := rK1 hp z
  obtain ⟨a1, a2, a3, a4, a5, a6⟩ := tok_w hp pl2 zl
  rw [pk_sub (by omega)]
  refine ek_if (nI_ltI (a := 8) (by decide) (by omega)) (fun y => no (fun e => by have := (nk.mp e).2.1; omega)) (fun y => r_reg ok hp rb tk (fun k3 => ?_) (fun k3 => ?_))
  · have := tok_reg hp k3
    exact br_t (nI_le (a := 0) (Nat.zero_le _) (by omega)) (no (fun e => by omega))
  · refine br_f (by decide) (r_isGw ok hp rb tk (Or.inl rfl) (bj_if (b2i_0 _) (fun q => ?_) (fun q5 => ?_)))
    · have := of_decide_eq_true (ts_nf' q)
      exact no (fun e => by omega)
    · refine r_isGw ok hp rb tk (Or.inr (Or.inl rfl)) (bj_if (b2i_0 _) (fun q => ?_) (fun q6 => ?_))
      · have := of_decide_eq_true (ts_nf' q)
        exact no (fun e => by omega)
      · refine r_isGw ok hp rb tk (Or.inr (Or.inr rfl)) (bj_if (b2i_0 _) (fun q => ?_) (fun q7 => ?_))
        · have := of_decide_eq_true (ts_nf' q)
          exact no (fun e => by omega)
        · have k2 := nk.mpr ⟨z, by omega, k3, of_decide_eq_false q5, of_decide_eq_false q6, of_decide_eq_false q7⟩
          rw [decide_eq_true k2] at t
          exact t
end TKP
