/-! the class's reader of tokens, second half -/
theorem chr_tab : ∀ c, c < 128 → ((nI c).toUInt32 % 65536).toInt32 = nI c ∧ (nI c).toInt8.toInt32 = nI c := by decide +kernel
theorem sby_tab : ∀ i, i < 8 → ∀ k, k < 11 → (k < (sTx.getD i []).length → (sbyt.getD i []).getD k 0 = nI ((sTx.getD i []).getD k 0) ∧ (sTx.getD i []).getD k 0 < 128) := by decide +kernel
section TK2
variable {E : En} {d : Nat} {T : Tx} {h : Hp} {P : Int32 → Hp → Prop} {PV : Hp → Prop}
theorem s_idx {i c : Nat} (hi : i < 8) (hc : c < 128) (t1 : ∀ k, k < (sTx.getD i []).length → (sTx.getD i []).getD k 0 = c → (∀ j, j < k → (sTx.getD i []).getD j 0 ≠ c) → P (nI k) h) (t0 : (∀ j, j < (sTx.getD i []).length → (sTx.getD i []).getD j 0 ≠ c) → P (-1) h) : SpI E (d + 3) MJ0_indexOf_0f7a4 [.ref (eK E i), .int (nI c)] h P := by
  have sl := sTx_le i hi
  have s0 : 0 < (sTx.getD i []).length := by
    have : ∀ i, i < 8 → 0 < (sTx.getD i []).length := by decide
    exact this i hi
  refine wp_J0_indexOf_0f7a4 E (d + 2) i hi _ h P (wp_J0_indexOf_7cf53 E (d + 1) i hi _ _ h _ (wp_J0_isLatin1_aae02 E (d + 1) i hi h _ (br_f (by decide) (bq_t rfl (br_f (by decide) (s_len hi ?_))))))
  refine wp_J1_indexOf_4cfef E d i hi _ _ _ h _ (wp_J1_canEncode_9a6ad E d _ h _ (br_f (nI_n0 (by omega)) (br_f (fun z => by have := (nI_ltI (a := 255) (by decide) (by omega)).mp z; omega) (bq_f (by decide) ?_))))
  rw [sTx_len i hi, show Int32.ofNat (sTx.getD i []).length = nI (sTx.getD i []).length from rfl, ite_self, ite_self]
  refine br_t (nI_lt (a := 0) s0 (by omega)) (wp_J1_indexOfChar_4cfef E d i hi _ _ _ h _ (fun ga => ?_))
  rw [(chr_tab c hc).2]
  have loop : ∀ k, k ≤ (sTx.getD i []).length → (∀ j, j < k → (sTx.getD i []).getD j 0 ≠ c) → VJ1_indexOfChar_4cfef_7 E d ga P i (nI c) (0 : Int32) (nI (sTx.getD i []).length) (nI c) (nI k) h := by
    refine up_ind _ ?_ ?_
    · intro no
      exact sg_J1_indexOfChar_4cfef_7 E d ga i hi _ _ _ _ _ h P (br_t (nI_le (Nat.le_refl _) (by omega)) (t0 no))
    · intro k hk ih no
      obtain ⟨b1, b2⟩ := sby_tab i hi k (by omega) hk
      refine sg_J1_indexOfChar_4cfef_7 E d ga i hi _ _ _ _ _ h P ?_
      rw [nI_clamp (by omega), b1, sTx_len i hi, nI_1]
      refine br_f (nI_ge hk (by omega)) ⟨vp_in_nI hk (by omega), bj_if (nI_eq (by omega) (by omega)) (fun z => ih (fun j hj => ?_)) (fun z => t1 k hk z no)⟩
      by_cases e : j = k
      · rw [e]; exact z
      · exact no j (by omega)
  exact loop 0 (Nat.zero_le _) (fun j hj => absurd hj (Nat.not_lt_zero j))
theorem c_numb {a : Nat} (ok : TxOK T) (cb : CBuf T h) (ha : a < T.1) (e4 : h.1 1 4 = nI a) (e2 : h.1 1 2 = nI a) (t : ∀ h' K, Fr fTk h h' → h'.1 1 4 = nI a → h'.1 1 2 = nI (dEn T a) → h'.1 1 3 = nI K → K = (if dEn T a - a ≤ 4 then 4 else 1) → h'.1 1 6 = nI (val T.2 a (dEn T a - a)) → PV h') : SpV E (d + 1) MX2_takeNumber [.ref (eA E 1)] h PV := by
  refine wp_X2_takeNumber E d h PV (fun ga => ?_)
  have nle := ok.1
  have wle : dEn T a ≤ T.1 := scn_le _ _ _ _ (by omega)
  have wge : a ≤ dEn T a := scn_ge _ _ _ _
  have fin : ∀ h1 : Hp, Fr fTk h h1 → h1.1 1 4 = nI a → h1.1 1 2 = nI (dEn T a) → h1.1 1 6 = nI (val T.2 a (dEn T a - a)) → ((((h1.1 1 2) - (h1.1 1 4)) ≤ (4 : Int32) → (PV (sI h1 1 3 (4 : Int32)))) ∧ (¬ ((h1.1 1 2) - (h1.1 1 4)) ≤ (4 : Int32) → (PV (sI h1 1 3 (1 : Int32))))) := by
    intro h1 f k4 k2 k6
    rw [k2, k4, pk_sub wge]
    refine ek_if (nI_leI (b := 4) (by omega) (by decide)) (fun q => ?_) (fun q => ?_)
    · exact t _ 4 (f.si rfl) (by rw [sI_j (by decide)]; exact k4) (by rw [sI_j (by decide)]; exact k2) (sI_at _ _ _ _) (by rw [if_pos q]) (by rw [sI_j (by decide)]; exact k6)
    · exact t _ 1 (f.si rfl) (by rw [sI_j (by decide)]; exact k4) (by rw [sI_j (by decide)]; exact k2) (sI_at _ _ _ _) (by rw [if_neg q]) (by rw [sI_j (by decide)]; exact k6)
  have loop : ∀ f p, T.1 ≤ p + f → p ≤ T.1 → a ≤ p → scn (fun k => isD (T.2 k)) T.1 f p = dEn T a → ∀ h1, Fr fTk h h1 → h1.1 1 4 = nI a → h1.1 1 2 = nI p → h1.1 1 6 = nI (val T.2 a (p - a)) → VX2_takeNumber_5 E d ga PV h1 := by
    intro f
    induction f with
    | zero =>
      intro p hf hp hap es h1 fr k4 k2 k6
      have es : p = dEn T a := es
      have cb1 := cb.fr fr rfl (fun _ => rfl)
      refine sg_X2_takeNumber_5 E d ga h1 PV (br_t (by rw [k2, cb1.1]; exact nI_le (by omega) (by omega)) (fin h1 fr k4 (by rw [k2, es]) (by rw [k6, es])))
    | succ f ih =>
      intro p hf hp hap es h1 fr k4 k2 k6
      have es : (if p < T.1 ∧ isD (T.2 p) = true then scn (fun k => isD (T.2 k)) T.1 f (p + 1) else p) = dEn T a := es
      have cb1 := cb.fr fr rfl (fun _ => rfl)
      refine sg_X2_takeNumber_5 E d ga h1 PV ?_
      by_cases q : p < T.1
      · have hb := ok.2 p q
        have v : vp_in (h1.1 1 2) 1200 := by rw [k2]; exact vp_in_nI (by omega) (by decide)
        have eb : h1.1 2 ((h1.1 1 2).toNatClampNeg) = sb (T.2 p) := by rw [k2, nI_clamp (by omega)]; exact cb1.2 p q
        refine br_f (by rw [k2, cb1.1]; exact nI_ge q (by omega)) ⟨v, ?_⟩
        rw [eb]
        refine c_isD hb (ek_if (b2i_0 _) (fun y => ?_) (fun y => ⟨v, ?_⟩))
        · rw [if_neg (fun x => by rw [y] at x; cases x.2)] at es
          exact fin h1 fr k4 (by rw [k2, es]) (by rw [k6, es])
        · have y := ts_nf' y
          rw [if_pos ⟨q, y⟩] at es
          have b7 : 48 ≤ T.2 p ∧ T.2 p ≤ 57 := of_decide_eq_true y
          refine ih (p + 1) (by omega) (by omega) (by omega) es _ ((fr.si rfl).si rfl) ?_ ?_ ?_
          · rw [sI_j (by decide), sI_j (by decide)]; exact k4
          · rw [sI_at, k2, nI_1]
          · rw [sI_j (by decide), sI_at, eb, k6, (sb_tab _ hb).2.1 (by omega), show (10 : Int32) = nI 10 from rfl, pk_mul, nI_add, show (48 : Int32) = nI 48 from rfl, pk_sub (by omega)]
            have e1 : val T.2 a (p + 1 - a) = 10 * val T.2 a (p - a) + T.2 (a + (p - a)) - 48 := by rw [show p + 1 - a = (p - a) + 1 by omega]; rfl
            rw [e1, show a + (p - a) = p by omega]
      · have e : p = T.1 := by omega
        rw [if_neg (fun x => q x.1)] at es
        refine br_t (by rw [k2, cb1.1, e]; exact nI_le (Nat.le_refl _) (by omega)) (fin h1 fr k4 (by rw [k2, es]) (by rw [k6, es]))
  refine loop T.1 a (by omega) (by omega) (Nat.le_refl _) rfl _ ((Fr.refl h).si rfl) (by rw [sI_j (by decide)]; exact e4) (by rw [sI_j (by decide)]; exact e2) ?_
  rw [sI_at, Nat.sub_self]; rfl
theorem sgl_0 (c : Nat) : (∀ j, j < (sTx.getD 0 []).length → (sTx.getD 0 []).getD j 0 ≠ c) ↔ sgl c = false := by
  unfold sgl
  rw [decide_eq_false_iff_not]
  constructor
  · intro no m
    have e : ∀ x, x ∈ [61, 59, 58, 44, 33, 43, 45, 42, 38, 124, 94] → ∃ j, j < (sTx.getD 0 []).length ∧ (sTx.getD 0 []).getD j 0 = x := by decide
    obtain ⟨j, j1, j2⟩ := e c m
    exact no j j1 j2
  · intro m j hj e
    have k : ∀ j, j < (sTx.getD 0 []).length → (sTx.getD 0 []).getD j 0 ∈ [61, 59, 58, 44, 33, 43, 45, 42, 38, 124, 94] := by decide
    exact m (by rw [← e]; exact k j hj)
theorem sgl_b {c : Nat} (h : sgl c = true) : 33 ≤ c ∧ c ≤ 124 := by
  have k : ∀ x, x ∈ [61, 59, 58, 44, 33, 43, 45, 42, 38, 124, 94] → 33 ≤ x ∧ x ≤ 124 := by decide
  exact k c (of_decide_eq_true h)
/-- the next token -/
theorem c_adv {p : Nat} (ok : TxOK T) (cb : CBuf T h) (hp : p ≤ T.1) (e2 : h.1 1 2 = nI p) (t : ∀ h', Fr fTk h h' → CTk T p h' → PV h') : SpV E (d + 4) MX2_advance [.ref (eA E 1)] h PV := by
  have nle := ok.1
  have pge := tPl_ge T p
  have ple := tPl_le T hp
  refine wp_X2_advance E (d + 3) h PV (fun ga => ?_)
  have fin : ∀ h1 : Hp, Fr fTk h h1 → h1.1 1 2 = nI (tPl T p) → (((h1.1 1 2) < (h1.1 1 0) → (vp_in (h1.1 1 2) 1200 ∧ (SpI E (d + 3) MX2_isLetter [.int (h1.1 2 ((h1.1 1 2).toNatClampNeg))] (sI h1 1 4 (h1.1 1 2)) (fun v4 h4 => (v4 = 0 → (vp_in (h4.1 1 2) 1200 ∧ (SpI E (d + 3) MX2_isDigit [.int (h4.1 2 ((h4.1 1 2).toNatClampNeg))] h4 (fun v7 h7 => (v7 = 0 → (vp_in (h7.1 1 2) 1200 ∧ (((h7.1 2 ((h7.1 1 2).toNatClampNeg)) ≤ (32 : Int32) → (PV (sI (sI h7 1 3 (1 : Int32)) 1 2 ((h7.1 1 2) + (1 : Int32))))) ∧ (¬ (h7.1 2 ((h7.1 1 2).toNatClampNeg)) ≤ (32 : Int32) → (vp_in (h7.1 1 2) 1200 ∧ (SpI E (d + 3) MJ0_indexOf_0f7a4 [.ref (eK E 0), .int (((h7.1 2 ((h7.1 1 2).toNatClampNeg)).toUInt32 % 65536).toInt32)] h7 (fun v12 h12 => (v12 < 0 → (PV (sI (sI h12 1 3 (1 : Int32)) 1 2 ((h12.1 1 2) + (1 : Int32))))) ∧ (¬ v12 < 0 → (vp_in (h12.1 1 2) 1200 ∧ (PV (sI (sI h12 1 3 (h12.1 2 ((h12.1 1 2).toNatClampNeg))) 1 2 ((h12.1 1 2) + (1 : Int32))))))))))))) ∧ (¬ v7 = 0 → (SpV E (d + 3) MX2_takeNumber [.ref (eA E 1)] h7 (fun h15 => PV h15))))))) ∧ (¬ v4 = 0 → (SpV E (d + 3) MX2_takeWord [.ref (eA E 1)] h4 (fun h16 => PV h16))))))) ∧ (¬ (h1.1 1 2) < (h1.1 1 0) → (PV (sI (sI h1 1 4 (h1.1 1 2)) 1 3 (0 : Int32))))) := by
    intro h1 fr k2
    have cb1 := cb.fr fr rfl (fun _ => rfl)
    rw [k2, cb1.1]
    refine ek_if (nI_ltI (by omega) (by omega)) (fun q => ⟨vp_in_nI (by omega) (by decide), ?_⟩) (fun q => ?_)
    · have hb := ok.2 _ q
      have fr4 : Fr fTk h (sI h1 1 4 (nI (tPl T p))) := fr.si rfl
      have cb4 : CBuf T (sI h1 1 4 (nI (tPl T p))) := cb.fr fr4 rfl (fun _ => rfl)
      have k24 : (sI h1 1 4 (nI (tPl T p))).1 1 2 = nI (tPl T p) := by rw [sI_j (by decide)]; exact k2
      have k44 : (sI h1 1 4 (nI (tPl T p))).1 1 4 = nI (tPl T p) := sI_at _ _ _ _
      rw [nI_clamp (by omega), cb1.2 _ q]
      refine c_isL hb (ek_if (b2i_0 _) (fun zl => ?_) (fun zl => ?_))
      · rw [k24, nI_clamp (by omega), cb4.2 _ q]
        refine ⟨vp_in_nI (by omega) (by decide), c_isD hb (ek_if (b2i_0 _) (fun zd => ?_) (fun zd => ?_))⟩
        · rw [k24, nI_clamp (by omega), cb4.2 _ q, nI_1]
          have en : nx T p = tPl T p + 1 := by unfold nx; rw [if_pos q, zl, zd]; rfl
          have leaf : ∀ K, K = tK T p → K ≠ 2 → K ≠ 3 → K ≠ 4 → PV (sI (sI (sI h1 1 4 (nI (tPl T p))) 1 3 (nI K)) 1 2 (nI (tPl T p + 1))) := by
            intro K eK n2 n3 n4
            refine t _ ((fr4.si rfl).si rfl) ⟨?_, ?_, ?_, fun z => absurd (eK.trans z) n2, fun z => ?_⟩
            · rw [sI_j (by decide), sI_j (by decide)]; exact k44
            · rw [sI_at, en]
            · rw [sI_j (by decide), sI_at, eK]
            · rcases z with z | z
              · exact absurd (eK.trans z) n3
              · exact absurd (eK.trans z) n4
          have ek : tK T p = if sgl (T.2 (tPl T p)) then T.2 (tPl T p) else 1 := by
            unfold tK
            rw [if_pos q, zl, zd]; rfl
          refine ⟨vp_in_nI (by omega) (by decide), ?_⟩
          have le32 : sb (T.2 (tPl T p)) ≤ (32 : Int32) ↔ (T.2 (tPl T p) ≤ 32 ∨ 128 ≤ T.2 (tPl T p)) := by
            have := c_lt (c := 32) hb (by decide)
            rw [show (32 : Int32) = nI 32 from rfl]
            rw [fa_lt] at this
            rw [fa_le]
            omega
          refine ek_if le32 (fun z => leaf 1 ?_ (by decide) (by decide) (by decide)) (fun z => ⟨vp_in_nI (by omega) (by decide), ?_⟩)
          · rw [ek, if_neg (fun y => by have := sgl_b y; omega)]
          · have c128 : T.2 (tPl T p) < 128 := by omega
            rw [(sb_tab _ hb).2.1 c128, (chr_tab _ c128).1]
            refine s_idx (by decide) c128 (fun k hk ek1 _ => ?_) (fun no => ?_)
            · rw [k24, nI_clamp (n := tPl T p) (by omega), cb4.2 _ q, nI_1, (sb_tab _ hb).2.1 c128]
              have sg : sgl (T.2 (tPl T p)) = true := ts_nf' (fun y => (sgl_0 _).mpr y k hk ek1)
              have := sgl_b sg
              have sl := sTx_le 0 (by decide)
              exact br_f (nI_n0 (by omega)) ⟨vp_in_nI (by omega) (by decide), leaf (T.2 (tPl T p)) (by rw [ek, if_pos sg]) (by omega) (by omega) (by omega)⟩
            · have sg := (sgl_0 _).mp no
              rw [k24, nI_1]
              exact br_t (by decide) (leaf 1 (by rw [ek, sg]; rfl) (by decide) (by decide) (by decide))
        · have zd := ts_nf' zd
          have en : nx T p = dEn T (tPl T p) := by unfold nx; rw [if_pos q, zl, zd]; rfl
          refine c_numb ok cb4 q k44 k24 (fun h5 K f5 j4 j2 j3 eK j6 => t h5 (fr4.trans f5) ⟨j4, by rw [j2, en], ?_, fun z => ?_, fun z => ?_⟩)
          · rw [j3, eK]
            unfold tK
            rw [if_pos q, zl, zd, en]; rfl
          · unfold tK at z
            rw [if_pos q, zl, zd] at z
            have z : (if nx T p - tPl T p ≤ 4 then 4 else 1) = 2 := z
            split at z <;> omega
          · rw [j6]
            unfold tV
            rw [zl, en]; rfl
      · have zl := ts_nf' zl
        have en : nx T p = wEn T (tPl T p) := by unfold nx; rw [if_pos q, if_pos zl]
        have ekk : tK T p = (if wEn T (tPl T p) - tPl T p ≤ 8 then wK (nmb T.2 (tPl T p) (wEn T (tPl T p) - tPl T p)) else 1) := by
          unfold tK
          rw [if_pos q, if_pos zl, en]
        refine c_word ok cb4 q k44 k24 (fun h5 K f5 j4 j2 j3 eK j5 j6 => t h5 (fr4.trans f5) ⟨j4, by rw [j2, en], ?_, fun z => ?_, fun z => ?_⟩)
        · rw [j3, eK, ekk]
        · rw [j5 (by rw [eK, ← ekk]; exact z), en]
        · have k3 : K = 3 := by
            rcases z with z | z
            · rw [eK, ← ekk]; exact z
            · rw [ekk] at z
              unfold wK at z
              repeat' split at z
              all_goals omega
          rw [j6 k3]
          unfold tV
          rw [if_pos zl, en]
    · have en : nx T p = tPl T p := by unfold nx; rw [if_neg q]
      have ek : tK T p = 0 := by unfold tK; rw [if_neg q]
      refine t _ ((fr.si rfl).si rfl) ⟨?_, ?_, ?_, fun z => ?_, fun z => ?_⟩
      · rw [sI_j (by decide), sI_at]
      · rw [sI_j (by decide), sI_j (by decide), k2, en]
      · rw [sI_at, ek]; rfl
      · rw [ek] at z; cases z
      · rw [ek] at z; omega
  have loop : ∀ f q, T.1 ≤ q + f → q ≤ T.1 → scn (fun k => isSp (T.2 k)) T.1 f q = tPl T p → ∀ h1, Fr fTk h h1 → h1.1 1 2 = nI q → VX2_advance_0 E (d + 3) ga PV h1 := by
    intro f
    induction f with
    | zero =>
      intro q hf hq es h1 fr k2
      have es : q = tPl T p := es
      have cb1 := cb.fr fr rfl (fun _ => rfl)
      exact sg_X2_advance_0 E (d + 3) ga h1 PV (br_t (by rw [k2, cb1.1]; exact nI_le (by omega) (by omega)) (fin h1 fr (by rw [k2, es])))
    | succ f ih =>
      intro q hf hq es h1 fr k2
      have es : (if q < T.1 ∧ isSp (T.2 q) = true then scn (fun k => isSp (T.2 k)) T.1 f (q + 1) else q) = tPl T p := es
      have cb1 := cb.fr fr rfl (fun _ => rfl)
      refine sg_X2_advance_0 E (d + 3) ga h1 PV ?_
      by_cases qn : q < T.1
      · have hb := ok.2 q qn
        have v : vp_in (h1.1 1 2) 1200 := by rw [k2]; exact vp_in_nI (by omega) (by decide)
        have eb : h1.1 2 ((h1.1 1 2).toNatClampNeg) = sb (T.2 q) := by rw [k2, nI_clamp (by omega)]; exact cb1.2 q qn
        have step : isSp (T.2 q) = true → VX2_advance_0 E (d + 3) ga PV (sI h1 1 2 ((h1.1 1 2) + (1 : Int32))) := by
          intro sp
          rw [if_pos ⟨qn, sp⟩] at es
          exact ih (q + 1) (by omega) (by omega) es _ (fr.si rfl) (by rw [sI_at, k2, nI_1])
        refine br_f (by rw [k2, cb1.1]; exact nI_ge qn (by omega)) ⟨v, ?_⟩
        have fin' := fin h1 fr
        rw [eb] at fin' ⊢
        refine ek_if (eq_c (c := 32) hb (by decide)) (fun z => step (by unfold isSp; rw [decide_eq_true z]; rfl)) (fun z => ⟨v, ?_⟩)
        refine bj_if (eq_c (c := 10) hb (by decide)) (fun y => fin' ?_) (fun y => step (by unfold isSp; rw [decide_eq_true y, Bool.or_true]))
        rw [if_neg (fun x => by
          have := x.2
          unfold isSp at this
          rw [decide_eq_false z, decide_eq_false y] at this
          cases this)] at es
        rw [k2, es]
      · have e : q = T.1 := by omega
        rw [if_neg (fun x => qn x.1)] at es
        exact br_t (by rw [k2, cb1.1, e]; exact nI_le (Nat.le_refl _) (by omega)) (fin h1 fr (by rw [k2, es]))
  exact loop T.1 p (by omega) hp rfl h (Fr.refl h) e2
end TK2
