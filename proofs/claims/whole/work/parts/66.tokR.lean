/-! the reference's reader of tokens -/
def rK (T : Tx) (p : Nat) : Nat := if tPl T p < T.1 then (if isL (T.2 (tPl T p)) then 1 else if isD (T.2 (tPl T p)) then (if nx T p - tPl T p ≤ 4 then 2 else 4) else if sgl (T.2 (tPl T p)) then 3 else 4) else 0
def RBuf (T : Tx) (h : Hp) : Prop := h.1 63 42 = nI T.1 ∧ ∀ k, k < T.1 → h.1 91 k = sb (T.2 k)
def RTk (T : Tx) (p : Nat) (h : Hp) : Prop := h.1 63 44 = nI (tPl T p) ∧ h.1 63 45 = nI (nx T p) ∧ h.1 63 46 = nI (rK T p) ∧ (rK T p = 2 → h.1 63 47 = nI (val T.2 (tPl T p) (nx T p - tPl T p))) ∧ (rK T p = 3 → h.1 63 47 = nI (T.2 (tPl T p)))
def fTr (c j : Nat) : Bool := c == 63 && (j == 44 || j == 45 || j == 46 || j == 47)
def bA (T : Tx) (k : Nat) : Int32 := if k < T.1 then nI (T.2 k) else -1
section TKR
variable {E : En} {d : Nat} {T : Tx} {h : Hp} {P : Int32 → Hp → Prop} {PV : Hp → Prop}
theorem RBuf.fr {h' : Hp} {X : Nat → Nat → Bool} (a : RBuf T h) (f : Fr X h h') (e0 : X 63 42 = false) (e : ∀ j, X 91 j = false) : RBuf T h' := by
  unfold RBuf
  rw [f.i 63 42 e0, f.f 91 e]
  exact a
theorem r_byte {k : Nat} (ok : TxOK T) (rb : RBuf T h) (hk : k < 5000) (t : P (bA T k) h) : SpI E d MX10_byteAt [.ref (eA E 63), .int (nI k)] h P := by
  have nle := ok.1
  refine wp_X10_byteAt E d _ h P ?_
  rw [rb.1]
  refine ek_if (nI_leI (by omega) (by omega)) (fun q => ?_) (fun q => ⟨vp_in_nI (by omega) (by decide), ?_⟩)
  · unfold bA at t
    rw [if_neg (by omega)] at t; exact t
  · unfold bA at t
    rw [if_pos (by omega)] at t
    rw [nI_clamp (by omega), rb.2 k (by omega), (sb_tab _ (ok.2 k (by omega))).1]
    exact t
theorem bA_eq {k c : Nat} (ok : TxOK T) (hc : c < 256) : bA T k = nI c ↔ (k < T.1 ∧ T.2 k = c) := by
  unfold bA
  by_cases q : k < T.1
  · rw [if_pos q, nI_eq (by have := ok.2 k q; omega) (by omega)]
    simp [q]
  · rw [if_neg q]
    constructor
    · intro z; exact absurd z.symm (nI_m1 (by omega))
    · intro z; exact absurd z.1 q
theorem r_isL {k : Nat} (ok : TxOK T) (t : P (b2i (decide (k < T.1) && isL (T.2 k))) h) : SpI E d MX10_isLetter [.int (bA T k)] h P := by
  refine wp_X10_isLetter E d _ h P ?_
  unfold bA
  by_cases q : k < T.1
  · rw [if_pos q]
    rw [decide_eq_true q, Bool.true_and] at t
    have hb := ok.2 k q
    refine ek_if (nI_ltI (b := 97) (by omega) (by decide)) (fun z => ?_) (fun z => ek_if (nI_ltI (a := 122) (by decide) (by omega)) (fun y => ?_) (fun y => ?_))
    · rw [show isL (T.2 k) = false from decide_eq_false (by omega)] at t; exact t
    · rw [show isL (T.2 k) = false from decide_eq_false (by omega)] at t; exact t
    · rw [show isL (T.2 k) = true from decide_eq_true (by omega)] at t; exact t
  · rw [if_neg q]
    rw [decide_eq_false q, Bool.false_and] at t
    exact br_t (by decide) t
theorem r_isD {k : Nat} (ok : TxOK T) (t : P (b2i (decide (k < T.1) && isD (T.2 k))) h) : SpI E d MX10_isDigit [.int (bA T k)] h P := by
  refine wp_X10_isDigit E d _ h P ?_
  unfold bA
  by_cases q : k < T.1
  · rw [if_pos q]
    rw [decide_eq_true q, Bool.true_and] at t
    have hb := ok.2 k q
    refine ek_if (nI_ltI (b := 48) (by omega) (by decide)) (fun z => ?_) (fun z => ek_if (nI_ltI (a := 57) (by decide) (by omega)) (fun y => ?_) (fun y => ?_))
    · rw [show isD (T.2 k) = false from decide_eq_false (by omega)] at t; exact t
    · rw [show isD (T.2 k) = false from decide_eq_false (by omega)] at t; exact t
    · rw [show isD (T.2 k) = true from decide_eq_true (by omega)] at t; exact t
  · rw [if_neg q]
    rw [decide_eq_false q, Bool.false_and] at t
    exact br_t (by decide) t
/-- the kind of a sign -/
def sgi (c : Nat) : Nat := if c = 43 then 1 else if c = 45 then 2 else if c = 42 then 3 else if c = 38 then 4 else if c = 124 then 5 else if c = 94 then 6 else 0
theorem r_signOf {c : Nat} (hc : c < 2 ^ 31) (t : P (nI (sgi c)) h) : SpI E d MX10_signOf [.int (nI c)] h P := by
  refine wp_X10_signOf E d _ h P ?_
  unfold sgi at t
  refine bj_if (nI_eq (b := 43) hc (by decide)) (fun z => ?_) (fun z => by rw [if_pos z] at t; exact t)
  rw [if_neg z] at t
  refine bj_if (nI_eq (b := 45) hc (by decide)) (fun z => ?_) (fun z => by rw [if_pos z] at t; exact t)
  rw [if_neg z] at t
  refine bj_if (nI_eq (b := 42) hc (by decide)) (fun z => ?_) (fun z => by rw [if_pos z] at t; exact t)
  rw [if_neg z] at t
  refine bj_if (nI_eq (b := 38) hc (by decide)) (fun z => ?_) (fun z => by rw [if_pos z] at t; exact t)
  rw [if_neg z] at t
  refine bj_if (nI_eq (b := 124) hc (by decide)) (fun z => ?_) (fun z => by rw [if_pos z] at t; exact t)
  rw [if_neg z] at t
  refine bj_if (nI_eq (b := 94) hc (by decide)) (fun z => ?_) (fun z => by rw [if_pos z] at t; exact t)
  rw [if_neg z] at t
  exact t
theorem sgi_le (c : Nat) : sgi c ≤ 6 := by
  unfold sgi
  repeat' split
  all_goals omega
theorem sgl_is (c : Nat) : sgl c = true ↔ (c = 61 ∨ c = 59 ∨ c = 58 ∨ c = 44 ∨ c = 33 ∨ 0 < sgi c) := by
  unfold sgl sgi
  rw [decide_eq_true_iff]
  simp only [List.mem_cons, List.not_mem_nil, or_false]
  constructor
  · intro z
    repeat' split
    all_goals omega
  · intro z
    repeat' split at z
    all_goals omega
theorem r_step {p : Nat} (ok : TxOK T) (rb : RBuf T h) (hp : p ≤ T.1) (e5 : h.1 63 45 = nI p) (t : ∀ h', Fr fTr h h' → RTk T p h' → PV h') : SpV E (d + 1) MX10_step [.ref (eA E 63)] h PV := by
  have nle := ok.1
  have pge := tPl_ge T p
  have ple := tPl_le T hp
  refine wp_X10_step E d h PV (fun ga => ?_)
  -- a word
  have word : ∀ f q, T.1 ≤ q + f → q ≤ T.1 → tPl T p < T.1 → isL (T.2 (tPl T p)) = true → scn (fun k => isLD (T.2 k)) T.1 f q = wEn T (tPl T p) → ∀ (x : Int32) h1, Fr fTr h h1 → h1.1 63 44 = nI (tPl T p) → h1.1 63 45 = nI q → VX10_step_75 E d ga PV x h1 := by
    intro f
    induction f with
    | zero =>
      intro q hf hq pl zl es x h1 fr k4 k5
      have es : q = wEn T (tPl T p) := es
      have rb1 := rb.fr fr rfl (fun _ => rfl)
      have en : nx T p = wEn T (tPl T p) := by unfold nx; rw [if_pos pl, if_pos zl]
      have ek : rK T p = 1 := by unfold rK; rw [if_pos pl, if_pos zl]
      refine sg_X10_step_75 E d ga _ h1 PV ?_
      rw [k5]
      refine r_byte ok rb1 (by omega) (r_isL ok (bj_if (b2i_0 _) (fun z => ?_) (fun z => ?_)))
      · have z := ts_nf' z
        rw [decide_eq_false (by omega)] at z; cases z
      · rw [k5]
        refine r_byte ok rb1 (by omega) (r_isD ok (ek_if (b2i_0 _) (fun y => ?_) (fun y => ?_)))
        · exact t _ (fr.si rfl) ⟨by rw [sI_j (by decide)]; exact k4, by rw [sI_j (by decide), k5, en, es], by rw [sI_at, ek]; rfl, (fun w => by rw [ek] at w; cases w), (fun w => by rw [ek] at w; cases w)⟩
        · have y := ts_nf' y
          rw [decide_eq_false (by omega)] at y; cases y
    | succ f ih =>
      intro q hf hq pl zl es x h1 fr k4 k5
      have es : (if q < T.1 ∧ isLD (T.2 q) = true then scn (fun k => isLD (T.2 k)) T.1 f (q + 1) else q) = wEn T (tPl T p) := es
      have rb1 := rb.fr fr rfl (fun _ => rfl)
      have en : nx T p = wEn T (tPl T p) := by unfold nx; rw [if_pos pl, if_pos zl]
      have ek : rK T p = 1 := by unfold rK; rw [if_pos pl, if_pos zl]
      have step : q < T.1 → isLD (T.2 q) = true → VX10_step_75 E d ga PV x (sI h1 63 45 (nI q + (1 : Int32))) := by
        intro a b
        rw [if_pos ⟨a, b⟩] at es
        exact ih (q + 1) (by omega) (by omega) pl zl es x _ (fr.si rfl) (by rw [sI_j (by decide)]; exact k4) (by rw [sI_at, nI_1])
      refine sg_X10_step_75 E d ga _ h1 PV ?_
      rw [k5]
      refine r_byte ok rb1 (by omega) (r_isL ok (bj_if (b2i_0 _) (fun z => ?_) (fun z => ?_)))
      · have z := ts_nf' z
        rw [Bool.and_eq_true, decide_eq_true_iff] at z
        rw [k5]
        exact step z.1 (by unfold isLD; rw [z.2]; rfl)
      · rw [k5]
        refine r_byte ok rb1 (by omega) (r_isD ok (ek_if (b2i_0 _) (fun y => ?_) (fun y => ?_)))
        · rw [if_neg (fun w => by
            obtain ⟨w1, w2⟩ := w
            unfold isLD at w2
            rw [decide_eq_true w1, Bool.true_and] at z y
            rw [z, y] at w2
            cases w2)] at es
          exact t _ (fr.si rfl) ⟨by rw [sI_j (by decide)]; exact k4, by rw [sI_j (by decide), k5, en, es], by rw [sI_at, ek]; rfl, (fun w => by rw [ek] at w; cases w), (fun w => by rw [ek] at w; cases w)⟩
        · have y := ts_nf' y
          rw [Bool.and_eq_true, decide_eq_true_iff] at y
          rw [k5]
          exact step y.1 (by unfold isLD; rw [y.2, Bool.or_true])
  -- a number
  have numb : ∀ f q, T.1 ≤ q + f → q ≤ T.1 → tPl T p ≤ q → tPl T p < T.1 → isL (T.2 (tPl T p)) = false → isD (T.2 (tPl T p)) = true → scn (fun k => isD (T.2 k)) T.1 f q = dEn T (tPl T p) → ∀ (x : Int32) h1, Fr fTr h h1 → h1.1 63 44 = nI (tPl T p) → h1.1 63 45 = nI q → (q - tPl T p ≤ 4 → h1.1 63 47 = nI (val T.2 (tPl T p) (q - tPl T p))) → VX10_step_136 E d ga PV x h1 := by
    intro f q hf hq hpq pl zl zd es x h1 fr k4 k5 k7
    have en : nx T p = dEn T (tPl T p) := by unfold nx; rw [if_pos pl, zl, zd]; rfl
    have ek : rK T p = if nx T p - tPl T p ≤ 4 then 2 else 4 := by unfold rK; rw [if_pos pl, zl, zd]; rfl
    have fin : ∀ q h1, tPl T p ≤ q → q ≤ T.1 → Fr fTr h h1 → h1.1 63 44 = nI (tPl T p) → h1.1 63 45 = nI q → (q - tPl T p ≤ 4 → h1.1 63 47 = nI (val T.2 (tPl T p) (q - tPl T p))) → q = dEn T (tPl T p) → ((((h1.1 63 45) - (h1.1 63 44)) ≤ (4 : Int32) → (PV (sI h1 63 46 (2 : Int32)))) ∧ (¬ ((h1.1 63 45) - (h1.1 63 44)) ≤ (4 : Int32) → (PV (sI h1 63 46 (4 : Int32))))) := by
      intro q h1 hpq hq fr k4 k5 k7 es
      rw [k5, k4, pk_sub hpq]
      refine ek_if (nI_leI (b := 4) (by omega) (by decide)) (fun z => ?_) (fun z => ?_)
      · rw [en, ← es, if_pos z] at ek
        refine t _ (fr.si rfl) ⟨by rw [sI_j (by decide)]; exact k4, by rw [sI_j (by decide), k5, en, es], by rw [sI_at, ek]; rfl, fun _ => ?_, (fun w => by rw [ek] at w; cases w)⟩
        rw [sI_j (by decide), k7 z, en, es]
      · rw [en, ← es, if_neg z] at ek
        exact t _ (fr.si rfl) ⟨by rw [sI_j (by decide)]; exact k4, by rw [sI_j (by decide), k5, en, es], by rw [sI_at, ek]; rfl, (fun w => by rw [ek] at w; cases w), (fun w => by rw [ek] at w; cases w)⟩
    clear en ek
    induction f generalizing q h1 with
    | zero =>
      have es : q = dEn T (tPl T p) := es
      have rb1 := rb.fr fr rfl (fun _ => rfl)
      refine sg_X10_step_136 E d ga _ h1 PV ?_
      have f1 := fin q h1 hpq hq fr k4 k5 k7 es
      rw [k5] at f1 ⊢
      refine r_byte ok rb1 (by omega) (r_isD ok (ek_if (b2i_0 _) (fun y => ?_) (fun y => ?_)))
      · rw [k5]; exact f1
      · have y := ts_nf' y
        rw [decide_eq_false (by omega)] at y; cases y
    | succ f ih =>
      have es : (if q < T.1 ∧ isD (T.2 q) = true then scn (fun k => isD (T.2 k)) T.1 f (q + 1) else q) = dEn T (tPl T p) := es
      have rb1 := rb.fr fr rfl (fun _ => rfl)
      refine sg_X10_step_136 E d ga _ h1 PV ?_
      rw [k5]
      refine r_byte ok rb1 (by omega) (r_isD ok (ek_if (b2i_0 _) (fun y => ?_) (fun y => ?_)))
      · rw [if_neg (fun w => by
          rw [decide_eq_true w.1, Bool.true_and] at y
          rw [y] at w
          cases w.2)] at es
        exact fin q h1 hpq hq fr k4 k5 k7 es
      · have y := ts_nf' y
        rw [Bool.and_eq_true, decide_eq_true_iff] at y
        rw [if_pos y] at es
        have b7 : 48 ≤ T.2 q ∧ T.2 q ≤ 57 := of_decide_eq_true y.2
        rw [k5, k4, pk_sub hpq, nI_1]
        refine ek_if (nI_leI (a := 4) (by decide) (by omega)) (fun z => ?_) (fun z => ?_)
        · refine ih (q + 1) (by omega) (by omega) (by omega) es _ ((fr.si rfl).si rfl) (by rw [sI_j (by decide), sI_j (by decide)]; exact k4) (sI_at _ _ _ _) (fun w => by omega)
        · refine r_byte ok rb1 (by omega) ?_
          rw [k5, nI_1]
          refine ih (q + 1) (by omega) (by omega) (by omega) es _ ((fr.si rfl).si rfl) (by rw [sI_j (by decide), sI_j (by decide)]; exact k4) (sI_at _ _ _ _) (fun w => ?_)
          have eb : bA T q = nI (T.2 q) := by unfold bA; rw [if_pos y.1]
          rw [sI_j (by decide), sI_at, eb, k7 (by omega), show (10 : Int32) = nI 10 from rfl, pk_mul, nI_add, show (48 : Int32) = nI 48 from rfl, pk_sub (by omega)]
          have e1 : val T.2 (tPl T p) (q + 1 - tPl T p) = 10 * val T.2 (tPl T p) (q - tPl T p) + T.2 (tPl T p + (q - tPl T p)) - 48 := by rw [show q + 1 - tPl T p = (q - tPl T p) + 1 by omega]; rfl
          rw [e1, show tPl T p + (q - tPl T p) = q by omega]
  have loop : ∀ f q, T.1 ≤ q + f → q ≤ T.1 → scn (fun k => isSp (T.2 k)) T.1 f q = tPl T p → ∀ h1, Fr fTr h h1 → h1.1 63 45 = nI q → VX10_step_0 E d ga PV h1 := by
    intro f q hf hq es h1 fr k5
    have tok : ∀ h1, Fr fTr h h1 → h1.1 63 45 = nI (tPl T p) → (SpI E d MX10_byteAt [.ref (eA E 63), .int (h1.1 63 45)] (sI h1 63 44 (h1.1 63 45)) (fun v5 h5 => (0 ≤ v5 → (SpI E d MX10_isLetter [.int v5] h5 (fun v7 h7 => (v7 = 0 → (SpI E d MX10_isDigit [.int v5] h7 (fun v9 h9 => (v9 = 0 → ((v5 = (61 : Int32) → (PV (sI (sI (sI h9 63 47 v5) 63 46 (3 : Int32)) 63 45 ((h9.1 63 45) + (1 : Int32))))) ∧ (¬ v5 = (61 : Int32) → ((v5 = (59 : Int32) → (PV (sI (sI (sI h9 63 47 v5) 63 46 (3 : Int32)) 63 45 ((h9.1 63 45) + (1 : Int32))))) ∧ (¬ v5 = (59 : Int32) → ((v5 = (58 : Int32) → (PV (sI (sI (sI h9 63 47 v5) 63 46 (3 : Int32)) 63 45 ((h9.1 63 45) + (1 : Int32))))) ∧ (¬ v5 = (58 : Int32) → ((v5 = (44 : Int32) → (PV (sI (sI (sI h9 63 47 v5) 63 46 (3 : Int32)) 63 45 ((h9.1 63 45) + (1 : Int32))))) ∧ (¬ v5 = (44 : Int32) → ((v5 = (33 : Int32) → (PV (sI (sI (sI h9 63 47 v5) 63 46 (3 : Int32)) 63 45 ((h9.1 63 45) + (1 : Int32))))) ∧ (¬ v5 = (33 : Int32) → (SpI E d MX10_signOf [.int v5] (sI h9 63 47 v5) (fun v16 h16 => (v16 ≤ 0 → (PV (sI (sI h16 63 46 (4 : Int32)) 63 45 ((h16.1 63 45) + (1 : Int32))))) ∧ (¬ v16 ≤ 0 → (PV (sI (sI h16 63 46 (3 : Int32)) 63 45 ((h16.1 63 45) + (1 : Int32)))))))))))))))))) ∧ (¬ v9 = 0 → (VX10_step_136 E d ga PV v5 (sI h9 63 47 (0 : Int32))))))) ∧ (¬ v7 = 0 → (VX10_step_75 E d ga PV v5 h7))))) ∧ (¬ 0 ≤ v5 → (PV (sI h5 63 46 (0 : Int32)))))) := by
      intro h1 fr k5
      rw [k5]
      have fr4 : Fr fTr h (sI h1 63 44 (nI (tPl T p))) := fr.si rfl
      have rb4 := rb.fr fr4 rfl (fun _ => rfl)
      have k44 : (sI h1 63 44 (nI (tPl T p))).1 63 44 = nI (tPl T p) := sI_at _ _ _ _
      have k54 : (sI h1 63 44 (nI (tPl T p))).1 63 45 = nI (tPl T p) := by rw [sI_j (by decide)]; exact k5
      refine r_byte ok rb4 (by omega) ?_
      by_cases pl : tPl T p < T.1
      · have hb := ok.2 _ pl
        have eb : bA T (tPl T p) = nI (T.2 (tPl T p)) := by unfold bA; rw [if_pos pl]
        refine br_t (by rw [eb]; exact nI_le (a := 0) (Nat.zero_le _) (by omega)) (r_isL ok (ek_if (b2i_0 _) (fun zl => ?_) (fun zl => ?_)))
        · rw [decide_eq_true pl, Bool.true_and] at zl
          refine r_isD ok (ek_if (b2i_0 _) (fun zd => ?_) (fun zd => ?_))
          · rw [decide_eq_true pl, Bool.true_and] at zd
            rw [eb, k54, nI_1]
            have en : nx T p = tPl T p + 1 := by unfold nx; rw [if_pos pl, zl, zd]; rfl
            have ek : rK T p = if sgl (T.2 (tPl T p)) then 3 else 4 := by unfold rK; rw [if_pos pl, zl, zd]; rfl
            have leaf : sgl (T.2 (tPl T p)) = true → PV (sI (sI (sI (sI h1 63 44 (nI (tPl T p))) 63 47 (nI (T.2 (tPl T p)))) 63 46 (3 : Int32)) 63 45 (nI (tPl T p + 1))) := by
              intro sg
              rw [sg] at ek
              have ek : rK T p = 3 := ek
              refine t _ (((fr4.si rfl).si rfl).si rfl) ⟨?_, ?_, ?_, (fun w => by rw [ek] at w; cases w), fun _ => ?_⟩
              · rw [sI_j (by decide), sI_j (by decide), sI_j (by decide)]; exact k44
              · rw [sI_at, en]
              · rw [sI_j (by decide), sI_at, ek]; rfl
              · rw [sI_j (by decide), sI_j (by decide), sI_at]
            refine ek_if (nI_eq (b := 61) (by omega) (by decide)) (fun z => leaf ((sgl_is _).mpr (by omega))) (fun z1 => ?_)
            refine ek_if (nI_eq (b := 59) (by omega) (by decide)) (fun z => leaf ((sgl_is _).mpr (by omega))) (fun z2 => ?_)
            refine ek_if (nI_eq (b := 58) (by omega) (by decide)) (fun z => leaf ((sgl_is _).mpr (by omega))) (fun z3 => ?_)
            refine ek_if (nI_eq (b := 44) (by omega) (by decide)) (fun z => leaf ((sgl_is _).mpr (by omega))) (fun z4 => ?_)
            refine ek_if (nI_eq (b := 33) (by omega) (by decide)) (fun z => leaf ((sgl_is _).mpr (by omega))) (fun z5 => r_signOf (by omega) ?_)
            have sl := sgi_le (T.2 (tPl T p))
            rw [sI_j (show 45 ≠ 47 by decide), k54, nI_1]
            refine ek_if (nI_leI (b := 0) (by omega) (by decide)) (fun y => ?_) (fun y => leaf ((sgl_is _).mpr (by omega)))
            have sg : sgl (T.2 (tPl T p)) = false := ts_nt' (fun w => by have := (sgl_is _).mp w; omega)
            rw [sg] at ek
            have ek : rK T p = 4 := ek
            refine t _ (((fr4.si rfl).si rfl).si rfl) ⟨?_, ?_, ?_, (fun w => by rw [ek] at w; cases w), (fun w => by rw [ek] at w; cases w)⟩
            · rw [sI_j (by decide), sI_j (by decide), sI_j (by decide)]; exact k44
            · rw [sI_at, en]
            · rw [sI_j (by decide), sI_at, ek]; rfl
          · have zd := ts_nf' zd
            rw [decide_eq_true pl, Bool.true_and] at zd
            refine numb T.1 (tPl T p) (by omega) (by omega) (Nat.le_refl _) pl zl zd rfl _ _ (fr4.si rfl) (by rw [sI_j (by decide)]; exact k44) (by rw [sI_j (by decide)]; exact k54) (fun _ => ?_)
            rw [sI_at, Nat.sub_self]; rfl
        · have zl := ts_nf' zl
          rw [decide_eq_true pl, Bool.true_and] at zl
          exact word T.1 (tPl T p) (by omega) (by omega) pl zl rfl _ _ fr4 k44 k54
      · have eb : bA T (tPl T p) = -1 := by unfold bA; rw [if_neg pl]
        have en : nx T p = tPl T p := by unfold nx; rw [if_neg pl]
        have ek : rK T p = 0 := by unfold rK; rw [if_neg pl]
        refine br_f (by rw [eb]; decide) (t _ (fr4.si rfl) ⟨by rw [sI_j (by decide)]; exact k44, by rw [sI_j (by decide), k54, en], by rw [sI_at, ek]; rfl, (fun w => by rw [ek] at w; cases w), (fun w => by rw [ek] at w; cases w)⟩)
    induction f generalizing q h1 with
    | zero =>
      have es : q = tPl T p := es
      have rb1 := rb.fr fr rfl (fun _ => rfl)
      refine sg_X10_step_0 E d ga h1 PV ?_
      rw [k5]
      refine r_byte ok rb1 (by omega) (br_f (fun z => ?_) ?_)
      · have := ((bA_eq (c := 32) ok (by decide)).mp z).1
        omega
      · rw [k5]
        refine r_byte ok rb1 (by omega) (bq_f (fun z => ?_) ?_)
        · have := ((bA_eq (c := 10) ok (by decide)).mp z).1
          omega
        · exact tok h1 fr (by rw [k5, es])
    | succ f ih =>
      have es : (if q < T.1 ∧ isSp (T.2 q) = true then scn (fun k => isSp (T.2 k)) T.1 f (q + 1) else q) = tPl T p := es
      have rb1 := rb.fr fr rfl (fun _ => rfl)
      have step : q < T.1 → isSp (T.2 q) = true → VX10_step_0 E d ga PV (sI h1 63 45 (nI q + (1 : Int32))) := by
        intro a b
        rw [if_pos ⟨a, b⟩] at es
        exact ih (q + 1) (by omega) (by omega) es _ (fr.si rfl) (by rw [sI_at, nI_1])
      refine sg_X10_step_0 E d ga h1 PV ?_
      rw [k5]
      refine r_byte ok rb1 (by omega) (ek_if (bA_eq (c := 32) ok (by decide)) (fun z => ?_) (fun z => ?_))
      · rw [k5]
        exact step z.1 (by unfold isSp; rw [decide_eq_true z.2]; rfl)
      · rw [k5]
        refine r_byte ok rb1 (by omega) (bj_if (bA_eq (c := 10) ok (by decide)) (fun y => ?_) (fun y => ?_))
        · rw [if_neg (fun w => by
            obtain ⟨w1, w2⟩ := w
            unfold isSp at w2
            rw [decide_eq_false (fun e => z ⟨w1, e⟩), decide_eq_false (fun e => y ⟨w1, e⟩)] at w2
            cases w2)] at es
          exact tok h1 fr (by rw [k5, es])
        · rw [k5]
          exact step y.1 (by unfold isSp; rw [decide_eq_true y.2, Bool.or_true])
  exact loop T.1 p (by omega) hp rfl h (Fr.refl h) e5
end TKR
