/-! the text and its tokens; the class's reader of tokens -/
def isL (b : Nat) : Bool := decide (97 ≤ b ∧ b ≤ 122)
def isD (b : Nat) : Bool := decide (48 ≤ b ∧ b ≤ 57)
def scn (q : Nat → Bool) (n : Nat) : Nat → Nat → Nat
  | 0, p => p
  | f + 1, p => if p < n ∧ q p = true then scn q n f (p + 1) else p
theorem scn_ge (q : Nat → Bool) (n : Nat) : ∀ f p, p ≤ scn q n f p
  | 0, p => Nat.le_refl p
  | f + 1, p => by
    show p ≤ if _ then _ else _
    by_cases z : p < n ∧ q p = true
    · rw [if_pos z]
      have := scn_ge q n f (p + 1)
      omega
    · rw [if_neg z]; exact Nat.le_refl _
theorem scn_le (q : Nat → Bool) (n : Nat) : ∀ f p, p ≤ n → scn q n f p ≤ n
  | 0, p, h => h
  | f + 1, p, h => by
    show (if _ then _ else _) ≤ n
    by_cases z : p < n ∧ q p = true
    · rw [if_pos z]
      exact scn_le q n f (p + 1) (by omega)
    · rw [if_neg z]; exact h
theorem scn_in (q : Nat → Bool) (n : Nat) : ∀ f p j, p ≤ j → j < scn q n f p → q j = true
  | 0, p, j, h1, h2 => by
    have h2 : j < p := h2
    omega
  | f + 1, p, j, h1, h2 => by
    have h2 : j < if p < n ∧ q p = true then scn q n f (p + 1) else p := h2
    by_cases z : p < n ∧ q p = true
    · rw [if_pos z] at h2
      by_cases e : j = p
      · rw [e]; exact z.2
      · exact scn_in q n f (p + 1) j (by omega) h2
    · rw [if_neg z] at h2; omega
theorem scn_end (q : Nat → Bool) (n : Nat) : ∀ f p, n ≤ p + f → scn q n f p < n → q (scn q n f p) = false
  | 0, p, h, h2 => by
    have h2 : p < n := h2
    omega
  | f + 1, p, h, h2 => by
    have h2 : (if p < n ∧ q p = true then scn q n f (p + 1) else p) < n := h2
    show q (if p < n ∧ q p = true then scn q n f (p + 1) else p) = false
    by_cases z : p < n ∧ q p = true
    · rw [if_pos z] at h2 ⊢
      exact scn_end q n f (p + 1) (by omega) h2
    · rw [if_neg z] at h2 ⊢
      exact ts_nt' (fun y => z ⟨h2, y⟩)
/-- a length and bytes -/
abbrev Tx : Type := Nat × (Nat → Nat)
def isLD (b : Nat) : Bool := isL b || isD b
def isSp (b : Nat) : Bool := decide (b = 32) || decide (b = 10)
def sgl (c : Nat) : Bool := decide (c ∈ [61, 59, 58, 44, 33, 43, 45, 42, 38, 124, 94])
def nmb (x : Nat → Nat) (a : Nat) : Nat → Nat
  | 0 => 0
  | l + 1 => nmb x a l * 256 + x (a + l)
def val (x : Nat → Nat) (a : Nat) : Nat → Nat
  | 0 => 0
  | l + 1 => 10 * val x a l + x (a + l) - 48
def tPl (T : Tx) (p : Nat) : Nat := scn (fun k => isSp (T.2 k)) T.1 T.1 p
def wEn (T : Tx) (a : Nat) : Nat := scn (fun k => isLD (T.2 k)) T.1 T.1 a
def dEn (T : Tx) (a : Nat) : Nat := scn (fun k => isD (T.2 k)) T.1 T.1 a
def nx (T : Tx) (p : Nat) : Nat := if tPl T p < T.1 then (if isL (T.2 (tPl T p)) then wEn T (tPl T p) else if isD (T.2 (tPl T p)) then dEn T (tPl T p) else tPl T p + 1) else tPl T p
def wK (v : Nat) : Nat := if 29232 ≤ v ∧ v < 29240 then 3 else if v = 28528 then 5 else if v = 1970170228 then 6 else if v = 452824626290 then 7 else 2
/-- what a token is: 0 the end, 1 nothing, 2 a name, 3 a register, 4 a number, 5 to 7 the words of the grammar, else the byte -/
def tK (T : Tx) (p : Nat) : Nat := if tPl T p < T.1 then (if isL (T.2 (tPl T p)) then (if nx T p - tPl T p ≤ 8 then wK (nmb T.2 (tPl T p) (nx T p - tPl T p)) else 1) else if isD (T.2 (tPl T p)) then (if nx T p - tPl T p ≤ 4 then 4 else 1) else if sgl (T.2 (tPl T p)) then T.2 (tPl T p) else 1) else 0
def tV (T : Tx) (p : Nat) : Nat := if isL (T.2 (tPl T p)) then nmb T.2 (tPl T p) (nx T p - tPl T p) - 29232 else val T.2 (tPl T p) (nx T p - tPl T p)
def sb (t : Nat) : Int32 := (nI t).toInt8.toInt32
theorem sb_tab : ∀ t, t < 256 → (sb t &&& 255 = nI t) ∧ (t < 128 → sb t = nI t) ∧ (128 ≤ t → sb t < 0) := by decide +kernel
def TxOK (T : Tx) : Prop := T.1 ≤ 1200 ∧ ∀ k, k < T.1 → T.2 k < 256
def CBuf (T : Tx) (h : Hp) : Prop := h.1 1 0 = nI T.1 ∧ ∀ k, k < T.1 → h.1 2 k = sb (T.2 k)
def CTk (T : Tx) (p : Nat) (h : Hp) : Prop := h.1 1 4 = nI (tPl T p) ∧ h.1 1 2 = nI (nx T p) ∧ h.1 1 3 = nI (tK T p) ∧ (tK T p = 2 → h.2 1 5 = lN (nmb T.2 (tPl T p) (nx T p - tPl T p))) ∧ (tK T p = 3 ∨ tK T p = 4 → h.1 1 6 = nI (tV T p))
def fTk (c j : Nat) : Bool := c == 1 && (j == 2 || j == 3 || j == 4 || j == 5 || j == 6)
section TKC
variable {E : En} {d : Nat} {T : Tx} {h : Hp} {P : Int32 → Hp → Prop} {PV : Hp → Prop}
theorem CBuf.fr {h' : Hp} {X : Nat → Nat → Bool} (a : CBuf T h) (f : Fr X h h') (e0 : X 1 0 = false) (e : ∀ j, X 2 j = false) : CBuf T h' := by
  unfold CBuf
  rw [f.i 1 0 e0, f.f 2 e]
  exact a
theorem tPl_ge (T : Tx) (p : Nat) : p ≤ tPl T p := scn_ge _ _ _ _
theorem tPl_le (T : Tx) {p : Nat} (h : p ≤ T.1) : tPl T p ≤ T.1 := scn_le _ _ _ _ h
theorem nx_le (T : Tx) {p : Nat} (h : p ≤ T.1) : nx T p ≤ T.1 := by
  have := tPl_le T h
  unfold nx
  by_cases q : tPl T p < T.1
  · rw [if_pos q]
    by_cases l : isL (T.2 (tPl T p)) = true
    · rw [if_pos l]; exact scn_le _ _ _ _ this
    · rw [if_neg l]
      by_cases dd : isD (T.2 (tPl T p)) = true
      · rw [if_pos dd]; exact scn_le _ _ _ _ this
      · rw [if_neg dd]; omega
  · rw [if_neg q]; exact this
theorem lt_c {b c : Nat} (hb : b < 256) (hc : c < 128) : (sb b < nI c ↔ (b < c ∨ 128 ≤ b)) := by
  obtain ⟨_, s2, s3⟩ := sb_tab b hb
  rcases Nat.lt_or_ge b 128 with q | q
  · rw [s2 q, nI_ltI (by omega) (by omega)]
    omega
  · constructor
    · intro _; right; exact q
    · intro _
      have z : (0 : Int32) ≤ nI c := nI_le (a := 0) (by omega) (by omega)
      rw [fa_le] at z
      have y := s3 q
      rw [fa_lt] at y ⊢
      omega
theorem c_lt {b c : Nat} (hb : b < 256) (hc : c < 128) : (nI c < sb b ↔ (c < b ∧ b < 128)) := by
  obtain ⟨_, s2, s3⟩ := sb_tab b hb
  rcases Nat.lt_or_ge b 128 with q | q
  · rw [s2 q, nI_ltI (by omega) (by omega)]
    omega
  · constructor
    · intro z
      have y : (0 : Int32) ≤ nI c := nI_le (a := 0) (by omega) (by omega)
      have x := s3 q
      rw [fa_lt] at z x
      rw [fa_le] at y
      omega
    · intro z; omega
theorem eq_c {b c : Nat} (hb : b < 256) (hc : c < 128) : (sb b = nI c ↔ b = c) := by
  obtain ⟨_, s2, s3⟩ := sb_tab b hb
  rcases Nat.lt_or_ge b 128 with q | q
  · rw [s2 q]
    exact nI_eq (by omega) (by omega)
  · constructor
    · intro z
      have x := s3 q
      rw [z] at x
      exact absurd x (nI_n0 (by omega))
    · intro z; omega
theorem c_isL {b : Nat} (hb : b < 256) (t : P (b2i (isL b)) h) : SpI E d MX2_isLetter [.int (sb b)] h P := by
  refine wp_X2_isLetter E d _ h P (ek_if (lt_c (c := 97) hb (by decide)) (fun z => ?_) (fun z => ek_if (c_lt (c := 122) hb (by decide)) (fun y => ?_) (fun y => ?_)))
  · rw [show isL b = false from decide_eq_false (by omega)] at t; exact t
  · rw [show isL b = false from decide_eq_false (by omega)] at t; exact t
  · rw [show isL b = true from decide_eq_true (by omega)] at t; exact t
theorem c_isD {b : Nat} (hb : b < 256) (t : P (b2i (isD b)) h) : SpI E d MX2_isDigit [.int (sb b)] h P := by
  refine wp_X2_isDigit E d _ h P (ek_if (lt_c (c := 48) hb (by decide)) (fun z => ?_) (fun z => ek_if (c_lt (c := 57) hb (by decide)) (fun y => ?_) (fun y => ?_)))
  · rw [show isD b = false from decide_eq_false (by omega)] at t; exact t
  · rw [show isD b = false from decide_eq_false (by omega)] at t; exact t
  · rw [show isD b = true from decide_eq_true (by omega)] at t; exact t
theorem lcmp_z {a b : Nat} (ha : a < 2 ^ 63) (hb : b < 2 ^ 63) : lg_cmp (lN a) (lN b) = 0 ↔ a = b := by
  unfold lg_cmp
  by_cases q : b < a
  · rw [if_pos ((pk_lLT hb ha).mpr q)]
    constructor
    · intro z; exact absurd z (by decide)
    · intro z; omega
  · rw [if_neg (fun z => q ((pk_lLT hb ha).mp z))]
    by_cases e : a = b
    · rw [if_pos (by rw [e])]; simp [e]
    · rw [if_neg (fun z => e ((fb_lN_inj ha hb).mp z))]
      constructor
      · intro z; exact absurd z (by decide)
      · intro z; exact absurd z e
theorem lcmp_l {a b : Nat} (ha : a < 2 ^ 63) (hb : b < 2 ^ 63) : lg_cmp (lN a) (lN b) < 0 ↔ a < b := by
  unfold lg_cmp
  by_cases q : b < a
  · rw [if_pos ((pk_lLT hb ha).mpr q)]
    constructor
    · intro z; exact absurd z (by decide)
    · intro z; omega
  · rw [if_neg (fun z => q ((pk_lLT hb ha).mp z))]
    by_cases e : a = b
    · rw [if_pos (by rw [e])]
      constructor
      · intro z; exact absurd z (by decide)
      · intro z; omega
    · rw [if_neg (fun z => e ((fb_lN_inj ha hb).mp z))]
      constructor
      · intro _; omega
      · intro _; decide
theorem lcmp_g {a b : Nat} (ha : a < 2 ^ 63) (hb : b < 2 ^ 63) : 0 ≤ lg_cmp (lN a) (lN b) ↔ b ≤ a := by
  have := lcmp_l ha hb
  rw [fa_lt] at this
  rw [fa_le]
  have z : (0 : Int32).toInt = 0 := rfl
  omega
theorem nmb_lt (x : Nat → Nat) (a : Nat) : ∀ l, (∀ k, k < l → x (a + k) < 256) → nmb x a l < 256 ^ l
  | 0, _ => Nat.one_pos
  | l + 1, h => by
    have := nmb_lt x a l (fun k hk => h k (by omega))
    have := h l (by omega)
    show nmb x a l * 256 + x (a + l) < 256 ^ (l + 1)
    rw [Nat.pow_succ]
    omega
theorem ld_b {b : Nat} (h : isLD b = true) : 48 ≤ b ∧ b ≤ 122 := by
  unfold isLD isL isD at h
  rw [Bool.or_eq_true, decide_eq_true_iff, decide_eq_true_iff] at h
  omega
/-- the bytes of a word -/
theorem wEn_b (T : Tx) (a : Nat) : ∀ j, a ≤ j → j < wEn T a → isLD (T.2 j) = true := fun j h1 h2 => scn_in (fun k => isLD (T.2 k)) _ _ _ _ h1 h2
theorem c_word {a : Nat} (ok : TxOK T) (cb : CBuf T h) (ha : a < T.1) (e4 : h.1 1 4 = nI a) (e2 : h.1 1 2 = nI a) (t : ∀ h' K, Fr fTk h h' → h'.1 1 4 = nI a → h'.1 1 2 = nI (wEn T a) → h'.1 1 3 = nI K → K = (if wEn T a - a ≤ 8 then wK (nmb T.2 a (wEn T a - a)) else 1) → (K = 2 → h'.2 1 5 = lN (nmb T.2 a (wEn T a - a))) → (K = 3 → h'.1 1 6 = nI (nmb T.2 a (wEn T a - a) - 29232)) → PV h') : SpV E (d + 1) MX2_takeWord [.ref (eA E 1)] h PV := by
  refine wp_X2_takeWord E d h PV (fun ga => ?_)
  have nle := ok.1
  have wle : wEn T a ≤ T.1 := scn_le _ _ _ _ (by omega)
  have wge : a ≤ wEn T a := scn_ge _ _ _ _
  have fin : ∀ h1 : Hp, Fr fTk h h1 → h1.1 1 4 = nI a → h1.1 1 2 = nI (wEn T a) → h1.2 1 5 = lN (nmb T.2 a (wEn T a - a)) → ((((h1.1 1 2) - (h1.1 1 4)) ≤ (8 : Int32) → (((lg_cmp (h1.2 1 5) (29232 : Int64)) < 0 → ((¬ (lg_cmp (h1.2 1 5) (28528 : Int64)) = 0 → ((¬ (lg_cmp (h1.2 1 5) (1970170228 : Int64)) = 0 → ((¬ (lg_cmp (h1.2 1 5) (452824626290 : Int64)) = 0 → (PV (sI h1 1 3 (2 : Int32)))) ∧ ((lg_cmp (h1.2 1 5) (452824626290 : Int64)) = 0 → (PV (sI h1 1 3 (7 : Int32)))))) ∧ ((lg_cmp (h1.2 1 5) (1970170228 : Int64)) = 0 → (PV (sI h1 1 3 (6 : Int32)))))) ∧ ((lg_cmp (h1.2 1 5) (28528 : Int64)) = 0 → (PV (sI h1 1 3 (5 : Int32)))))) ∧ (¬ (lg_cmp (h1.2 1 5) (29232 : Int64)) < 0 → ((0 ≤ (lg_cmp (h1.2 1 5) (29240 : Int64)) → ((¬ (lg_cmp (h1.2 1 5) (28528 : Int64)) = 0 → ((¬ (lg_cmp (h1.2 1 5) (1970170228 : Int64)) = 0 → ((¬ (lg_cmp (h1.2 1 5) (452824626290 : Int64)) = 0 → (PV (sI h1 1 3 (2 : Int32)))) ∧ ((lg_cmp (h1.2 1 5) (452824626290 : Int64)) = 0 → (PV (sI h1 1 3 (7 : Int32)))))) ∧ ((lg_cmp (h1.2 1 5) (1970170228 : Int64)) = 0 → (PV (sI h1 1 3 (6 : Int32)))))) ∧ ((lg_cmp (h1.2 1 5) (28528 : Int64)) = 0 → (PV (sI h1 1 3 (5 : Int32)))))) ∧ (¬ 0 ≤ (lg_cmp (h1.2 1 5) (29240 : Int64)) → (PV (sI (sI h1 1 3 (3 : Int32)) 1 6 (((h1.2 1 5) - (29232 : Int64)).toInt32)))))))) ∧ (¬ ((h1.1 1 2) - (h1.1 1 4)) ≤ (8 : Int32) → (PV (sI h1 1 3 (1 : Int32))))) := by
    intro h1 f k4 k2 k5
    rw [k2, k4, k5, pk_sub wge]
    have leaf : ∀ K, K < 100 → K ≠ 3 → K = (if wEn T a - a ≤ 8 then wK (nmb T.2 a (wEn T a - a)) else 1) → PV (sI h1 1 3 (nI K)) := by
      intro K _ n3 eK
      refine t _ K (f.si rfl) (by rw [sI_j (by decide)]; exact k4) (by rw [sI_j (by decide)]; exact k2) (sI_at _ _ _ _) eK (fun _ => k5) (fun q => absurd q n3)
    refine ek_if (nI_leI (b := 8) (by omega) (by decide)) (fun q8 => ?_) (fun q8 => ?_)
    · rw [if_pos q8] at leaf
      have nl : nmb T.2 a (wEn T a - a) < 2 ^ 63 := by
        have b : ∀ k, k < wEn T a - a → T.2 (a + k) < 128 := fun k hk => by
          have := ld_b (wEn_b T a (a + k) (by omega) (by omega))
          omega
        have c : ∀ l, (∀ k, k < l → T.2 (a + k) < 128) → l ≤ 8 → nmb T.2 a l < 256 ^ l ∧ (l = 8 → nmb T.2 a l < 2 ^ 63) := by
          intro l hl h8
          have n1 := nmb_lt T.2 a l (fun k hk => by have := hl k hk; omega)
          refine ⟨n1, fun e => ?_⟩
          subst e
          have n7 := nmb_lt T.2 a 7 (fun k hk => by have := hl k (by omega); omega)
          have e1 : nmb T.2 a 8 = nmb T.2 a 7 * 256 + T.2 (a + 7) := rfl
          have e2 : nmb T.2 a 7 = nmb T.2 a 6 * 256 + T.2 (a + 6) := rfl
          have e3 : nmb T.2 a 6 = nmb T.2 a 5 * 256 + T.2 (a + 5) := rfl
          have e4 : nmb T.2 a 5 = nmb T.2 a 4 * 256 + T.2 (a + 4) := rfl
          have e5 : nmb T.2 a 4 = nmb T.2 a 3 * 256 + T.2 (a + 3) := rfl
          have e6 : nmb T.2 a 3 = nmb T.2 a 2 * 256 + T.2 (a + 2) := rfl
          have e7 : nmb T.2 a 2 = nmb T.2 a 1 * 256 + T.2 (a + 1) := rfl
          have e8 : nmb T.2 a 1 = 0 * 256 + T.2 (a + 0) := rfl
          have := hl 0 (by omega)
          have := hl 1 (by omega)
          have := hl 2 (by omega)
          have := hl 3 (by omega)
          have := hl 4 (by omega)
          have := hl 5 (by omega)
          have := hl 6 (by omega)
          have := hl 7 (by omega)
          omega
        obtain ⟨c1, c2⟩ := c _ b q8
        by_cases e : wEn T a - a = 8
        · exact c2 e
        · refine Nat.lt_of_lt_of_le c1 (Nat.le_trans (Nat.pow_le_pow_right (by decide) (show wEn T a - a ≤ 7 by omega)) (by decide))
      have words : ¬ (29232 ≤ nmb T.2 a (wEn T a - a) ∧ nmb T.2 a (wEn T a - a) < 29240) → ((¬ (lg_cmp (lN (nmb T.2 a (wEn T a - a))) (28528 : Int64)) = 0 → ((¬ (lg_cmp (lN (nmb T.2 a (wEn T a - a))) (1970170228 : Int64)) = 0 → ((¬ (lg_cmp (lN (nmb T.2 a (wEn T a - a))) (452824626290 : Int64)) = 0 → (PV (sI h1 1 3 (2 : Int32)))) ∧ ((lg_cmp (lN (nmb T.2 a (wEn T a - a))) (452824626290 : Int64)) = 0 → (PV (sI h1 1 3 (7 : Int32)))))) ∧ ((lg_cmp (lN (nmb T.2 a (wEn T a - a))) (1970170228 : Int64)) = 0 → (PV (sI h1 1 3 (6 : Int32)))))) ∧ ((lg_cmp (lN (nmb T.2 a (wEn T a - a))) (28528 : Int64)) = 0 → (PV (sI h1 1 3 (5 : Int32))))) := by
        intro nr
        unfold wK at leaf
        rw [if_neg nr] at leaf
        refine bj_if (lcmp_z (b := 28528) nl (by decide)) (fun z1 => ?_) (fun z1 => leaf 5 (by decide) (by decide) (by rw [if_pos z1]))
        rw [if_neg z1] at leaf
        refine bj_if (lcmp_z (b := 1970170228) nl (by decide)) (fun z2 => ?_) (fun z2 => leaf 6 (by decide) (by decide) (by rw [if_pos z2]))
        rw [if_neg z2] at leaf
        exact bj_if (lcmp_z (b := 452824626290) nl (by decide)) (fun z3 => leaf 2 (by decide) (by decide) (by rw [if_neg z3])) (fun z3 => leaf 7 (by decide) (by decide) (by rw [if_pos z3]))
      refine ek_if (lcmp_l (b := 29232) nl (by decide)) (fun z => words (by omega)) (fun z => ek_if (lcmp_g (b := 29240) nl (by decide)) (fun y => words (by omega)) (fun y => ?_))
      have r : 29232 ≤ nmb T.2 a (wEn T a - a) ∧ nmb T.2 a (wEn T a - a) < 29240 := by omega
      refine t _ 3 ((f.si rfl).si rfl) (by rw [sI_j (by decide), sI_j (by decide)]; exact k4) (by rw [sI_j (by decide), sI_j (by decide)]; exact k2) (by rw [sI_j (by decide)]; exact sI_at _ _ _ _) (by rw [if_pos q8]; unfold wK; rw [if_pos r]) (fun q => absurd q (by decide)) (fun _ => ?_)
      rw [sI_at, show (29232 : Int64) = lN 29232 from rfl, lN_sub r.1, lN_i]
    · exact leaf 1 (by decide) (by decide) (by rw [if_neg q8])
  have loop : ∀ f p, T.1 ≤ p + f → p ≤ T.1 → a ≤ p → scn (fun k => isLD (T.2 k)) T.1 f p = wEn T a → ∀ h1, Fr fTk h h1 → h1.1 1 4 = nI a → h1.1 1 2 = nI p → h1.2 1 5 = lN (nmb T.2 a (p - a)) → VX2_takeWord_5 E d ga PV h1 := by
    intro f
    induction f with
    | zero =>
      intro p hf hp hap es h1 fr k4 k2 k5
      have es : p = wEn T a := es
      have cb1 := cb.fr fr rfl (fun _ => rfl)
      refine sg_X2_takeWord_5 E d ga h1 PV ?_
      refine br_t (by rw [k2, cb1.1]; exact nI_le (by omega) (by omega)) (fin h1 fr k4 (by rw [k2, es]) (by rw [k5, es]))
    | succ f ih =>
      intro p hf hp hap es h1 fr k4 k2 k5
      have es : (if p < T.1 ∧ isLD (T.2 p) = true then scn (fun k => isLD (T.2 k)) T.1 f (p + 1) else p) = wEn T a := es
      have cb1 := cb.fr fr rfl (fun _ => rfl)
      refine sg_X2_takeWord_5 E d ga h1 PV ?_
      by_cases q : p < T.1
      · have hb := ok.2 p q
        have v : vp_in (h1.1 1 2) 1200 := by rw [k2]; exact vp_in_nI (by omega) (by decide)
        have eb : h1.1 2 ((h1.1 1 2).toNatClampNeg) = sb (T.2 p) := by rw [k2, nI_clamp (by omega)]; exact cb1.2 p q
        have step : isLD (T.2 p) = true → VX2_takeWord_5 E d ga PV (sI (sL h1 1 5 (((h1.2 1 5) <<< ((8 : Int32).toInt64 &&& 63)) ||| ((h1.1 2 ((h1.1 1 2).toNatClampNeg)).toInt64))) 1 2 ((h1.1 1 2) + (1 : Int32))) := by
          intro ld
          rw [if_pos ⟨q, ld⟩] at es
          have b7 := ld_b ld
          refine ih (p + 1) (by omega) (by omega) (by omega) es _ ((fr.sl rfl).si rfl) ?_ ?_ ?_
          · rw [sI_j (by decide), sL_1]; exact k4
          · rw [sI_at, k2, nI_1]
          · rw [sI_2, sL_2, if_pos rfl, eb, k5, show (8 : Int32) = nI 8 from rfl, wb_shl _ (by decide), (sb_tab _ hb).2.1 (by omega), nI_l (by omega), show nmb T.2 a (p - a) * 2 ^ 8 = 2 ^ 8 * nmb T.2 a (p - a) by omega, fb_or_sumL _ (by omega)]
            have e1 : nmb T.2 a (p + 1 - a) = nmb T.2 a (p - a) * 256 + T.2 (a + (p - a)) := by rw [show p + 1 - a = (p - a) + 1 by omega]; rfl
            rw [e1, show a + (p - a) = p by omega]
            simp only [vp_updL, if_pos]
            congr 1
            omega
        refine br_f (by rw [k2, cb1.1]; exact nI_ge q (by omega)) ⟨v, ?_⟩
        rw [eb] at step ⊢
        refine c_isL hb (bj_if (b2i_0 _) (fun z => ⟨v, ?_⟩) (fun z => ⟨v, ?_⟩))
        · rw [eb]
          exact step (by unfold isLD; rw [ts_nf' z]; rfl)
        · rw [eb]
          refine c_isD hb (ek_if (b2i_0 _) (fun y => ?_) (fun y => ⟨v, ?_⟩))
          · have nl : ¬ (p < T.1 ∧ isLD (T.2 p) = true) := fun x => by
              have := x.2
              unfold isLD at this
              rw [z, y] at this
              cases this
            rw [if_neg nl] at es
            exact fin h1 fr k4 (by rw [k2, es]) (by rw [k5, es])
          · rw [eb]
            exact step (by unfold isLD; rw [ts_nf' y, Bool.or_true])
      · have e : p = T.1 := by omega
        rw [if_neg (fun x => q x.1)] at es
        refine br_t (by rw [k2, cb1.1, e]; exact nI_le (Nat.le_refl _) (by omega)) (fin h1 fr k4 (by rw [k2, es]) (by rw [k5, es]))
  refine loop T.1 a (by omega) (by omega) (Nat.le_refl _) rfl _ ((Fr.refl h).sl rfl) e4 e2 ?_
  rw [sL_2, if_pos rfl, Nat.sub_self]
  simp only [vp_updL, if_pos]
  rfl
end TKC
