/-! base of the mathematics: frames, branches, masks as natural numbers -/
def Fr (S : Nat → Nat → Bool) (h h' : Hp) : Prop := ∀ c j : Nat, S c j = false → h'.1 c j = h.1 c j ∧ h'.2 c j = h.2 c j
theorem Fr.refl {S : Nat → Nat → Bool} (h : Hp) : Fr S h h := fun _ _ _ => ⟨rfl, rfl⟩
theorem Fr.trans {S : Nat → Nat → Bool} {h h1 h2 : Hp} (a : Fr S h h1) (b : Fr S h1 h2) : Fr S h h2 := fun c j e => ⟨(b c j e).1.trans (a c j e).1, (b c j e).2.trans (a c j e).2⟩
theorem Fr.mono {S S2 : Nat → Nat → Bool} {h h' : Hp} (a : Fr S h h') (e : ∀ c j, S2 c j = false → S c j = false) : Fr S2 h h' := fun c j q => a c j (e c j q)
theorem Fr.i {S : Nat → Nat → Bool} {h h' : Hp} (a : Fr S h h') (c j : Nat) (e : S c j = false) : h'.1 c j = h.1 c j := (a c j e).1
theorem Fr.f {S : Nat → Nat → Bool} {h h' : Hp} (a : Fr S h h') (c : Nat) (e : ∀ j, S c j = false) : h'.1 c = h.1 c := funext fun j => (a c j (e j)).1
theorem Fr.g {S : Nat → Nat → Bool} {h h' : Hp} (a : Fr S h h') (c : Nat) (e : ∀ j, S c j = false) : h'.2 c = h.2 c := funext fun j => (a c j (e j)).2
theorem Fr.si {S : Nat → Nat → Bool} {h h' : Hp} (a : Fr S h h') {c j : Nat} {v : Int32} (e : S c j = true) : Fr S h (sI h' c j v) := by
  intro c2 j2 q
  refine ⟨?_, (a c2 j2 q).2⟩
  rw [← (a c2 j2 q).1]
  by_cases hc : c2 = c
  · subst hc
    have hj : j2 ≠ j := fun z => by subst z; rw [e] at q; cases q
    simp [sI, va_up, upd, hj]
  · simp [sI, va_up, hc]
theorem Fr.sl {S : Nat → Nat → Bool} {h h' : Hp} (a : Fr S h h') {c j : Nat} {v : Int64} (e : S c j = true) : Fr S h (sL h' c j v) := by
  intro c2 j2 q
  refine ⟨(a c2 j2 q).1, ?_⟩
  rw [← (a c2 j2 q).2]
  by_cases hc : c2 = c
  · subst hc
    have hj : j2 ≠ j := fun z => by subst z; rw [e] at q; cases q
    simp [sL, va_up, vp_updL, hj]
  · simp [sL, va_up, hc]
theorem Fr.sa {S : Nat → Nat → Bool} {h h' : Hp} (a : Fr S h h') {c : Nat} {f : Nat → Int32} (e : ∀ j, S c j = true) : Fr S h (sA h' c f) := by
  intro c2 j2 q
  refine ⟨?_, (a c2 j2 q).2⟩
  rw [← (a c2 j2 q).1]
  by_cases hc : c2 = c
  · subst hc
    rw [e j2] at q; cases q
  · simp [sA, va_up, hc]
theorem sI_1 (h : Hp) (c j : Nat) (v : Int32) (c2 : Nat) : (sI h c j v).1 c2 = if c2 = c then upd (h.1 c) j v else h.1 c2 := rfl
theorem sI_s (h : Hp) (c j : Nat) (v : Int32) : (sI h c j v).1 c = upd (h.1 c) j v := by simp [sI, va_up]
theorem sI_n (h : Hp) (c j : Nat) (v : Int32) {c2 : Nat} (hc : c2 ≠ c) : (sI h c j v).1 c2 = h.1 c2 := by simp [sI, va_up, hc]
theorem sI_at (h : Hp) (c j : Nat) (v : Int32) : (sI h c j v).1 c j = v := by simp [sI, va_up, upd]
theorem sI_2 (h : Hp) (c j : Nat) (v : Int32) : (sI h c j v).2 = h.2 := rfl
theorem sL_1 (h : Hp) (c j : Nat) (v : Int64) : (sL h c j v).1 = h.1 := rfl
theorem sL_2 (h : Hp) (c j : Nat) (v : Int64) (c2 : Nat) : (sL h c j v).2 c2 = if c2 = c then vp_updL (h.2 c) j v else h.2 c2 := rfl
theorem sA_1 (h : Hp) (c : Nat) (f : Nat → Int32) (c2 : Nat) : (sA h c f).1 c2 = if c2 = c then f else h.1 c2 := rfl
theorem sA_2 (h : Hp) (c : Nat) (f : Nat → Int32) : (sA h c f).2 = h.2 := rfl
theorem upd_1 (f : Nat → Int32) (k : Nat) (x : Int32) (j : Nat) : upd f k x j = if j = k then x else f j := rfl
/-- the other order of a branch -/
theorem bq_t {c A B : Prop} (h : c) (b : B) : (¬ c → A) ∧ (c → B) := ⟨fun n => absurd h n, fun _ => b⟩
theorem bq_f {c A B : Prop} (h : ¬ c) (a : A) : (¬ c → A) ∧ (c → B) := ⟨fun _ => a, fun q => absurd q h⟩
theorem bi_t {c d A B : Prop} (e : c ↔ d) (h : d) (a : A) : (c → A) ∧ (¬ c → B) := ⟨fun _ => a, fun n => absurd (e.mpr h) n⟩
theorem bi_f {c d A B : Prop} (e : c ↔ d) (h : ¬ d) (b : B) : (c → A) ∧ (¬ c → B) := ⟨fun q => absurd (e.mp q) h, fun _ => b⟩
theorem bj_if {c d A B : Prop} (e : c ↔ d) (f : ¬ d → A) (g : d → B) : (¬ c → A) ∧ (c → B) := ⟨fun n => f (fun q => n (e.mpr q)), fun q => g (e.mp q)⟩
/-- numbers -/
theorem nI_sub' {a b : Nat} (h : b ≤ a) : nI a - nI b = nI (a - b) := pk_sub h
theorem sh1 : ∀ l : Nat, l < 31 → (1 : Int32) <<< (nI l &&& 31) = nI (2 ^ l) := by decide +kernel
theorem bt_nI (n : Nat) {i : Nat} (hi : i < 32) : bt (nI n) i = n.testBit i := by
  show (BitVec.ofNat 32 n).getLsbD i = _
  rw [BitVec.getLsbD_ofNat]
  simp [hi]
def dif (a b : Nat) : Nat := a ^^^ (a &&& b)
theorem dif_bit (a b i : Nat) : (dif a b).testBit i = (a.testBit i && !b.testBit i) := by
  unfold dif
  rw [Nat.testBit_xor, Nat.testBit_and]
  cases a.testBit i <;> cases b.testBit i <;> rfl
theorem nI_dif (a b : Nat) : nI a &&& (nI b ^^^ (-1 : Int32)) = nI (dif a b) := by
  apply b_ext
  intro i hi
  rw [b_and, b_xor, b_m1 i hi, bt_nI _ hi, bt_nI _ hi, bt_nI _ hi, dif_bit]
  cases b.testBit i <;> simp
theorem nI_or (a b : Nat) : nI a ||| nI b = nI (a ||| b) := fa_or a b
theorem nI_and (a b : Nat) : nI a &&& nI b = nI (a &&& b) := fa_and a b
theorem dif_0 {a b : Nat} : dif a b = 0 ↔ ∀ i, a.testBit i = true → b.testBit i = true := by
  constructor
  · intro h i hi
    have := dif_bit a b i
    rw [h, Nat.zero_testBit, hi] at this
    cases hb : b.testBit i with
    | true => rfl
    | false => rw [hb] at this; cases this
  · intro h
    apply Nat.eq_of_testBit_eq
    intro i
    rw [dif_bit, Nat.zero_testBit]
    cases ha : a.testBit i with
    | false => rfl
    | true => rw [h i ha]; rfl
theorem dif_le (a b : Nat) : dif a b ≤ a := by
  have e : dif a b = a &&& dif a b := by
    apply Nat.eq_of_testBit_eq
    intro i
    rw [Nat.testBit_and, dif_bit]
    cases a.testBit i <;> rfl
  rw [e]
  exact Nat.and_le_left
theorem tb_lt {a n i : Nat} (h : a < 2 ^ n) (hi : n ≤ i) : a.testBit i = false := Nat.testBit_lt_two_pow (Nat.lt_of_lt_of_le h (Nat.pow_le_pow_right (by decide) hi))
theorem or_lt {a b n : Nat} (ha : a < 2 ^ n) (hb : b < 2 ^ n) : a ||| b < 2 ^ n := Nat.or_lt_two_pow ha hb
theorem p2_lt {i n : Nat} (h : i < n) : 2 ^ i < 2 ^ n := Nat.pow_lt_pow_right (by decide) h
theorem p2_bit (i j : Nat) : (2 ^ i).testBit j = decide (i = j) := by rw [Nat.testBit_two_pow]
/-- a bit asked for by 1 << m -/
theorem bitA {s m : Nat} (hm : m < 31) : (nI s &&& ((1 : Int32) <<< (nI m &&& 31))) = 0 ↔ s.testBit m = false := by
  rw [sh1 m hm]; exact fa_bit hm
/-- a bit asked for by >> m & 1 -/
theorem bitB {s m : Nat} (hs : s < 2 ^ 31) (hm : m < 31) : ((nI s >>> (nI m &&& 31)) &&& (1 : Int32)) = (1 : Int32) ↔ s.testBit m = true := by
  rw [pk_shrN hs _ m (s_l m (by omega)), show (1 : Int32) = nI (2 ^ 1 - 1) from rfl, fa_mask, show nI (2 ^ 1 - 1) = nI 1 from rfl, nI_eq (by omega) (by decide), Nat.testBit_eq_decide_div_mod_eq]
  simp
theorem bitB0 {s m : Nat} (hs : s < 2 ^ 31) (hm : m < 31) : ((nI s >>> (nI m &&& 31)) &&& (1 : Int32)) = 0 ↔ s.testBit m = false := by
  rw [pk_shrN hs _ m (s_l m (by omega)), show (1 : Int32) = nI (2 ^ 1 - 1) from rfl, fa_mask, show (0 : Int32) = nI 0 from rfl, nI_eq (by omega) (by decide), Nat.testBit_eq_decide_div_mod_eq]
  simp
theorem vin {x : Int32} {n N : Nat} (e : x = nI n) (h : n < N) (hN : N < 2 ^ 31) : vp_in x N := by rw [e]; exact vp_in_nI h hN
theorem bI (b : Bool) : (if b then (1 : Int32) else 0) = 0 ↔ b = false := by cases b <;> decide
theorem bI1 (b : Bool) : (if b then (1 : Int32) else 0) = 1 ↔ b = true := by cases b <;> decide
theorem nI_m1 {n : Nat} (h : n < 2 ^ 31) : ¬ nI n = (-1 : Int32) := by
  intro e
  have := congrArg Int32.toInt e
  rw [nI_toInt h] at this
  have h2 : (-1 : Int32).toInt = -1 := by decide
  rw [h2] at this
  omega
theorem nI_inj {a b : Nat} (ha : a < 2 ^ 31) (hb : b < 2 ^ 31) (e : nI a = nI b) : a = b := (nI_eq ha hb).mp e
/-- a bounded loop upwards -/
theorem up_ind {P : Nat → Prop} (e : Nat) (hx : P e) (hs : ∀ i, i < e → P (i + 1) → P i) : ∀ i, i ≤ e → P i := by
  intro i hi
  obtain ⟨k, rfl⟩ : ∃ k, e = i + k := ⟨e - i, by omega⟩
  induction k generalizing i with
  | zero => exact hx
  | succ k ih => exact hs i (by omega) (ih (i + 1) (by rw [show i + 1 + k = i + (k + 1) by omega]; exact hx) (fun j hj => hs j (by omega)) (by omega))
theorem ts_nf' {x : Bool} (h : ¬ x = false) : x = true := by cases x with
  | true => rfl
  | false => exact absurd rfl h
theorem ts_nt' {x : Bool} (h : ¬ x = true) : x = false := by cases x with
  | false => rfl
  | true => exact absurd rfl h
theorem sI_j {h : Hp} {c p q : Nat} {v : Int32} {c2 : Nat} (hq : q ≠ p) : (sI h c p v).1 c2 q = h.1 c2 q := by
  rw [sI_1]
  by_cases e : c2 = c
  · rw [if_pos e, upd_1, if_neg hq, e]
  · rw [if_neg e]
theorem lt_bit {x y : Nat} (i : Nat) (hx : x.testBit i = false) (hy : y.testBit i = true) (h : ∀ j, i < j → x.testBit j = y.testBit j) : x < y := by
  have e : x / 2 ^ (i + 1) = y / 2 ^ (i + 1) := by
    apply Nat.eq_of_testBit_eq
    intro j
    rw [← Nat.shiftRight_eq_div_pow, ← Nat.shiftRight_eq_div_pow, Nat.testBit_shiftRight, Nat.testBit_shiftRight]
    exact h _ (by omega)
  rw [Nat.testBit_eq_decide_div_mod_eq, decide_eq_false_iff_not] at hx
  rw [Nat.testBit_eq_decide_div_mod_eq, decide_eq_true_iff] at hy
  rw [Nat.pow_succ, ← Nat.div_div_eq_div_mul, ← Nat.div_div_eq_div_mul] at e
  have lt : x / 2 ^ i < y / 2 ^ i := by omega
  rcases Nat.lt_or_ge x y with q | q
  · exact q
  · have := Nat.div_le_div_right (c := 2 ^ i) q
    omega
