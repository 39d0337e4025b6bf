/-! the source, the state and their pictures in the cells -/
/-- operations; their units, targets, kinds, first and second operands (a register, or 8 + a constant); letters of the names (12 + i: instruction i); instructions; their lengths; their rows -/
abbrev SD : Type := Nat × (Nat → Nat) × (Nat → Nat) × (Nat → Nat) × (Nat → Nat) × (Nat → Nat) × (Nat → Nat → Nat) × Nat × (Nat → Nat) × (Nat → Nat → Nat)
def dN (D : SD) : Nat := D.1
def dU (D : SD) : Nat → Nat := D.2.1
def dT (D : SD) : Nat → Nat := D.2.2.1
def dK (D : SD) : Nat → Nat := D.2.2.2.1
def dA (D : SD) : Nat → Nat := D.2.2.2.2.1
def dB (D : SD) : Nat → Nat := D.2.2.2.2.2.1
def dM (D : SD) : Nat → Nat → Nat := D.2.2.2.2.2.2.1
def dI (D : SD) : Nat := D.2.2.2.2.2.2.2.1
def dL (D : SD) : Nat → Nat := D.2.2.2.2.2.2.2.2.1
def dR (D : SD) : Nat → Nat → Nat := D.2.2.2.2.2.2.2.2.2
/-- the mode, and the marks of each instruction as a mask -/
abbrev ST : Type := Nat × (Nat → Nat)
def sM (S : ST) : Nat := S.1
def sK (S : ST) : Nat → Nat := S.2
/-- the index behind the segment that has index k -/
def sgE (mk : Nat → Bool) (last : Nat) : Nat → Nat → Nat
  | 0, k => k + 1
  | f + 1, k => if k < last ∧ mk k = false then sgE mk last f (k + 1) else k + 1
def sEnd (D : SD) (S : ST) (i k : Nat) : Nat := sgE (fun j => (sK S i).testBit j) (dL D i - 1) 24 k
def NmOK (f : Nat → Nat) : Prop := 0 < f 0 ∧ (∀ k, k < 8 → f k < 128) ∧ ∀ k, k + 1 < 8 → f k = 0 → f (k + 1) = 0
def Wf (D : SD) : Prop := dN D ≤ 12 ∧ (∀ m, m < dN D → dU D m < 6 ∧ dT D m < 8 ∧ dK D m < 7 ∧ dA D m < 10008 ∧ dB D m < 10008) ∧ dI D ≤ 8 ∧ (∀ i, i < dI D → 0 < dL D i ∧ dL D i ≤ 24 ∧ ∀ k, k < dL D i → dR D i k < dN D) ∧ (∀ m, m < dN D → NmOK (dM D m)) ∧ ∀ i, i < dI D → NmOK (dM D (12 + i))
def WfS (D : SD) (S : ST) : Prop := sM S ≤ 2 ∧ ∀ i, i < dI D → sK S i < 2 ^ 24 ∧ ∀ k, k < dL D i → sEnd D S i k ≤ k + 10
def rd (D : SD) (m : Nat) : Nat := (if dA D m < 8 then 2 ^ dA D m else 0) ||| (if 0 < dK D m ∧ dB D m < 8 then 2 ^ dB D m else 0)
/-- the operation b, later, depends strictly on a; weakly -/
def isS (D : SD) (a b : Nat) : Bool := (rd D b).testBit (dT D a) || decide (dT D a = dT D b)
def isW (D : SD) (a b : Nat) : Bool := !isS D a b && (rd D a).testBit (dT D b)
/-- an operand in the class -/
def opc (a : Nat) : Int32 := if a < 8 then nI a ^^^ (-1 : Int32) else nI (a - 8)
/-- a name as a number -/
def nmF (f : Nat → Nat) : Nat → Nat
  | 0 => 0
  | k + 1 => if f k = 0 then nmF f k else nmF f k * 256 + f k
def nmN (f : Nat → Nat) : Nat := nmF f 8
def RSrc (D : SD) (h : Hp) : Prop := h.1 63 1 = nI (dN D) ∧ h.1 63 2 = nI (dI D) ∧ (∀ m, m < dN D → h.1 64 (5 * m) = nI (dU D m) ∧ h.1 64 (5 * m + 1) = nI (dT D m) ∧ h.1 64 (5 * m + 2) = nI (dK D m) ∧ h.1 64 (5 * m + 3) = nI (dA D m) ∧ (0 < dK D m → h.1 64 (5 * m + 4) = nI (dB D m))) ∧ (∀ m, m < dN D → ∀ k, k < 8 → h.1 65 (8 * m + k) = nI (dM D m k)) ∧ (∀ i, i < dI D → ∀ k, k < 8 → h.1 65 (8 * (12 + i) + k) = nI (dM D (12 + i) k)) ∧ ∀ i, i < dI D → h.1 66 i = nI (dL D i) ∧ ∀ k, k < dL D i → h.1 67 (24 * i + k) = nI (dR D i k)
def RSt (D : SD) (S : ST) (h : Hp) : Prop := h.1 68 0 = nI (sM S) ∧ ∀ i, i < dI D → h.1 68 (1 + i) = nI (sK S i)
def CSrc (D : SD) (h : Hp) : Prop := h.1 5 0 = nI (dN D) ∧ h.1 5 8 = nI (dI D) ∧ (∀ m, m < dN D → h.1 7 m = nI (dU D m) ∧ h.1 8 m = nI (dT D m) ∧ h.1 9 m = nI (dK D m) ∧ h.1 10 m = opc (dA D m) ∧ h.1 11 m = (if dK D m = 0 then 0 else opc (dB D m)) ∧ h.1 12 m = nI (rd D m) ∧ h.2 6 m = lN (nmN (dM D m))) ∧ ∀ i, i < dI D → h.2 13 i = lN (nmN (dM D (12 + i))) ∧ h.1 14 i = nI (dL D i) ∧ ∀ k, k < dL D i → h.1 15 (24 * i + k) = nI (dR D i k)
def CSt (D : SD) (S : ST) (h : Hp) : Prop := h.1 0 10 = nI (sM S) ∧ ∀ i, i < dI D → ∀ k, k < dL D i → h.1 16 (24 * i + k) = if (sK S i).testBit k then 1 else 0
/-- which cells each of them speaks of -/
def isSrcR (c j : Nat) : Bool := (c == 63 && (j == 1 || j == 2)) || c == 64 || c == 65 || c == 66 || c == 67
def isSrcC (c j : Nat) : Bool := (c == 5 && (j == 0 || j == 8)) || (6 ≤ c && c ≤ 15)
theorem RSrc.fr {D : SD} {h h' : Hp} {X : Nat → Nat → Bool} (r : RSrc D h) (f : Fr X h h') (a : ∀ c j, isSrcR c j = true → X c j = false) : RSrc D h' := by
  have e1 := f.i 63 1 (a 63 1 rfl)
  have e2 := f.i 63 2 (a 63 2 rfl)
  have e64 := f.f 64 (fun j => a 64 j rfl)
  have e65 := f.f 65 (fun j => a 65 j rfl)
  have e66 := f.f 66 (fun j => a 66 j rfl)
  have e67 := f.f 67 (fun j => a 67 j rfl)
  unfold RSrc
  rw [e1, e2, e64, e65, e66, e67]
  exact r
theorem CSrc.fr {D : SD} {h h' : Hp} {X : Nat → Nat → Bool} (r : CSrc D h) (f : Fr X h h') (a : ∀ c j, isSrcC c j = true → X c j = false) : CSrc D h' := by
  have e1 := f.i 5 0 (a 5 0 rfl)
  have e2 := f.i 5 8 (a 5 8 rfl)
  have e6 := f.g 6 (fun j => a 6 j rfl)
  have e7 := f.f 7 (fun j => a 7 j rfl)
  have e8 := f.f 8 (fun j => a 8 j rfl)
  have e9 := f.f 9 (fun j => a 9 j rfl)
  have e10 := f.f 10 (fun j => a 10 j rfl)
  have e11 := f.f 11 (fun j => a 11 j rfl)
  have e12 := f.f 12 (fun j => a 12 j rfl)
  have e13 := f.g 13 (fun j => a 13 j rfl)
  have e14 := f.f 14 (fun j => a 14 j rfl)
  have e15 := f.f 15 (fun j => a 15 j rfl)
  unfold CSrc
  rw [e1, e2, e6, e7, e8, e9, e10, e11, e12, e13, e14, e15]
  exact r
theorem RSt.fr {D : SD} {S : ST} {h h' : Hp} {X : Nat → Nat → Bool} (r : RSt D S h) (f : Fr X h h') (a : ∀ j, X 68 j = false) : RSt D S h' := by
  unfold RSt
  rw [f.f 68 a]
  exact r
theorem CSt.fr {D : SD} {S : ST} {h h' : Hp} {X : Nat → Nat → Bool} (r : CSt D S h) (f : Fr X h h') (a0 : X 0 10 = false) (a : ∀ j, X 16 j = false) : CSt D S h' := by
  unfold CSt
  rw [f.f 16 a, f.i 0 10 a0]
  exact r
/-- what an operation does to the registers -/
def opd (a : Nat) (f : Nat → Int32) : Int32 := if a < 8 then f a else nI (a - 8)
def comb (k : Nat) (x y : Int32) : Int32 := if k = 0 then x else if k = 1 then x + y else if k = 2 then x - y else if k = 3 then x * y else if k = 4 then x &&& y else if k = 5 then x ||| y else x ^^^ y
def opv (D : SD) (m : Nat) (f : Nat → Int32) : Int32 := comb (dK D m) (opd (dA D m) f) (if dK D m = 0 then 0 else opd (dB D m) f)
def exT (D : SD) (s : Nat) (v : Nat → Int32) (f : Nat → Int32) : Nat → (Nat → Int32)
  | 0 => f
  | n + 1 => if s.testBit n then upd (exT D s v f n) (dT D n) (v n) else exT D s v f n
/-- a word: all operands are read before any target is written -/
def ex (D : SD) (s : Nat) (f : Nat → Int32) : Nat → Int32 := exT D s (fun m => opv D m f) f 12
/-- the source of an instruction, up to an index -/
def sqX (D : SD) (i : Nat) (f : Nat → Int32) : Nat → (Nat → Int32)
  | 0 => f
  | k + 1 => upd (sqX D i f k) (dT D (dR D i k)) (opv D (dR D i k) (sqX D i f k))
theorem exT_out (D : SD) (s : Nat) (v f : Nat → Int32) (n : Nat) (h : ∀ m, n ≤ m → s.testBit m = false) : ∀ k, exT D s v f (n + k) = exT D s v f n
  | 0 => rfl
  | k + 1 => by
    show (if s.testBit (n + k) then _ else _) = _
    rw [h (n + k) (by omega)]
    exact exT_out D s v f n h k
theorem exT_none (D : SD) (s : Nat) (v f : Nat → Int32) : ∀ n, (∀ m, m < n → s.testBit m = false) → exT D s v f n = f
  | 0, _ => rfl
  | n + 1, h => by
    show (if s.testBit n then _ else _) = _
    rw [h n (by omega)]
    exact exT_none D s v f n (fun m hm => h m (by omega))
theorem ex_one (D : SD) {m : Nat} (hm : m < 12) (f : Nat → Int32) : ex D (2 ^ m) f = upd f (dT D m) (opv D m f) := by
  unfold ex
  rw [show 12 = (m + 1) + (11 - m) by omega, exT_out D _ _ _ (m + 1) (fun j hj => by rw [p2_bit]; exact decide_eq_false (by omega))]
  show (if (2 ^ m).testBit m then _ else _) = _
  rw [p2_bit, decide_eq_true rfl, exT_none D _ _ _ m (fun j hj => by rw [p2_bit]; exact decide_eq_false (by omega))]
  rfl
theorem exT_hi (D : SD) (s : Nat) (v f : Nat → Int32) {r : Nat} : ∀ n, (∀ m, m < n → s.testBit m = true → dT D m ≠ r) → exT D s v f n r = f r
  | 0, _ => rfl
  | n + 1, h => by
    show (if s.testBit n then _ else _ : Nat → Int32) r = _
    cases hb : s.testBit n with
    | false => exact exT_hi D s v f n (fun m hm => h m (by omega))
    | true =>
      show upd _ _ _ r = _
      rw [pk_un (fun e => h n (by omega) hb e.symm)]
      exact exT_hi D s v f n (fun m hm => h m (by omega))
