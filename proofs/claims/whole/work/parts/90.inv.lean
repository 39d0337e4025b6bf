/-! what holds between two calls -/
def b1 (c j : Nat) : Bool := isSrcC c j || isSrcR c j || (c == 0 && j == 10) || c == 16 || c == 68
def b2 (c j : Nat) : Bool := (41 ≤ c && c ≤ 45) || (74 ≤ c && c ≤ 82) || (47 ≤ c && c ≤ 50) || (c == 46 && j == 4) || (c == 63 && j == 26)
def b3 (c j : Nat) : Bool := (51 ≤ c && c ≤ 54) || c == 85 || (c == 63 && (j == 30 || j == 31))
def b4 (c j : Nat) : Bool := c == 30 || c == 31 || c == 86 || (c == 29 && j == 2) || (c == 63 && j == 33)
def b5 (c j : Nat) : Bool := c == 2 || c == 91 || (c == 1 && j == 0) || (c == 63 && j == 41)
def b6 (c j : Nat) : Bool := c == 4 || c == 92 || (c == 3 && j == 1) || (c == 63 && j == 43)
def b7 (c j : Nat) : Bool := c == 59 || c == 87 || (c == 58 && j == 1) || (c == 63 && j == 38)
def b8 (c j : Nat) : Bool := c == 39 || (c == 32 && j == 10)
def B1 (D : SD) (S : ST) (h : Hp) : Prop := CSrc D h ∧ RSrc D h ∧ CSt D S h ∧ RSt D S h
def B2 (D : SD) (S : ST) (Q : SO) (h : Hp) : Prop := (∀ i, i < dI D → WI D S i h) ∧ RW D S (dI D) h ∧ CSto D Q h ∧ RSto D Q h
def B3 (Q : SO) (h : Hp) : Prop := (h.1 51 0 = 0 ∨ (h.1 51 0 = 1 ∧ FldC (fl Q) h)) ∧ FldR (fl Q) h
def B4 (D : SD) (S : ST) (N : Nat) (hs : Nat → ST) (h : Hp) : Prop := Hist D N hs h ∧ hs N = S
def B5 (n0 : Nat) (h : Hp) : Prop := n0 ≤ 1200 ∧ h.1 1 0 = nI n0 ∧ h.1 63 41 = nI n0 ∧ h.1 2 = h.1 91 ∧ ∀ k, ∃ t, t < 256 ∧ h.1 2 k = sb t
def B6 (L : Nat) (h : Hp) : Prop := L ≤ 2232 ∧ h.1 3 1 = nI L ∧ h.1 63 43 = nI L ∧ h.1 4 = h.1 92
def B7 (Q : SO) (pd : Option Nat) (h : Hp) : Prop := h.1 59 = h.1 87 ∧ h.1 58 1 = oI pd ∧ h.1 63 38 = oI pd ∧ ∀ x, pd = some x → x < qN Q
def B8 (n sr : Nat) (h : Hp) : Prop := TF0 sr h ∧ sr ≤ 192 * n
def B0 (D : SD) (S : ST) (Q : SO) : Prop := Wf D ∧ WfS D S ∧ ALD D ∧ StR D S (dI D) Q
def Iv (n : Nat) (h : Hp) : Prop := ∃ (D : SD) (S : ST) (Q : SO) (N : Nat) (hs : Nat → ST) (sr n0 L : Nat) (pd : Option Nat), B0 D S Q ∧ B1 D S h ∧ B2 D S Q h ∧ B3 Q h ∧ B4 D S N hs h ∧ B5 n0 h ∧ B6 L h ∧ B7 Q pd h ∧ B8 n sr h
section INV
variable {h h' : Hp} {X : Nat → Nat → Bool} {D : SD} {S : ST} {Q : SO} {N sr n0 L n : Nat} {hs : Nat → ST} {pd : Option Nat}
theorem B1.fr (a : B1 D S h) (f : Fr X h h') (e : ∀ c j, b1 c j = true → X c j = false) : B1 D S h' := by
  refine ⟨a.1.fr f (fun c j q => e c j (by unfold b1; rw [q]; rfl)), a.2.1.fr f (fun c j q => e c j (by unfold b1; rw [q, Bool.or_true]; rfl)), a.2.2.1.fr f (e 0 10 rfl) (fun j => e 16 j rfl), a.2.2.2.fr f (fun j => e 68 j rfl)⟩
theorem B2.fr (a : B2 D S Q h) (f : Fr X h h') (e : ∀ c j, b2 c j = true → X c j = false) : B2 D S Q h' := by
  have e1 : ∀ c j, 41 ≤ c → c ≤ 45 → X c j = false := fun c j h1 h2 => e c j (by unfold b2; rw [show (decide (41 ≤ c) && decide (c ≤ 45)) = true by rw [decide_eq_true h1, decide_eq_true h2]; rfl]; rfl)
  have e2 : ∀ c j, 74 ≤ c → c ≤ 82 → X c j = false := fun c j h1 h2 => e c j (by unfold b2; rw [show (decide (74 ≤ c) && decide (c ≤ 82)) = true by rw [decide_eq_true h1, decide_eq_true h2]; rfl, Bool.or_true]; rfl)
  have e3 : ∀ c j, 47 ≤ c → c ≤ 50 → X c j = false := fun c j h1 h2 => e c j (by unfold b2; rw [show (decide (47 ≤ c) && decide (c ≤ 50)) = true by rw [decide_eq_true h1, decide_eq_true h2]; rfl, Bool.or_true]; rfl)
  exact ⟨fun i hi => (a.1 i hi).fr f (fun c h1 h2 => e1 c i h1 (by omega)) (fun c k h1 h2 _ => e1 c _ (by omega) h2), a.2.1.fr f (fun c j h1 h2 => e2 c j h1 (by omega)), a.2.2.1.fr f (e 46 4 rfl) e3, a.2.2.2.fr f (e 63 26 rfl) (fun c j h1 h2 => e2 c j (by omega) h2)⟩
theorem B3.fr (a : B3 Q h) (f : Fr X h h') (e : ∀ c j, b3 c j = true → X c j = false) : B3 Q h' := by
  have e1 : ∀ c j, 51 ≤ c → c ≤ 54 → X c j = false := fun c j h1 h2 => e c j (by unfold b3; rw [show (decide (51 ≤ c) && decide (c ≤ 54)) = true by rw [decide_eq_true h1, decide_eq_true h2]; rfl]; rfl)
  refine ⟨?_, a.2.fr f (e 63 30 rfl) (e 63 31 rfl) (fun j => e 85 j rfl)⟩
  rw [f.i 51 0 (e 51 0 rfl)]
  rcases a.1 with q | q
  · exact Or.inl q
  · exact Or.inr ⟨q.1, q.2.fr f e1⟩
theorem B4.fr (a : B4 D S N hs h) (f : Fr X h h') (e : ∀ c j, b4 c j = true → X c j = false) : B4 D S N hs h' :=
  ⟨a.1.fr f (e 29 2 rfl) (e 63 33 rfl) (fun j => e 30 j rfl) (fun j => e 31 j rfl) (fun j => e 86 j rfl), a.2⟩
theorem B5.fr (a : B5 n0 h) (f : Fr X h h') (e : ∀ c j, b5 c j = true → X c j = false) : B5 n0 h' := by
  unfold B5
  rw [f.i 1 0 (e 1 0 rfl), f.i 63 41 (e 63 41 rfl), f.f 2 (fun j => e 2 j rfl), f.f 91 (fun j => e 91 j rfl)]
  exact a
theorem B6.fr (a : B6 L h) (f : Fr X h h') (e : ∀ c j, b6 c j = true → X c j = false) : B6 L h' := by
  unfold B6
  rw [f.i 3 1 (e 3 1 rfl), f.i 63 43 (e 63 43 rfl), f.f 4 (fun j => e 4 j rfl), f.f 92 (fun j => e 92 j rfl)]
  exact a
theorem B7.fr (a : B7 Q pd h) (f : Fr X h h') (e : ∀ c j, b7 c j = true → X c j = false) : B7 Q pd h' := by
  unfold B7
  rw [f.i 58 1 (e 58 1 rfl), f.i 63 38 (e 63 38 rfl), f.f 59 (fun j => e 59 j rfl), f.f 87 (fun j => e 87 j rfl)]
  exact a
theorem B8.fr (a : B8 n sr h) (f : Fr X h h') (e : ∀ c j, b8 c j = true → X c j = false) : B8 n sr h' :=
  ⟨a.1.fr f (e 32 10 rfl) (fun j => e 39 j rfl), a.2⟩
theorem B8.up (a : B8 n sr h) : B8 (n + 1) sr h := ⟨a.1, by have := a.2; omega⟩
/-- what no call's answer needs -/
def fNo (c j : Nat) : Bool := c == 98 || (c == 63 && j == 0)
def b0 (c j : Nat) : Bool := b1 c j || b2 c j || b3 c j || b4 c j || b5 c j || b6 c j || b7 c j || b8 c j
theorem no_b (c j : Nat) (e : b0 c j = true) : fNo c j = false := by
  unfold b0 b1 b2 b3 b4 b5 b6 b7 b8 isSrcC isSrcR at e
  unfold fNo
  simp only [Bool.or_eq_true, Bool.and_eq_true, decide_eq_true_eq, beq_iff_eq] at e
  simp only [Bool.or_eq_false_iff, Bool.and_eq_false_iff, beq_eq_false_iff_ne]
  omega
theorem b_no1 (c j : Nat) (q : b1 c j = true) : fNo c j = false := no_b c j (by simp [b0, q])
theorem b_no2 (c j : Nat) (q : b2 c j = true) : fNo c j = false := no_b c j (by simp [b0, q])
theorem b_no3 (c j : Nat) (q : b3 c j = true) : fNo c j = false := no_b c j (by simp [b0, q])
theorem b_no4 (c j : Nat) (q : b4 c j = true) : fNo c j = false := no_b c j (by simp [b0, q])
theorem b_no5 (c j : Nat) (q : b5 c j = true) : fNo c j = false := no_b c j (by simp [b0, q])
theorem b_no6 (c j : Nat) (q : b6 c j = true) : fNo c j = false := no_b c j (by simp [b0, q])
theorem b_no7 (c j : Nat) (q : b7 c j = true) : fNo c j = false := no_b c j (by simp [b0, q])
theorem b_no8 (c j : Nat) (q : b8 c j = true) : fNo c j = false := no_b c j (by simp [b0, q])
theorem f98 (h : Hp) (v : Int64) : Fr fNo h (sL h 98 0 v) := (Fr.refl h).sl rfl
theorem f980 (h : Hp) (v : Int64) (x : Int32) : Fr fNo h (sI (sL h 98 0 v) 63 0 x) := ((Fr.refl h).sl rfl).si rfl
theorem l98 (h : Hp) (v : Int64) (x : Int32) : (sI (sL h 98 0 v) 63 0 x).2 98 0 = v := by
  rw [sI_2, sL_2, if_pos rfl]; simp only [vp_updL, if_pos]
theorem Iv.fr (a : Iv n h) (f : Fr X h h') (e : ∀ c j, b0 c j = true → X c j = false) : Iv n h' := by
  obtain ⟨D, S, Q, N, hs, sr, n0, L, pd, p0, p1, p2, p3, p4, p5, p6, p7, p8⟩ := a
  have s : ∀ c j, (b1 c j = true ∨ b2 c j = true ∨ b3 c j = true ∨ b4 c j = true ∨ b5 c j = true ∨ b6 c j = true ∨ b7 c j = true ∨ b8 c j = true) → X c j = false := fun c j q => e c j (by rcases q with q | q | q | q | q | q | q | q <;> simp [b0, q])
  exact ⟨D, S, Q, N, hs, sr, n0, L, pd, p0, p1.fr f (fun c j q => s c j (Or.inl q)), p2.fr f (fun c j q => s c j (Or.inr (Or.inl q))), p3.fr f (fun c j q => s c j (Or.inr (Or.inr (Or.inl q)))), p4.fr f (fun c j q => s c j (Or.inr (Or.inr (Or.inr (Or.inl q))))), p5.fr f (fun c j q => s c j (Or.inr (Or.inr (Or.inr (Or.inr (Or.inl q)))))), p6.fr f (fun c j q => s c j (Or.inr (Or.inr (Or.inr (Or.inr (Or.inr (Or.inl q))))))), p7.fr f (fun c j q => s c j (Or.inr (Or.inr (Or.inr (Or.inr (Or.inr (Or.inr (Or.inl q)))))))), p8.fr f (fun c j q => s c j (Or.inr (Or.inr (Or.inr (Or.inr (Or.inr (Or.inr (Or.inr q)))))))) ⟩
theorem Iv.up (a : Iv n h) : Iv (n + 1) h := by
  obtain ⟨D, S, Q, N, hs, sr, n0, L, pd, p0, p1, p2, p3, p4, p5, p6, p7, p8⟩ := a
  exact ⟨D, S, Q, N, hs, sr, n0, L, pd, p0, p1, p2, p3, p4, p5, p6, p7, p8.up⟩
theorem Iv.keep (a : Iv n h) (f : Fr fNo h h') : Iv (n + 1) h' := (a.fr f no_b).up
end INV
