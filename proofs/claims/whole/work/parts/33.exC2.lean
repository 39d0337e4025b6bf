/-! the store's picture; runs through the store, in the class -/
/-- how many words; sets; safe; next; entries -/
abbrev SO : Type := Nat × (Nat → Nat) × (Nat → Bool) × (Nat → Option Nat) × (Nat → Option Nat)
def qN (Q : SO) : Nat := Q.1
def qS (Q : SO) : Nat → Nat := Q.2.1
def qF (Q : SO) : Nat → Bool := Q.2.2.1
def qX (Q : SO) : Nat → Option Nat := Q.2.2.2.1
def qE (Q : SO) : Nat → Option Nat := Q.2.2.2.2
def oI : Option Nat → Int32
  | none => -1
  | some n => nI n
def b2i (b : Bool) : Int32 := if b then 1 else 0
theorem b2i_0 (b : Bool) : b2i b = 0 ↔ b = false := bI b
theorem b2i_1 (b : Bool) : b2i b = 1 ↔ b = true := bI1 b
theorem b2i_01 (b : Bool) : b2i b = 0 ∨ b2i b = 1 := by cases b <;> simp [b2i]
def CSto (D : SD) (Q : SO) (h : Hp) : Prop := h.1 46 4 = nI (qN Q) ∧ (∀ a, a < qN Q → h.1 47 a = nI (qS Q a) ∧ h.1 48 a = b2i (qF Q a) ∧ h.1 49 a = oI (qX Q a)) ∧ ∀ i, i < dI D → h.1 50 i = oI (qE Q i)
def RSto (D : SD) (Q : SO) (h : Hp) : Prop := h.1 63 26 = nI (qN Q) ∧ (∀ a, a < qN Q → h.1 79 a = nI (qS Q a) ∧ h.1 80 a = b2i (qF Q a) ∧ h.1 81 a = oI (qX Q a)) ∧ ∀ i, i < dI D → h.1 82 i = oI (qE Q i)
/-- each chain ends, after at most 24 words -/
def RkOK (Q : SO) (rk : Nat → Nat) : Prop := ∀ a, a < qN Q → 1 ≤ rk a ∧ rk a ≤ 24 ∧ (qX Q a = none → rk a = 1) ∧ ∀ b, qX Q a = some b → b < qN Q ∧ rk a = rk b + 1
def WfQ (D : SD) (Q : SO) : Prop := qN Q ≤ 192 ∧ (∀ a, a < qN Q → qS Q a < 2 ^ dN D) ∧ (∃ rk, RkOK Q rk) ∧ ∀ i, i < dI D → ∃ a, a < qN Q ∧ qE Q i = some a
theorem CSto.fr {D : SD} {Q : SO} {h h' : Hp} {X : Nat → Nat → Bool} (r : CSto D Q h) (f : Fr X h h') (a0 : X 46 4 = false) (a : ∀ c j, 47 ≤ c → c ≤ 50 → X c j = false) : CSto D Q h' := by
  unfold CSto
  rw [f.f 47 (fun j => a 47 j (by decide) (by decide)), f.f 48 (fun j => a 48 j (by decide) (by decide)), f.f 49 (fun j => a 49 j (by decide) (by decide)), f.f 50 (fun j => a 50 j (by decide) (by decide)), f.i 46 4 a0]
  exact r
theorem RSto.fr {D : SD} {Q : SO} {h h' : Hp} {X : Nat → Nat → Bool} (r : RSto D Q h) (f : Fr X h h') (a0 : X 63 26 = false) (a : ∀ c j, 79 ≤ c → c ≤ 82 → X c j = false) : RSto D Q h' := by
  unfold RSto
  rw [f.f 79 (fun j => a 79 j (by decide) (by decide)), f.f 80 (fun j => a 80 j (by decide) (by decide)), f.f 81 (fun j => a 81 j (by decide) (by decide)), f.f 82 (fun j => a 82 j (by decide) (by decide)), f.i 63 26 a0]
  exact r
/-- words from an address on, till one that is safe and at least so many from the start -/
def rnW (D : SD) (Q : SO) (w : Int32) : Nat → Option Nat → Nat → (Nat → Int32) → Nat × Option Nat × (Nat → Int32)
  | 0, a, e, f => (e, a, f)
  | _ + 1, none, e, f => (e, none, f)
  | k + 1, some a, e, f => if ¬ nI (e + 1) < w ∧ qF Q a = true then (e + 1, qX Q a, ex D (qS Q a) f) else rnW D Q w k (qX Q a) (e + 1) (ex D (qS Q a) f)
def fRun (c j : Nat) : Bool := c == 59 || c == 60 || (c == 58 && j == 1)
def rkO (rk : Nat → Nat) (Q : SO) (k : Nat) : Option Nat → Prop
  | none => True
  | some a => a < qN Q ∧ rk a ≤ k
theorem rkO.next {rk : Nat → Nat} {Q : SO} {k a : Nat} (hr : RkOK Q rk) (h : rkO rk Q (k + 1) (some a)) : rkO rk Q k (qX Q a) := by
  obtain ⟨r1, r2, r3, r4⟩ := hr a h.1
  cases e : qX Q a with
  | none => trivial
  | some b =>
    obtain ⟨h1, h2⟩ := r4 b e
    have := h.2
    exact ⟨h1, by omega⟩
theorem srcC_run (c j : Nat) (e : isSrcC c j = true) : fRun c j = false := by
  unfold isSrcC at e
  unfold fRun
  simp only [Bool.or_eq_true, Bool.and_eq_true, decide_eq_true_eq, beq_iff_eq] at e
  simp only [Bool.or_eq_false_iff, beq_eq_false_iff_ne, Bool.and_eq_false_iff]
  omega
theorem stoC_run (c j : Nat) (h1 : 46 ≤ c) (h2 : c ≤ 50) : fRun c j = false := by
  unfold fRun
  simp only [Bool.or_eq_false_iff, beq_eq_false_iff_ne, Bool.and_eq_false_iff]
  omega
theorem fEx_run (c j : Nat) (h : fRun c j = false) : fEx 59 c j = false := by
  unfold fRun at h
  unfold fEx
  simp only [Bool.or_eq_false_iff] at h ⊢
  exact h.1
theorem c_runW {E : En} {d : Nat} {D : SD} {Q : SO} {w : Int32} {h : Hp} {a : Option Nat} {P : Int32 → Hp → Prop} (wd : Wf D) (wq : WfQ D Q) (sr : CSrc D h) (so : CSto D Q h) (ha : h.1 58 1 = oI a) (hia : ∀ x, a = some x → x < qN Q) (t : ∀ h', Fr fRun h h' → h'.1 59 = (rnW D Q w 24 a 0 (h.1 59)).2.2 → h'.1 58 1 = oI (rnW D Q w 24 a 0 (h.1 59)).2.1 → P (nI (rnW D Q w 24 a 0 (h.1 59)).1) h') : SpI E (d + 3) MX5_runWords [.ref (eA E 58), .ref (eA E 5), .ref (eA E 46), .int w] h P := by
  obtain ⟨q1, q2, ⟨rk, hrk⟩, q4⟩ := wq
  refine wp_X5_runWords E (d + 2) _ h P (fun g => ?_)
  have key : ∀ (k : Nat) (a : Option Nat) (e : Nat) (f : Nat → Int32) (h' : Hp), rkO rk Q k a → e + k ≤ 24 → Fr fRun h h' → h'.1 59 = f → h'.1 58 1 = oI a → (∀ h2, Fr fRun h h2 → h2.1 59 = (rnW D Q w k a e f).2.2 → h2.1 58 1 = oI (rnW D Q w k a e f).2.1 → P (nI (rnW D Q w k a e f).1) h2) → VX5_runWords_6 E (d + 2) g P w (nI e) 0 h' := by
    intro k
    induction k with
    | zero =>
      intro a e f h' hk he fr hf ha t
      cases a with
      | none => exact sg_X5_runWords_6 E (d + 2) g _ _ _ h' P (br_t ha (t h' fr hf ha))
      | some a =>
        have := hrk a hk.1
        have := hk.2
        omega
    | succ k ih =>
      intro a e f h' hk he fr hf ha t
      cases a with
      | none => exact sg_X5_runWords_6 E (d + 2) g _ _ _ h' P (br_t ha (t h' fr hf ha))
      | some a =>
        have hk1 := hk.1
        have sr' := sr.fr fr srcC_run
        have so' := so.fr fr (stoC_run 46 4 (by decide) (by decide)) (fun c j h1 h2 => stoC_run c j (by omega) h2)
        obtain ⟨s1, s2, s3⟩ := so'.2.1 a hk1
        have ha : h'.1 58 1 = nI a := ha
        have va : vp_in (nI a) 192 := vp_in_nI (by omega) (by decide)
        refine sg_X5_runWords_6 E (d + 2) g _ _ _ h' P ?_
        rw [ha, nI_clamp (by omega), s1]
        refine br_f (nI_m1 (by omega)) (bq_t rfl (br_f (nI_ge (a := e) (b := 24) (by omega) (by decide)) ⟨va, ?_⟩))
        refine c_exec (co := 59) (Or.inl rfl) wd sr' (q2 a hk1) (fun h5 f5 e5 => ⟨va, ?_⟩)
        have fr5 : Fr fRun h h5 := fr.trans (f5.mono fEx_run)
        have so5 := so'.fr f5 rfl (fun c j h1 h2 => fEx_run c j (stoC_run c j (by omega) h2))
        obtain ⟨z1, z2, z3⟩ := so5.2.1 a hk1
        rw [nI_1, z3, z2]
        have fr6 : Fr fRun h (sI h5 58 1 (oI (qX Q a))) := fr5.si rfl
        have e59 : (sI h5 58 1 (oI (qX Q a))).1 59 = ex D (qS Q a) f := by rw [sI_n _ _ _ _ (by decide), e5, hf]
        have e58 : (sI h5 58 1 (oI (qX Q a))).1 58 1 = oI (qX Q a) := sI_at _ _ _ _
        have un : rnW D Q w (k + 1) (some a) e f = if ¬ nI (e + 1) < w ∧ qF Q a = true then (e + 1, qX Q a, ex D (qS Q a) f) else rnW D Q w k (qX Q a) (e + 1) (ex D (qS Q a) f) := rfl
        rw [un] at t
        refine br_c (fun c => ?_) (fun c => ⟨va, ek_if (b2i_0 _) (fun b => ?_) (fun b => ?_)⟩)
        · rw [if_neg (fun q => q.1 c)] at t
          exact ih _ _ _ _ (rkO.next hrk hk) (by omega) fr6 e59 e58 t
        · rw [if_neg (fun q => by rw [b] at q; cases q.2)] at t
          exact ih _ _ _ _ (rkO.next hrk hk) (by omega) fr6 e59 e58 t
        · rw [if_pos ⟨c, ts_nf' b⟩] at t
          refine sg_X5_runWords_6 E (d + 2) g _ _ _ _ P ?_
          exact br_c (fun _ => t _ fr6 e59 e58) (fun _ => bq_f (by decide) (t _ fr6 e59 e58))
  refine key 24 a 0 _ h ?_ (by decide) (Fr.refl h) rfl ha t
  cases a with
  | none => trivial
  | some x => exact ⟨hia x rfl, (hrk x (hia x rfl)).2.1⟩
def fSq (co : Nat) (c _ : Nat) : Bool := c == co
theorem c_seq {E : En} {d co i : Nat} {D : SD} {h : Hp} {P : Hp → Prop} (hc : isRg co) (w : Wf D) (sr : CSrc D h) (hi : i < dI D) (t : ∀ h', Fr (fSq co) h h' → h'.1 co = sqX D i (h.1 co) (dL D i) → P h') : SpV E (d + 2) MX5_runSequence [.ref (eA E 58), .ref (eA E 5), .int (nI i), .ref (eA E co)] h P := by
  have hN := w.1
  have hI := w.2.2.1
  obtain ⟨l0, l24, hrow⟩ := w.2.2.2.1 i hi
  have hl := hc.lay
  have hsrc : ∀ c j, isSrcC c j = true → fSq co c j = false := by
    intro c j e
    unfold isSrcC at e
    unfold fSq
    simp only [Bool.or_eq_true, Bool.and_eq_true, decide_eq_true_eq, beq_iff_eq] at e
    simp only [beq_eq_false_iff_ne]
    rcases hc with rfl | rfl | rfl <;> omega
  refine wp_X5_runSequence E (d + 1) co hl _ h P (fun g => ?_)
  rw [show (24 : Int32) = nI 24 from rfl, pk_mul]
  have loop : ∀ k, k ≤ dL D i → ∀ h', Fr (fSq co) h h' → h'.1 co = sqX D i (h.1 co) k → VX5_runSequence_9 E (d + 1) g P co (nI i) (nI (i * 24)) (nI k) h' := by
    refine up_ind (dL D i) ?_ ?_
    · intro h' f hx
      have sr' := sr.fr f hsrc
      obtain ⟨-, s2, -⟩ := sr'.2.2.2 i hi
      refine sg_X5_runSequence_9 E (d + 1) g co hl _ _ _ h' P ?_
      rw [nI_clamp (by omega), s2]
      exact ⟨vp_in_nI (by omega) (by decide), br_t (nI_le (Nat.le_refl _) (by omega)) (t h' f hx)⟩
    · intro k hk ih h' f hx
      have sr' := sr.fr f hsrc
      obtain ⟨-, s2, s3⟩ := sr'.2.2.2 i hi
      have hm := hrow k hk
      obtain ⟨-, t2, -⟩ := sr'.2.2.1 _ hm
      have ht := (w.2.1 _ hm).2.1
      refine sg_X5_runSequence_9 E (d + 1) g co hl _ _ _ h' P ?_
      rw [nI_add, nI_1, nI_clamp (by omega), nI_clamp (by omega), s2, show i * 24 + k = 24 * i + k by omega, s3 k hk, nI_clamp (by omega), t2, nI_clamp (by omega)]
      refine ⟨vp_in_nI (by omega) (by decide), br_f (nI_ge hk (by omega)) ⟨vp_in_nI (by omega) (by decide), vp_in_nI (by omega) (by decide), ?_⟩⟩
      refine c_val hc w sr' hm ⟨vp_in_nI ht (by decide), ?_⟩
      refine ih _ (f.si (by simp [fSq])) ?_
      rw [sI_s, hx]
      rfl
  exact loop 0 (by omega) h (Fr.refl h) rfl
def eqR (f g : Nat → Int32) : Nat → Bool
  | 0 => true
  | n + 1 => eqR f g n && decide (f n = g n)
theorem eqR_no {f g : Nat → Int32} {i : Nat} (h : f i ≠ g i) : ∀ n, i < n → eqR f g n = false
  | 0, h2 => by omega
  | n + 1, h2 => by
    show (eqR f g n && decide (f n = g n)) = false
    rcases Nat.lt_or_ge i n with q | q
    · rw [eqR_no h n q]; rfl
    · obtain rfl : i = n := by omega
      rw [decide_eq_false h, Bool.and_false]
theorem eqR_cong {f g f2 g2 : Nat → Int32} : ∀ n, (∀ r, r < n → f r = f2 r ∧ g r = g2 r) → eqR f g n = eqR f2 g2 n
  | 0, _ => rfl
  | n + 1, h => by
    show (eqR f g n && decide (f n = g n)) = (eqR f2 g2 n && decide (f2 n = g2 n))
    rw [eqR_cong n (fun r hr => h r (by omega)), (h n (by omega)).1, (h n (by omega)).2]
/-- an instruction from its source and from the store: the same registers -/
def agr (D : SD) (Q : SO) (i : Nat) (f : Nat → Int32) : Bool := eqR (sqX D i f (dL D i)) (rnW D Q 2147483647 24 (qE Q i) 0 f).2.2 8
def fAg (c _ : Nat) : Bool := c == 60 || c == 61 || c == 62
theorem opv_cong {D : SD} {m : Nat} {f g : Nat → Int32} (h : ∀ r, r < 8 → f r = g r) : opv D m f = opv D m g := by
  have e : ∀ a, opd a f = opd a g := fun a => by
    unfold opd
    by_cases q : a < 8
    · rw [if_pos q, if_pos q, h a q]
    · rw [if_neg q, if_neg q]
  unfold opv
  rw [e, e]
theorem upd_cong {f g : Nat → Int32} (h : ∀ r, r < 8 → f r = g r) (k : Nat) {x y : Int32} (e : x = y) : ∀ r, r < 8 → upd f k x r = upd g k y r := fun r hr => by
  rw [upd_1, upd_1, e, h r hr]
theorem sqX_cong {D : SD} {i : Nat} {f g : Nat → Int32} (_w : Wf D) (_hi : i < dI D) (h : ∀ r, r < 8 → f r = g r) : ∀ k, k ≤ dL D i → ∀ r, r < 8 → sqX D i f k r = sqX D i g k r
  | 0, _ => h
  | k + 1, hk => upd_cong (sqX_cong _w _hi h k (by omega)) _ (opv_cong (sqX_cong _w _hi h k (by omega)))
theorem exT_cong {D : SD} {s : Nat} {v v2 f g : Nat → Int32} (hv : ∀ m, v m = v2 m) (h : ∀ r, r < 8 → f r = g r) : ∀ n r, r < 8 → exT D s v f n r = exT D s v2 g n r
  | 0, r, hr => h r hr
  | n + 1, r, hr => by
    show (if s.testBit n then _ else _ : Nat → Int32) r = (if s.testBit n then _ else _ : Nat → Int32) r
    cases s.testBit n with
    | false => exact exT_cong hv h n r hr
    | true => exact upd_cong (exT_cong hv h n) _ (hv n) r hr
theorem ex_cong {D : SD} {s : Nat} {f g : Nat → Int32} (h : ∀ r, r < 8 → f r = g r) : ∀ r, r < 8 → ex D s f r = ex D s g r := exT_cong (fun _ => opv_cong h) h 12
theorem rnW_cong {D : SD} {Q : SO} {w : Int32} {f g : Nat → Int32} (_w : Wf D) (_q : WfQ D Q) (h : ∀ r, r < 8 → f r = g r) : ∀ (k : Nat) (a : Option Nat) (e : Nat) (r : Nat), r < 8 → (∀ y, a = some y → y < qN Q) → (rnW D Q w k a e f).2.2 r = (rnW D Q w k a e g).2.2 r
  | 0, _, _, r, hr, _ => h r hr
  | _ + 1, none, _, r, hr, _ => h r hr
  | k + 1, some a, e, r, hr, ha => by
    show (if ¬ nI (e + 1) < w ∧ qF Q a = true then (e + 1, qX Q a, ex D (qS Q a) f) else rnW D Q w k (qX Q a) (e + 1) (ex D (qS Q a) f)).2.2 r = (if ¬ nI (e + 1) < w ∧ qF Q a = true then (e + 1, qX Q a, ex D (qS Q a) g) else rnW D Q w k (qX Q a) (e + 1) (ex D (qS Q a) g)).2.2 r
    obtain ⟨rk, hrk⟩ := _q.2.2.1
    by_cases c : ¬ nI (e + 1) < w ∧ qF Q a = true
    · rw [if_pos c, if_pos c]
      exact ex_cong h r hr
    · rw [if_neg c, if_neg c]
      exact rnW_cong _w _q (ex_cong h) k _ _ r hr (fun y hy => ((hrk a (ha a rfl)).2.2.2 y hy).1)
theorem max_lt {e : Nat} (h : e < 100) : nI (e + 1) < (2147483647 : Int32) := nI_lt (a := e + 1) (b := 2147483647) (by omega) (by decide)
theorem rnW_max (D : SD) (Q : SO) {k e : Nat} {a : Nat} {f : Nat → Int32} (h : e < 100) : rnW D Q 2147483647 (k + 1) (some a) e f = rnW D Q 2147483647 k (qX Q a) (e + 1) (ex D (qS Q a) f) := if_neg (fun q => q.1 (max_lt h))
theorem srcC_ag (c j : Nat) (e : isSrcC c j = true) : fAg c j = false := by
  unfold isSrcC at e
  unfold fAg
  simp only [Bool.or_eq_true, Bool.and_eq_true, decide_eq_true_eq, beq_iff_eq] at e
  simp only [Bool.or_eq_false_iff, beq_eq_false_iff_ne]
  omega
theorem stoC_ag (c j : Nat) (h1 : 46 ≤ c) (h2 : c ≤ 50) : fAg c j = false := by
  unfold fAg
  simp only [Bool.or_eq_false_iff, beq_eq_false_iff_ne]
  omega
theorem c_agr {E : En} {d i : Nat} {D : SD} {Q : SO} {h : Hp} {P : Int32 → Hp → Prop} (w : Wf D) (wq : WfQ D Q) (sr : CSrc D h) (so : CSto D Q h) (hi : i < dI D) (t : ∀ h', Fr fAg h h' → P (b2i (agr D Q i (h.1 59))) h') : SpI E (d + 3) MX5_agreesOn [.ref (eA E 58), .ref (eA E 5), .ref (eA E 46), .int (nI i)] h P := by
  obtain ⟨q1, q2, ⟨rk, hrk⟩, q4⟩ := wq
  have hI := w.2.2.1
  obtain ⟨l0, l24, hrow⟩ := w.2.2.2.1 i hi
  refine wp_X5_agreesOn E (d + 2) _ h P (fun g => ?_)
  have cp : ∀ f0 : Nat → Int32, ∀ r, r < 8 → va_cpy (h.1 59) f0 (0 : Int32).toNatClampNeg (0 : Int32).toNatClampNeg (8 : Int32).toNatClampNeg r = h.1 59 r := by
    intro f0 r hr
    show va_cpy (h.1 59) f0 0 0 8 r = _
    rw [pk_cpy_in (by omega) (by omega), show 0 + (r - 0) = r by omega]
  generalize hg1 : va_cpy (h.1 59) (h.1 61) (0 : Int32).toNatClampNeg (0 : Int32).toNatClampNeg (8 : Int32).toNatClampNeg = f1
  have hf1 : ∀ r, r < 8 → f1 r = h.1 59 r := fun r hr => by rw [← hg1]; exact cp _ r hr
  have e59 : (sA h 61 f1).1 59 = h.1 59 := by rw [sA_1]; rfl
  rw [e59]
  generalize hg2 : va_cpy (h.1 59) ((sA h 61 f1).1 62) (0 : Int32).toNatClampNeg (0 : Int32).toNatClampNeg (8 : Int32).toNatClampNeg = f2
  have hf2 : ∀ r, r < 8 → f2 r = h.1 59 r := fun r hr => by rw [← hg2]; exact cp _ r hr
  have fr0 : Fr fAg h (sA (sA h 61 f1) 62 f2) := ((Fr.refl h).sa (fun _ => rfl)).sa (fun _ => rfl)
  have sr0 := sr.fr fr0 srcC_ag
  refine c_seq (co := 61) (Or.inr (Or.inl rfl)) w sr0 hi (fun h1 f e1 => ⟨vp_in_nI (by omega) (by decide), ?_⟩)
  have fr1 : Fr fAg h h1 := fr0.trans (f.mono (fun c j e => by
    unfold fAg at e
    unfold fSq
    simp only [Bool.or_eq_false_iff] at e
    exact e.1.2))
  have e61 : (sA (sA h 61 f1) 62 f2).1 61 = f1 := by rw [sA_1]; rfl
  have e62 : h1.1 62 = f2 := by rw [f.f 62 (fun _ => rfl)]; rfl
  rw [e61] at e1
  have so1 := so.fr fr1 (stoC_ag 46 4 (by decide) (by decide)) (fun c j a b => stoC_ag c j (by omega) b)
  obtain ⟨x, hx, hqx⟩ := q4 i hi
  rw [nI_clamp (by omega), so1.2.2 i hi, hqx]
  have cmp : ∀ (n : Nat), n ≤ 8 → ∀ (h2 : Hp) (x4 : Int32), Fr fAg h h2 → eqR (h2.1 61) (h2.1 62) 8 = agr D Q i (h.1 59) → eqR (h2.1 61) (h2.1 62) n = true → VX5_agreesOn_98 E (d + 2) g P (nI i) x4 (nI n) h2 := by
    refine up_ind 8 ?_ ?_
    · intro h2 x4 fr ea en
      refine sg_X5_agreesOn_98 E (d + 2) g _ _ _ h2 P (br_t (nI_le (Nat.le_refl 8) (by decide)) ?_)
      have := t h2 fr
      rw [← ea, en] at this
      exact this
    · intro n hn ih h2 x4 fr ea en
      refine sg_X5_agreesOn_98 E (d + 2) g _ _ _ h2 P (br_f (nI_ge (b := 8) hn (by decide)) ?_)
      rw [nI_1, nI_clamp (by omega)]
      have vn : vp_in (nI n) 8 := vp_in_nI hn (by decide)
      refine ⟨vn, vn, br_c (fun q => ?_) (fun q => ?_)⟩
      · refine ih h2 x4 fr ea ?_
        show (eqR _ _ n && decide _) = true
        rw [en, decide_eq_true q]; rfl
      · have := t h2 fr
        rw [← ea, eqR_no q 8 hn] at this
        exact this
  have run : ∀ (k : Nat) (a : Option Nat) (e : Nat) (f : Nat → Int32) (h2 : Hp), rkO rk Q k a → e + k ≤ 24 → Fr fAg h h2 → h2.1 61 = h1.1 61 → h2.1 62 = f → (rnW D Q 2147483647 k a e f) = (rnW D Q 2147483647 24 (some x) 0 f2) → VX5_agreesOn_51 E (d + 2) g P (nI i) (oI a) (nI e) h2 := by
    intro k
    have fin : ∀ (h2 : Hp) (x4 : Int32) (f : Nat → Int32), Fr fAg h h2 → h2.1 61 = h1.1 61 → h2.1 62 = f → f = (rnW D Q 2147483647 24 (some x) 0 f2).2.2 → VX5_agreesOn_98 E (d + 2) g P (nI i) x4 (nI 0) h2 := by
      intro h2 x4 f fr a1 a2 a3
      refine cmp 0 (by decide) h2 x4 fr ?_ rfl
      unfold agr
      rw [hqx]
      refine eqR_cong 8 (fun r hr => ⟨?_, ?_⟩)
      · rw [a1, e1]; exact sqX_cong w hi hf1 _ (Nat.le_refl _) r hr
      · rw [a2, a3]; exact rnW_cong w ⟨q1, q2, ⟨rk, hrk⟩, q4⟩ hf2 24 _ 0 r hr (fun y hy => by cases hy; exact hx)
    induction k with
    | zero =>
      intro a e f h2 hk he fr b1 b2 b3
      cases a with
      | none =>
        refine sg_X5_agreesOn_51 E (d + 2) g _ _ _ h2 P ?_
        exact br_c (fun _ => fin h2 _ f fr b1 b2 (by rw [← b3]; rfl)) (fun _ => br_t rfl (fin h2 _ f fr b1 b2 (by rw [← b3]; rfl)))
      | some a =>
        have := hrk a hk.1
        have := hk.2
        omega
    | succ k ih =>
      intro a e f h2 hk he fr b1 b2 b3
      cases a with
      | none =>
        refine sg_X5_agreesOn_51 E (d + 2) g _ _ _ h2 P ?_
        exact br_c (fun _ => fin h2 _ f fr b1 b2 (by rw [← b3]; rfl)) (fun _ => br_t rfl (fin h2 _ f fr b1 b2 (by rw [← b3]; rfl)))
      | some a =>
        have hk1 := hk.1
        have sr' := sr.fr fr srcC_ag
        have so' := so.fr fr (stoC_ag 46 4 (by decide) (by decide)) (fun c j h1 h2 => stoC_ag c j (by omega) h2)
        obtain ⟨s1, s2, s3⟩ := so'.2.1 a hk1
        have va : vp_in (nI a) 192 := vp_in_nI (by omega) (by decide)
        refine sg_X5_agreesOn_51 E (d + 2) g _ _ _ h2 P (br_f (nI_ge (a := e) (b := 24) (by omega) (by decide)) (br_f (nI_m1 (n := a) (by omega)) ?_))
        show vp_in (nI a) 192 ∧ SpV E (d + 2) MX5_execute [.ref (eA E 58), .ref (eA E 5), .int (h2.1 47 (nI a).toNatClampNeg), .ref (eA E 62)] h2 (fun h4 => vp_in (nI a) 192 ∧ (VX5_agreesOn_51 E (d + 2) g P (nI i) (h4.1 49 (nI a).toNatClampNeg) (nI e + (1 : Int32)) h4))
        rw [nI_clamp (by omega), s1, nI_1]
        refine ⟨va, c_exec (co := 62) (Or.inr (Or.inr rfl)) w sr' (q2 a hk1) (fun h5 f5 e5 => ⟨va, ?_⟩)⟩
        have f5' : Fr fAg h2 h5 := f5.mono (fun c j e => by
          unfold fAg at e
          unfold fEx
          simp only [Bool.or_eq_false_iff] at e ⊢
          exact ⟨e.2, e.1.1⟩)
        rw [f5'.f 49 (fun _ => rfl), s3]
        refine ih _ _ _ h5 (rkO.next hrk hk) (by omega) (fr.trans f5') (by rw [f5.f 61 (fun _ => rfl)]; exact b1) e5 ?_
        rw [← b3, rnW_max D Q (by omega), b2]
  exact run 24 (some x) 0 f2 h1 ⟨hx, (hrk x hx).2.1⟩ (by decide) fr1 rfl e62 rfl
