/-! segments in the reference; how deep a segment is -/
section SEG2
variable {E : En} {d : Nat} {D : SD} {S : ST} {h : Hp} {P : Int32 → Hp → Prop} {PV : Hp → Prop} {i b : Nat}
def fLa (c j : Nat) : Bool := c == 69 || c == 70 || c == 71 || (c == 63 && (j == 8 || j == 9 || j == 10))
theorem srcR_la (c j : Nat) (e : isSrcR c j = true) : fLa c j = false := by
  unfold isSrcR at e
  unfold fLa
  simp only [Bool.or_eq_true, Bool.and_eq_true, beq_iff_eq] at e
  simp only [Bool.or_eq_false_iff, beq_eq_false_iff_ne, Bool.and_eq_false_iff]
  omega
theorem r_lays (w : Wf D) (ws : WfS D S) (sr : RSrc D h) (st : RSt D S h) (hi : i < dI D) (hb : b < dL D i) (t : ∀ h', Fr fLa h h' → h'.1 63 8 = nI i → h'.1 63 9 = nI b → SegR (sgm D i b (sEnd D S i b)) h' → PV h') : SpV E (d + 4) MX10_laysSegment [.ref (eA E 63), .int (nI i), .int (nI b)] h PV := by
  have hI := w.2.2.1
  have hN := w.1
  obtain ⟨l0, l24, hrow⟩ := w.2.2.2.1 i hi
  have e1 := sEnd_gt D S i b
  have e2 := sEnd_le S hb
  have e3 := (ws.2 i hi).2 b hb
  generalize he : sEnd D S i b = e at e1 e2 e3 t
  refine wp_X10_laysSegment E (d + 3) _ _ h PV (fun g => ?_)
  have f0 : Fr fLa h (sI (sI h 63 8 (nI i)) 63 9 (nI b)) := ((Fr.refl h).si rfl).si rfl
  refine r_end w ws (sr.fr f0 srcR_la) (st.fr f0 (fun _ => rfl)) hi hb ?_
  rw [he, pk_sub (by omega)]
  have f1 : Fr fLa h (sI (sI (sI h 63 8 (nI i)) 63 9 (nI b)) 63 10 (nI (e - b))) := f0.si rfl
  have k8 : (sI (sI (sI h 63 8 (nI i)) 63 9 (nI b)) 63 10 (nI (e - b))).1 63 8 = nI i := by simp [sI_s, upd_1]
  have k9 : (sI (sI (sI h 63 8 (nI i)) 63 9 (nI b)) 63 10 (nI (e - b))).1 63 9 = nI b := by simp [sI_s, upd_1]
  have k10 : (sI (sI (sI h 63 8 (nI i)) 63 9 (nI b)) 63 10 (nI (e - b))).1 63 10 = nI (e - b) := by simp [sI_s, upd_1]
  generalize sI (sI (sI h 63 8 (nI i)) 63 9 (nI b)) 63 10 (nI (e - b)) = h1 at f1 k8 k9 k10
  have l1 : ∀ p, p ≤ e - b → ∀ h', Fr fLa h h' → h'.1 63 = h1.1 63 → (∀ q, q < p → h'.1 69 q = nI (gX (sgm D i b e) q) ∧ h'.1 70 q = nI (gW (sgm D i b e) q) ∧ h'.1 71 q = nI (gU (sgm D i b e) q)) → VX10_laysSegment_24 E (d + 3) g PV (nI i) (nI b) (nI p) h' := by
    refine up_ind _ ?_ ?_
    · intro h' f k a
      refine sg_X10_laysSegment_24 E (d + 3) g _ _ _ h' PV ?_
      rw [k, k10]
      exact br_t (nI_le (Nat.le_refl _) (by omega)) (t h' f (by rw [k]; exact k8) (by rw [k]; exact k9) ⟨by rw [k]; exact k10, a⟩)
    · intro p hp ih h' f k a
      have hm := hrow (b + p) (by omega)
      have hu : dU D (dR D i (b + p)) < 6 := (w.2.1 _ hm).1
      have v10 : vp_in (nI p) 10 := vp_in_nI (by omega) (by decide)
      refine sg_X10_laysSegment_24 E (d + 3) g _ _ _ h' PV ?_
      rw [k, k10, nI_clamp (by omega), nI_add]
      have f2 : Fr fLa h (sI (sI h' 69 p (0 : Int32)) 70 p (0 : Int32)) := (f.si rfl).si rfl
      have sr2 := sr.fr f2 srcR_la
      refine br_f (nI_ge hp (by omega)) ⟨v10, v10, r_at w sr2 hi (by omega) (r_U w sr2 hm ⟨v10, ?_⟩)⟩
      have l2 : ∀ j, j ≤ p → ∀ h2, Fr fLa h h2 → h2.1 63 = h1.1 63 → (∀ q, q < p → h2.1 69 q = nI (gX (sgm D i b e) q) ∧ h2.1 70 q = nI (gW (sgm D i b e) q) ∧ h2.1 71 q = nI (gU (sgm D i b e) q)) → h2.1 69 p = nI (mskF (fun k => isS D (dR D i (b + k)) (dR D i (b + p))) j) → h2.1 70 p = nI (mskF (fun k => isW D (dR D i (b + k)) (dR D i (b + p))) j) → h2.1 71 p = nI (dU D (dR D i (b + p))) → VX10_laysSegment_68 E (d + 3) g PV (nI i) (nI b) (nI p) (nI j) h2 := by
        refine up_ind _ ?_ ?_
        · intro h2 f2 k2 a2 x1 x2 x3
          refine sg_X10_laysSegment_68 E (d + 3) g _ _ _ _ h2 PV (br_t (nI_le (Nat.le_refl _) (by omega)) ?_)
          rw [nI_1]
          refine ih h2 f2 k2 (fun q hq => ?_)
          by_cases z : q = p
          · rw [z]; exact ⟨x1, x2, x3⟩
          · exact a2 q (by omega)
        · intro j hj ih2 h2 f2 k2 a2 x1 x2 x3
          have hmj := hrow (b + j) (by omega)
          have sr' := sr.fr f2 srcR_la
          refine sg_X10_laysSegment_68 E (d + 3) g _ _ _ _ h2 PV (br_f (nI_ge hj (by omega)) ⟨v10, ?_⟩)
          rw [nI_add b j, nI_add b p, nI_1, nI_clamp (n := p) (by omega)]
          refine r_at w sr' hi (by omega) (r_at w sr' hi (by omega) (r_isS w sr' hmj hm ?_))
          rw [sh1 _ (by omega), x1, x2, show (0 : Int32) = nI 0 from rfl, nI_or, nI_or, nI_or, nI_or, Nat.or_zero, Nat.or_zero]
          have e1 : mskF (fun k => isS D (dR D i (b + k)) (dR D i (b + p))) (j + 1) = mskF (fun k => isS D (dR D i (b + k)) (dR D i (b + p))) j ||| (if isS D (dR D i (b + j)) (dR D i (b + p)) then 2 ^ j else 0) := rfl
          have e2 : mskF (fun k => isW D (dR D i (b + k)) (dR D i (b + p))) (j + 1) = mskF (fun k => isW D (dR D i (b + k)) (dR D i (b + p))) j ||| (if isW D (dR D i (b + j)) (dR D i (b + p)) then 2 ^ j else 0) := rfl
          have key : ∀ (y : Nat), y = mskF (fun k => isS D (dR D i (b + k)) (dR D i (b + p))) (j + 1) → SpI E (d + 3) MX10_at [.ref (eA E 63), .int (nI i), .int (nI (b + j))] (sI h2 69 p (nI y)) (fun v9 h9 => SpI E (d + 3) MX10_at [.ref (eA E 63), .int (nI i), .int (nI (b + p))] h9 (fun v10 h10 => SpI E (d + 3) MX10_isWeak [.ref (eA E 63), .int v9, .int v10] h10 (fun v11 h11 => (v11 = nI 0 → (vp_in (nI p) 10 ∧ (VX10_laysSegment_68 E (d + 3) g PV (nI i) (nI b) (nI p) (nI (j + 1)) (sI h11 70 p (nI (mskF (fun k => isW D (dR D i (b + k)) (dR D i (b + p))) j)))))) ∧ (¬ v11 = nI 0 → (vp_in (nI p) 10 ∧ (VX10_laysSegment_68 E (d + 3) g PV (nI i) (nI b) (nI p) (nI (j + 1)) (sI h11 70 p (nI (mskF (fun k => isW D (dR D i (b + k)) (dR D i (b + p))) j ||| 2 ^ j)))))))) ) := by
            intro y hy
            have f3 : Fr fLa h (sI h2 69 p (nI y)) := f2.si rfl
            have sr3 := sr.fr f3 srcR_la
            have fin : ∀ z : Nat, z = mskF (fun k => isW D (dR D i (b + k)) (dR D i (b + p))) (j + 1) → VX10_laysSegment_68 E (d + 3) g PV (nI i) (nI b) (nI p) (nI (j + 1)) (sI (sI h2 69 p (nI y)) 70 p (nI z)) := by
              intro z hz
              refine ih2 _ (f3.si rfl) (by rw [sI_n _ _ _ _ (by decide), sI_n _ _ _ _ (by decide)]; exact k2) (fun q hq => ?_) ?_ ?_ ?_
              · simp only [sI_j (show q ≠ p by omega)]
                exact a2 q hq
              · rw [sI_n _ _ _ _ (by decide), sI_at, hy]
              · rw [sI_at, hz]
              · rw [sI_n _ _ _ _ (by decide), sI_n _ _ _ _ (by decide), x3]
            refine r_at w sr3 hi (by omega) (r_at w sr3 hi (by omega) (r_isW w sr3 hmj hm (ek_if (b2i_0 _) (fun q => ⟨v10, fin _ ?_⟩) (fun q => ⟨v10, fin _ ?_⟩))))
            · rw [e2, q]
              show _ = _ ||| 0
              rw [Nat.or_zero]
            · rw [e2, ts_nf' q]; rfl
          refine ek_if (b2i_0 _) (fun q => ⟨v10, v10, key _ ?_⟩) (fun q => ⟨v10, v10, key _ ?_⟩)
          · rw [e1, q]
            show _ = _ ||| 0
            rw [Nat.or_zero]
          · rw [e1, ts_nf' q]; rfl
      refine l2 0 (by omega) _ (f2.si rfl) (by rw [sI_n _ _ _ _ (by decide), sI_n _ _ _ _ (by decide), sI_n _ _ _ _ (by decide)]; exact k) (fun q hq => ?_) ?_ ?_ ?_
      · simp only [sI_j (show q ≠ p by omega)]
        exact a q hq
      · rw [sI_n _ _ _ _ (by decide), sI_n _ _ _ _ (by decide), sI_at]; rfl
      · rw [sI_n _ _ _ _ (by decide), sI_at]; rfl
      · rw [sI_at]
  exact l1 0 (by omega) h1 f1 rfl (fun q hq => by omega)
end SEG2
/-! depth -/
theorem nI_max {a b : Nat} (ha : a < 2 ^ 31) (hb : b < 2 ^ 31) : (if nI a < nI b then nI b else nI a) = nI (max a b) := by
  by_cases q : a < b
  · rw [if_pos (nI_lt q hb), Nat.max_eq_right (by omega)]
  · rw [if_neg (nI_nlt (by omega) ha), Nat.max_eq_left (by omega)]
def mxF (H : Nat → Nat) : Nat → Nat
  | 0 => 0
  | n + 1 => max (mxF H n) (H n)
theorem mxF_ge (H : Nat → Nat) : ∀ n q, q < n → H q ≤ mxF H n
  | 0, _, h => by omega
  | n + 1, q, h => by
    show _ ≤ max _ _
    rcases Nat.lt_or_ge q n with z | z
    · have := mxF_ge H n q z
      omega
    · obtain rfl : q = n := by omega
      omega
theorem mxF_at (H : Nat → Nat) : ∀ n, mxF H n = 0 ∨ ∃ q, q < n ∧ mxF H n = H q
  | 0 => Or.inl rfl
  | n + 1 => by
    show max _ _ = 0 ∨ ∃ q, q < n + 1 ∧ max _ _ = H q
    rcases Nat.lt_or_ge (mxF H n) (H n) with z | z
    · right; exact ⟨n, by omega, by omega⟩
    · rcases mxF_at H n with y | ⟨q, h1, h2⟩
      · left; omega
      · right; exact ⟨q, by omega, by omega⟩
theorem mxF_is {H : Nat → Nat} {n m : Nat} (h1 : ∀ q, q < n → H q ≤ m) (h2 : m = 0 ∨ ∃ q, q < n ∧ m = H q) : m = mxF H n := by
  apply Nat.le_antisymm
  · rcases h2 with z | ⟨q, a, e⟩
    · omega
    · rw [e]; exact mxF_ge H n q a
  · rcases mxF_at H n with z | ⟨q, a, e⟩
    · omega
    · rw [e]; exact h1 q a
/-- v is the height of p as far as positions below n show it -/
def HP (g : SG) (H : Nat → Nat) (p n v : Nat) : Prop := 1 ≤ v ∧ (∀ q, p < q → q < n → ((gX g q).testBit p = true → H q + 1 ≤ v) ∧ ((gW g q).testBit p = true → H q ≤ v)) ∧ (v = 1 ∨ ∃ q, p < q ∧ q < n ∧ (((gX g q).testBit p = true ∧ v = H q + 1) ∨ ((gW g q).testBit p = true ∧ v = H q)))
def HgOK (g : SG) (H : Nat → Nat) : Prop := ∀ p, p < gS g → HP g H p (gS g) (H p)
/-- the same from the front -/
def UP (g : SG) (U : Nat → Nat) (p n v : Nat) : Prop := 1 ≤ v ∧ (∀ q, q < n → ((gX g p).testBit q = true → U q + 1 ≤ v) ∧ ((gW g p).testBit q = true → U q ≤ v)) ∧ (v = 1 ∨ ∃ q, q < n ∧ (((gX g p).testBit q = true ∧ v = U q + 1) ∨ ((gW g p).testBit q = true ∧ v = U q)))
def UgOK (g : SG) (U : Nat → Nat) : Prop := ∀ p, p < gS g → UP g U p p (U p)
theorem depth_eq {g : SG} {H U : Nat → Nat} (h : HgOK g H) (u : UgOK g U) : mxF H (gS g) = mxF U (gS g) := by
  have a : ∀ n p, p < gS g → gS g ≤ p + n → H p + U p ≤ mxF U (gS g) + 1 := by
    intro n
    induction n with
    | zero => intro p h1 h2; omega
    | succ n ih =>
      intro p h1 h2
      have up := mxF_ge U (gS g) p h1
      rcases (h p h1).2.2 with z | ⟨q, q1, q2, z⟩
      · omega
      · have := ih q q2 (by omega)
        obtain ⟨s1, s2⟩ := (u q q2).2.1 p q1
        rcases z with ⟨y, e⟩ | ⟨y, e⟩
        · have := s1 y; omega
        · have := s2 y; omega
  have b : ∀ p, p < gS g → H p + U p ≤ mxF H (gS g) + 1 := by
    intro p
    induction p using Nat.strongRecOn with
    | _ p ih =>
      intro h1
      have hp := mxF_ge H (gS g) p h1
      rcases (u p h1).2.2 with z | ⟨q, q1, z⟩
      · omega
      · have := ih q q1 (by omega)
        obtain ⟨s1, s2⟩ := (h q (by omega)).2.1 p q1 h1
        rcases z with ⟨y, e⟩ | ⟨y, e⟩
        · have := s1 y; omega
        · have := s2 y; omega
  apply Nat.le_antisymm
  · rcases mxF_at H (gS g) with z | ⟨q, q1, e⟩
    · omega
    · have := a (gS g) q q1 (by omega)
      have := (u q q1).1
      omega
  · rcases mxF_at U (gS g) with z | ⟨q, q1, e⟩
    · omega
    · have := b q q1
      have := (h q q1).1
      omega
/-- heights and fronts stay small -/
theorem HgOK.le {g : SG} {H : Nat → Nat} (h : HgOK g H) : ∀ n p, p < gS g → gS g ≤ p + n → H p ≤ gS g - p := by
  intro n
  induction n with
  | zero => intro p h1 h2; omega
  | succ n ih =>
    intro p h1 h2
    rcases (h p h1).2.2 with z | ⟨q, q1, q2, z⟩
    · omega
    · have := ih q q2 (by omega)
      rcases z with ⟨_, e⟩ | ⟨_, e⟩ <;> omega
def umx (g : SG) (U : Nat → Nat) (j : Nat) : Nat → Nat
  | 0 => 1
  | k + 1 => if (gX g j).testBit k then max (umx g U j k) (U k + 1) else if (gW g j).testBit k then max (umx g U j k) (U k) else umx g U j k
def uF (g : SG) : Nat → (Nat → Nat)
  | 0 => fun _ => 0
  | n + 1 => fun j => if j = n then umx g (uF g n) n n else uF g n j
def uV (g : SG) (j : Nat) : Nat := uF g (j + 1) j
theorem umx_cong {g : SG} {U U2 : Nat → Nat} {j : Nat} : ∀ k, (∀ q, q < k → U q = U2 q) → umx g U j k = umx g U2 j k
  | 0, _ => rfl
  | k + 1, h => by
    show (if (gX g j).testBit k then max (umx g U j k) (U k + 1) else if (gW g j).testBit k then max (umx g U j k) (U k) else umx g U j k) = (if (gX g j).testBit k then max (umx g U2 j k) (U2 k + 1) else if (gW g j).testBit k then max (umx g U2 j k) (U2 k) else umx g U2 j k)
    rw [umx_cong k (fun q hq => h q (by omega)), h k (by omega)]
theorem uF_uV (g : SG) : ∀ n j, j < n → uF g n j = uV g j
  | 0, j, h => by omega
  | n + 1, j, h => by
    by_cases q : j = n
    · rw [q]; rfl
    · show (if j = n then _ else uF g n j) = _
      rw [if_neg q]
      exact uF_uV g n j (by omega)
theorem uV_eq (g : SG) (j : Nat) : uV g j = umx g (uV g) j j := by
  show (if j = j then umx g (uF g j) j j else uF g j j) = _
  rw [if_pos rfl]
  exact umx_cong j (fun q hq => uF_uV g j q hq)
theorem umx_UP (g : SG) (U : Nat → Nat) (j : Nat) : ∀ k, UP g U j k (umx g U j k)
  | 0 => ⟨Nat.le_refl 1, fun q hq => by omega, Or.inl rfl⟩
  | k + 1 => by
    obtain ⟨h1, h2, h3⟩ := umx_UP g U j k
    show UP g U j (k + 1) (if (gX g j).testBit k then max (umx g U j k) (U k + 1) else if (gW g j).testBit k then max (umx g U j k) (U k) else umx g U j k)
    have old : ∀ v, umx g U j k ≤ v → ∀ q, q < k → ((gX g j).testBit q = true → U q + 1 ≤ v) ∧ ((gW g j).testBit q = true → U q ≤ v) := fun v hv q hq => ⟨fun z => Nat.le_trans ((h2 q hq).1 z) hv, fun z => Nat.le_trans ((h2 q hq).2 z) hv⟩
    have lift : ∀ v, v = umx g U j k → (v = 1 ∨ ∃ q, q < k + 1 ∧ (((gX g j).testBit q = true ∧ v = U q + 1) ∨ ((gW g j).testBit q = true ∧ v = U q))) := by
      intro v hv
      rcases h3 with z | ⟨q, q1, z⟩
      · exact Or.inl (by omega)
      · refine Or.inr ⟨q, by omega, ?_⟩
        rw [hv]; exact z
    cases hX : (gX g j).testBit k with
    | true =>
      show UP g U j (k + 1) (max _ _)
      refine ⟨by omega, fun q hq => ?_, ?_⟩
      · by_cases e : q = k
        · subst e; exact ⟨fun _ => by omega, fun _ => by omega⟩
        · exact old _ (by omega) q (by omega)
      · rcases Nat.lt_or_ge (umx g U j k) (U k + 1) with z | z
        · exact Or.inr ⟨k, by omega, Or.inl ⟨hX, by omega⟩⟩
        · exact lift _ (by omega)
    | false =>
      cases hW : (gW g j).testBit k with
      | true =>
        show UP g U j (k + 1) (max _ _)
        refine ⟨by omega, fun q hq => ?_, ?_⟩
        · by_cases e : q = k
          · subst e; exact ⟨fun z => (by rw [hX] at z; cases z), fun _ => by omega⟩
          · exact old _ (by omega) q (by omega)
        · rcases Nat.lt_or_ge (umx g U j k) (U k) with z | z
          · exact Or.inr ⟨k, by omega, Or.inr ⟨hW, by omega⟩⟩
          · exact lift _ (by omega)
      | false =>
        refine ⟨h1, fun q hq => ?_, lift _ rfl⟩
        by_cases e : q = k
        · subst e; exact ⟨fun z => (by rw [hX] at z; cases z), fun z => (by rw [hW] at z; cases z)⟩
        · exact old _ (Nat.le_refl _) q (by omega)
theorem uV_ok (g : SG) : UgOK g (uV g) := fun p _ => by rw [uV_eq g p]; exact umx_UP g (uV g) p p
theorem uV_le (g : SG) : ∀ p, uV g p ≤ p + 1 := by
  intro p
  induction p using Nat.strongRecOn with
  | _ p ih =>
    obtain ⟨h1, h2, h3⟩ := umx_UP g (uV g) p p
    rw [← uV_eq] at h3
    rcases h3 with z | ⟨q, q1, z⟩
    · omega
    · have := ih q q1
      rcases z with ⟨_, e⟩ | ⟨_, e⟩ <;> omega
def depth (g : SG) : Nat := mxF (uV g) (gS g)
theorem depth_le {g : SG} : depth g ≤ gS g := by
  rcases mxF_at (uV g) (gS g) with z | ⟨q, q1, e⟩
  · show mxF (uV g) (gS g) ≤ gS g
    omega
  · have := uV_le g q
    show mxF (uV g) (gS g) ≤ gS g
    omega
