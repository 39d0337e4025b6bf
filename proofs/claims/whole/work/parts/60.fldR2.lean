/-! the fields found, in the reference; controls -/
/-- what holds of the fields of a set -/
def FsOK (T : Nat → Nat) (s : Nat) (Fs : List Nat) : Prop := (∀ f, f < Fs.length → Sub (Fs.getD f 0) s ∧ Fld T (Fs.getD f 0) ∧ Fs.getD f 0 ≠ 0) ∧ (∀ f g m, f < Fs.length → g < Fs.length → (Fs.getD f 0).testBit m = true → (Fs.getD g 0).testBit m = true → f = g) ∧ ∀ m, s.testBit m = true → ∃ f, f < Fs.length ∧ (Fs.getD f 0).testBit m = true
theorem flF_ok {T : Nat → Nat} (ok : TOk T) : ∀ n s, s < 4096 → pcn s ≤ n → FsOK T s (flF T n s) := by
  intro n
  induction n with
  | zero =>
    intro s hs hp
    have z : s = 0 := by
      by_cases z : s = 0
      · exact z
      · have := pcn_pos hs z; omega
    refine ⟨fun f hf => absurd hf (Nat.not_lt_zero f), fun f g m hf => absurd hf (Nat.not_lt_zero f), fun m hm => ?_⟩
    rw [z, Nat.zero_testBit] at hm; cases hm
  | succ n ih =>
    intro s hs hp
    by_cases z : s = 0
    · subst z
      rw [flF_0]
      refine ⟨fun f hf => absurd hf (Nat.not_lt_zero f), fun f g m hf => absurd hf (Nat.not_lt_zero f), fun m hm => ?_⟩
      rw [Nat.zero_testBit] at hm; cases hm
    · obtain ⟨⟨b1, b2⟩, _⟩ := bf_is ok hs z
      have dl := FF_lt hs z b1
      have pd := pcn_dif b1.1
      have b0 : bf T s ≠ 0 := fun e => by have := b1.2.1; rw [e, Nat.zero_testBit] at this; cases this
      have pb := pcn_pos (sub_lt hs b1.1) b0
      obtain ⟨i1, i2, i3⟩ := ih (dif s (bf T s)) (by omega) (by omega)
      have e : flF T (n + 1) s = bf T s :: flF T n (dif s (bf T s)) := if_neg z
      rw [e]
      have dj : ∀ f m, f < (flF T n (dif s (bf T s))).length → ((flF T n (dif s (bf T s))).getD f 0).testBit m = true → (bf T s).testBit m = true → False := by
        intro f m hf h1 h2
        have := (i1 f hf).1 m h1
        rw [dif_bit, h2, Bool.not_true, Bool.and_false] at this
        cases this
      refine ⟨fun f hf => ?_, fun f g m hf hg h1 h2 => ?_, fun m hm => ?_⟩
      · cases f with
        | zero => exact ⟨b1.1, b1.2.2, b0⟩
        | succ f =>
          have hf : f + 1 < (flF T n (dif s (bf T s))).length + 1 := hf
          obtain ⟨j1, j2, j3⟩ := i1 f (by omega)
          exact ⟨fun i hi => dif_sub _ _ i (j1 i hi), j2, j3⟩
      · have hf : f < (flF T n (dif s (bf T s))).length + 1 := hf
        have hg : g < (flF T n (dif s (bf T s))).length + 1 := hg
        cases f with
        | zero =>
          cases g with
          | zero => rfl
          | succ g => exact (dj g m (by omega) h2 h1).elim
        | succ f =>
          cases g with
          | zero => exact (dj f m (by omega) h1 h2).elim
          | succ g => rw [i2 f g m (by omega) (by omega) h1 h2]
      · by_cases q : (bf T s).testBit m = true
        · exact ⟨0, Nat.succ_pos _, q⟩
        · obtain ⟨f, f1, f2⟩ := i3 m (by rw [dif_bit, hm, ts_nt' q]; rfl)
          exact ⟨f + 1, Nat.succ_lt_succ f1, f2⟩
theorem fl_ok {D : SD} {Q : SO} (w : Wf D) (wq : WfQ D Q) : FsOK (tog Q) (us Q) (fl Q) := flF_ok (tog_ok w wq) 12 _ (us_lt w wq) (pcn_le _)
theorem ct_and : ∀ (F m : Nat), m ≤ 12 → pcn (F &&& (2 ^ m - 1)) = ct F m := by
  intro F m hm
  unfold pcn ct
  have h1 : fb_ct (fun i => (F &&& (2 ^ m - 1)).testBit i) 12 = fb_ct (fun i => (F &&& (2 ^ m - 1)).testBit i) m := by
    have := fb_ct_split (fun i => (F &&& (2 ^ m - 1)).testBit i) m (12 - m)
    rw [show m + (12 - m) = 12 by omega] at this
    have z : fb_ct (fun k => (F &&& (2 ^ m - 1)).testBit (m + k)) (12 - m) = 0 := fb_ct_zero.mpr (fun k _ => by rw [Nat.testBit_and, Nat.testBit_two_pow_sub_one, decide_eq_false (by omega), Bool.and_false])
    rw [this, z, Nat.add_zero]
  rw [h1]
  refine fb_ct_cong (fun k hk => ?_)
  rw [Nat.testBit_and, Nat.testBit_two_pow_sub_one, decide_eq_true hk, Bool.and_true]
theorem ct_le (F m : Nat) : ct F m ≤ m := fb_ct_le _ _
theorem bl_p2 : ∀ m, m < 12 → bl (2 ^ m) = m + 1 := by decide +kernel
section FR2
variable {E : En} {L : Nat} {D : SD} {Q : SO} {T : Nat → Nat} {h : Hp} {P : Int32 → Hp → Prop} {PL : Int64 → Hp → Prop} {PV : Hp → Prop}
def fFd (c j : Nat) : Bool := c == 83 || c == 84 || c == 85 || (c == 63 && (j == 30 || j == 31))
theorem r_fields (w : Wf D) (wq : WfQ D Q) (cs : RSto D Q h) (t : ∀ h', Fr fFd h h' → FldR (fl Q) h' → PV h') : SpV E (L + 3) MX10_laysFields [.ref (eA E 63)] h PV := by
  have hN := p12_lt w.1
  have hq := wq.1
  have ok := tog_ok w wq
  have hu := us_lt w wq
  refine wp_X10_laysFields E (L + 2) h PV (fun ga => r_tog w wq cs (fun h1 f1 is1 => ?_))
  have fr1 : Fr fFd h h1 := f1.mono (fun c j q => by
    unfold fFd at q
    simp only [Bool.or_eq_false_iff] at q
    exact q.1.1.1)
  have sto1 : ∀ a, a < qN Q → h1.1 79 a = nI (qS Q a) := fun a ha => by rw [f1.f 79 (fun _ => rfl)]; exact (cs.2.1 a ha).1
  have n1 : h1.1 63 26 = nI (qN Q) := by rw [f1.i 63 26 rfl]; exact cs.1
  -- the fields are taken
  have taken : ∀ (k n s : Nat) (pre : List Nat) (h2 : Hp) (x : Int32), k + n = 12 → pcn s ≤ k → s < 4096 → Sub s (us Q) → pre.length = n → pre ++ flF (tog Q) k s = fl Q → Fr fFd h h2 → IsF (tog Q) h2 → (∀ x, Sub x (us Q) → h2.1 84 x = nI (cv (mc (tog Q) x))) → FldR pre h2 → VX10_laysFields_76 E (L + 2) ga PV (nI s) x h2 := by
    intro k
    induction k with
    | zero =>
      intro n s pre h2 x hk hp hs hsu hl e fr is co fd
      have z : s = 0 := by
        by_cases z : s = 0
        · exact z
        · have := pcn_pos hs z; omega
      have e : pre ++ [] = fl Q := e
      rw [List.append_nil] at e
      rw [z]
      exact sg_X10_laysFields_76 E (L + 2) ga _ _ h2 PV (br_t rfl (t h2 fr (by rw [← e]; exact fd)))
    | succ k ih =>
      intro n s pre h2 x hk hp hs hsu hl e fr is co fd
      refine sg_X10_laysFields_76 E (L + 2) ga _ _ h2 PV (ek_if (nI_z (by omega)) (fun z => ?_) (fun z => ?_))
      · rw [z, flF_0, List.append_nil] at e
        exact t h2 fr (by rw [← e]; exact fd)
      · have e : pre ++ (if s = 0 then [] else bf (tog Q) s :: flF (tog Q) k (dif s (bf (tog Q) s))) = fl Q := e
        rw [if_neg z] at e
        obtain ⟨⟨b1, b2⟩, _⟩ := bf_is ok hs z
        have dl := FF_lt hs z b1
        have pd := pcn_dif b1.1
        have hb := sub_lt hs b1.1
        have b0 : bf (tog Q) s ≠ 0 := fun e => by have := b1.2.1; rw [e, Nat.zero_testBit] at this; cases this
        have pb := pcn_pos hb b0
        have pl := pcn_le (bf (tog Q) s)
        have bb := bts_le pre
        refine r_bestF ok hs z is (fun y h1 _ => co y (fun i hi => hsu i (h1 i hi))) ?_
        have vn : vp_in (nI n) 12 := vp_in_nI (by omega) (by decide)
        have e30 : ∀ v, (sI h2 84 s v).1 63 30 = nI n := fun v => by rw [sI_n _ _ _ _ (by decide), fd.1, hl]
        have e31 : ∀ v, (sI h2 84 s v).1 63 31 = nI (bts pre) := fun v => by rw [sI_n _ _ _ _ (by decide), fd.2.1]
        rw [fd.1, hl, e30, e31, nI_clamp (n := n) (by omega), sI_at]
        refine ⟨vn, vn, r_ones hb (r_bitsFor (by omega) ?_)⟩
        have e30' : ∀ v v', (sI (sI h2 84 s v) 85 n v').1 63 30 = nI n := fun v v' => by rw [sI_n _ _ _ _ (by decide), e30]
        rw [e30', nI_clamp (n := n) (by omega), sI_at, nI_add, nI_1, nI_dif]
        refine ⟨vn, ih (n + 1) (dif s (bf (tog Q) s)) (pre ++ [bf (tog Q) s]) _ x (by omega) (by omega) (by omega) (fun i hi => hsu i (dif_sub _ _ i hi)) (by rw [List.length_append, hl]; rfl) (by rw [List.append_assoc]; exact e) ?_ (fun y hy => ?_) (fun y hy => ?_) ⟨?_, ?_, fun f hf => ?_⟩⟩
        · exact (((fr.si rfl).si rfl).si rfl).si rfl
        · rw [sI_n _ _ _ _ (by decide), sI_n _ _ _ _ (by decide), sI_n _ _ _ _ (by decide), sI_n _ _ _ _ (by decide)]
          exact is y hy
        · rw [sI_n _ _ _ _ (by decide), sI_n _ _ _ _ (by decide), sI_n _ _ _ _ (by decide)]
          by_cases q : y = s
          · rw [q, sI_at]
          · rw [sI_j q]; exact co y hy
        · rw [sI_at, List.length_append, hl]; rfl
        · rw [sI_j (by decide), sI_at, bts_app, bts_1]
        · rw [sI_n _ _ _ _ (by decide), sI_n _ _ _ _ (by decide)]
          rw [List.length_append] at hf
          have hf : f < pre.length + 1 := hf
          by_cases q : f = pre.length
          · rw [q, hl, sI_at, ← hl, getN_app1]
          · rw [sI_j (by omega), sI_n _ _ _ _ (by decide), getN_app (by omega)]
            exact fd.2.2 f (by omega)
  -- the costs of all sets
  have costs : ∀ x, x ≤ 4096 → ∀ h2, Fr fFd h h2 → IsF (tog Q) h2 → h2.1 84 0 = 0 → (∀ y, y ≠ 0 → y < x → Sub y (us Q) → h2.1 84 y = nI (cv (mc (tog Q) y))) → 1 ≤ x → VX10_laysFields_40 E (L + 2) ga PV (nI (us Q)) (nI x) h2 := by
    refine up_ind _ ?_ ?_
    · intro h2 fr is z0 co _
      refine sg_X10_laysFields_40 E (L + 2) ga _ _ h2 PV (br_t (nI_le (Nat.le_refl 4096) (by decide)) ?_)
      refine taken 12 0 (us Q) [] _ _ rfl (pcn_le _) hu (fun _ q => q) rfl rfl ((fr.si rfl).si rfl) (fun y hy => ?_) (fun y hy => ?_) ⟨?_, ?_, fun f hf => absurd hf (Nat.not_lt_zero f)⟩
      · rw [sI_n _ _ _ _ (by decide), sI_n _ _ _ _ (by decide)]
        exact is y hy
      · rw [sI_n _ _ _ _ (by decide), sI_n _ _ _ _ (by decide)]
        by_cases q : y = 0
        · rw [q, mc_0 ok]; exact z0
        · exact co y q (sub_lt hu hy) hy
      · rw [sI_j (by decide), sI_at]; rfl
      · rw [sI_at]; rfl
    · intro x hx ih h2 fr is z0 co x1
      refine sg_X10_laysFields_40 E (L + 2) ga _ _ h2 PV (br_f (nI_ge (b := 4096) hx (by decide)) ?_)
      have dle := dif_le x (us Q)
      rw [nI_dif, nI_1]
      refine bj_if (nI_z (by omega)) (fun z => ih h2 fr is z0 (fun y hy1 hy2 hy3 => ?_) (by omega)) (fun z => ?_)
      · by_cases q : y = x
        · rw [q] at hy3
          exact absurd (dif_0.mpr hy3) z
        · exact co y hy1 (by omega) hy3
      · have sx : Sub x (us Q) := dif_0.mp z
        refine wp_X10_laysCost E (L + 1) _ h2 _ (r_bestF ok hx (by omega) is (fun y h1 h2 => ?_) ?_)
        · by_cases q : y = 0
          · rw [q, mc_0 ok]; exact z0
          · exact co y q (by have := sub_le h1; omega) (fun i hi => sx i (h1 i hi))
        · refine ih _ (fr.si rfl) (fun y hy => by rw [sI_n _ _ _ _ (by decide)]; exact is y hy) (by rw [sI_j (by omega)]; exact z0) (fun y hy1 hy2 hy3 => ?_) (by omega)
          by_cases q : y = x
          · rw [q, sI_at]
          · rw [sI_j q]; exact co y hy1 (by omega) hy3
  have usedL : ∀ a, a ≤ qN Q → VX10_laysFields_8 E (L + 2) ga PV (nI (usF Q a)) (nI a) h1 := by
    refine up_ind _ ?_ ?_
    · refine sg_X10_laysFields_8 E (L + 2) ga _ _ h1 PV ?_
      rw [n1]
      refine br_t (nI_le (Nat.le_refl _) (by omega)) ⟨vp_in_nI (n := 0) (by decide) (by decide), ?_⟩
      refine costs 1 (by decide) _ (fr1.si rfl) (fun y hy => by rw [sI_n _ _ _ _ (by decide)]; exact is1 y hy) (sI_at _ _ _ _) (fun y h1 h2 _ => by omega) (Nat.le_refl _)
    · intro a ha ih
      refine sg_X10_laysFields_8 E (L + 2) ga _ _ h1 PV ?_
      rw [n1, nI_clamp (by omega), sto1 a ha, nI_or, nI_1]
      exact br_f (nI_ge ha (by omega)) ⟨vp_in_nI (by omega) (by decide), ih⟩
  exact usedL 0 (Nat.zero_le _)
/-- the field of an operation -/
theorem r_fieldWith {Fs : List Nat} {m s : Nat} (hm : m < 12) (hs : s < 4096) (fd : FldR Fs h) (fk : FsOK T s Fs) (l12 : Fs.length ≤ 12) (t1 : ∀ f, f < Fs.length → (Fs.getD f 0).testBit m = true → P (nI f) h) (t0 : (∀ f, f < Fs.length → (Fs.getD f 0).testBit m = false) → P (-1) h) : SpI E L MX10_fieldWith [.ref (eA E 63), .int (nI m)] h P := by
  refine wp_X10_fieldWith E L _ h P (fun ga => ?_)
  have loop : ∀ f, f ≤ Fs.length → (∀ g, g < f → (Fs.getD g 0).testBit m = false) → VX10_fieldWith_2 E L ga P (nI m) (nI f) h := by
    refine up_ind _ ?_ ?_
    · intro no
      refine sg_X10_fieldWith_2 E L ga _ _ h P ?_
      rw [fd.1]
      exact br_t (nI_le (Nat.le_refl _) (by omega)) (t0 no)
    · intro f hf ih no
      have lt := sub_lt hs (fk.1 f hf).1
      refine sg_X10_fieldWith_2 E L ga _ _ h P ?_
      rw [fd.1, nI_clamp (by omega), fd.2.2 f hf, nI_1]
      refine br_f (nI_ge hf (by omega)) ⟨vp_in_nI (by omega) (by decide), bj_if (bitB (by omega) (by omega)) (fun z => ih (fun g hg => ?_)) (fun z => t1 f hf z)⟩
      by_cases q : g = f
      · rw [q]; exact ts_nt' z
      · exact no g (by omega)
  exact loop 0 (Nat.zero_le _) (fun g hg => absurd hg (Nat.not_lt_zero g))
theorem r_code {Fs : List Nat} {f m s : Nat} (hm : m < 12) (hs : s < 4096) (fd : FldR Fs h) (fk : FsOK T s Fs) (l12 : Fs.length ≤ 12) (hf : f < Fs.length) (hb : (Fs.getD f 0).testBit m = true) (t : P (nI (ct (Fs.getD f 0) m + 1)) h) : SpI E (L + 1) MX10_code [.ref (eA E 63), .int (nI m)] h P := by
  have lt := sub_lt hs (fk.1 f hf).1
  refine wp_X10_code E L _ h P (r_fieldWith hm hs fd fk l12 (fun g hg hgb => ?_) (fun no => ?_))
  · have e := fk.2.1 f g m hf hg hb hgb
    subst e
    rw [nI_clamp (n := f) (by omega), fd.2.2 f hf, sh1 m (by omega), sub_1 (Nat.two_pow_pos m), nI_and]
    refine ⟨vp_in_nI (by omega) (by decide), r_ones (Nat.lt_of_le_of_lt Nat.and_le_left lt) ?_⟩
    rw [ct_and _ m (by omega), show (1 : Int32) = nI 1 from rfl, nI_add, Nat.add_comm]
    exact t
  · rw [no f hf] at hb; cases hb
def Cb (Fs : List Nat) (s i n k : Nat) : Prop := ∃ f m, f < n ∧ m < k ∧ (Fs.getD f 0).testBit m = true ∧ s.testBit m = true ∧ ((ct (Fs.getD f 0) m + 1) * 2 ^ bts (Fs.take f)).testBit i = true
def IsCtl (Fs : List Nat) (s n k X : Nat) : Prop := ∀ i, X.testBit i = true ↔ Cb Fs s i n k
theorem IsCtl.uq {Fs : List Nat} {s n k X Y : Nat} (a : IsCtl Fs s n k X) (b : IsCtl Fs s n k Y) : X = Y := by
  apply Nat.eq_of_testBit_eq
  intro i
  exact bitq ((a i).trans (b i).symm)
theorem c_encode {Fs : List Nat} {s u : Nat} {b : Bool} (hs : s < 4096) (su : Sub s u) (fc : FldC Fs h) (fk : FsOK T u Fs) (l12 : Fs.length ≤ 12) (t : ∀ X, IsCtl Fs s Fs.length 12 X → PL (lN (X ||| (if b then 2 ^ bts Fs else 0))) h) : SpL E L MX0_encode [.ref (eA E 51), .int (nI s), .int (b2i b)] h PL := by
  have bb := bts_le Fs
  refine wp_X0_encode E L _ _ h PL (fun ga => ?_)
  have loop : ∀ m, m ≤ 12 → ∀ X S0, S0 = (if b then 2 ^ bts Fs else 0) → IsCtl Fs s Fs.length m X → VX0_encode_18 E L ga PL (nI s) (b2i b) (lN (X ||| S0)) (nI m) h := by
    refine up_ind _ ?_ ?_
    · intro X S0 e0 ic
      rw [e0]
      exact sg_X0_encode_18 E L ga _ _ _ _ h PL (br_t (nI_le (Nat.le_refl 12) (by decide)) (t X ic))
    · intro m hm ih X S0 e0 ic
      refine sg_X0_encode_18 E L ga _ _ _ _ h PL (br_f (nI_ge (b := 12) hm (by decide)) ?_)
      have vm : vp_in (nI m) 12 := vp_in_nI hm (by decide)
      rw [nI_1, nI_clamp (by omega)]
      refine ek_if (bitA (by omega)) (fun z => ih X S0 e0 (fun i => ?_)) (fun z => ⟨vm, vm, ?_⟩)
      · rw [ic i]
        constructor
        · rintro ⟨f, m', h1, h2, h3⟩; exact ⟨f, m', h1, by omega, h3⟩
        · rintro ⟨f, m', h1, h2, h3, h4, h5⟩
          by_cases q : m' = m
          · rw [q, z] at h4; cases h4
          · exact ⟨f, m', h1, by omega, h3, h4, h5⟩
      · have z := ts_nf' z
        obtain ⟨f, f1, f2⟩ := fk.2.2 m (su m z)
        obtain ⟨c1, c2, c3⟩ := (fc.2.2 m hm).1 f f1 f2
        have bt2 := bts_le (Fs.take f)
        have tl : (Fs.take f).length ≤ 12 := by rw [List.length_take]; omega
        have cl := ct_le (Fs.getD f 0) m
        rw [c2, c3, nI_l (by omega), wb_shl _ (by omega), fb_orL, Nat.or_assoc, Nat.or_comm S0, ← Nat.or_assoc]
        refine ih _ S0 e0 (fun i => ?_)
        rw [Nat.testBit_or, Bool.or_eq_true, ic i]
        constructor
        · rintro (⟨f', m', h1, h2, h3⟩ | q)
          · exact ⟨f', m', h1, by omega, h3⟩
          · exact ⟨f, m, f1, by omega, f2, z, q⟩
        · rintro ⟨f', m', h1, h2, h3, h4, h5⟩
          by_cases q : m' = m
          · subst q
            have e := fk.2.1 f f' m' f1 h1 f2 h3
            subst e
            exact Or.inr h5
          · exact Or.inl ⟨f', m', h1, by omega, h3, h4, h5⟩
  have z0 : IsCtl Fs s Fs.length 0 0 := fun i => by
    rw [Nat.zero_testBit]
    constructor
    · intro q; cases q
    · rintro ⟨f, m, _, h2, _⟩; cases h2
  have a := loop 0 (by decide) 0 _ rfl z0
  rw [Nat.zero_or] at a
  cases b with
  | false => exact br_t rfl a
  | true =>
    refine br_f (by decide) ?_
    rw [fc.2.1, show (1 : Int64) = lN 1 from rfl, wb_shl _ (by omega), Nat.one_mul]
    exact a
theorem r_ctl {Fs : List Nat} {a u : Nat} {ga : Ga} (w : Wf D) (wq : WfQ D Q) (cs : RSto D Q h) (ha : a < qN Q) (hu : u < 4096) (fd : FldR Fs h) (fk : FsOK (tog Q) u Fs) (l12 : Fs.length ≤ 12) (t : ∀ X, IsCtl Fs (qS Q a) Fs.length 12 X → PL (lN (X ||| (if qF Q a then 2 ^ bts Fs else 0))) h) : VX10_control_30 E (L + 1) ga PL (nI a) (0 : Int64) (0 : Int32) (0 : Int32) h := by
  have hN := p12_lt w.1
  have hq := wq.1
  have sa := wq.2.1 a ha
  have bb := bts_le Fs
  obtain ⟨c1, c2, c3⟩ := cs.2.1 a ha
  have va : vp_in (nI a) 192 := vp_in_nI (by omega) (by decide)
  have loop : ∀ f, f ≤ Fs.length → ∀ X, IsCtl Fs (qS Q a) f 12 X → VX10_control_30 E (L + 1) ga PL (nI a) (lN X) (nI (bts (Fs.take f))) (nI f) h := by
    refine up_ind _ ?_ ?_
    · intro X ic
      refine sg_X10_control_30 E (L + 1) ga _ _ _ _ h PL ?_
      rw [fd.1, nI_clamp (n := a) (by omega), c2, List.take_length]
      refine br_t (nI_le (Nat.le_refl _) (by omega)) ⟨va, ?_⟩
      have := t X ic
      cases hF : qF Q a with
      | true =>
        rw [hF] at this
        rw [show b2i true = nI 1 from rfl, nI_l (by decide), wb_shl _ (by omega), Nat.one_mul, fb_orL]
        exact this
      | false =>
        rw [hF] at this
        rw [show b2i false = nI 0 from rfl, nI_l (by decide), wb_shl _ (by omega), Nat.zero_mul, fb_orL]
        exact this
    · intro f hf ih X ic
      have vf : vp_in (nI f) 12 := vp_in_nI (by omega) (by decide)
      obtain ⟨k1, k2, k3⟩ := fk.1 f hf
      have lt := sub_lt hu k1
      have pl := pcn_le (Fs.getD f 0)
      have tk : Fs.take (f + 1) = Fs.take f ++ [Fs.getD f 0] := by
        rw [List.take_succ, List.getD_eq_getElem?_getD, List.getElem?_eq_getElem hf]; rfl
      have bt2 := bts_le (Fs.take f)
      have tl : (Fs.take f).length ≤ 12 := by rw [List.length_take]; omega
      have ebt : bts (Fs.take (f + 1)) = bts (Fs.take f) + bl (pcn (Fs.getD f 0)) := by rw [tk, bts_app, bts_1]
      refine sg_X10_control_30 E (L + 1) ga _ _ _ _ h PL ?_
      rw [fd.1, nI_clamp (n := f) (by omega), nI_clamp (n := a) (by omega), fd.2.2 f hf, c1, nI_1, nI_and]
      have hl : Fs.getD f 0 &&& qS Q a < 4096 := Nat.lt_of_le_of_lt Nat.and_le_left lt
      have two := (pcn_two (y := qS Q a &&& Fs.getD f 0) (by rw [Nat.and_comm]; exact hl)).mp ((fld_tog w wq _).mp k2 a ha)
      refine br_f (nI_ge hf (by omega)) ⟨vf, va, ek_if (nI_z (by omega)) (fun z => ⟨vf, r_ones lt (r_bitsFor (by omega) ?_)⟩) (fun z => ?_)⟩
      · rw [nI_add, ← ebt]
        refine ih X (fun i => ?_)
        rw [ic i]
        constructor
        · rintro ⟨f', m', h1, h3⟩; exact ⟨f', m', by omega, h3⟩
        · rintro ⟨f', m', h1, h2, h3, h4, h5⟩
          by_cases q : f' = f
          · subst q
            have : (Fs.getD f' 0 &&& qS Q a).testBit m' = true := by rw [Nat.testBit_and, h3, h4]; rfl
            rw [z, Nat.zero_testBit] at this
            cases this
          · exact ⟨f', m', by omega, h2, h3, h4, h5⟩
      · obtain ⟨m, hm⟩ := nz_bit z
        have m12 : m < 12 := by
          rcases Nat.lt_or_ge m 12 with q | q
          · exact q
          · rw [tb12 hl q] at hm; cases hm
        have hm2 := hm
        rw [Nat.testBit_and, Bool.and_eq_true] at hm2
        have e2 : Fs.getD f 0 &&& qS Q a = 2 ^ m := by
          apply Nat.eq_of_testBit_eq
          intro i
          rw [p2_bit]
          by_cases q : m = i
          · rw [← q, hm]; simp
          · rw [decide_eq_false q]
            refine ts_nt' (fun e => q ?_)
            rw [Nat.and_comm] at e hm
            exact two m i hm e
        refine r_bitsFor hl ?_
        rw [e2, bl_p2 m m12, sub1_s]
        refine r_code m12 hu fd fk l12 hf hm2.1 ⟨vf, ?_⟩
        rw [fd.2.2 f hf]
        refine r_ones lt (r_bitsFor (by omega) ?_)
        have cl := ct_le (Fs.getD f 0) m
        rw [nI_add, ← ebt, nI_l (by omega), wb_shl _ (by omega), fb_orL]
        refine ih _ (fun i => ?_)
        rw [Nat.testBit_or, Bool.or_eq_true, ic i]
        constructor
        · rintro (⟨f', m', h1, h3⟩ | q)
          · exact ⟨f', m', by omega, h3⟩
          · exact ⟨f, m, by omega, m12, hm2.1, hm2.2, q⟩
        · rintro ⟨f', m', h1, h2, h3, h4, h5⟩
          by_cases q : f' = f
          · subst q
            have : m = m' := two m m' (by rw [Nat.testBit_and, hm2.1, hm2.2]; rfl) (by rw [Nat.testBit_and, h3, h4]; rfl)
            subst this
            exact Or.inr h5
          · exact Or.inl ⟨f', m', by omega, h2, h3, h4, h5⟩
  exact loop 0 (Nat.zero_le _) 0 (fun i => by
    rw [Nat.zero_testBit]
    constructor
    · intro q; cases q
    · rintro ⟨f, m, h1, _⟩; cases h1)
end FR2
