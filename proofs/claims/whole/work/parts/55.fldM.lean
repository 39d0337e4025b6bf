/-! fields as mathematics -/
noncomputable def lst (p : Nat → Prop) : Nat := Classical.epsilon (fun n => p n ∧ ∀ m, m < n → ¬ p m)
theorem lst_is {p : Nat → Prop} (h : ∃ n, p n) : p (lst p) ∧ ∀ m, m < lst p → ¬ p m := Classical.epsilon_spec (pk_least p h)
def lowi (s : Nat) : Nat := fa_first (fun i => s.testBit i) 12
/-- the bits of a number -/
def bl (n : Nat) : Nat := fa_first (fun b => decide (n < 2 ^ b)) 13
def PB (n : Nat) : Nat := [0, 0, 2, 3, 3, 4, 4, 4, 4, 5, 5, 5, 5].getD n 0
theorem lt12 {s : Nat} (h : ∀ i, 12 ≤ i → s.testBit i = false) : s < 4096 := Nat.lt_pow_two_of_testBit (n := 12) s h
theorem tb12 {s i : Nat} (h : s < 4096) (hi : 12 ≤ i) : s.testBit i = false := tb_lt (n := 12) h hi
theorem nz_bit {s : Nat} (h : s ≠ 0) : ∃ i, s.testBit i = true := Nat.exists_testBit_of_ne_zero h
theorem nz_low {s : Nat} (hs : s < 4096) (h : s ≠ 0) : lowi s < 12 ∧ s.testBit (lowi s) = true ∧ ∀ j, j < lowi s → s.testBit j = false := by
  obtain ⟨i, hi⟩ := nz_bit h
  have i12 : i < 12 := by
    rcases Nat.lt_or_ge i 12 with q | q
    · exact q
    · rw [tb12 hs q] at hi; cases hi
  have no := fa_first_no (fun i => s.testBit i) 12
  have l : lowi s < 12 := by
    rcases Nat.lt_or_ge (lowi s) 12 with q | q
    · exact q
    · have : s.testBit i = false := no i (by unfold lowi at q; omega)
      rw [this] at hi; cases hi
  exact ⟨l, fa_first_yes (fun i => s.testBit i) 12 l, no⟩
theorem low_uq {s m : Nat} (hs : s < 4096) (h1 : s.testBit m = true) (h2 : ∀ j, j < m → s.testBit j = false) : lowi s = m := by
  have nz : s ≠ 0 := fun e => by rw [e, Nat.zero_testBit] at h1; cases h1
  obtain ⟨a, b, c⟩ := nz_low hs nz
  rcases Nat.lt_or_ge (lowi s) m with q | q
  · rw [h2 _ q] at b; cases b
  · rcases Nat.lt_or_ge m (lowi s) with q2 | q2
    · rw [c _ q2] at h1; cases h1
    · omega
theorem pcn_cong {a b : Nat} (h : ∀ i, i < 12 → a.testBit i = b.testBit i) : pcn a = pcn b := fb_ct_cong h
theorem pcn_dif {s F : Nat} (h : Sub F s) : pcn s = pcn F + pcn (dif s F) := by
  unfold pcn
  rw [← fb_ct_or (p := fun i => F.testBit i) (q := fun i => (dif s F).testBit i) (fun k _ => ?_)]
  · refine fb_ct_cong (fun k _ => ?_)
    rw [dif_bit]
    cases hF : F.testBit k with
    | false => cases s.testBit k <;> rfl
    | true => rw [h k hF]; rfl
  · rw [dif_bit]
    cases F.testBit k <;> simp
theorem pcn_pos {s : Nat} (hs : s < 4096) (h : s ≠ 0) : 0 < pcn s := by
  obtain ⟨a, b, _⟩ := nz_low hs h
  exact fb_ct_pos.mpr ⟨_, a, b⟩
theorem pcn_sub {a b : Nat} (h : Sub a b) : pcn a ≤ pcn b := fb_ct_sub (fun k _ q => h k q)
theorem sub_lt {a s : Nat} (hs : s < 4096) (h : Sub a s) : a < 4096 := lt12 (fun i hi => by
  cases e : a.testBit i with
  | false => rfl
  | true => have := h i e; rw [tb12 hs hi] at this; cases this)
theorem dif_sub (s F : Nat) : Sub (dif s F) s := fun i h => by
  rw [dif_bit] at h
  cases e : s.testBit i with
  | true => rfl
  | false => rw [e] at h; cases h
theorem dif_lt {s F i : Nat} (h1 : s.testBit i = true) (h2 : F.testBit i = true) : dif s F < s := by
  have := dif_le s F
  rcases Nat.lt_or_ge (dif s F) s with q | q
  · exact q
  · have e : dif s F = s := by omega
    have := dif_bit s F i
    rw [e, h1, h2] at this
    cases this
theorem bl_sub' : ∀ a, a < 13 → ∀ b, b < 13 → (0 < a ∧ 0 < b ∧ a + b < 13) → bl (a + b) ≤ bl a + bl b ∧ PB (a + b) ≤ bl a + bl b := by decide +kernel
theorem bl_sub (a : Nat) (ha : a < 13) (b : Nat) (hb : b < 13) (h1 : 0 < a) (h2 : 0 < b) (h3 : a + b < 13) : bl (a + b) ≤ bl a + bl b ∧ PB (a + b) ≤ bl a + bl b := bl_sub' a ha b hb ⟨h1, h2, h3⟩
theorem bl_mono : ∀ a, a < 13 → ∀ b, b < 13 → a ≤ b → bl a ≤ bl b := by decide +kernel
theorem bl_le : ∀ a, a < 13 → bl a ≤ a ∧ bl a ≤ 4 := by decide +kernel
def Fld (T : Nat → Nat) (s : Nat) : Prop := ∀ m k, s.testBit m = true → s.testBit k = true → (T m).testBit k = false
def FF (T : Nat → Nat) (s F : Nat) : Prop := Sub F s ∧ F.testBit (lowi s) = true ∧ Fld T F
def own (F : Nat) : Nat := 16 * bl (pcn F) + 1
theorem own_mono {a b : Nat} (h : Sub a b) : own a ≤ own b := by
  have := bl_mono (pcn a) (by have := pcn_le a; omega) (pcn b) (by have := pcn_le b; omega) (pcn_sub h)
  unfold own
  omega
theorem own_le (a : Nat) : own a ≤ 65 := by
  have := (bl_le (pcn a) (by have := pcn_le a; omega)).2
  unfold own
  omega
/-- a list of fields that are all of a set -/
def Prt (T : Nat → Nat) : List Nat → Nat → Prop
  | [], s => s = 0
  | F :: l, s => s ≠ 0 ∧ FF T s F ∧ Prt T l (dif s F)
def cst : List Nat → Nat
  | [] => 0
  | F :: l => own F + cst l
def TOk (T : Nat → Nat) : Prop := (∀ m, T m < 4096 ∧ (T m).testBit m = false) ∧ ∀ m k, (T m).testBit k = (T k).testBit m
section FLM
variable {T : Nat → Nat}
theorem FF_one (ok : TOk T) {s : Nat} (hs : s < 4096) (h : s ≠ 0) : FF T s (2 ^ lowi s) := by
  obtain ⟨a, b, c⟩ := nz_low hs h
  refine ⟨fun i hi => ?_, by rw [p2_bit]; exact decide_eq_true rfl, fun m k hm hk => ?_⟩
  · rw [p2_bit, decide_eq_true_iff] at hi
    rw [← hi]; exact b
  · rw [p2_bit, decide_eq_true_iff] at hm hk
    rw [← hm, ← hk]
    exact (ok.1 _).2
theorem FF_lt {s F : Nat} (hs : s < 4096) (h : s ≠ 0) (f : FF T s F) : dif s F < s := dif_lt (nz_low hs h).2.1 f.2.1
theorem Prt_ex (ok : TOk T) : ∀ s, s < 4096 → ∃ l, Prt T l s := by
  intro s
  induction s using Nat.strongRecOn with
  | _ s ih =>
    intro hs
    by_cases z : s = 0
    · exact ⟨[], z⟩
    · have f := FF_one ok hs z
      have lt := FF_lt hs z f
      obtain ⟨l, hl⟩ := ih _ lt (by omega)
      exact ⟨_ :: l, z, f, hl⟩
noncomputable def mc (T : Nat → Nat) (s : Nat) : Nat := lst (fun v => ∃ l, Prt T l s ∧ cst l = v)
theorem mc_is (ok : TOk T) {s : Nat} (hs : s < 4096) : (∃ l, Prt T l s ∧ cst l = mc T s) ∧ ∀ l, Prt T l s → mc T s ≤ cst l := by
  obtain ⟨l, hl⟩ := Prt_ex ok s hs
  have h := lst_is (p := fun v => ∃ l, Prt T l s ∧ cst l = v) ⟨_, l, hl, rfl⟩
  refine ⟨h.1, fun l hl => ?_⟩
  rcases Nat.lt_or_ge (cst l) (mc T s) with q | q
  · exact absurd ⟨l, hl, rfl⟩ (h.2 _ q)
  · exact q
theorem mc_0 (ok : TOk T) : mc T 0 = 0 := Nat.le_zero.mp ((mc_is ok (s := 0) (by decide)).2 [] rfl)
theorem mc_le (ok : TOk T) {s F : Nat} (hs : s < 4096) (z : s ≠ 0) (f : FF T s F) : mc T s ≤ own F + mc T (dif s F) := by
  have lt := FF_lt hs z f
  obtain ⟨⟨l, h1, h2⟩, _⟩ := mc_is ok (s := dif s F) (by omega)
  rw [← h2]
  exact (mc_is ok hs).2 (F :: l) ⟨z, f, h1⟩
theorem mc_at (ok : TOk T) {s : Nat} (hs : s < 4096) (z : s ≠ 0) : ∃ F, FF T s F ∧ mc T s = own F + mc T (dif s F) := by
  obtain ⟨⟨l, h1, h2⟩, _⟩ := mc_is ok hs
  cases l with
  | nil => exact absurd h1 z
  | cons F l =>
    obtain ⟨_, f, p⟩ := h1
    have lt := FF_lt hs z f
    have a := mc_le ok hs z f
    have b := (mc_is ok (s := dif s F) (by omega)).2 l p
    have h2 : own F + cst l = mc T s := h2
    exact ⟨F, f, by omega⟩
/-- the least first field that costs the least -/
noncomputable def bf (T : Nat → Nat) (s : Nat) : Nat := lst (fun F => FF T s F ∧ mc T s = own F + mc T (dif s F))
theorem bf_is (ok : TOk T) {s : Nat} (hs : s < 4096) (z : s ≠ 0) : (FF T s (bf T s) ∧ mc T s = own (bf T s) + mc T (dif s (bf T s))) ∧ ∀ F, FF T s F → mc T s = own F + mc T (dif s F) → bf T s ≤ F := by
  have h := lst_is (p := fun F => FF T s F ∧ mc T s = own F + mc T (dif s F)) (mc_at ok hs z)
  refine ⟨h.1, fun F a b => ?_⟩
  rcases Nat.lt_or_ge F (bf T s) with q | q
  · exact absurd ⟨a, b⟩ (h.2 _ q)
  · exact q
theorem bf_uq (ok : TOk T) {s F : Nat} (hs : s < 4096) (z : s ≠ 0) (a : FF T s F) (b : mc T s = own F + mc T (dif s F)) (c : ∀ G, FF T s G → mc T s = own G + mc T (dif s G) → F ≤ G) : bf T s = F := by
  obtain ⟨⟨h1, h2⟩, h3⟩ := bf_is ok hs z
  have := h3 F a b
  have := c _ h1 h2
  omega
/-- a bound from below -/
theorem mc_lo (ok : TOk T) : ∀ s, s < 4096 → s ≠ 0 → own s ≤ mc T s := by
  intro s
  induction s using Nat.strongRecOn with
  | _ s ih =>
    intro hs z
    obtain ⟨F, f, e⟩ := mc_at ok hs z
    have lt := FF_lt hs z f
    have p := pcn_dif f.1
    rw [e]
    by_cases q : dif s F = 0
    · have : pcn (0 : Nat) = 0 := by decide
      rw [q, this, Nat.add_zero] at p
      unfold own
      rw [p]
      omega
    · have i1 := ih _ lt (by omega) q
      have hF : F ≠ 0 := fun e => by have := f.2.1; rw [e, Nat.zero_testBit] at this; cases this
      have p1 := pcn_pos (sub_lt hs f.1) hF
      have p2 := pcn_pos (s := dif s F) (by omega) q
      have p3 := pcn_le s
      have b := (bl_sub (pcn F) (by omega) (pcn (dif s F)) (by omega) p1 p2 (by omega)).1
      unfold own at i1 ⊢
      rw [p]
      omega
theorem FF_eq {s F : Nat} (f : FF T s F) (q : dif s F = 0) : F = s := by
  apply Nat.eq_of_testBit_eq
  intro i
  have := dif_0.mp q i
  cases e : F.testBit i with
  | true => exact (f.1 i e).symm
  | false =>
    cases e2 : s.testBit i with
    | false => rfl
    | true => rw [this e2] at e; cases e
theorem mc_two (ok : TOk T) {s F : Nat} (hs : s < 4096) (z : s ≠ 0) (f : FF T s F) (n : F ≠ s) : 16 * PB (pcn s) + 2 ≤ own F + mc T (dif s F) ∧ own s + 1 ≤ own F + mc T (dif s F) := by
  have lt := FF_lt hs z f
  have p := pcn_dif f.1
  have q : dif s F ≠ 0 := fun q => n (FF_eq f q)
  have i1 := mc_lo ok (dif s F) (by omega) q
  have hF : F ≠ 0 := fun e => by have := f.2.1; rw [e, Nat.zero_testBit] at this; cases this
  have p1 := pcn_pos (sub_lt hs f.1) hF
  have p2 := pcn_pos (s := dif s F) (by omega) q
  have p3 := pcn_le s
  have b := bl_sub (pcn F) (by omega) (pcn (dif s F)) (by omega) p1 p2 (by omega)
  unfold own at i1 ⊢
  rw [p]
  omega
theorem mc_par (ok : TOk T) {s : Nat} (hs : s < 4096) (z : s ≠ 0) (n : ¬ Fld T s) : 16 * PB (pcn s) + 2 ≤ mc T s := by
  obtain ⟨F, f, e⟩ := mc_at ok hs z
  rw [e]
  exact (mc_two ok hs z f (fun q => n (by rw [← q]; exact f.2.2))).1
theorem dif_self (s : Nat) : dif s s = 0 := dif_0.mpr (fun _ h => h)
theorem FF_self {s : Nat} (hs : s < 4096) (z : s ≠ 0) (f : Fld T s) : FF T s s := ⟨fun _ h => h, (nz_low hs z).2.1, f⟩
theorem mc_fld (ok : TOk T) {s : Nat} (hs : s < 4096) (z : s ≠ 0) (f : Fld T s) : mc T s = own s ∧ bf T s = s := by
  have a := mc_lo ok s hs z
  have ff := FF_self hs z f
  have b := mc_le ok hs z ff
  rw [dif_self, mc_0 ok] at b
  have e : mc T s = own s := by omega
  refine ⟨e, bf_uq ok hs z ff (by rw [dif_self, mc_0 ok]; exact e) (fun G g h => ?_)⟩
  by_cases q : G = s
  · omega
  · have := (mc_two ok hs z g q).2
    omega
/-- bits and fields -/
theorem mc_bc (ok : TOk T) : ∀ s, s < 4096 → ∃ b c, mc T s = 16 * b + c ∧ b ≤ pcn s ∧ c ≤ pcn s := by
  intro s
  induction s using Nat.strongRecOn with
  | _ s ih =>
    intro hs
    by_cases z : s = 0
    · exact ⟨0, 0, by rw [z, mc_0 ok], Nat.zero_le _, Nat.zero_le _⟩
    · obtain ⟨F, f, e⟩ := mc_at ok hs z
      have lt := FF_lt hs z f
      have p := pcn_dif f.1
      obtain ⟨b, c, h1, h2, h3⟩ := ih _ lt (by omega)
      have hF : F ≠ 0 := fun e => by have := f.2.1; rw [e, Nat.zero_testBit] at this; cases this
      have p1 := pcn_pos (sub_lt hs f.1) hF
      have p3 := pcn_le F
      have p4 := (bl_le (pcn F) (by omega)).1
      exact ⟨bl (pcn F) + b, 1 + c, by rw [e, h1]; unfold own; omega, by omega, by omega⟩
theorem mc_max (ok : TOk T) {s : Nat} (hs : s < 4096) : mc T s ≤ 204 ∧ mc T s % 16 ≤ 12 := by
  obtain ⟨b, c, h1, h2, h3⟩ := mc_bc ok s hs
  have := pcn_le s
  omega
theorem Fld.sub {a b : Nat} (f : Fld T b) (h : Sub a b) : Fld T a := fun m k hm hk => f m k (h m hm) (h k hk)
theorem dif_swap (s a b : Nat) : dif (dif s a) b = dif (dif s b) a := by
  apply Nat.eq_of_testBit_eq
  intro i
  rw [dif_bit, dif_bit, dif_bit, dif_bit]
  cases s.testBit i <;> cases a.testBit i <;> cases b.testBit i <;> rfl
/-- any field may be taken away -/
theorem mc_any (ok : TOk T) : ∀ s G, s < 4096 → G ≠ 0 → Sub G s → Fld T G → mc T s ≤ own G + mc T (dif s G) := by
  intro s
  induction s using Nat.strongRecOn with
  | _ s ih =>
    intro G hs hG sub f
    obtain ⟨i, hi⟩ := nz_bit hG
    have z : s ≠ 0 := fun e => by have := sub i hi; rw [e, Nat.zero_testBit] at this; cases this
    obtain ⟨l1, l2, l3⟩ := nz_low hs z
    by_cases q : G.testBit (lowi s) = true
    · exact mc_le ok hs z ⟨sub, q, f⟩
    · have q := ts_nt' q
      have dl : dif s G < s := dif_lt (sub i hi) hi
      have d1 : (dif s G).testBit (lowi s) = true := by rw [dif_bit, l2, q]; rfl
      have dz : dif s G ≠ 0 := fun e => by rw [e, Nat.zero_testBit] at d1; cases d1
      have el : lowi (dif s G) = lowi s := low_uq (by omega) d1 (fun j hj => by rw [dif_bit, l3 j hj]; rfl)
      obtain ⟨F, ff, e⟩ := mc_at ok (s := dif s G) (by omega) dz
      have ffs : FF T s F := ⟨fun j hj => dif_sub s G j (ff.1 j hj), by have := ff.2.1; rw [el] at this; exact this, ff.2.2⟩
      have a := mc_le ok hs z ffs
      have lt := FF_lt hs z ffs
      have b := ih (dif s F) lt G (by omega) hG (fun j hj => by
        rw [dif_bit, sub j hj]
        cases e : F.testBit j with
        | false => rfl
        | true =>
          have := ff.1 j e
          rw [dif_bit, hj, Bool.not_true, Bool.and_false] at this
          cases this) f
      rw [dif_swap s G F] at e
      omega
theorem mc_mono (ok : TOk T) : ∀ y x, y < 4096 → Sub x y → mc T x ≤ mc T y := by
  intro y
  induction y using Nat.strongRecOn with
  | _ y ih =>
    intro x hy sub
    by_cases z : y = 0
    · have : x = 0 := by
        apply Nat.eq_of_testBit_eq
        intro i
        cases e : x.testBit i with
        | false => rw [Nat.zero_testBit]
        | true => have := sub i e; rw [z, Nat.zero_testBit] at this; cases this
      rw [this, mc_0 ok]
      exact Nat.zero_le _
    · obtain ⟨F, f, e⟩ := mc_at ok hy z
      have lt := FF_lt hy z f
      have b := ih _ lt (dif x F) (by omega) (fun i hi => by
        rw [dif_bit] at hi ⊢
        cases e : x.testBit i with
        | false => rw [e] at hi; cases hi
        | true => rw [e] at hi; rw [sub i e]; exact hi)
      have ea : dif x (x &&& F) = dif x F := by
        apply Nat.eq_of_testBit_eq
        intro i
        rw [dif_bit, dif_bit, Nat.testBit_and]
        cases x.testBit i <;> rfl
      by_cases g : x &&& F = 0
      · have : dif x F = x := by
          rw [← ea, g]
          apply Nat.eq_of_testBit_eq
          intro i
          rw [dif_bit, Nat.zero_testBit]
          cases x.testBit i <;> rfl
        rw [this] at b
        omega
      · have c := mc_any ok x (x &&& F) (sub_lt hy sub) g (fun i hi => by
          rw [Nat.testBit_and] at hi
          cases e : x.testBit i with
          | true => rfl
          | false => rw [e] at hi; cases hi) (f.2.2.sub (and_sub x F))
        have o := own_mono (and_sub x F)
        rw [ea] at c
        omega
/-- 100 for a bit instead of 16 -/
def cv (v : Nat) : Nat := 100 * (v / 16) + v % 16
theorem cv_le {a b : Nat} : cv a ≤ cv b ↔ a ≤ b := by unfold cv; omega
theorem cv_add {a b : Nat} (h : a % 16 + b % 16 < 16) : cv (a + b) = cv a + cv b := by unfold cv; omega
theorem cv_own (F : Nat) : cv (own F) = 100 * bl (pcn F) + 1 ∧ own F % 16 = 1 := by unfold cv own; omega
end FLM
