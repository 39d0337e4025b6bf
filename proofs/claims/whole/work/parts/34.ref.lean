/-! small methods of the reference -/
def inr (x : Int32) (n : Nat) : Bool := decide (0 ≤ x.toInt ∧ x.toInt < n)
theorem inr_t {x : Int32} {n : Nat} (h : inr x n = true) (hn : n < 2 ^ 31) : ∃ j, j < n ∧ x = nI j := by
  have h := of_decide_eq_true h
  exact vp_in_of (vp_in_iff.mpr h) hn
theorem inr_nI {j n : Nat} (hj : j < 2 ^ 31) : inr (nI j) n = decide (j < n) := by
  unfold inr
  rw [nI_toInt hj]
  by_cases q : j < n
  · rw [decide_eq_true q]; exact decide_eq_true (by omega)
  · rw [decide_eq_false q]; exact decide_eq_false (by omega)
theorem inr_yes {j n : Nat} (hj : j < n) (hn : n < 2 ^ 31) : inr (nI j) n = true := by rw [inr_nI (by omega)]; exact decide_eq_true hj
/-- a check of the class -/
theorem chk {A B : Prop} {x : Int32} {n : Nat} (hn : n < 2 ^ 31) (t : inr x n = true → A) (f : inr x n = false → B) : (x < 0 → B) ∧ (¬ x < 0 → ((x < nI n → A) ∧ (¬ x < nI n → B))) := by
  have h0 : (0 : Int32).toInt = 0 := by decide
  refine ⟨fun q => f (decide_eq_false ?_), fun q => ⟨fun q2 => t (decide_eq_true ?_), fun q2 => f (decide_eq_false ?_)⟩⟩
  · rw [fa_lt, h0] at q; omega
  · rw [fa_lt, h0] at q; rw [fa_lt, nI_toInt hn] at q2; omega
  · rw [fa_lt, nI_toInt hn] at q2; omega
theorem r_isIn {E : En} {d n : Nat} {x : Int32} {h : Hp} {P : Int32 → Hp → Prop} (hn : n < 2 ^ 30) (t : P (b2i (inr x n)) h) : SpI E d MX10_isIn [.int x, .int (0 : Int32), .int (nI n - (1 : Int32))] h P := by
  refine wp_X10_isIn E d _ _ _ h P ?_
  have h0 : (0 : Int32).toInt = 0 := by decide
  have h1 : (nI n - (1 : Int32)).toInt = (n : Int) - 1 := pk_sub_toInt (b := 1) hn (by decide)
  unfold inr at t
  refine ⟨fun q => ?_, fun q => ⟨fun q2 => ?_, fun q2 => ?_⟩⟩
  · rw [fa_lt, h0] at q
    rw [decide_eq_false (by omega)] at t
    exact t
  · rw [fa_lt, h1] at q2
    rw [decide_eq_false (by omega)] at t
    exact t
  · rw [fa_lt, h0] at q
    rw [fa_lt, h1] at q2
    rw [decide_eq_true (by omega)] at t
    exact t
theorem r_isK {E : En} {d k : Nat} {x : Int32} {h : Hp} {P : Int32 → Hp → Prop} {y : Int32} (hy : y = nI k) (hk : k < 2 ^ 29) (t : P (b2i (inr x (k + 1))) h) : SpI E d MX10_isIn [.int x, .int (0 : Int32), .int y] h P := by
  rw [hy, show nI k = nI (k + 1) - (1 : Int32) from (nI_pred k).symm]
  exact r_isIn (by omega) t
theorem r_thr {E : En} {d k : Nat} {h : Hp} {P : Int32 → Hp → Prop} {x : Int32} (hx : x = nI k) (hk : k < 2 ^ 30) (t : P (b2i (decide (0 < k))) (sI h 63 0 (nI k))) : SpI E d MX10_throwsAs [.ref (eA E 63), .int x] h P := by
  subst hx
  refine wp_X10_throwsAs E d _ h P ?_
  by_cases q : 0 < k
  · rw [decide_eq_true q] at t
    exact br_f (nI_nle q (by omega)) t
  · obtain rfl : k = 0 := by omega
    exact br_t (by decide) t
theorem r_of {E : En} {d m k : Nat} {h : Hp} {P : Int32 → Hp → Prop} {y : Int32} (hy : y = nI k) (hm : m < 12) (hk : k < 5) (t : P (h.1 64 (5 * m + k)) h) : SpI E d MX10_of [.ref (eA E 63), .int (nI m), .int y] h P := by
  subst hy
  refine wp_X10_of E d _ _ h P ?_
  rw [show (5 : Int32) = nI 5 from rfl, pk_mul, nI_add, nI_clamp (by omega)]
  exact ⟨vp_in_nI (by omega) (by decide), t⟩
section REF
variable {E : En} {d : Nat} {D : SD} {S : ST} {h : Hp} {P : Int32 → Hp → Prop} {m a b i k : Nat}
theorem r_U (w : Wf D) (s : RSrc D h) (hm : m < dN D) (t : P (nI (dU D m)) h) : SpI E d MX10_of [.ref (eA E 63), .int (nI m), .int (0 : Int32)] h P := by
  have := w.1
  refine r_of (k := 0) rfl (by omega) (by decide) ?_
  rw [show 5 * m + 0 = 5 * m from rfl, (s.2.2.1 m hm).1]; exact t
theorem r_T (w : Wf D) (s : RSrc D h) (hm : m < dN D) (t : P (nI (dT D m)) h) : SpI E d MX10_of [.ref (eA E 63), .int (nI m), .int (1 : Int32)] h P := by
  have := w.1
  refine r_of (k := 1) rfl (by omega) (by decide) ?_
  rw [(s.2.2.1 m hm).2.1]; exact t
theorem r_K (w : Wf D) (s : RSrc D h) (hm : m < dN D) (t : P (nI (dK D m)) h) : SpI E d MX10_of [.ref (eA E 63), .int (nI m), .int (2 : Int32)] h P := by
  have := w.1
  refine r_of (k := 2) rfl (by omega) (by decide) ?_
  rw [(s.2.2.1 m hm).2.2.1]; exact t
theorem r_A (w : Wf D) (s : RSrc D h) (hm : m < dN D) (t : P (nI (dA D m)) h) : SpI E d MX10_of [.ref (eA E 63), .int (nI m), .int (3 : Int32)] h P := by
  have := w.1
  refine r_of (k := 3) rfl (by omega) (by decide) ?_
  rw [(s.2.2.1 m hm).2.2.2.1]; exact t
theorem r_B (w : Wf D) (s : RSrc D h) (hm : m < dN D) (hk : 0 < dK D m) (t : P (nI (dB D m)) h) : SpI E d MX10_of [.ref (eA E 63), .int (nI m), .int (4 : Int32)] h P := by
  have := w.1
  refine r_of (k := 4) rfl (by omega) (by decide) ?_
  rw [(s.2.2.1 m hm).2.2.2.2 hk]; exact t
theorem r_at (w : Wf D) (s : RSrc D h) (hi : i < dI D) (hk : k < dL D i) (t : P (nI (dR D i k)) h) : SpI E d MX10_at [.ref (eA E 63), .int (nI i), .int (nI k)] h P := by
  have := w.2.2.1
  have := (w.2.2.2.1 i hi).2.1
  refine wp_X10_at E d _ _ h P ?_
  rw [show (24 : Int32) = nI 24 from rfl, pk_mul, nI_add, nI_clamp (by omega), (s.2.2.2.2.2 i hi).2 k hk]
  exact ⟨vp_in_nI (by omega) (by decide), t⟩
theorem r_mk (w : Wf D) (ws : WfS D S) (s : RSt D S h) (hi : i < dI D) (hk : k < 24) (t : P (b2i ((sK S i).testBit k)) h) : SpI E d MX10_isMarked [.ref (eA E 63), .int (nI i), .int (nI k)] h P := by
  have := w.2.2.1
  have := (ws.2 i hi).1
  refine wp_X10_isMarked E d _ _ h P ?_
  rw [show (1 : Int32) + nI i = nI (1 + i) from nI_add 1 i, nI_clamp (by omega), s.2 i hi]
  refine ⟨vp_in_nI (by omega) (by decide), bj_if (bitB (by omega) (by omega)) (fun q => ?_) (fun q => ?_)⟩
  · cases hb : (sK S i).testBit k with
    | true => exact absurd hb q
    | false => rw [hb] at t; exact t
  · rw [q] at t; exact t
theorem r_isI (w : Wf D) (s : RSrc D h) {x : Int32} (t : P (b2i (inr x (dI D))) h) : SpI E (d + 1) MX10_isInstruction [.ref (eA E 63), .int x] h P := by
  have := w.2.2.1
  refine wp_X10_isInstruction E d _ h P ?_
  rw [s.2.1]
  exact r_isIn (by omega) ⟨b2i_01 _, t⟩
theorem r_len (w : Wf D) (s : RSrc D h) (hi : i < dI D) : h.1 66 i = nI (dL D i) := (s.2.2.2.2.2 i hi).1
theorem r_isAt (w : Wf D) (s : RSrc D h) {x y : Int32} (t0 : inr x (dI D) = false → P 0 h) (t1 : ∀ i, i < dI D → x = nI i → inr y (dL D i) = false → P 0 h) (t2 : ∀ i k, i < dI D → k < dL D i → x = nI i → y = nI k → P 1 h) : SpI E (d + 2) MX10_isAt [.ref (eA E 63), .int x, .int y] h P := by
  have hI := w.2.2.1
  refine wp_X10_isAt E (d + 1) _ _ h P (r_isI w s (ek_if (b2i_0 _) t0 (fun q => ?_)))
  obtain ⟨i, hi, rfl⟩ := inr_t (ts_nf' q) (by omega)
  have := (w.2.2.2.1 i hi).2.1
  rw [nI_clamp (by omega), r_len w s hi]
  refine ⟨vp_in_nI (by omega) (by decide), r_isIn (by omega) (ek_if (b2i_0 _) (t1 i hi rfl) (fun q => ?_))⟩
  obtain ⟨k, hk, rfl⟩ := inr_t (ts_nf' q) (by omega)
  exact t2 i k hi hk rfl rfl
theorem rd_lt (w : Wf D) (hm : m < dN D) : rd D m < 2 ^ 8 := by
  unfold rd
  refine or_lt ?_ ?_
  · by_cases q : dA D m < 8
    · rw [if_pos q]; exact p2_lt q
    · rw [if_neg q]; decide
  · by_cases q : 0 < dK D m ∧ dB D m < 8
    · rw [if_pos q]; exact p2_lt q.2
    · rw [if_neg q]; decide
theorem r_rd (w : Wf D) (s : RSrc D h) (hm : m < dN D) (t : P (nI (rd D m)) h) : SpI E (d + 1) MX10_reads [.ref (eA E 63), .int (nI m)] h P := by
  obtain ⟨u, tt, k7, a, b⟩ := w.2.1 m hm
  unfold rd at t
  refine wp_X10_reads E d _ h P (r_A w s hm ?_)
  have c8 : ∀ x : Nat, x < 10008 → ((8 : Int32) ≤ nI x ↔ 8 ≤ x) := fun x hx => nI_leI (a := 8) (by decide) (by omega)
  have c0 : (nI (dK D m) ≤ 0 ↔ dK D m ≤ 0) := nI_leI (b := 0) (by omega) (by decide)
  refine ek_if (c8 _ a) (fun q => ?_) (fun q => ?_)
  · rw [if_neg (by omega)] at t
    refine r_K w s hm (ek_if c0 (fun z => ?_) (fun z => ?_))
    · rw [if_neg (by omega)] at t
      exact t
    · refine r_B w s hm (by omega) (ek_if (c8 _ b) (fun y => ?_) (fun y => ?_))
      · rw [if_neg (by omega)] at t
        exact t
      · refine r_B w s hm (by omega) ?_
        rw [if_pos ⟨by omega, by omega⟩] at t
        rw [sh1 _ (by omega), show (0 : Int32) = nI 0 from rfl, nI_or]
        exact t
  · rw [if_pos (by omega)] at t
    refine r_A w s hm (r_K w s hm (ek_if c0 (fun z => ?_) (fun z => ?_)))
    · rw [if_neg (by omega)] at t
      rw [sh1 _ (by omega)]
      rw [Nat.or_zero] at t
      exact t
    · refine r_B w s hm (by omega) (ek_if (c8 _ b) (fun y => ?_) (fun y => ?_))
      · rw [if_neg (by omega)] at t
        rw [sh1 _ (by omega)]
        rw [Nat.or_zero] at t
        exact t
      · refine r_B w s hm (by omega) ?_
        rw [if_pos ⟨by omega, by omega⟩] at t
        rw [sh1 _ (by omega), sh1 _ (by omega), nI_or]
        exact t
theorem r_isS (w : Wf D) (s : RSrc D h) (ha : a < dN D) (hb : b < dN D) (t : P (b2i (isS D a b)) h) : SpI E (d + 2) MX10_isStrict [.ref (eA E 63), .int (nI a), .int (nI b)] h P := by
  have ta := (w.2.1 a ha).2.1
  have tb := (w.2.1 b hb).2.1
  have hr := rd_lt w hb
  unfold isS at t
  refine wp_X10_isStrict E (d + 1) _ _ h P (r_rd w s hb (r_T w s ha (ek_if (bitB (by omega) (by omega)) (fun q => ?_) (fun q => ?_))))
  · rw [q] at t; exact t
  · refine r_T w s ha (r_T w s hb ?_)
    rw [ts_nt' q] at t
    refine bj_if (nI_eq (by omega) (by omega)) (fun z => ?_) (fun z => ?_)
    · rw [decide_eq_false z] at t; exact t
    · rw [decide_eq_true z] at t; exact t
theorem r_isW (w : Wf D) (s : RSrc D h) (ha : a < dN D) (hb : b < dN D) (t : P (b2i (isW D a b)) h) : SpI E (d + 3) MX10_isWeak [.ref (eA E 63), .int (nI a), .int (nI b)] h P := by
  have ta := (w.2.1 a ha).2.1
  have tb := (w.2.1 b hb).2.1
  have hr := rd_lt w ha
  unfold isW at t
  refine wp_X10_isWeak E (d + 2) _ _ h P (r_isS w s ha hb (bj_if (b2i_0 _) (fun q => ?_) (fun q => ?_)))
  · rw [ts_nf' q] at t; exact t
  · rw [q] at t
    refine r_rd w s ha (r_T w s hb (bj_if (bitB (by omega) (by omega)) (fun z => ?_) (fun z => ?_)))
    · rw [ts_nt' z] at t; exact t
    · rw [z] at t; exact t
end REF
