/-! fields in the class: what is together, the fields found -/
def togF (Q : SO) : Nat → Nat → Nat
  | 0, _ => 0
  | n + 1, m => togF Q n m ||| (if (qS Q n).testBit m then dif (qS Q n) (2 ^ m) else 0)
def usF (Q : SO) : Nat → Nat
  | 0 => 0
  | n + 1 => usF Q n ||| qS Q n
def tog (Q : SO) : Nat → Nat := togF Q (qN Q)
def us (Q : SO) : Nat := usF Q (qN Q)
theorem togF_bit (Q : SO) (m k : Nat) : ∀ n, (togF Q n m).testBit k = true ↔ m ≠ k ∧ ∃ a, a < n ∧ (qS Q a).testBit m = true ∧ (qS Q a).testBit k = true
  | 0 => by
    show (0 : Nat).testBit k = true ↔ _
    rw [Nat.zero_testBit]
    constructor
    · intro h; cases h
    · rintro ⟨_, a, h, _⟩; cases h
  | n + 1 => by
    have ih := togF_bit Q m k n
    show Nat.testBit (togF Q n m ||| _) k = true ↔ _
    rw [Nat.testBit_or]
    constructor
    · intro h
      rcases Bool.or_eq_true_iff.mp h with q | q
      · obtain ⟨h1, a, h2, h3⟩ := ih.mp q
        exact ⟨h1, a, by omega, h3⟩
      · by_cases e : (qS Q n).testBit m = true
        · rw [if_pos e, dif_bit, p2_bit] at q
          cases e2 : (qS Q n).testBit k with
          | false => rw [e2] at q; cases q
          | true =>
            by_cases e3 : m = k
            · rw [decide_eq_true e3, Bool.not_true, Bool.and_false] at q; cases q
            · exact ⟨e3, n, by omega, e, e2⟩
        · rw [if_neg e, Nat.zero_testBit] at q; cases q
    · rintro ⟨h1, a, h2, h3, h4⟩
      by_cases e : a = n
      · subst e
        rw [if_pos h3, dif_bit, p2_bit, h4, decide_eq_false h1]
        simp
      · rw [ih.mpr ⟨h1, a, by omega, h3, h4⟩]; rfl
theorem usF_bit (Q : SO) (k : Nat) : ∀ n, (usF Q n).testBit k = true ↔ ∃ a, a < n ∧ (qS Q a).testBit k = true
  | 0 => by
    show (0 : Nat).testBit k = true ↔ _
    rw [Nat.zero_testBit]
    constructor
    · intro h; cases h
    · rintro ⟨a, h, _⟩; cases h
  | n + 1 => by
    have ih := usF_bit Q k n
    show Nat.testBit (usF Q n ||| _) k = true ↔ _
    rw [Nat.testBit_or]
    constructor
    · intro h
      rcases Bool.or_eq_true_iff.mp h with q | q
      · obtain ⟨a, h2, h3⟩ := ih.mp q
        exact ⟨a, by omega, h3⟩
      · exact ⟨n, by omega, q⟩
    · rintro ⟨a, h2, h3⟩
      by_cases e : a = n
      · rw [← e, h3, Bool.or_true]
      · rw [ih.mpr ⟨a, by omega, h3⟩]; rfl
theorem bitq {a b : Bool} (h : a = true ↔ b = true) : a = b := by cases a <;> cases b <;> simp_all
theorem tog_ok {D : SD} {Q : SO} (w : Wf D) (wq : WfQ D Q) : TOk (tog Q) := by
  have hN := p12_lt w.1
  refine ⟨fun m => ⟨lt12 (fun i hi => ?_), ?_⟩, fun m k => bitq ?_⟩
  · refine ts_nt' (fun e => ?_)
    obtain ⟨_, a, ha, _, e2⟩ := (togF_bit Q m i _).mp e
    rw [tb12 (by have := wq.2.1 a ha; omega) hi] at e2
    cases e2
  · refine ts_nt' (fun e => ?_)
    exact ((togF_bit Q m m _).mp e).1 rfl
  · unfold tog
    rw [togF_bit, togF_bit]
    constructor
    · rintro ⟨h1, a, h2, h3, h4⟩
      exact ⟨fun e => h1 e.symm, a, h2, h4, h3⟩
    · rintro ⟨h1, a, h2, h3, h4⟩
      exact ⟨fun e => h1 e.symm, a, h2, h4, h3⟩
theorem us_lt {D : SD} {Q : SO} (w : Wf D) (wq : WfQ D Q) : us Q < 4096 := by
  have hN := p12_lt w.1
  refine lt12 (fun i hi => ts_nt' (fun e => ?_))
  obtain ⟨a, ha, e2⟩ := (usF_bit Q i _).mp e
  rw [tb12 (by have := wq.2.1 a ha; omega) hi] at e2
  cases e2
noncomputable def flF (T : Nat → Nat) : Nat → Nat → List Nat
  | 0, _ => []
  | n + 1, s => if s = 0 then [] else bf T s :: flF T n (dif s (bf T s))
theorem flF_0 (T : Nat → Nat) : ∀ n, flF T n 0 = []
  | 0 => rfl
  | _ + 1 => if_pos rfl
theorem flF_len (T : Nat → Nat) : ∀ n s, (flF T n s).length ≤ n
  | 0, _ => Nat.le_refl _
  | n + 1, s => by
    show (if s = 0 then [] else bf T s :: flF T n (dif s (bf T s))).length ≤ _
    by_cases q : s = 0
    · rw [if_pos q]; exact Nat.zero_le _
    · rw [if_neg q, List.length_cons]
      have := flF_len T n (dif s (bf T s))
      omega
noncomputable def fl (Q : SO) : List Nat := flF (tog Q) 12 (us Q)
def bts : List Nat → Nat
  | [] => 0
  | F :: l => bl (pcn F) + bts l
theorem bts_app : ∀ (l l2 : List Nat), bts (l ++ l2) = bts l + bts l2
  | [], l2 => by show bts l2 = 0 + _; omega
  | F :: l, l2 => by
    show bl (pcn F) + bts (l ++ l2) = bl (pcn F) + bts l + bts l2
    rw [bts_app l l2]; omega
theorem bts_1 (F : Nat) : bts [F] = bl (pcn F) := Nat.add_zero _
theorem bts_le : ∀ l : List Nat, bts l ≤ 4 * l.length
  | [] => Nat.le_refl _
  | F :: l => by
    show bl (pcn F) + bts l ≤ 4 * (l.length + 1)
    have := bts_le l
    have := (bl_le (pcn F) (by have := pcn_le F; omega)).2
    omega
def ct (F m : Nat) : Nat := fb_ct (fun i => F.testBit i) m
/-- the fields in the class -/
def FldC (Fs : List Nat) (h : Hp) : Prop := h.1 51 1 = nI Fs.length ∧ h.1 51 2 = nI (bts Fs) ∧ ∀ m, m < 12 → (∀ f, f < Fs.length → (Fs.getD f 0).testBit m = true → h.1 52 m = nI f ∧ h.1 53 m = nI (ct (Fs.getD f 0) m + 1) ∧ h.1 54 m = nI (bts (Fs.take f))) ∧ ((∀ f, f < Fs.length → (Fs.getD f 0).testBit m = false) → h.1 52 m = -1 ∧ h.1 53 m = 0)
def fDv (c j : Nat) : Bool := c == 52 || c == 53 || c == 54 || (c == 51 && (j == 1 || j == 2))
section FLK
variable {E : En} {L : Nat} {D : SD} {Q : SO} {T : Nat → Nat} {h : Hp} {P : Int32 → Hp → Prop} {PV : Hp → Prop}
theorem c_addF {F cnt bi : Nat} (hF : F < 4096) (e1 : h.1 51 1 = nI cnt) (e2 : h.1 51 2 = nI bi) (t : ∀ h', Fr fDv h h' → h'.1 51 1 = nI (cnt + 1) → h'.1 51 2 = nI (bi + bl (pcn F)) → (∀ m, m < 12 → F.testBit m = true → h'.1 52 m = nI cnt ∧ h'.1 53 m = nI (ct F m + 1) ∧ h'.1 54 m = nI bi) → (∀ m, m < 12 → F.testBit m = false → h'.1 52 m = h.1 52 m ∧ h'.1 53 m = h.1 53 m ∧ h'.1 54 m = h.1 54 m) → PV h') : SpV E L MX0_addField [.ref (eA E 51), .int (nI F)] h PV := by
  refine wp_X0_addField E L _ h PV (fun ga => ?_)
  have loop : ∀ m, m ≤ 12 → ∀ h1, Fr (fun c _ => c == 52 || c == 53 || c == 54) h h1 → (∀ j, j < 12 → (j < m ∧ F.testBit j = true → h1.1 52 j = nI cnt ∧ h1.1 53 j = nI (ct F j + 1) ∧ h1.1 54 j = nI bi) ∧ ((m ≤ j ∨ F.testBit j = false) → h1.1 52 j = h.1 52 j ∧ h1.1 53 j = h.1 53 j ∧ h1.1 54 j = h.1 54 j)) → VX0_addField_4 E L ga PV (nI F) (nI (ct F m)) (nI m) h1 := by
    refine up_ind _ ?_ ?_
    · intro h1 f al
      have pl := pcn_le F
      have f51 : ∀ j, h1.1 51 j = h.1 51 j := fun j => f.i 51 j rfl
      refine sg_X0_addField_4 E L ga _ _ _ h1 PV (br_t (nI_le (Nat.le_refl 12) (by decide)) ?_)
      rw [show ct F 12 = pcn F from rfl, nI_clamp (by omega), (BITS_ok _ (by omega)).1, f51, f51, e1, e2, nI_add, nI_1]
      refine ⟨vp_in_nI (by omega) (by decide), t _ (((f.mono (fun c j q => ?_)).si rfl).si rfl) (sI_at _ _ _ _) ?_ (fun m hm hb => ?_) (fun m hm hb => ?_)⟩
      · unfold fDv at q
        simp only [Bool.or_eq_false_iff] at q ⊢
        exact q.1
      · rw [sI_j (by decide), sI_at]
      · rw [sI_n _ _ _ _ (by decide), sI_n _ _ _ _ (by decide), sI_n _ _ _ _ (by decide), sI_n _ _ _ _ (by decide), sI_n _ _ _ _ (by decide), sI_n _ _ _ _ (by decide)]
        exact (al m hm).1 ⟨hm, hb⟩
      · rw [sI_n _ _ _ _ (by decide), sI_n _ _ _ _ (by decide), sI_n _ _ _ _ (by decide), sI_n _ _ _ _ (by decide), sI_n _ _ _ _ (by decide), sI_n _ _ _ _ (by decide)]
        exact (al m hm).2 (Or.inr hb)
    · intro m hm ih h1 f al
      have ec : ct F (m + 1) = ct F m + (if F.testBit m then 1 else 0) := rfl
      have vm : vp_in (nI m) 12 := vp_in_nI hm (by decide)
      refine sg_X0_addField_4 E L ga _ _ _ h1 PV (br_f (nI_ge (b := 12) hm (by decide)) ?_)
      rw [nI_1, nI_1, nI_clamp (by omega), f.i 51 1 rfl, f.i 51 2 rfl, e1, e2]
      refine ek_if (bitA (by omega)) (fun z => ?_) (fun z => ⟨vm, vm, vm, ?_⟩)
      · rw [z] at ec
        rw [← show ct F (m + 1) = ct F m from ec]
        refine ih h1 f (fun j hj => ⟨fun q => (al j hj).1 ⟨?_, q.2⟩, fun q => (al j hj).2 ?_⟩)
        · by_cases e : j = m
          · rw [e, z] at q; cases q.2
          · omega
        · rcases q with q | q
          · left; omega
          · right; exact q
      · have z := ts_nf' z
        rw [z] at ec
        rw [← show ct F (m + 1) = ct F m + 1 from ec]
        refine ih _ (((f.si rfl).si rfl).si rfl) (fun j hj => ?_)
        by_cases e : j = m
        · subst e
          rw [sI_n _ _ _ _ (show 52 ≠ 54 by decide), sI_n _ _ _ _ (show 52 ≠ 53 by decide), sI_at, sI_n _ _ _ _ (show 53 ≠ 54 by decide), sI_at, sI_at]
          refine ⟨fun _ => ⟨rfl, by rw [show ct F (j + 1) = ct F j + 1 from ec], rfl⟩, fun q => ?_⟩
          rcases q with q | q
          · omega
          · rw [z] at q; cases q
        · rw [sI_j e, sI_j e, sI_j e, sI_j e, sI_j e, sI_j e, sI_j e, sI_j e, sI_j e]
          refine ⟨fun q => (al j hj).1 ⟨by omega, q.2⟩, fun q => (al j hj).2 ?_⟩
          rcases q with q | q
          · left; omega
          · right; exact q
  exact loop 0 (by decide) h (Fr.refl h) (fun j hj => ⟨fun q => absurd q.1 (Nat.not_lt_zero _), fun _ => ⟨rfl, rfl, rfl⟩⟩)
theorem getN_app {l l2 : List Nat} {k : Nat} (h : k < l.length) : (l ++ l2).getD k 0 = l.getD k 0 := by
  simp [List.getD, List.getElem?_append_left h]
theorem getN_app1 {l : List Nat} {x : Nat} : (l ++ [x]).getD l.length 0 = x := by simp [List.getD]
theorem c_divide {u : Nat} (ok : TOk T) (hu : u < 4096) (gd : ∀ n, Gd T n u h) (t : ∀ h', Fr fDv h h' → FldC (flF T 12 u) h' → PV h') : SpV E (L + 1) MX0_divide [.ref (eA E 51), .int (nI u)] h PV := by
  refine wp_X0_divide E L _ h PV (fun ga => c_fill lay_52 (by decide) (fun h1 f1 z1 => c_fill lay_53 (by decide) (fun h2 f2 z2 => ?_)))
  have fr0 : Fr fDv h (sI (sI h2 51 1 (0 : Int32)) 51 2 (0 : Int32)) := by
    refine (((f1.mono (fun c j q => ?_)).trans (f2.mono (fun c j q => ?_))).si rfl).si rfl
    · unfold fDv at q
      simp only [Bool.or_eq_false_iff] at q
      exact q.1.1.1
    · unfold fDv at q
      simp only [Bool.or_eq_false_iff] at q
      exact q.1.1.2
  have loop : ∀ (k n s : Nat) (pre : List Nat) (h3 : Hp), k + n = 12 → s < 4096 → pre.length = n → pre ++ flF T k s = flF T 12 u → (∀ f, f < pre.length → ∀ m, (pre.getD f 0).testBit m = true → s.testBit m = false) → Fr fDv h h3 → FldC pre h3 → (∀ n, Gd T n s h3) → VX0_divide_30 E L ga PV (nI u) (nI s) (nI n) h3 := by
    intro k
    induction k with
    | zero =>
      intro n s pre h3 hk hs hp e dj f3 fc g3
      have e : pre ++ [] = flF T 12 u := e
      rw [List.append_nil] at e
      exact sg_X0_divide_30 E L ga _ _ _ h3 PV (br_t (nI_le (a := 12) (by omega) (by omega)) (t h3 f3 (by rw [← e]; exact fc)))
    | succ k ih =>
      intro n s pre h3 hk hs hp e dj f3 fc g3
      refine sg_X0_divide_30 E L ga _ _ _ h3 PV (br_f (nI_ge (b := 12) (by omega) (by decide)) (ek_if (nI_z (by omega)) (fun z => ?_) (fun z => ⟨vp_in_nI hs (by decide), ?_⟩)))
      · rw [z, flF_0, List.append_nil] at e
        exact t h3 f3 (by rw [← e]; exact fc)
      · have e : pre ++ (if s = 0 then [] else bf T s :: flF T k (dif s (bf T s))) = flF T 12 u := e
        rw [if_neg z] at e
        obtain ⟨⟨b1, b2⟩, _⟩ := bf_is ok hs z
        have g57 : h3.1 57 s = nI (bf T s) := by
          rcases g3 1 with q | q
          · exact absurd q z
          · exact q.1
        have hbf := sub_lt hs b1.1
        rw [nI_clamp (by omega), g57, nI_dif, nI_1]
        have dl := FF_lt hs z b1
        refine c_addF hbf fc.1 fc.2.1 (fun h4 f4 a1 a2 a3 a4 => ?_)
        refine ih (n + 1) (dif s (bf T s)) (pre ++ [bf T s]) h4 (by omega) (by omega) (by rw [List.length_append, hp]; rfl) (by rw [List.append_assoc]; exact e) (fun f hf m hm => ?_) (f3.trans f4) ⟨?_, ?_, fun m hm => ⟨fun f hf hfm => ?_, fun no => ?_⟩⟩ (fun n => ?_)
        · rw [List.length_append] at hf
          have hf : f < pre.length + 1 := hf
          rw [dif_bit]
          by_cases q : f = pre.length
          · rw [q, getN_app1] at hm
            rw [hm, Bool.not_true, Bool.and_false]
          · rw [getN_app (by omega)] at hm
            rw [dj f (by omega) m hm]; rfl
        · rw [a1, List.length_append]; rfl
        · rw [a2, bts_app, bts_1]
        · rw [List.length_append] at hf
          have hf : f < pre.length + 1 := hf
          by_cases q : f = pre.length
          · subst q
            rw [getN_app1] at hfm ⊢
            rw [List.take_left]
            exact a3 m hm hfm
          · rw [getN_app (by omega)] at hfm ⊢
            have nb : (bf T s).testBit m = false := ts_nt' (fun y => by
              have := b1.1 m y
              rw [dj f (by omega) m hfm] at this
              cases this)
            obtain ⟨c1, c2, c3⟩ := a4 m hm nb
            rw [c1, c2, c3, List.take_append_of_le_length (by omega)]
            exact (fc.2.2 m hm).1 f (by omega) hfm
        · have nb := no pre.length (by rw [List.length_append]; show _ < _ + 1; omega)
          rw [getN_app1] at nb
          obtain ⟨c1, c2, c3⟩ := a4 m hm nb
          rw [c1, c2]
          refine (fc.2.2 m hm).2 (fun f hf => ?_)
          have := no f (by rw [List.length_append]; omega)
          rw [getN_app hf] at this
          exact this
        · rcases g3 (n + 1) with q | q
          · exact absurd q z
          · exact Gd.w (W57.of (f4.f 57 (fun _ => rfl))) n _ q.2
  refine loop 12 0 u [] _ rfl hu rfl rfl (fun f hf => absurd hf (Nat.not_lt_zero f)) fr0 ⟨?_, ?_, fun m hm => ⟨fun f hf => absurd hf (Nat.not_lt_zero f), fun _ => ⟨?_, ?_⟩⟩⟩ (fun n => ?_)
  · rw [sI_j (by decide), sI_at]; rfl
  · rw [sI_at]; rfl
  · rw [sI_n _ _ _ _ (by decide), sI_n _ _ _ _ (by decide), f2.f 52 (fun _ => rfl)]
    exact z1 m hm
  · rw [sI_n _ _ _ _ (by decide), sI_n _ _ _ _ (by decide)]
    exact z2 m hm
  · exact Gd.w (W57.of (fr0.f 57 (fun _ => rfl))) n _ (gd n)
theorem c_collect (w : Wf D) (wq : WfQ D Q) (cs : CSto D Q h) (t : ∀ h', Fr (fun c _ => c == 55) h h' → TgC (tog Q) h' → P (nI (us Q)) h') : SpI E (L + 1) MX0_collect [.ref (eA E 51), .ref (eA E 46)] h P := by
  have hN := p12_lt w.1
  have hq := wq.1
  refine wp_X0_collect E L h P (fun ga => c_fill lay_55 (by decide) (fun h1 f1 z1 => ?_))
  have outer : ∀ n, n ≤ qN Q → ∀ h2, Fr (fun c _ => c == 55) h h2 → (∀ m, m < 12 → h2.1 55 m = nI (togF Q n m)) → VX0_collect_12 E L ga P (nI (usF Q n)) (nI n) h2 := by
    refine up_ind _ ?_ ?_
    · intro h2 f2 al
      refine sg_X0_collect_12 E L ga _ _ h2 P ?_
      rw [f2.i 46 4 rfl, cs.1]
      exact br_t (nI_le (Nat.le_refl _) (by omega)) (t h2 f2 al)
    · intro n hn ih h2 f2 al
      have sn := wq.2.1 n hn
      refine sg_X0_collect_12 E L ga _ _ h2 P ?_
      rw [f2.i 46 4 rfl, cs.1, nI_clamp (by omega), f2.f 47 (fun _ => rfl), (cs.2.1 n hn).1, nI_or]
      refine br_f (nI_ge hn (by omega)) ⟨vp_in_nI (by omega) (by decide), ?_⟩
      have inner : ∀ m, m ≤ 12 → ∀ h3, Fr (fun c _ => c == 55) h h3 → (∀ j, j < 12 → h3.1 55 j = nI (togF Q (if j < m then n + 1 else n) j)) → VX0_collect_36 E L ga P (nI (usF Q n ||| qS Q n)) (nI n) (nI (qS Q n)) (nI m) h3 := by
        refine up_ind _ ?_ ?_
        · intro h3 f3 al3
          refine sg_X0_collect_36 E L ga _ _ _ _ h3 P (br_t (nI_le (Nat.le_refl 12) (by decide)) ?_)
          rw [nI_1]
          refine ih h3 f3 (fun m hm => ?_)
          have := al3 m hm
          rw [if_pos hm] at this
          exact this
        · intro m hm ihm h3 f3 al3
          have vm : vp_in (nI m) 12 := vp_in_nI hm (by decide)
          have a3 := al3 m hm
          rw [if_neg (Nat.lt_irrefl m)] at a3
          have et : togF Q (n + 1) m = togF Q n m ||| (if (qS Q n).testBit m then dif (qS Q n) (2 ^ m) else 0) := rfl
          refine sg_X0_collect_36 E L ga _ _ _ _ h3 P (br_f (nI_ge (b := 12) hm (by decide)) ?_)
          rw [nI_1, nI_clamp (by omega), a3]
          refine ek_if (bitA (by omega)) (fun z => ihm h3 f3 (fun j hj => ?_)) (fun z => ⟨vm, vm, ?_⟩)
          · by_cases e : j = m
            · subst e
              rw [z] at et
              have et : togF Q (n + 1) j = togF Q n j ||| 0 := et
              rw [Nat.or_zero] at et
              rw [if_pos (Nat.lt_succ_self j), et]
              exact a3
            · have := al3 j hj
              by_cases q : j < m
              · rw [if_pos q] at this
                rw [if_pos (by omega)]; exact this
              · rw [if_neg q] at this
                rw [if_neg (by omega)]; exact this
          · have z := ts_nf' z
            rw [z] at et
            have et : togF Q (n + 1) m = togF Q n m ||| dif (qS Q n) (2 ^ m) := et
            rw [sh1 m (by omega), nI_dif, nI_or, ← et]
            refine ihm _ (f3.si rfl) (fun j hj => ?_)
            by_cases e : j = m
            · subst e
              rw [sI_at, if_pos (Nat.lt_succ_self j)]
            · rw [sI_j e]
              have := al3 j hj
              by_cases q : j < m
              · rw [if_pos q] at this
                rw [if_pos (by omega)]; exact this
              · rw [if_neg q] at this
                rw [if_neg (by omega)]; exact this
      refine inner 0 (by decide) h2 f2 (fun j hj => ?_)
      rw [if_neg (Nat.not_lt_zero j)]
      exact al j hj
  exact outer 0 (Nat.zero_le _) h1 f1 (fun m hm => z1 m hm)
def fKn (c j : Nat) : Bool := (52 ≤ c && c ≤ 57) || (c == 51 && (j == 0 || j == 1 || j == 2))
theorem FldC.fr {Fs : List Nat} {h' : Hp} {X : Nat → Nat → Bool} (a : FldC Fs h) (f : Fr X h h') (e : ∀ c j, 51 ≤ c → c ≤ 54 → X c j = false) : FldC Fs h' := by
  unfold FldC
  rw [f.f 51 (fun j => e 51 j (by decide) (by decide)), f.f 52 (fun j => e 52 j (by decide) (by decide)), f.f 53 (fun j => e 53 j (by decide) (by decide)), f.f 54 (fun j => e 54 j (by decide) (by decide))]
  exact a
theorem c_know (w : Wf D) (wq : WfQ D Q) (cs : CSto D Q h) (hL : 28 ≤ L) (kn : h.1 51 0 = 0 ∨ (h.1 51 0 = 1 ∧ FldC (fl Q) h)) (t : ∀ h', Fr fKn h h' → h'.1 51 0 = 1 → FldC (fl Q) h' → PV h') : SpV E (L + 1) MX0_know [.ref (eA E 51), .ref (eA E 46)] h PV := by
  refine wp_X0_know E L h PV ?_
  rcases kn with k | ⟨k1, k2⟩
  · obtain ⟨L, rfl⟩ : ∃ k, L = k + 1 := ⟨L - 1, by omega⟩
    have ok := tog_ok w wq
    have hu := us_lt w wq
    have fr1 : Fr fKn h (sI h 51 0 (1 : Int32)) := (Fr.refl h).si rfl
    have cs1 : CSto D Q (sI h 51 0 (1 : Int32)) := cs.fr fr1 rfl (fun c j h1 h2 => by
      unfold fKn
      simp only [Bool.or_eq_false_iff, Bool.and_eq_false_iff, decide_eq_false_iff_not, beq_eq_false_iff_ne]
      omega)
    refine bq_t k (c_collect w wq cs1 (fun h2 f2 tg2 => c_search ok (by omega) hu tg2 (fun h3 f3 g3 => c_divide ok hu g3 (fun h4 f4 fc4 => ?_))))
    refine t h4 (((fr1.trans (f2.mono (fun c j q => ?_))).trans (f3.mono (fun c j q => ?_))).trans (f4.mono (fun c j q => ?_))) ?_ fc4
    · unfold fKn at q
      simp only [Bool.or_eq_false_iff, Bool.and_eq_false_iff, decide_eq_false_iff_not, beq_eq_false_iff_ne] at q ⊢
      omega
    · unfold fKn at q
      unfold fCo
      simp only [Bool.or_eq_false_iff, Bool.and_eq_false_iff, decide_eq_false_iff_not, beq_eq_false_iff_ne] at q ⊢
      omega
    · unfold fKn at q
      unfold fDv
      simp only [Bool.or_eq_false_iff, Bool.and_eq_false_iff, decide_eq_false_iff_not, beq_eq_false_iff_ne] at q ⊢
      omega
    · rw [f4.i 51 0 rfl, f3.i 51 0 rfl, f2.i 51 0 rfl, sI_at]
  · rw [k1]
    exact bq_f (by decide) (t h (Fr.refl h) k1 k2)
end FLK
