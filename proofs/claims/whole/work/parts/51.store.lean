/-! the store as mathematics -/
/-- the chain from an address spells a list of words to the end -/
def Ch (Q : SO) : List (Nat × Bool) → Option Nat → Prop
  | [], o => o = none
  | x :: l, o => ∃ a, o = some a ∧ a < qN Q ∧ qS Q a = x.1 ∧ qF Q a = x.2 ∧ Ch Q l (qX Q a)
/-- no two words are alike -/
def Uq (Q : SO) : Prop := ∀ a b, a < qN Q → b < qN Q → qX Q a = qX Q b → qS Q a = qS Q b → qF Q a = qF Q b → a = b
theorem Ch_uq {Q : SO} (u : Uq Q) : ∀ l o o', Ch Q l o → Ch Q l o' → o = o'
  | [], _, _, h, h' => Eq.trans h (Eq.symm h')
  | _ :: l, _, _, ⟨a, a1, a2, a3, a4, a5⟩, ⟨b, b1, b2, b3, b4, b5⟩ => by
    have e := Ch_uq u l _ _ a5 b5
    rw [a1, b1, u a b a2 b2 e (a3.trans b3.symm) (a4.trans b4.symm)]
theorem Ch_drop {Q : SO} : ∀ (l : List (Nat × Bool)) o, Ch Q l o → ∀ j, ∃ o', Ch Q (l.drop j) o'
  | l, o, h, 0 => ⟨o, h⟩
  | [], o, h, j + 1 => ⟨o, h⟩
  | _ :: l, _, ⟨a, _, _, _, _, h⟩, j + 1 => Ch_drop l _ h j
theorem Ch_some {Q : SO} {l : List (Nat × Bool)} {o : Option Nat} (h : Ch Q l o) (hl : 0 < l.length) : ∃ a, o = some a ∧ a < qN Q := by
  cases l with
  | nil => cases hl
  | cons x l =>
    obtain ⟨a, a1, a2, _⟩ := h
    exact ⟨a, a1, a2⟩
theorem Ch_rk {Q : SO} {rk : Nat → Nat} (r : RkOK Q rk) : ∀ (l : List (Nat × Bool)) a, Ch Q l (some a) → rk a = l.length
  | [], _, h => by cases h
  | [x], a, h => by
    obtain ⟨b, b1, b2, _, _, b5⟩ := h
    injection b1 with b1
    subst b1
    exact (r a b2).2.2.1 b5
  | x :: y :: l, a, h => by
    obtain ⟨b, b1, b2, _, _, b5⟩ := h
    injection b1 with b1
    subst b1
    obtain ⟨c, c1, c2⟩ := Ch_some b5 (Nat.succ_pos _)
    rw [c1] at b5
    have := Ch_rk r (y :: l) c b5
    rw [((r a b2).2.2.2 c c1).2, this]; rfl
/-- k words of W are its own, the rest lies at o -/
def Spc (Q : SO) (W : List (Nat × Bool)) (k : Nat) (o : Option Nat) : Prop := k ≤ W.length ∧ Ch Q (W.drop k) o ∧ ∀ j, j < k → ∀ a, ¬ Ch Q (W.drop j) (some a)
theorem Spc_uq {Q : SO} {W : List (Nat × Bool)} {k k' : Nat} {o o' : Option Nat} (u : Uq Q) (a : Spc Q W k o) (b : Spc Q W k' o') : k = k' ∧ o = o' := by
  have key : ∀ {k k' : Nat} {o o' : Option Nat}, Spc Q W k o → Spc Q W k' o' → ¬ k < k' := by
    intro k k' o o' a b q
    obtain ⟨c, c1, _⟩ := Ch_some a.2.1 (by rw [List.length_drop]; have := b.1; omega)
    have := a.2.1
    rw [c1] at this
    exact b.2.2 k q c this
  have e : k = k' := by have := key a b; have := key b a; omega
  subst e
  exact ⟨rfl, Ch_uq u _ _ _ a.2.1 b.2.1⟩
/-- the store with the words of instruction i -/
def plc (Q : SO) (W : List (Nat × Bool)) (i k : Nat) (o : Option Nat) : SO :=
  (qN Q + k, (fun a => if a < qN Q then qS Q a else (W.getD (a - qN Q) (0, false)).1), (fun a => if a < qN Q then qF Q a else (W.getD (a - qN Q) (0, false)).2), (fun a => if a < qN Q then qX Q a else if a - qN Q + 1 < k then some (a + 1) else o), fun j => if j = i then (if k = 0 then o else some (qN Q)) else qE Q j)
def StI (D : SD) (n : Nat) (Q : SO) : Prop := qN Q ≤ 24 * n ∧ (∀ a, a < qN Q → qS Q a < 2 ^ dN D) ∧ (∃ rk, RkOK Q rk) ∧ Uq Q ∧ ∀ i, i < n → ∃ a, a < qN Q ∧ qE Q i = some a
def WlOK (D : SD) (W : List (Nat × Bool)) : Prop := 0 < W.length ∧ W.length ≤ 24 ∧ ∀ n, n < W.length → (W.getD n (0, false)).1 < 2 ^ dN D
theorem dropD {W : List (Nat × Bool)} {n : Nat} (h : n < W.length) : W.drop n = W.getD n (0, false) :: W.drop (n + 1) := by
  rw [List.drop_eq_getElem_cons h, List.getD_eq_getElem?_getD, List.getElem?_eq_getElem h]; rfl
theorem StI_plc {D : SD} {n k : Nat} {Q : SO} {W : List (Nat × Bool)} {o : Option Nat} (s : StI D n Q) (w : WlOK D W) (c : Spc Q W k o) : StI D (n + 1) (plc Q W n k o) := by
  obtain ⟨s1, s2, ⟨rk, s3⟩, s4, s5⟩ := s
  obtain ⟨w1, w2, w3⟩ := w
  obtain ⟨c1, c2, c3⟩ := c
  have eN : qN (plc Q W n k o) = qN Q + k := rfl
  have eS : ∀ a, qS (plc Q W n k o) a = if a < qN Q then qS Q a else (W.getD (a - qN Q) (0, false)).1 := fun _ => rfl
  have eF : ∀ a, qF (plc Q W n k o) a = if a < qN Q then qF Q a else (W.getD (a - qN Q) (0, false)).2 := fun _ => rfl
  have eX : ∀ a, qX (plc Q W n k o) a = if a < qN Q then qX Q a else if a - qN Q + 1 < k then some (a + 1) else o := fun _ => rfl
  have eE : ∀ j, qE (plc Q W n k o) j = if j = n then (if k = 0 then o else some (qN Q)) else qE Q j := fun _ => rfl
  have ho : ∀ b, o = some b → b < qN Q ∧ rk b = W.length - k := by
    intro b e
    rw [e] at c2
    have := Ch_rk s3 _ b c2
    rw [List.length_drop] at this
    refine ⟨?_, this⟩
    by_cases q : 0 < (W.drop k).length
    · obtain ⟨x, x1, x2⟩ := Ch_some c2 q
      cases x1
      exact x2
    · have z : W.drop k = [] := List.eq_nil_of_length_eq_zero (by omega)
      rw [z] at c2
      cases c2
  have hn : o = none → k = W.length := by
    intro e
    rcases Nat.lt_or_ge k W.length with q | q
    · obtain ⟨x, x1, x2⟩ := Ch_some c2 (by rw [List.length_drop]; omega)
      rw [e] at x1
      cases x1
    · omega
  refine ⟨by rw [eN]; omega, fun a ha => ?_, ⟨fun a => if a < qN Q then rk a else W.length - (a - qN Q), fun a ha => ?_⟩, fun a b ha hb e1 e2 e3 => ?_, fun i hi => ?_⟩
  · rw [eN] at ha
    rw [eS]
    by_cases q : a < qN Q
    · rw [if_pos q]; exact s2 a q
    · rw [if_neg q]; exact w3 _ (by omega)
  · rw [eN] at ha
    rw [eX, eN]
    dsimp only
    by_cases q : a < qN Q
    · rw [if_pos q, if_pos q]
      obtain ⟨r1, r2, r3, r4⟩ := s3 a q
      refine ⟨r1, r2, r3, fun b hb => ?_⟩
      obtain ⟨q1, q2⟩ := r4 b hb
      rw [if_pos q1]
      exact ⟨by omega, q2⟩
    · rw [if_neg q, if_neg q]
      refine ⟨by omega, by omega, fun e => ?_, fun b e => ?_⟩
      · by_cases z : a - qN Q + 1 < k
        · rw [if_pos z] at e; cases e
        · rw [if_neg z] at e
          have := hn e
          omega
      · by_cases z : a - qN Q + 1 < k
        · rw [if_pos z] at e
          cases e
          rw [if_neg (by omega)]
          omega
        · rw [if_neg z] at e
          obtain ⟨b1, b2⟩ := ho b e
          rw [if_pos b1]
          have : k < W.length := by
            have := (s3 b b1).1
            omega
          omega
  · rw [eN] at ha hb
    rw [eX, eX] at e1
    rw [eS, eS] at e2
    rw [eF, eF] at e3
    have cross : ∀ a b, a < qN Q → ¬ b < qN Q → b < qN Q + k → qX Q a = (if b - qN Q + 1 < k then some (b + 1) else o) → qS Q a = (W.getD (b - qN Q) (0, false)).1 → qF Q a = (W.getD (b - qN Q) (0, false)).2 → False := by
      intro a b ha hb hb2 e1 e2 e3
      by_cases z : b - qN Q + 1 < k
      · rw [if_pos z] at e1
        have := ((s3 a ha).2.2.2 _ e1).1
        omega
      · rw [if_neg z] at e1
        refine c3 (b - qN Q) (by omega) a ?_
        rw [dropD (by omega), show b - qN Q + 1 = k by omega]
        exact ⟨a, rfl, ha, e2, e3, by rw [e1]; exact c2⟩
    by_cases qa : a < qN Q
    · rw [if_pos qa] at e1 e2 e3
      by_cases qb : b < qN Q
      · rw [if_pos qb] at e1 e2 e3
        exact s4 a b qa qb e1 e2 e3
      · rw [if_neg qb] at e1 e2 e3
        exact (cross a b qa qb hb e1 e2 e3).elim
    · rw [if_neg qa] at e1 e2 e3
      by_cases qb : b < qN Q
      · rw [if_pos qb] at e1 e2 e3
        exact (cross b a qb qa ha e1.symm e2.symm e3.symm).elim
      · rw [if_neg qb] at e1 e2 e3
        by_cases za : a - qN Q + 1 < k
        · rw [if_pos za] at e1
          by_cases zb : b - qN Q + 1 < k
          · rw [if_pos zb] at e1
            injection e1 with e1
            omega
          · rw [if_neg zb] at e1
            have := (ho _ e1.symm).1
            omega
        · rw [if_neg za] at e1
          by_cases zb : b - qN Q + 1 < k
          · rw [if_pos zb] at e1
            have := (ho _ e1).1
            omega
          · omega
  · rw [eE, eN]
    by_cases q : i = n
    · rw [if_pos q]
      by_cases z : k = 0
      · rw [if_pos z]
        subst z
        obtain ⟨x, x1, x2⟩ := Ch_some c2 w1
        exact ⟨x, by omega, x1⟩
      · rw [if_neg z]
        exact ⟨qN Q, by omega, rfl⟩
    · rw [if_neg q]
      obtain ⟨x, x1, x2⟩ := s5 i (by omega)
      exact ⟨x, by omega, x2⟩
/-- the store of the first n instructions -/
def StR (D : SD) (S : ST) : Nat → SO → Prop
  | 0, Q => Q = (0, fun _ => 0, fun _ => false, fun _ => none, fun _ => none)
  | n + 1, Q => ∃ Q0 k o, StR D S n Q0 ∧ Spc Q0 (wd D S n) k o ∧ Q = plc Q0 (wd D S n) n k o
theorem wdF_mem {D : SD} {S : ST} {i : Nat} (w : Wf D) (ws : WfS D S) (hi : i < dI D) : ∀ f b x, x ∈ wdF D S i f b → x.1 < 2 ^ dN D
  | 0, _, x, h => by cases h
  | f + 1, b, x, h => by
    have h : x ∈ (if b < dL D i then wS D S i b ++ wdF D S i f (sEnd D S i b) else []) := h
    by_cases q : b < dL D i
    · rw [if_pos q, List.mem_append] at h
      rcases h with h | h
      · unfold wS mkW at h
        rw [List.mem_mapIdx] at h
        obtain ⟨n, hn, e⟩ := h
        rw [← e]
        have g1 := sEnd_gt D S i b
        have g2 := sEnd_le S q
        obtain ⟨l0, l24, hrow⟩ := w.2.2.2.1 i hi
        exact opF_lt _ (fun p hp => hrow _ (by rw [(wG_wf w ws hi q).2] at hp; omega))
      · exact wdF_mem w ws hi f _ x h
    · rw [if_neg q] at h; cases h
theorem wd_ok {D : SD} {S : ST} {i : Nat} (w : Wf D) (ws : WfS D S) (hi : i < dI D) : WlOK D (wd D S i) := by
  obtain ⟨l0, l24, hrow⟩ := w.2.2.2.1 i hi
  refine ⟨?_, ?_, fun n hn => ?_⟩
  · show 0 < (if 0 < dL D i then wS D S i 0 ++ wdF D S i 23 (sEnd D S i 0) else []).length
    rw [if_pos l0, List.length_append]
    have := (wS_len w ws hi l0).1
    omega
  · have := wdF_len w ws hi 24 0 (Nat.zero_le _)
    unfold wd
    omega
  · refine wdF_mem w ws hi 24 0 _ ?_
    show (wd D S i).getD n (0, false) ∈ wd D S i
    rw [List.getD_eq_getElem?_getD, List.getElem?_eq_getElem hn]
    exact List.getElem_mem hn
theorem StR.ok {D : SD} {S : ST} (w : Wf D) (ws : WfS D S) : ∀ n Q, n ≤ dI D → StR D S n Q → StI D n Q
  | 0, Q, _, h => by
    have h : Q = _ := h
    subst h
    exact ⟨Nat.zero_le _, fun a ha => absurd ha (Nat.not_lt_zero a), ⟨fun _ => 0, fun a ha => absurd ha (Nat.not_lt_zero a)⟩, fun a b ha => absurd ha (Nat.not_lt_zero a), fun i hi => absurd hi (Nat.not_lt_zero i)⟩
  | n + 1, Q, hn, ⟨Q0, k, o, h1, h2, h3⟩ => by
    subst h3
    exact StI_plc (StR.ok w ws n Q0 (by omega) h1) (wd_ok w ws (by omega)) h2
theorem StR.uq {D : SD} {S : ST} (w : Wf D) (ws : WfS D S) : ∀ n Q Q', n ≤ dI D → StR D S n Q → StR D S n Q' → Q = Q'
  | 0, _, _, _, h, h' => Eq.trans h (Eq.symm h')
  | n + 1, Q, Q', hn, ⟨Q0, k, o, h1, h2, h3⟩, ⟨Q0', k', o', h1', h2', h3'⟩ => by
    have e := StR.uq w ws n Q0 Q0' (by omega) h1 h1'
    subst e
    obtain ⟨e1, e2⟩ := Spc_uq (StR.ok w ws n Q0 (by omega) h1).2.2.2.1 h2 h2'
    subst e1 e2
    rw [h3, h3']
theorem StI.wf {D : SD} {Q : SO} (w : Wf D) (s : StI D (dI D) Q) : WfQ D Q := by
  have := w.2.2.1
  exact ⟨by have := s.1; omega, s.2.1, s.2.2.1, s.2.2.2.2⟩
/-- the chain down to the place before an own word -/
theorem Spc_of {Q : SO} {W : List (Nat × Bool)} {k : Nat} {o : Option Nat} (hk : k ≤ W.length) (c : Ch Q (W.drop k) o) (n : 0 < k → ∀ a, ¬ Ch Q (W.drop (k - 1)) (some a)) : Spc Q W k o := by
  refine ⟨hk, c, fun j hj a ha => ?_⟩
  obtain ⟨o', h'⟩ := Ch_drop _ _ ha (k - 1 - j)
  rw [List.drop_drop, show j + (k - 1 - j) = k - 1 by omega] at h'
  obtain ⟨x, x1, _⟩ := Ch_some h' (by rw [List.length_drop]; omega)
  rw [x1] at h'
  exact n (by omega) x h'
theorem oI_inj {a b : Option Nat} (ha : ∀ x, a = some x → x < 2 ^ 31) (hb : ∀ x, b = some x → x < 2 ^ 31) : oI a = oI b ↔ a = b := by
  constructor
  · intro h
    cases a with
    | none => cases b with
      | none => rfl
      | some y => exact absurd h.symm (nI_m1 (hb y rfl))
    | some x => cases b with
      | none => exact absurd h (nI_m1 (ha x rfl))
      | some y => rw [nI_inj (ha x rfl) (hb y rfl) h]
  · intro h; rw [h]
theorem b2i_inj {a b : Bool} : b2i a = b2i b ↔ a = b := by cases a <;> cases b <;> decide
theorem nar_b2i (b : Bool) : vp_nar .boolean (b2i b) = b2i b := by cases b <;> decide
