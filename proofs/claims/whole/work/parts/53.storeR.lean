/-! the store in the reference -/
def RStn (n : Nat) (Q : SO) (h : Hp) : Prop := h.1 63 26 = nI (qN Q) ∧ (∀ a, a < qN Q → h.1 79 a = nI (qS Q a) ∧ h.1 80 a = b2i (qF Q a) ∧ h.1 81 a = oI (qX Q a)) ∧ ∀ i, i < n → h.1 82 i = oI (qE Q i)
theorem RStn.fr {n : Nat} {Q : SO} {h h' : Hp} {X : Nat → Nat → Bool} (r : RStn n Q h) (f : Fr X h h') (a0 : X 63 26 = false) (a : ∀ c j, 79 ≤ c → c ≤ 82 → X c j = false) : RStn n Q h' := by
  unfold RStn
  rw [f.f 79 (fun j => a 79 j (by decide) (by decide)), f.f 80 (fun j => a 80 j (by decide) (by decide)), f.f 81 (fun j => a 81 j (by decide) (by decide)), f.f 82 (fun j => a 82 j (by decide) (by decide)), f.i 63 26 a0]
  exact r
def fSr (c j : Nat) : Bool := (79 ≤ c && c ≤ 82) || (c == 63 && j == 26)
section STR
variable {E : En} {d : Nat} {D : SD} {S : ST} {Q : SO} {h : Hp} {P : Int32 → Hp → Prop} {PV : Hp → Prop} {i n m0 : Nat} {W : List (Nat × Bool)}
theorem oI_m1 {o : Option Nat} (ho : ∀ x, o = some x → x < 2 ^ 31) : oI o = (-1 : Int32) ↔ o = none := by
  rw [show (-1 : Int32) = oI none from rfl]
  exact oI_inj ho (fun x e => by cases e)
theorem r_isEnd {k a : Nat} (w : Wf D) (hi : i < 8) (wo : WlOK D W) (e0 : h.1 76 i = nI m0) (e1 : h.1 76 (i + 1) = nI (m0 + W.length)) (wr : WRp m0 W h) (hm0 : m0 + 24 ≤ 192) (ok : StI D i Q) (cs : RStn i Q h) (hk : k ≤ W.length) (ha : a < qN Q) (t1 : Ch Q (W.drop k) (some a) → P 1 h) (t0 : ¬ Ch Q (W.drop k) (some a) → P 0 h) : SpI E d MX10_isEnd [.ref (eA E 63), .int (nI i), .int (nI k), .int (nI a)] h P := by
  have hN := p12_lt w.1
  have q1 := ok.1
  obtain ⟨w1, w2, w3⟩ := wo
  have vi9 : vp_in (nI i) 9 := vp_in_nI (by omega) (by decide)
  have vi19 : vp_in (nI (i + 1)) 9 := vp_in_nI (by omega) (by decide)
  refine wp_X10_isEnd E d _ _ _ h P (fun ga => ⟨vi9, ?_⟩)
  rw [nI_clamp (by omega), e0, nI_add]
  have loop : ∀ n, n ≤ W.length → ∀ o : Option Nat, (∀ x, o = some x → x < qN Q) → (Ch Q (W.drop n) o → P 1 h) → (¬ Ch Q (W.drop n) o → P 0 h) → VX10_isEnd_13 E d ga P (nI i) (nI k) (nI a) (oI o) (nI (m0 + n)) h := by
    refine up_ind _ ?_ ?_
    · intro o ho p1 p0
      refine sg_X10_isEnd_13 E d ga _ _ _ _ _ h P ?_
      rw [nI_1, nI_clamp (n := i + 1) (by omega), e1]
      refine ⟨vi19, br_t (nI_le (Nat.le_refl _) (by omega)) ?_⟩
      have e : Ch Q (W.drop W.length) o ↔ o = none := by rw [List.drop_length]; exact Iff.rfl
      exact bj_if (oI_m1 (fun x z => by have := ho x z; omega)) (fun z => p0 (fun c => z (e.mp c))) (fun z => p1 (e.mpr z))
    · intro n hn ih o ho p1 p0
      have wk := wr n hn
      have w3n := w3 n hn
      refine sg_X10_isEnd_13 E d ga _ _ _ _ _ h P ?_
      rw [nI_1, nI_clamp (n := i + 1) (by omega), e1, nI_clamp (n := m0 + n) (by omega), wk.1, wk.2]
      refine ⟨vi19, br_f (nI_ge (by omega) (by omega)) ?_⟩
      cases o with
      | none =>
        refine br_t rfl (p0 (fun c => ?_))
        rw [dropD hn] at c
        obtain ⟨b, b1, _⟩ := c
        cases b1
      | some b =>
        have hb := ho b rfl
        have ss := ok.2.1 b hb
        obtain ⟨c1, c2, c3⟩ := cs.2.1 b hb
        have v : vp_in (nI b) 192 := vp_in_nI (by omega) (by decide)
        have v2 : vp_in (nI (m0 + n)) 192 := vp_in_nI (by omega) (by decide)
        refine br_f (nI_m1 (by omega)) ?_
        rw [show oI (some b) = nI b from rfl, nI_clamp (n := b) (by omega), c1, c2, c3, nI_1]
        have no : (qS Q b = (W.getD n (0, false)).1 → qF Q b = (W.getD n (0, false)).2 → False) → ¬ Ch Q (W.drop n) (some b) := by
          intro z c
          rw [dropD hn] at c
          obtain ⟨b', b1, b2, b3, b4, b5⟩ := c
          cases b1
          exact z b3 b4
        refine ⟨v, v2, bj_if (nI_eq (by omega) (by omega)) (fun z => p0 (no (fun e => (z e).elim))) (fun z1 => ⟨v, v2, ?_⟩)⟩
        refine ek_if b2i_inj (fun z2 => ⟨v, ih (qX Q b) (ok.nx hb) (fun c => p1 ?_) (fun c => p0 (fun c' => c ?_))⟩) (fun z => p0 (no (fun _ e => (z e).elim)))
        · rw [dropD hn]
          exact ⟨b, rfl, hb, z1, z2, c⟩
        · rw [dropD hn] at c'
          obtain ⟨b', b1, b2, b3, b4, b5⟩ := c'
          cases b1
          exact b5
  exact loop k hk (some a) (fun x e => by cases e; exact ha) t1 t0
theorem r_adr {k : Nat} (w : Wf D) (hi : i < 8) (wo : WlOK D W) (e0 : h.1 76 i = nI m0) (e1 : h.1 76 (i + 1) = nI (m0 + W.length)) (wr : WRp m0 W h) (hm0 : m0 + 24 ≤ 192) (ok : StI D i Q) (cs : RStn i Q h) (hk : k ≤ W.length) (t1 : ∀ a, a < qN Q → Ch Q (W.drop k) (some a) → P (nI a) h) (t0 : (∀ a, ¬ Ch Q (W.drop k) (some a)) → k < W.length → P (-1) h) (hkl : k < W.length) : SpI E (d + 1) MX10_addressOfEnd [.ref (eA E 63), .int (nI i), .int (nI k)] h P := by
  have q1 := ok.1
  refine wp_X10_addressOfEnd E d _ _ h P (fun ga => ?_)
  have loop : ∀ a, a ≤ qN Q → (∀ x, x < a → ¬ Ch Q (W.drop k) (some x)) → VX10_addressOfEnd_2 E d ga P (nI i) (nI k) (nI a) h := by
    refine up_ind _ ?_ ?_
    · intro no
      refine sg_X10_addressOfEnd_2 E d ga _ _ _ h P ?_
      rw [cs.1]
      refine br_t (nI_le (Nat.le_refl _) (by omega)) (t0 (fun a c => ?_) hkl)
      obtain ⟨y, y1, y2⟩ := Ch_some c (by rw [List.length_drop]; omega)
      cases y1
      exact no a y2 c
    · intro a ha ih no
      refine sg_X10_addressOfEnd_2 E d ga _ _ _ h P ?_
      rw [cs.1, nI_1]
      refine br_f (nI_ge ha (by omega)) (r_isEnd w hi wo e0 e1 wr hm0 ok cs hk ha (fun c => ?_) (fun c => ?_))
      · exact br_f (by decide) (t1 a ha c)
      · refine br_t rfl (ih (fun x hx => ?_))
        by_cases e : x = a
        · rw [e]; exact c
        · exact no x (by omega)
  exact loop 0 (Nat.zero_le _) (fun a ha => absurd ha (Nat.not_lt_zero a))
theorem r_stores (w : Wf D) (hi : i < 8) (wo : WlOK D W) (e0 : h.1 76 i = nI m0) (e1 : h.1 76 (i + 1) = nI (m0 + W.length)) (wr : WRp m0 W h) (hm0 : m0 + 24 ≤ 192) (ok : StI D i Q) (cs : RStn i Q h) (t : ∀ h' k o, Fr fSr h h' → Spc Q W k o → RStn (i + 1) (plc Q W i k o) h' → PV h') : SpV E (d + 3) MX10_stores [.ref (eA E 63), .int (nI i)] h PV := by
  have hN := p12_lt w.1
  have q1 := ok.1
  obtain ⟨w1, w2, w3⟩ := id wo
  have vi : vp_in (nI i) 8 := vp_in_nI hi (by decide)
  have vi9 : vp_in (nI i) 9 := vp_in_nI (by omega) (by decide)
  have vi19 : vp_in (nI (i + 1)) 9 := vp_in_nI (by omega) (by decide)
  refine wp_X10_stores E (d + 2) _ h PV (fun ga => wp_X10_wordsOf E _ _ h _ ?_)
  rw [nI_1, nI_clamp (n := i) (by omega), nI_clamp (n := i + 1) (by omega), e0, e1, pk_sub (by omega), show m0 + W.length - m0 = W.length by omega]
  refine ⟨vi19, vi9, ?_⟩
  have put : ∀ (own : Nat) (o : Option Nat), Spc Q W own o → ∀ k, k ≤ own → ∀ h1, Fr fSr h h1 → h1.1 63 26 = nI (qN Q + k) → (∀ a, a < qN Q + k → h1.1 79 a = nI (qS (plc Q W i own o) a) ∧ h1.1 80 a = b2i (qF (plc Q W i own o) a) ∧ h1.1 81 a = oI (qX (plc Q W i own o) a)) → (∀ j, j < i + 1 → h1.1 82 j = oI (qE (plc Q W i own o) j)) → VX10_stores_68 E (d + 2) ga PV (nI i) (nI W.length) (nI own) (oI o) (nI k) h1 := by
    intro own o sp
    have so := sp.1
    refine up_ind _ ?_ ?_
    · intro h1 f e4 ea eE
      exact sg_X10_stores_68 E (d + 2) ga _ _ _ _ _ h1 PV (br_t (nI_le (Nat.le_refl _) (by omega)) (t h1 own o f sp ⟨e4, ea, eE⟩))
    · intro k hk ih h1 f e4 ea eE
      have v : vp_in (nI (m0 + k)) 192 := vp_in_nI (by omega) (by decide)
      have v2 : vp_in (nI (qN Q + k)) 192 := vp_in_nI (by omega) (by decide)
      have wk := wr k (by omega)
      refine sg_X10_stores_68 E (d + 2) ga _ _ _ _ _ h1 PV ?_
      rw [e4, nI_clamp (n := i) (by omega), f.f 76 (fun _ => rfl), e0, nI_add, nI_1, nI_1, nI_clamp (n := qN Q + k) (by omega), nI_clamp (n := m0 + k) (by omega), f.f 74 (fun _ => rfl), f.f 75 (fun _ => rfl), wk.1, wk.2]
      have go : ∀ z : Int32, z = oI (qX (plc Q W i own o) (qN Q + k)) → VX10_stores_68 E (d + 2) ga PV (nI i) (nI W.length) (nI own) (oI o) (nI (k + 1)) (sI (sI (sI (sI h1 79 (qN Q + k) (nI (W.getD k (0, false)).1)) 80 (qN Q + k) (b2i (W.getD k (0, false)).2)) 81 (qN Q + k) z) 63 26 (nI (qN Q + k + 1))) := by
        intro z hz
        refine ih _ ((((f.si rfl).si rfl).si rfl).si rfl) ?_ (fun a ha => ?_) (fun j hj => ?_)
        · rw [sI_at]; rfl
        · by_cases e : a = qN Q + k
          · subst e
            rw [sI_n _ _ _ _ (show 79 ≠ 63 by decide), sI_n _ _ _ _ (show 79 ≠ 81 by decide), sI_n _ _ _ _ (show 79 ≠ 80 by decide), sI_at, sI_n _ _ _ _ (show 80 ≠ 63 by decide), sI_n _ _ _ _ (show 80 ≠ 81 by decide), sI_at, sI_n _ _ _ _ (show 81 ≠ 63 by decide), sI_at]
            refine ⟨?_, ?_, hz⟩
            · show _ = nI (if qN Q + k < qN Q then _ else (W.getD (qN Q + k - qN Q) (0, false)).1)
              rw [if_neg (by omega), show qN Q + k - qN Q = k by omega]
            · show _ = b2i (if qN Q + k < qN Q then _ else (W.getD (qN Q + k - qN Q) (0, false)).2)
              rw [if_neg (by omega), show qN Q + k - qN Q = k by omega]
          · rw [sI_n _ _ _ _ (show 79 ≠ 63 by decide), sI_n _ _ _ _ (show 80 ≠ 63 by decide), sI_n _ _ _ _ (show 81 ≠ 63 by decide), sI_j e, sI_j e, sI_j e, sI_j e, sI_j e, sI_j e, sI_j e, sI_j e, sI_j e]
            exact ea a (by omega)
        · rw [sI_n _ _ _ _ (show 82 ≠ 63 by decide), sI_n _ _ _ _ (show 82 ≠ 81 by decide), sI_n _ _ _ _ (show 82 ≠ 80 by decide), sI_n _ _ _ _ (show 82 ≠ 79 by decide)]
          exact eE j hj
      refine br_f (nI_ge hk (by omega)) ⟨vi9, v, v2, vi9, v, v2, ek_if (nI_leI (by omega) (by omega)) (fun z => ⟨v2, go _ ?_⟩) (fun z => ⟨v2, go _ ?_⟩)⟩
      · show _ = oI (if qN Q + k < qN Q then _ else if qN Q + k - qN Q + 1 < own then some (qN Q + k + 1) else o)
        rw [if_neg (by omega), if_neg (by omega)]
      · show _ = oI (if qN Q + k < qN Q then _ else if qN Q + k - qN Q + 1 < own then some (qN Q + k + 1) else o)
        rw [if_neg (by omega), if_pos (by omega)]; rfl
  have ent : ∀ (own : Nat) (o : Option Nat), Spc Q W own o → (¬ nI own = 0 → (vp_in (nI i) 8 ∧ (VX10_stores_68 E (d + 2) ga PV (nI i) (nI W.length) (nI own) (oI o) (0 : Int32) (sI h 82 i (h.1 63 26))))) ∧ (nI own = 0 → (vp_in (nI i) 8 ∧ (VX10_stores_68 E (d + 2) ga PV (nI i) (nI W.length) (nI own) (oI o) (0 : Int32) (sI h 82 i (oI o))))) := by
    intro own o sp
    have so := sp.1
    have go : ∀ z : Int32, z = oI (qE (plc Q W i own o) i) → VX10_stores_68 E (d + 2) ga PV (nI i) (nI W.length) (nI own) (oI o) (nI 0) (sI h 82 i z) := by
      intro z hz
      refine put own o sp 0 (Nat.zero_le _) _ ((Fr.refl h).si rfl) ?_ (fun a ha => ?_) (fun j hj => ?_)
      · rw [sI_n _ _ _ _ (by decide)]; exact cs.1
      · rw [sI_n _ _ _ _ (by decide), sI_n _ _ _ _ (by decide), sI_n _ _ _ _ (by decide)]
        have e1 : qS (plc Q W i own o) a = qS Q a := if_pos ha
        have e2 : qF (plc Q W i own o) a = qF Q a := if_pos ha
        have e3 : qX (plc Q W i own o) a = qX Q a := if_pos ha
        rw [e1, e2, e3]
        exact cs.2.1 a ha
      · by_cases e : j = i
        · subst e; rw [sI_at, hz]
        · rw [sI_j e]
          have e1 : qE (plc Q W i own o) j = qE Q j := if_neg e
          rw [e1]
          exact cs.2.2 j (by omega)
    refine bj_if (nI_z (by omega)) (fun z => ⟨vi, go _ ?_⟩) (fun z => ⟨vi, go _ ?_⟩)
    · show _ = oI (if i = i then (if own = 0 then o else some (qN Q)) else _)
      rw [if_pos rfl, if_neg z, cs.1]; rfl
    · show _ = oI (if i = i then (if own = 0 then o else some (qN Q)) else _)
      rw [if_pos rfl, if_pos z]
  have main : ∀ k, k ≤ W.length → (∀ j, j < k → ∀ a, ¬ Ch Q (W.drop j) (some a)) → VX10_stores_8 E (d + 2) ga PV (nI i) (nI W.length) (nI k) h := by
    refine up_ind _ ?_ ?_
    · intro no
      refine sg_X10_stores_8 E (d + 2) ga _ _ _ h PV ?_
      rw [nI_clamp (n := i) (by omega)]
      exact br_t (nI_le (Nat.le_refl _) (by omega)) (br_t (nI_le (Nat.le_refl _) (by omega)) (ent W.length none ⟨Nat.le_refl _, by rw [List.drop_length]; rfl, no⟩))
    · intro k hk ih no
      refine sg_X10_stores_8 E (d + 2) ga _ _ _ h PV ?_
      rw [nI_clamp (n := i) (by omega), nI_1]
      refine br_f (nI_ge hk (by omega)) (r_adr w hi wo e0 e1 wr hm0 ok cs (by omega) (fun a ha c => ?_) (fun c _ => ?_) hk)
      · refine bq_f (nI_m1 (by omega)) (br_f (nI_ge hk (by omega)) (r_adr w hi wo e0 e1 wr hm0 ok cs (by omega) (fun a ha c => ?_) (fun c' _ => absurd c (c' a)) hk))
        exact ent k (some a) ⟨by omega, c, no⟩
      · refine bq_t rfl (ih (fun j hj => ?_))
        by_cases e : j = k
        · rw [e]; exact c
        · exact no j (by omega)
  exact main 0 (Nat.zero_le _) (fun a ha => absurd ha (Nat.not_lt_zero a))
end STR
