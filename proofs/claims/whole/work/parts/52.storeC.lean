/-! the store in the class -/
def CStn (n : Nat) (Q : SO) (h : Hp) : Prop := h.1 46 4 = nI (qN Q) ∧ (∀ a, a < qN Q → h.1 47 a = nI (qS Q a) ∧ h.1 48 a = b2i (qF Q a) ∧ h.1 49 a = oI (qX Q a)) ∧ ∀ i, i < n → h.1 50 i = oI (qE Q i)
theorem CStn.fr {n : Nat} {Q : SO} {h h' : Hp} {X : Nat → Nat → Bool} (r : CStn n Q h) (f : Fr X h h') (a0 : X 46 4 = false) (a : ∀ c j, 47 ≤ c → c ≤ 50 → X c j = false) : CStn n Q h' := by
  unfold CStn
  rw [f.f 47 (fun j => a 47 j (by decide) (by decide)), f.f 48 (fun j => a 48 j (by decide) (by decide)), f.f 49 (fun j => a 49 j (by decide) (by decide)), f.f 50 (fun j => a 50 j (by decide) (by decide)), f.i 46 4 a0]
  exact r
def fSt (c j : Nat) : Bool := (47 ≤ c && c ≤ 50) || (c == 46 && j == 4)
theorem p12_lt {n : Nat} (h : n ≤ 12) : 2 ^ n ≤ 4096 := Nat.pow_le_pow_right (n := 2) (j := 12) (by decide) h
section STC
variable {E : En} {d : Nat} {D : SD} {S : ST} {Q : SO} {h : Hp} {P : Int32 → Hp → Prop} {PV : Hp → Prop} {i n : Nat}
theorem StI.nx (s : StI D n Q) {a : Nat} (ha : a < qN Q) : ∀ x, qX Q a = some x → x < qN Q := by
  obtain ⟨_, _, ⟨rk, r⟩, _, _⟩ := s
  exact fun x e => ((r a ha).2.2.2 x e).1
theorem c_eqB {o : Option Nat} {s : Nat} {f : Bool} (w : Wf D) (hn : n ≤ 8) (ok : StI D n Q) (cs : CStn n Q h) (ho : ∀ x, o = some x → x < qN Q) (hs : s < 2 ^ dN D) (t1 : ∀ a, a < qN Q → qX Q a = o → qS Q a = s → qF Q a = f → P (nI a) h) (t0 : (∀ a, a < qN Q → qX Q a = o → qS Q a = s → qF Q a = f → False) → P (-1) h) : SpI E d MX7_equalBefore [.ref (eA E 46), .int (oI o), .int (nI s), .int (b2i f)] h P := by
  have hN := p12_lt w.1
  have q1 := ok.1
  refine wp_X7_equalBefore E d _ _ _ h P (fun ga => ?_)
  have loop : ∀ k, k ≤ qN Q → (∀ a, a < k → qX Q a = o → qS Q a = s → qF Q a = f → False) → VX7_equalBefore_3 E d ga P (oI o) (nI s) (b2i f) (nI k) h := by
    refine up_ind _ ?_ ?_
    · intro no
      refine sg_X7_equalBefore_3 E d ga _ _ _ _ h P ?_
      rw [cs.1]
      exact br_t (nI_le (Nat.le_refl _) (by omega)) (t0 no)
    · intro k hk ih no
      have v : vp_in (nI k) 192 := vp_in_nI (by omega) (by decide)
      obtain ⟨c1, c2, c3⟩ := cs.2.1 k hk
      have nx := ok.nx hk
      have ss := ok.2.1 k hk
      have nxt : (qX Q k = o → qS Q k = s → qF Q k = f → False) → VX7_equalBefore_3 E d ga P (oI o) (nI s) (b2i f) (nI (k + 1)) h := by
        intro z
        refine ih (fun a ha => ?_)
        by_cases e : a = k
        · rw [e]; exact z
        · exact no a (by omega)
      refine sg_X7_equalBefore_3 E d ga _ _ _ _ h P ?_
      rw [cs.1, nI_clamp (by omega), c1, c2, c3, nI_1]
      refine br_f (nI_ge hk (by omega)) ⟨v, bj_if (oI_inj (fun x e => by have := nx x e; omega) (fun x e => by have := ho x e; omega)) (fun z => nxt (fun e => (z e).elim)) (fun z1 => ⟨v, ?_⟩)⟩
      refine bj_if (nI_eq (by omega) (by omega)) (fun z => nxt (fun _ e => (z e).elim)) (fun z2 => ⟨v, ?_⟩)
      exact bj_if b2i_inj (fun z => nxt (fun _ _ e => (z e).elim)) (fun z3 => t1 k hk z1 z2 z3)
  exact loop 0 (Nat.zero_le _) (fun a ha => absurd ha (Nat.not_lt_zero a))
theorem sub1_0 : nI 0 - (1 : Int32) < 0 := by decide
theorem sub1_s (n : Nat) : nI (n + 1) - (1 : Int32) = nI n := by
  rw [show (1 : Int32) = nI 1 from rfl, pk_sub (by omega)]; rfl
theorem subm1 (n : Nat) : nI n + (-1 : Int32) = nI n - (1 : Int32) := by
  rw [Int32.sub_eq_add_neg]
theorem nI_n0 {n : Nat} (h : n < 2 ^ 31) : ¬ nI n < (0 : Int32) := by
  rw [show (0 : Int32) = nI 0 from rfl, nI_ltI h (by decide)]
  omega
theorem nI_z {n : Nat} (h : n < 2 ^ 31) : nI n = (0 : Int32) ↔ n = 0 := by
  rw [show (0 : Int32) = nI 0 from rfl]
  exact nI_eq h (by decide)
theorem c_place {W : List (Nat × Bool)} {c m : Nat} (w : Wf D) (hi : i < 8) (wo : WlOK D W) (wi : WIp i W c m h) (ok : StI D i Q) (cs : CStn i Q h) (t : ∀ h' k o, Fr fSt h h' → Spc Q W k o → CStn (i + 1) (plc Q W i k o) h' → PV h') : SpV E (d + 1) MX7_place [.ref (eA E 46), .int (nI i), .ref (eA E 40)] h PV := by
  have hN := p12_lt w.1
  have q1 := ok.1
  obtain ⟨w1, w2, w3⟩ := wo
  have vi : vp_in (nI i) 8 := vp_in_nI hi (by decide)
  refine wp_X7_place E d _ h PV (fun ga => ⟨vi, ?_⟩)
  rw [nI_clamp (by omega), wi.1, show (24 : Int32) = nI 24 from rfl, pk_mul, show i * 24 = 24 * i by omega]
  -- the own words are put
  have put : ∀ (own : Nat) (o : Option Nat), Spc Q W own o → ∀ k, k ≤ own → ∀ h1, Fr fSt h h1 → h1.1 46 4 = nI (qN Q + k) → (∀ a, a < qN Q + k → h1.1 47 a = nI (qS (plc Q W i own o) a) ∧ h1.1 48 a = b2i (qF (plc Q W i own o) a) ∧ h1.1 49 a = oI (qX (plc Q W i own o) a)) → (∀ j, j < i + 1 → h1.1 50 j = oI (qE (plc Q W i own o) j)) → VX7_place_99 E d ga PV (nI i) (nI (24 * i)) (nI own) (oI o) (nI k) h1 := by
    intro own o sp
    have so := sp.1
    refine up_ind _ ?_ ?_
    · intro h1 f e4 ea eE
      exact sg_X7_place_99 E d ga _ _ _ _ _ h1 PV (br_t (nI_le (Nat.le_refl _) (by omega)) (t h1 own o f sp ⟨e4, ea, eE⟩))
    · intro k hk ih h1 f e4 ea eE
      have v : vp_in (nI (24 * i + k)) 192 := vp_in_nI (by omega) (by decide)
      have v2 : vp_in (nI (qN Q + k)) 192 := vp_in_nI (by omega) (by decide)
      have wk := wi.2.2.2 k (by omega)
      refine sg_X7_place_99 E d ga _ _ _ _ _ h1 PV ?_
      rw [e4, nI_add, nI_1, nI_1, nI_clamp (n := qN Q + k) (by omega), nI_clamp (n := 24 * i + k) (by omega), f.f 44 (fun _ => rfl), f.f 45 (fun _ => rfl), wk.1, wk.2, nar_b2i, show (1 : Int32) = nI 1 from rfl, pk_sub (by omega)]
      have go : ∀ z : Int32, z = oI (qX (plc Q W i own o) (qN Q + k)) → VX7_place_99 E d ga PV (nI i) (nI (24 * i)) (nI own) (oI o) (nI (k + 1)) (sI (sI (sI (sI h1 47 (qN Q + k) (nI (W.getD k (0, false)).1)) 48 (qN Q + k) (b2i (W.getD k (0, false)).2)) 49 (qN Q + k) z) 46 4 (nI (qN Q + k + 1))) := by
        intro z hz
        refine ih _ ((((f.si rfl).si rfl).si rfl).si rfl) ?_ (fun a ha => ?_) (fun j hj => ?_)
        · rw [sI_at]; rfl
        · by_cases e : a = qN Q + k
          · subst e
            rw [sI_n _ _ _ _ (show 47 ≠ 46 by decide), sI_n _ _ _ _ (show 47 ≠ 49 by decide), sI_n _ _ _ _ (show 47 ≠ 48 by decide), sI_at, sI_n _ _ _ _ (show 48 ≠ 46 by decide), sI_n _ _ _ _ (show 48 ≠ 49 by decide), sI_at, sI_n _ _ _ _ (show 49 ≠ 46 by decide), sI_at]
            refine ⟨?_, ?_, hz⟩
            · show _ = nI (if qN Q + k < qN Q then _ else (W.getD (qN Q + k - qN Q) (0, false)).1)
              rw [if_neg (by omega), show qN Q + k - qN Q = k by omega]
            · show _ = b2i (if qN Q + k < qN Q then _ else (W.getD (qN Q + k - qN Q) (0, false)).2)
              rw [if_neg (by omega), show qN Q + k - qN Q = k by omega]
          · rw [sI_n _ _ _ _ (show 47 ≠ 46 by decide), sI_n _ _ _ _ (show 48 ≠ 46 by decide), sI_n _ _ _ _ (show 49 ≠ 46 by decide), sI_j e, sI_j e, sI_j e, sI_j e, sI_j e, sI_j e, sI_j e, sI_j e, sI_j e]
            exact ea a (by omega)
        · rw [sI_n _ _ _ _ (show 50 ≠ 46 by decide), sI_n _ _ _ _ (show 50 ≠ 49 by decide), sI_n _ _ _ _ (show 50 ≠ 48 by decide), sI_n _ _ _ _ (show 50 ≠ 47 by decide)]
          exact eE j hj
      refine br_f (nI_ge hk (by omega)) (br_f (nI_ge (b := 192) (by omega) (by decide)) ⟨v, v2, v, v2, bj_if (nI_eq (by omega) (by omega)) (fun z => ⟨v2, go _ ?_⟩) (fun z => ⟨v2, go _ ?_⟩)⟩)
      · show _ = oI (if qN Q + k < qN Q then _ else if qN Q + k - qN Q + 1 < own then some (qN Q + k + 1) else o)
        rw [if_neg (by omega), if_pos (by omega)]; rfl
      · show _ = oI (if qN Q + k < qN Q then _ else if qN Q + k - qN Q + 1 < own then some (qN Q + k + 1) else o)
        rw [if_neg (by omega), if_neg (by omega)]
  have ent : ∀ (own : Nat) (o : Option Nat), Spc Q W own o → (¬ nI own = 0 → (vp_in (nI i) 8 ∧ (VX7_place_99 E d ga PV (nI i) (nI (24 * i)) (nI own) (oI o) (0 : Int32) (sI h 50 i (h.1 46 4))))) ∧ (nI own = 0 → (vp_in (nI i) 8 ∧ (VX7_place_99 E d ga PV (nI i) (nI (24 * i)) (nI own) (oI o) (0 : Int32) (sI h 50 i (oI o))))) := by
    intro own o sp
    have so := sp.1
    have go : ∀ z : Int32, z = oI (qE (plc Q W i own o) i) → VX7_place_99 E d ga PV (nI i) (nI (24 * i)) (nI own) (oI o) (nI 0) (sI h 50 i z) := by
      intro z hz
      refine put own o sp 0 (Nat.zero_le _) _ ((Fr.refl h).si rfl) ?_ (fun a ha => ?_) (fun j hj => ?_)
      · rw [sI_n _ _ _ _ (by decide)]; exact cs.1
      · rw [sI_n _ _ _ _ (by decide), sI_n _ _ _ _ (by decide), sI_n _ _ _ _ (by decide)]
        have e1 : qS (plc Q W i own o) a = qS Q a := if_pos ha
        have e2 : qF (plc Q W i own o) a = qF Q a := if_pos ha
        have e3 : qX (plc Q W i own o) a = qX Q a := if_pos ha
        rw [e1, e2, e3]
        exact cs.2.1 a ha
      · by_cases e : j = i
        · subst e; rw [sI_at, hz]
        · rw [sI_j e]
          have e1 : qE (plc Q W i own o) j = qE Q j := if_neg e
          rw [e1]
          exact cs.2.2 j (by omega)
    refine bj_if (nI_z (by omega)) (fun z => ⟨vi, go _ ?_⟩) (fun z => ⟨vi, go _ ?_⟩)
    · show _ = oI (if i = i then (if own = 0 then o else some (qN Q)) else _)
      rw [if_pos rfl, if_neg z, cs.1]; rfl
    · show _ = oI (if i = i then (if own = 0 then o else some (qN Q)) else _)
      rw [if_pos rfl, if_pos z]
  have main : ∀ (own : Nat) (o : Option Nat), own ≤ W.length → Ch Q (W.drop own) o → VX7_place_22 E d ga PV (nI i) (nI (24 * i)) (nI own) (oI o) (nI own - 1) h := by
    intro own
    induction own with
    | zero =>
      intro o ho c
      refine sg_X7_place_22 E d ga _ _ _ _ _ h PV (br_t sub1_0 ?_)
      rw [nI_clamp (by omega)]
      exact ent 0 o (Spc_of ho c (fun z => absurd z (Nat.lt_irrefl 0)))
    | succ own ih =>
      intro o ho c
      have v : vp_in (nI (24 * i + own)) 192 := vp_in_nI (by omega) (by decide)
      have wk := wi.2.2.2 own (by omega)
      have hox : ∀ x, o = some x → x < qN Q := by
        intro x e
        rw [e] at c
        by_cases q : 0 < (W.drop (own + 1)).length
        · obtain ⟨y, y1, y2⟩ := Ch_some c q
          cases y1; exact y2
        · have z : W.drop (own + 1) = [] := List.eq_nil_of_length_eq_zero (by omega)
          rw [z] at c
          cases c
      refine sg_X7_place_22 E d ga _ _ _ _ _ h PV ?_
      rw [sub1_s, nI_add, nI_clamp (n := 24 * i + own) (by omega), nI_clamp (n := i) (by omega), wk.1, wk.2]
      refine br_f (nI_n0 (by omega)) ⟨v, v, c_eqB w (by omega) ok cs hox (w3 own (by omega)) (fun a ha e1 e2 e3 => ?_) (fun no => ?_)⟩
      · refine bq_f (nI_m1 (by omega)) ?_
        rw [subm1]
        refine ih (some a) (by omega) ?_
        rw [dropD (by omega)]
        exact ⟨a, rfl, ha, e2, e3, by rw [e1]; exact c⟩
      · refine bq_t rfl (ent (own + 1) o (Spc_of ho c (fun _ a ha => ?_)))
        rw [show own + 1 - 1 = own from rfl, dropD (by omega)] at ha
        obtain ⟨b, b1, b2, b3, b4, b5⟩ := ha
        exact no b b2 (Ch_uq ok.2.2.2.1 _ _ _ b5 c) b3 b4
  exact main W.length none (Nat.le_refl _) (by rw [List.drop_length]; rfl)
end STC
