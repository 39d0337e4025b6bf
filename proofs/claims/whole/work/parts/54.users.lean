/-! the users of a word -/
def onC (Q : SO) (a : Nat) : Nat → Option Nat → Bool
  | 0, _ => false
  | _ + 1, none => false
  | f + 1, some b => decide (b = a) || onC Q a f (qX Q b)
def cntU (Q : SO) (a : Nat) : Nat → Nat
  | 0 => 0
  | i + 1 => cntU Q a i + (if onC Q a 24 (qE Q i) then 1 else 0)
theorem cntU_le (Q : SO) (a : Nat) : ∀ i, cntU Q a i ≤ i
  | 0 => Nat.le_refl _
  | i + 1 => by
    show cntU Q a i + _ ≤ _
    have := cntU_le Q a i
    split <;> omega
section USR
variable {E : En} {d : Nat} {D : SD} {Q : SO} {h : Hp} {P : Int32 → Hp → Prop} {a : Nat}
theorem onC_lo {rk : Nat → Nat} (r : RkOK Q rk) : ∀ f o, (∀ b, o = some b → b < qN Q ∧ rk b < rk a) → onC Q a f o = false
  | 0, _, _ => rfl
  | _ + 1, none, _ => rfl
  | f + 1, some b, h => by
    obtain ⟨h1, h2⟩ := h b rfl
    show (decide (b = a) || onC Q a f (qX Q b)) = false
    rw [decide_eq_false (fun e => by rw [e] at h2; omega), onC_lo r f (qX Q b) (fun c e => ?_)]
    · rfl
    · obtain ⟨r1, r2⟩ := (r b h1).2.2.2 c e
      exact ⟨r1, by omega⟩
theorem onC_more {rk : Nat → Nat} (r : RkOK Q rk) : ∀ f o, rkO rk Q f o → onC Q a (f + 1) o = onC Q a f o
  | 0, none, _ => rfl
  | 0, some b, h => by have := (r b h.1).1; have := h.2; omega
  | _ + 1, none, _ => rfl
  | f + 1, some b, h => by
    show (decide (b = a) || onC Q a (f + 1) (qX Q b)) = (decide (b = a) || onC Q a f (qX Q b))
    rw [onC_more r f (qX Q b) (h.next r)]
theorem wfQ_rk {rk : Nat → Nat} (r : RkOK Q rk) (wq : WfQ D Q) {i : Nat} (hi : i < dI D) : rkO rk Q 24 (qE Q i) := by
  obtain ⟨b, b1, b2⟩ := wq.2.2.2 i hi
  rw [b2]
  exact ⟨b1, (r b b1).2.1⟩
theorem c_users (w : Wf D) (wq : WfQ D Q) (cs : CSto D Q h) (ha : a < qN Q) (t : P (nI (cntU Q a (dI D))) h) : SpI E d MX7_users [.ref (eA E 46), .int (nI a), .int (nI (dI D))] h P := by
  have hI := w.2.2.1
  have hq := wq.1
  obtain ⟨rk, r⟩ := wq.2.2.1
  refine wp_X7_users E d _ _ h P (fun ga => ?_)
  have outer : ∀ i, i ≤ dI D → VX7_users_5 E d ga P (nI a) (nI (dI D)) (nI (cntU Q a i)) (nI i) h := by
    refine up_ind _ ?_ ?_
    · exact sg_X7_users_5 E d ga _ _ _ _ h P (br_t (nI_le (Nat.le_refl _) (by omega)) t)
    · intro i hi ih
      have ci := cntU_le Q a i
      have e1 : cntU Q a (i + 1) = cntU Q a i + (if onC Q a 24 (qE Q i) then 1 else 0) := rfl
      refine sg_X7_users_5 E d ga _ _ _ _ h P (br_f (nI_ge hi (by omega)) ⟨vp_in_nI (by omega) (by decide), ?_⟩)
      rw [nI_clamp (by omega), cs.2.2 i hi]
      have inner : ∀ f k o, k + f = 24 → rkO rk Q f o → onC Q a f o = onC Q a 24 (qE Q i) → VX7_users_23 E d ga P (nI a) (nI (dI D)) (nI (cntU Q a i)) (nI i) (oI o) (nI k) h := by
        intro f
        induction f with
        | zero =>
          intro k o hk ro eo
          have oN : o = none := by
            cases o with
            | none => rfl
            | some b => have := (r b ro.1).1; have := ro.2; omega
          subst oN
          refine sg_X7_users_23 E d ga _ _ _ _ _ _ h P ?_
          rw [nI_1, nI_1]
          refine br_t (nI_le (a := 24) (by omega) (by omega)) (bq_f (fun e => nI_m1 (n := a) (by omega) e.symm) ?_)
          rw [← eo] at e1
          rw [← show cntU Q a (i + 1) = cntU Q a i from e1]
          exact ih
        | succ f ihf =>
          intro k o hk ro eo
          refine sg_X7_users_23 E d ga _ _ _ _ _ _ h P ?_
          rw [nI_1, nI_1, nI_1]
          refine br_f (nI_ge (b := 24) (by omega) (by decide)) ?_
          cases o with
          | none =>
            refine br_t rfl (bq_f (fun e => nI_m1 (n := a) (by omega) e.symm) ?_)
            rw [← eo] at e1
            rw [← show cntU Q a (i + 1) = cntU Q a i from e1]
            exact ih
          | some b =>
            have hb := ro.1
            have eo : (decide (b = a) || onC Q a f (qX Q b)) = onC Q a 24 (qE Q i) := eo
            refine br_f (nI_m1 (n := b) (by omega)) (ek_if (nI_eq (a := b) (b := a) (by omega) (by omega)) (fun z => bq_t (by rw [z]; rfl) ?_) (fun z => ⟨vp_in_nI (n := b) (by omega) (by decide), ?_⟩))
            · rw [← eo, decide_eq_true z] at e1
              rw [← show cntU Q a (i + 1) = cntU Q a i + 1 from e1]
              exact ih
            · rw [show oI (some b) = nI b from rfl, nI_clamp (n := b) (by omega), (cs.2.1 b hb).2.2]
              refine ihf (k + 1) (qX Q b) (by omega) (ro.next r) ?_
              rw [← eo, decide_eq_false z]; rfl
      exact inner 24 0 (qE Q i) rfl (wfQ_rk r wq hi) rfl
  exact outer 0 (Nat.zero_le _)
theorem r_users (w : Wf D) (sr : RSrc D h) (wq : WfQ D Q) (cs : RSto D Q h) (ha : a < qN Q) (t : P (nI (cntU Q a (dI D))) h) : SpI E d MX10_usersOf [.ref (eA E 63), .int (nI a)] h P := by
  have hI := w.2.2.1
  have hq := wq.1
  obtain ⟨rk, r⟩ := wq.2.2.1
  refine wp_X10_usersOf E d _ h P (fun ga => ?_)
  have outer : ∀ i, i ≤ dI D → VX10_usersOf_4 E d ga P (nI a) (nI (cntU Q a i)) (nI i) h := by
    refine up_ind _ ?_ ?_
    · refine sg_X10_usersOf_4 E d ga _ _ _ h P ?_
      rw [sr.2.1]
      exact br_t (nI_le (Nat.le_refl _) (by omega)) t
    · intro i hi ih
      have ci := cntU_le Q a i
      have e1 : cntU Q a (i + 1) = cntU Q a i + (if onC Q a 24 (qE Q i) then 1 else 0) := rfl
      refine sg_X10_usersOf_4 E d ga _ _ _ h P ?_
      rw [sr.2.1, nI_clamp (by omega), cs.2.2 i hi]
      refine br_f (nI_ge hi (by omega)) ⟨vp_in_nI (by omega) (by decide), ?_⟩
      have inner : ∀ f n o, rkO rk Q f o → n + (if onC Q a f o then 1 else 0) = cntU Q a (i + 1) → VX10_usersOf_20 E d ga P (nI a) (nI n) (nI i) (oI o) h := by
        intro f
        induction f with
        | zero =>
          intro n o ro eo
          have oN : o = none := by
            cases o with
            | none => rfl
            | some b => have := (r b ro.1).1; have := ro.2; omega
          subst oN
          refine sg_X10_usersOf_20 E d ga _ _ _ _ h P (br_t rfl ?_)
          rw [nI_1, show n = cntU Q a (i + 1) from eo]
          exact ih
        | succ f ihf =>
          intro n o ro eo
          cases o with
          | none =>
            refine sg_X10_usersOf_20 E d ga _ _ _ _ h P (br_t rfl ?_)
            rw [nI_1, show n = cntU Q a (i + 1) from eo]
            exact ih
          | some b =>
            have hb := ro.1
            have eo : n + (if (decide (b = a) || onC Q a f (qX Q b)) then 1 else 0) = cntU Q a (i + 1) := eo
            have v : vp_in (nI b) 192 := vp_in_nI (by omega) (by decide)
            refine sg_X10_usersOf_20 E d ga _ _ _ _ h P (br_f (nI_m1 (n := b) (by omega)) ?_)
            rw [show oI (some b) = nI b from rfl, nI_clamp (n := b) (by omega), (cs.2.1 b hb).2.2]
            refine bj_if (nI_eq (by omega) (by omega)) (fun z => ⟨v, ?_⟩) (fun z => ⟨v, ?_⟩)
            · rw [show (0 : Int32) = nI 0 from rfl, nI_add, Nat.add_zero]
              refine ihf n (qX Q b) (ro.next r) ?_
              rw [← eo, decide_eq_false z]; rfl
            · rw [nI_1]
              refine ihf (n + 1) (qX Q b) (ro.next r) ?_
              have lo : onC Q a f (qX Q b) = false := onC_lo r f _ (fun c e => by
                obtain ⟨q1, q2⟩ := (r b hb).2.2.2 c e
                rw [z] at q2
                exact ⟨q1, by omega⟩)
              rw [← eo, lo, decide_eq_true z]; rfl
      exact inner 24 (cntU Q a i) (qE Q i) (wfQ_rk r wq hi) e1.symm
  exact outer 0 (Nat.zero_le _)
end USR
