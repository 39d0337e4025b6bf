/-! a whole text -/
def D0 : SD := (0, fun _ => 0, fun _ => 0, fun _ => 0, fun _ => 0, fun _ => 0, fun _ _ => 0, 0, fun _ => 0, fun _ _ => 0)
noncomputable def pOps (T : Tx) : Nat → Nat → SD → Sum Nat (Nat × SD)
  | 0, _, _ => .inl 0
  | f + 1, p, D => if tK T p = 5 then (match po T p D with
    | .inl c => .inl c
    | .inr s => pOps T f s.1 s.2) else .inr (p, D)
noncomputable def pIns (T : Tx) : Nat → Nat → SD → (Nat → Nat) → Sum Nat (SD × (Nat → Nat))
  | 0, _, _, _ => .inl 0
  | f + 1, p, D, mks => if tK T p = 7 then (match pin T p D with
    | .inl c => .inl c
    | .inr s => pIns T f s.1 s.2.1 (mkA mks (dI D) s.2.2)) else if tK T p = 0 then .inr (D, mks) else .inl (pE T p 1)
noncomputable def pAll (T : Tx) : Sum Nat (SD × (Nat → Nat)) := match pOps T 14 0 D0 with
  | .inl c => .inl c
  | .inr s => pIns T 10 s.1 s.2 (fun _ => 0)
/-- names are made of letters and digits -/
def ALD (D : SD) : Prop := ∀ i, vN D i → ∀ k, k < 8 → dM D i k = 0 ∨ isLD (dM D i k) = true
def WfK (D : SD) (mks : Nat → Nat) : Prop := ∀ i, i < dI D → mks i < 2 ^ 24 ∧ ∀ k, k < dL D i → dL D i ≤ k + 10 ∨ ∃ e, k < e ∧ e ≤ k + 10 ∧ e ≤ dL D i ∧ (mks i).testBit (e - 1) = true
section ALL
variable {E : En} {d : Nat} {T : Tx} {h : Hp} {P : Int32 → Hp → Prop} {D : SD} {p : Nat} {mks : Nat → Nat}
theorem ltr_ld (hp : p ≤ T.1) (k2 : tK T p = 2) : ∀ k, k < 8 → ltr T (tPl T p) (nx T p) k = 0 ∨ isLD (ltr T (tPl T p) (nx T p) k) = true := by
  obtain ⟨a1, a2, a3, a4, a5, a6⟩ := tok_nm hp k2
  intro k hk
  unfold ltr
  by_cases q : tPl T p + k < nx T p
  · rw [if_pos q]; exact Or.inr (a4 k (by omega)).2.2
  · rw [if_neg q]; exact Or.inl rfl
theorem pE_lim {T : Tx} {p k c : Nat} (ok : TxOK T) (hp : p ≤ T.1) (h1 : 0 < k) (h2 : k < 6) {X : Type} (e : (.inl (pE T p k) : Sum Nat X) = .inl c) : 0 < c ∧ c < 10000 := by
  injection e with e
  have := ok.1
  have := tPl_le T hp
  unfold pE at e
  omega
theorem po9_l {c : Nat} {X : SD} (ok : TxOK T) (hp : p ≤ T.1) (e : po9 T p X = .inl c) : 0 < c ∧ c < 10000 := by
  unfold po9 at e
  by_cases z : tK T p = 59
  · rw [if_pos z] at e; cases e
  · rw [if_neg z] at e; exact pE_lim ok hp (by decide) (by decide) e
theorem po8_l {c u t a k : Nat} {nm : Nat → Nat} (ok : TxOK T) (hp : p ≤ T.1) (e : po8 T p D nm u t a k = .inl c) : 0 < c ∧ c < 10000 := by
  unfold po8 at e
  by_cases z : isOp T p
  · rw [if_pos z] at e; exact po9_l ok (nx_le T hp) e
  · rw [if_neg z] at e; exact pE_lim ok hp (by decide) (by decide) e
theorem po7_l {c u t a : Nat} {nm : Nat → Nat} (ok : TxOK T) (hp : p ≤ T.1) (e : po7 T p D nm u t a = .inl c) : 0 < c ∧ c < 10000 := by
  unfold po7 at e
  by_cases z : sgi (tK T p) = 0
  · rw [if_pos z] at e; exact po9_l ok hp e
  · rw [if_neg z] at e; exact po8_l ok (nx_le T hp) e
theorem po6_l {c u t : Nat} {nm : Nat → Nat} (ok : TxOK T) (hp : p ≤ T.1) (e : po6 T p D nm u t = .inl c) : 0 < c ∧ c < 10000 := by
  unfold po6 at e
  by_cases z : isOp T p
  · rw [if_pos z] at e; exact po7_l ok (nx_le T hp) e
  · rw [if_neg z] at e; exact pE_lim ok hp (by decide) (by decide) e
theorem po_lim (ok : TxOK T) (hp : p ≤ T.1) {c : Nat} (e : po T p D = .inl c) : 0 < c ∧ c < 10000 := by
  have h1 := nx_le T hp
  have h2 := nx_le T h1
  have h3 := nx_le T h2
  have h4 := nx_le T h3
  have h5 := nx_le T h4
  have h6 := nx_le T h5
  unfold po at e
  by_cases n12 : dN D < 12
  · rw [if_pos n12] at e
    unfold po1 at e
    by_cases k2 : tK T (nx T p) = 2
    · rw [if_pos k2] at e
      by_cases us : usd T D (nx T p)
      · rw [if_pos us] at e; exact pE_lim ok h1 (by decide) (by decide) e
      · rw [if_neg us] at e
        unfold po2 at e
        by_cases z6 : tK T (nx T (nx T p)) = 6
        · rw [if_pos z6] at e
          unfold po3 at e
          by_cases z4 : tK T (nx T (nx T (nx T p))) = 4
          · rw [if_pos z4] at e
            by_cases u6 : tV T (nx T (nx T (nx T p))) < 6
            · rw [if_pos u6] at e
              unfold po4 at e
              by_cases z3 : tK T (nx T (nx T (nx T (nx T p)))) = 3
              · rw [if_pos z3] at e
                unfold po5 at e
                by_cases z61 : tK T (nx T (nx T (nx T (nx T (nx T p))))) = 61
                · rw [if_pos z61] at e; exact po6_l ok h6 e
                · rw [if_neg z61] at e; exact pE_lim ok h5 (by decide) (by decide) e
              · rw [if_neg z3] at e; exact pE_lim ok h4 (by decide) (by decide) e
            · rw [if_neg u6] at e; exact pE_lim ok h3 (by decide) (by decide) e
          · rw [if_neg z4] at e; exact pE_lim ok h3 (by decide) (by decide) e
        · rw [if_neg z6] at e; exact pE_lim ok h2 (by decide) (by decide) e
    · rw [if_neg k2] at e; exact pE_lim ok h1 (by decide) (by decide) e
  · rw [if_neg n12] at e; exact pE_lim ok hp (by decide) (by decide) e
theorem po_ld (hp : p ≤ T.1) {q : Nat} {D' : SD} (hN : D.1 < 13) (e : po T p D = .inr (q, D')) : dN D' = dN D + 1 ∧ dI D' = dI D ∧ dN D < 12 ∧ ∃ p1, p1 ≤ T.1 ∧ tK T p1 = 2 ∧ ∀ m, dM D' m = if m = dN D then ltr T (tPl T p1) (nx T p1) else dM D m := by
  have h1 := nx_le T hp
  unfold po po1 po2 po3 po4 po5 po6 po7 po8 po9 at e
  by_cases n12 : dN D < 12
  · rw [if_pos n12] at e
    by_cases k2 : tK T (nx T p) = 2
    · rw [if_pos k2] at e
      repeat' split at e
      all_goals first
        | (injection e with e; injection e with e1 e2; subst e2; exact ⟨rfl, rfl, n12, nx T p, h1, k2, fun m => rfl⟩)
        | cases e
    · rw [if_neg k2] at e; cases e
  · rw [if_neg n12] at e; cases e
theorem po9_i {q : Nat} {X D' : SD} (hp : p ≤ T.1) (e : po9 T p X = .inr (q, D')) : D' = X ∧ q ≤ T.1 := by
  unfold po9 at e
  by_cases z : tK T p = 59
  · rw [if_pos z] at e
    injection e with e
    injection e with e1 e2
    exact ⟨e2.symm, by rw [← e1]; exact nx_le T hp⟩
  · rw [if_neg z] at e; cases e
theorem po8_i {q u t a k : Nat} {nm : Nat → Nat} {D' : SD} (hp : p ≤ T.1) (e : po8 T p D nm u t a k = .inr (q, D')) : ∃ b, b < 10008 ∧ D' = addO D nm u t k a b ∧ q ≤ T.1 := by
  unfold po8 at e
  by_cases z : isOp T p
  · rw [if_pos z] at e
    obtain ⟨e1, e2⟩ := po9_i (nx_le T hp) e
    exact ⟨_, opn_lt hp z, e1, e2⟩
  · rw [if_neg z] at e; cases e
theorem po7_i {q u t a : Nat} {nm : Nat → Nat} {D' : SD} (hp : p ≤ T.1) (e : po7 T p D nm u t a = .inr (q, D')) : ∃ k b, k < 7 ∧ b < 10008 ∧ D' = addO D nm u t k a b ∧ q ≤ T.1 := by
  unfold po7 at e
  by_cases z : sgi (tK T p) = 0
  · rw [if_pos z] at e
    obtain ⟨e1, e2⟩ := po9_i hp e
    exact ⟨0, 0, by decide, by decide, e1, e2⟩
  · rw [if_neg z] at e
    obtain ⟨b, b1, b2, b3⟩ := po8_i (nx_le T hp) e
    exact ⟨_, b, by have := sgi_le (tK T p); omega, b1, b2, b3⟩
theorem po6_i {q u t : Nat} {nm : Nat → Nat} {D' : SD} (hp : p ≤ T.1) (e : po6 T p D nm u t = .inr (q, D')) : ∃ a k b, a < 10008 ∧ k < 7 ∧ b < 10008 ∧ D' = addO D nm u t k a b ∧ q ≤ T.1 := by
  unfold po6 at e
  by_cases z : isOp T p
  · rw [if_pos z] at e
    obtain ⟨k, b, b1, b2, b3, b4⟩ := po7_i (nx_le T hp) e
    exact ⟨_, k, b, opn_lt hp z, b1, b2, b3, b4⟩
  · rw [if_neg z] at e; cases e
theorem po_wf (w : Wf D) (hp : p ≤ T.1) {q : Nat} {D' : SD} (e : po T p D = .inr (q, D')) : Wf D' ∧ q ≤ T.1 := by
  have h1 := nx_le T hp
  have h2 := nx_le T h1
  have h3 := nx_le T h2
  have h4 := nx_le T h3
  have h5 := nx_le T h4
  have h6 := nx_le T h5
  unfold po at e
  by_cases n12 : dN D < 12
  · rw [if_pos n12] at e
    unfold po1 at e
    by_cases k2 : tK T (nx T p) = 2
    · rw [if_pos k2] at e
      by_cases us : usd T D (nx T p)
      · rw [if_pos us] at e; cases e
      · rw [if_neg us] at e
        unfold po2 at e
        by_cases z6 : tK T (nx T (nx T p)) = 6
        · rw [if_pos z6] at e
          unfold po3 at e
          by_cases z4 : tK T (nx T (nx T (nx T p))) = 4
          · rw [if_pos z4] at e
            by_cases u6 : tV T (nx T (nx T (nx T p))) < 6
            · rw [if_pos u6] at e
              unfold po4 at e
              by_cases z3 : tK T (nx T (nx T (nx T (nx T p)))) = 3
              · rw [if_pos z3] at e
                unfold po5 at e
                by_cases z61 : tK T (nx T (nx T (nx T (nx T (nx T p))))) = 61
                · rw [if_pos z61] at e
                  obtain ⟨a, k, b, b1, b2, b3, b4, b5⟩ := po6_i h6 e
                  rw [b4]
                  exact ⟨addO_wf w n12 (tok_nm h1 k2).2.2.2.2.1 u6 (tok_reg h4 z3) b2 b1 b3, b5⟩
                · rw [if_neg z61] at e; cases e
              · rw [if_neg z3] at e; cases e
            · rw [if_neg u6] at e; cases e
          · rw [if_neg z4] at e; cases e
        · rw [if_neg z6] at e; cases e
    · rw [if_neg k2] at e; cases e
  · rw [if_neg n12] at e; cases e
theorem pin_wf (w : Wf D) (hp : p ≤ T.1) {q mk : Nat} {D' : SD} (e : pin T p D = .inr (q, D', mk)) : Wf D' ∧ q ≤ T.1 := by
  have h1 := nx_le T hp
  have h2 := nx_le T h1
  have h3 := nx_le T h2
  unfold pin pi1 pi2 at e
  by_cases n8 : dI D < 8
  · rw [if_pos n8] at e
    by_cases k2 : tK T (nx T p) = 2
    · rw [if_pos k2] at e
      by_cases us : usd T D (nx T p)
      · rw [if_pos us] at e; cases e
      · rw [if_neg us] at e
        by_cases z : tK T (nx T (nx T p)) = 58
        · rw [if_pos z] at e
          cases eS : sq T D 25 (nx T (nx T (nx T p))) 0 0 0 (fun _ => 0) with
          | inl c' => rw [eS] at e; cases e
          | inr s =>
            rw [eS] at e
            have so := sq_ok 25 _ 0 0 0 _ s h3 rfl (by decide) ⟨Nat.le_refl _, by decide, fun k _ => Nat.zero_testBit k, fun k hk => by omega⟩ (fun k hk => absurd hk (Nat.not_lt_zero k)) eS
            have e : (if tK T s.1 = 59 then .inr (nx T s.1, addI D (ltr T (tPl T (nx T p)) (nx T (nx T p))) s.2.1 s.2.2.2, s.2.2.1) else .inl (pE T s.1 1) : Sum Nat (Nat × SD × Nat)) = .inr (q, D', mk) := e
            by_cases y : tK T s.1 = 59
            · rw [if_pos y] at e
              injection e with e
              injection e with e1 e2
              injection e2 with e2 e3
              rw [← e2, ← e1]
              exact ⟨addI_wf w n8 (tok_nm h1 k2).2.2.2.2.1 so, nx_le T so.1⟩
            · rw [if_neg y] at e; cases e
        · rw [if_neg z] at e; cases e
    · rw [if_neg k2] at e; cases e
  · rw [if_neg n8] at e; cases e
theorem sq_lim (ok : TxOK T) : ∀ (f q n here mk : Nat) (r : Nat → Nat) (c : Nat), q ≤ T.1 → f + n = 25 → n ≤ 24 → sq T D f q n here mk r = .inl c → 0 < c ∧ c < 10000 := by
  have nle := ok.1
  intro f
  induction f with
  | zero => intro q n here mk r c _ h2 h3; omega
  | succ f ih =>
    intro q n here mk r c hq hf hn e
    have h1 := nx_le T hq
    have h2 := nx_le T h1
    have b0 := tPl_le T hq
    have e : (if tK T q = 2 then (@ite _ (hasO T D q) (Classical.propDecidable _) (if n = 24 ∨ here = 10 then .inl (pE T q 5) else if tK T (nx T q) = 33 then sq T D f (nx T (nx T q)) (n + 1) 0 (mk ||| 2 ^ n) (fun k => if k = n then oix T D q else r k) else if tK T (nx T q) = 44 then sq T D f (nx T (nx T q)) (n + 1) (here + 1) mk (fun k => if k = n then oix T D q else r k) else .inr (nx T q, n + 1, mk, fun k => if k = n then oix T D q else r k)) (.inl (pE T q 4))) else .inl (pE T q 1)) = .inl c := e
    unfold pE at e
    repeat' split at e
    all_goals first
      | (injection e with e; omega)
      | exact ih _ _ _ _ _ c h2 (by omega) (by omega) e
      | cases e
theorem pin_lim (ok : TxOK T) (hp : p ≤ T.1) {c : Nat} (e : pin T p D = .inl c) : 0 < c ∧ c < 10000 := by
  have nle := ok.1
  have h1 := nx_le T hp
  have h2 := nx_le T h1
  have h3 := nx_le T h2
  have b0 := tPl_le T hp
  have b1 := tPl_le T h1
  have b2 := tPl_le T h2
  unfold pin pi1 pi2 at e
  by_cases n8 : dI D < 8
  · rw [if_pos n8] at e
    by_cases k2 : tK T (nx T p) = 2
    · rw [if_pos k2] at e
      by_cases us : usd T D (nx T p)
      · rw [if_pos us] at e
        injection e with e
        unfold pE at e; omega
      · rw [if_neg us] at e
        by_cases z : tK T (nx T (nx T p)) = 58
        · rw [if_pos z] at e
          cases eS : sq T D 25 (nx T (nx T (nx T p))) 0 0 0 (fun _ => 0) with
          | inl c' =>
            rw [eS] at e
            injection e with e
            rw [← e]
            exact sq_lim ok 25 _ 0 0 0 _ c' h3 rfl (by decide) eS
          | inr s =>
            rw [eS] at e
            have so := sq_ok 25 _ 0 0 0 _ s h3 rfl (by decide) ⟨Nat.le_refl _, by decide, fun k _ => Nat.zero_testBit k, fun k hk => by omega⟩ (fun k hk => absurd hk (Nat.not_lt_zero k)) eS
            have bs := tPl_le T so.1
            have e : (if tK T s.1 = 59 then .inr (nx T s.1, addI D (ltr T (tPl T (nx T p)) (nx T (nx T p))) s.2.1 s.2.2.2, s.2.2.1) else .inl (pE T s.1 1) : Sum Nat (Nat × SD × Nat)) = .inl c := e
            by_cases y : tK T s.1 = 59
            · rw [if_pos y] at e; cases e
            · rw [if_neg y] at e
              injection e with e
              unfold pE at e; omega
        · rw [if_neg z] at e
          injection e with e
          unfold pE at e; omega
    · rw [if_neg k2] at e
      injection e with e
      unfold pE at e; omega
  · rw [if_neg n8] at e
    injection e with e
    unfold pE at e; omega
theorem pin_ld (hp : p ≤ T.1) {q mk : Nat} {D' : SD} (e : pin T p D = .inr (q, D', mk)) : dN D' = dN D ∧ dI D' = dI D + 1 ∧ ∃ p1, p1 ≤ T.1 ∧ tK T p1 = 2 ∧ ∀ m, dM D' m = if m = 12 + dI D then ltr T (tPl T p1) (nx T p1) else dM D m := by
  have h1 := nx_le T hp
  unfold pin pi1 pi2 at e
  by_cases n8 : dI D < 8
  · rw [if_pos n8] at e
    by_cases k2 : tK T (nx T p) = 2
    · rw [if_pos k2] at e
      by_cases us : usd T D (nx T p)
      · rw [if_pos us] at e; cases e
      · rw [if_neg us] at e
        by_cases z : tK T (nx T (nx T p)) = 58
        · rw [if_pos z] at e
          cases eS : sq T D 25 (nx T (nx T (nx T p))) 0 0 0 (fun _ => 0) with
          | inl c' => rw [eS] at e; cases e
          | inr s =>
            rw [eS] at e
            have e : (if tK T s.1 = 59 then .inr (nx T s.1, addI D (ltr T (tPl T (nx T p)) (nx T (nx T p))) s.2.1 s.2.2.2, s.2.2.1) else .inl (pE T s.1 1) : Sum Nat (Nat × SD × Nat)) = .inr (q, D', mk) := e
            by_cases y : tK T s.1 = 59
            · rw [if_pos y] at e
              injection e with e
              injection e with e1 e2
              injection e2 with e2 e3
              subst e2
              exact ⟨rfl, rfl, nx T p, h1, k2, fun m => rfl⟩
            · rw [if_neg y] at e; cases e
        · rw [if_neg z] at e; cases e
    · rw [if_neg k2] at e; cases e
  · rw [if_neg n8] at e; cases e
theorem ALD.po (a : ALD D) (hp : p ≤ T.1) {q : Nat} {D' : SD} (hN : D.1 < 13) (e : po T p D = .inr (q, D')) : ALD D' := by
  obtain ⟨e1, e2, e3, p1, h1, k2, em⟩ := po_ld hp hN e
  intro i vi k hk
  rw [em i]
  by_cases z : i = dN D
  · rw [if_pos z]; exact ltr_ld h1 k2 k hk
  · rw [if_neg z]
    refine a i ?_ k hk
    unfold vN at vi ⊢
    omega
theorem ALD.pin (a : ALD D) (hp : p ≤ T.1) {q mk : Nat} {D' : SD} (e : pin T p D = .inr (q, D', mk)) : ALD D' := by
  obtain ⟨e1, e2, p1, h1, k2, em⟩ := pin_ld hp e
  intro i vi k hk
  rw [em i]
  by_cases z : i = 12 + dI D
  · rw [if_pos z]; exact ltr_ld h1 k2 k hk
  · rw [if_neg z]
    refine a i ?_ k hk
    unfold vN at vi ⊢
    omega
theorem WfK.pin {D' : SD} {mk : Nat} (a : WfK D mks) (eI : dI D' = dI D + 1) (m24 : mk < 2 ^ 24) (sg : ∀ k, k < dL D' (dI D) → dL D' (dI D) ≤ k + 10 ∨ ∃ e, k < e ∧ e ≤ k + 10 ∧ e ≤ dL D' (dI D) ∧ mk.testBit (e - 1) = true) (el : ∀ i, i < dI D → dL D' i = dL D i) : WfK D' (mkA mks (dI D) mk) := by
  intro i hi
  by_cases q : i = dI D
  · subst q
    rw [mkA_at]
    exact ⟨m24, sg⟩
  · rw [mkA_ne mks q, el i (by omega)]
    exact a i (by omega)
theorem c_read (ok : TxOK T) (cb : CBuf T h) (t0 : ∀ c h', pAll T = .inl c → 0 < c → c < 10000 → Fr fPc h h' → P (nI c) h') (t1 : ∀ D mks h', pAll T = .inr (D, mks) → Fr fPc h h' → Wf D → WfK D mks → ALD D → PSrc D h' → PMk D mks h' → P 0 h') : SpI E (d + 7) MX2_read [.ref (eA E 1), .ref (eA E 17)] h P := by
  refine wp_X2_read E (d + 6) h P (fun ga => ?_)
  have f0 : Fr fPc h (sI (sI (sI (sI h 1 2 (0 : Int32)) 1 7 (0 : Int32)) 17 0 (0 : Int32)) 17 8 (0 : Int32)) := (((((Fr.refl h).si rfl).si rfl).si rfl).si rfl)
  have x7 : (sI (sI (sI (sI h 1 2 (0 : Int32)) 1 7 (0 : Int32)) 17 0 (0 : Int32)) 17 8 (0 : Int32)).1 1 7 = 0 := by rw [sI_n _ _ _ _ (by decide), sI_n _ _ _ _ (by decide), sI_at]
  have x2 : (sI (sI (sI (sI h 1 2 (0 : Int32)) 1 7 (0 : Int32)) 17 0 (0 : Int32)) 17 8 (0 : Int32)).1 1 2 = nI 0 := by rw [sI_n _ _ _ _ (by decide), sI_n _ _ _ _ (by decide), sI_j (by decide), sI_at]; rfl
  have ps0 : PSrc D0 (sI (sI (sI (sI h 1 2 (0 : Int32)) 1 7 (0 : Int32)) 17 0 (0 : Int32)) 17 8 (0 : Int32)) := ⟨by rw [sI_j (by decide), sI_at]; rfl, sI_at _ _ _ _, fun m hm => absurd hm (Nat.not_lt_zero m), fun i hi => absurd hi (Nat.not_lt_zero i)⟩
  refine c_adv ok (cb.fr f0 rfl (fun _ => rfl)) (Nat.zero_le _) x2 (fun h1 f1 tk1 => ?_)
  have done : ∀ c h' (x3 : Int32), pAll T = .inl c → 0 < c → c < 10000 → Fr fPc h h' → h'.1 1 7 = nI c → VX2_read_60 E (d + 6) ga P (0 : Int32) x3 h' := by
    intro c h' x3 e l1 l2 f e7
    refine sg_X2_read_60 E (d + 6) ga _ _ h' P ?_
    rw [e7]
    refine Classical.byCases (fun z : (8 : Int32) < x3 => br_t z (br_t rfl (t0 c h' e l1 l2 f))) (fun z => br_f z (br_t rfl (br_t rfl (t0 c h' e l1 l2 f))))
  have ins : ∀ (f q : Nat) (D : SD) (mks : Nat → Nat) (h2 : Hp), f + dI D = 10 → q ≤ T.1 → pAll T = pIns T f q D mks → Wf D → WfK D mks → ALD D → Fr fPc h h2 → h2.1 1 7 = 0 → PSrc D h2 → PMk D mks h2 → CTk T q h2 → VX2_read_60 E (d + 6) ga P (1 : Int32) (nI (dI D)) h2 := by
    intro f
    induction f with
    | zero => intro q D mks h2 hf _ _ w; have := w.2.2.1; omega
    | succ f ih =>
      intro q D mks h2 hf hq eA w wk ld fr e7 ps pm tk
      have eA : pAll T = (if tK T q = 7 then (match pin T q D with
        | .inl c => .inl c
        | .inr s => pIns T f s.1 s.2.1 (mkA mks (dI D) s.2.2)) else if tK T q = 0 then .inr (D, mks) else .inl (pE T q 1)) := eA
      have hI := w.2.2.1
      have k128 := (tok_all hq).2.2.2.2.2.2
      refine sg_X2_read_60 E (d + 6) ga _ _ h2 P (br_f (fun z => by have := (nI_ltI (a := 8) (by decide) (by omega)).mp z; omega) (br_f (by decide) ?_))
      rw [tk.2.2.1, e7]
      refine bj_if (nI_eq (b := 7) (by omega) (by decide)) (fun z7 => br_f (by decide) ?_) (fun z7 => ?_)
      · rw [if_neg z7] at eA
        refine ek_if (nI_z (by omega)) (fun z0 => ?_) (fun z0 => c_fail (k := 1) tk (fun h' e => ?_))
        · rw [if_pos z0] at eA
          exact t1 D mks h2 eA fr w wk ld ps pm
        · rw [if_neg z0] at eA
          rw [e.2]
          have bq := tPl_le T hq
          have nle := ok.1
          refine t0 _ h' eA (by unfold pE; omega) (by unfold pE; omega) (fr.trans (e.1.mono (fun c j z => ?_)))
          unfold fPc at z
          simp only [Bool.or_eq_false_iff, Bool.and_eq_false_iff, decide_eq_false_iff_not, beq_eq_false_iff_ne] at z ⊢
          omega
      · rw [if_pos z7] at eA
        refine c_pin w ok (cb.fr fr rfl (fun _ => rfl)) hq tk ps pm (fun c h' e f' e7' => ?_) (fun q' D' mk h' e f' e7' w' eI m24 sg el ps' pm' hq' tk' => ?_)
        · rw [e] at eA
          obtain ⟨l1, l2⟩ := pin_lim ok hq e
          exact done c h' _ eA l1 l2 (fr.trans f') e7'
        · rw [e] at eA
          rw [nI_1, ← eI]
          exact ih q' D' _ h' (by omega) hq' eA w' (wk.pin eI m24 sg el) (ld.pin hq e) (fr.trans f') (by rw [e7']; exact e7) ps' pm' tk'
  have ops : ∀ (f q : Nat) (D : SD) (h2 : Hp), f + dN D = 14 → q ≤ T.1 → (∀ q' D', pOps T f q D = .inr (q', D') → pAll T = pIns T 10 q' D' (fun _ => 0)) → (∀ c, pOps T f q D = .inl c → pAll T = .inl c) → Wf D → dI D = 0 → ALD D → Fr fPc h h2 → h2.1 1 7 = 0 → PSrc D h2 → CTk T q h2 → VX2_read_28 E (d + 6) ga P (1 : Int32) (nI (dN D)) h2 := by
    intro f
    induction f with
    | zero => intro q D h2 hf _ _ _ w; have := w.1; omega
    | succ f ih =>
      intro q D h2 hf hq eO eE w dI0 ld fr e7 ps tk
      have hN := w.1
      have k128 := (tok_all hq).2.2.2.2.2.2
      have eP : pOps T (f + 1) q D = (if tK T q = 5 then (match po T q D with
        | .inl c => .inl c
        | .inr s => pOps T f s.1 s.2) else .inr (q, D)) := rfl
      refine sg_X2_read_28 E (d + 6) ga _ _ h2 P (br_f (fun z => by have := (nI_ltI (a := 12) (by decide) (by omega)).mp z; omega) (br_f (by decide) ?_))
      rw [tk.2.2.1]
      refine bj_if (nI_eq (b := 5) (by omega) (by decide)) (fun z5 => ?_) (fun z5 => ?_)
      · rw [if_neg z5] at eP
        have := ins 10 q D (fun _ => 0) h2 (by omega) hq (eO q D eP) w (fun i hi => by omega) ld fr e7 ps (fun i hi => by omega) tk
        rw [dI0] at this
        exact this
      · rw [if_pos z5] at eP
        refine c_po w ok (cb.fr fr rfl (fun _ => rfl)) hq tk ps (fun c h' e f' e7' => ?_) (fun q' D' h' e f' e7' w' eI ps' hq' tk' => ?_)
        · rw [e] at eP
          obtain ⟨l1, l2⟩ := po_lim ok hq e
          have dn := done c h' (0 : Int32) (eE c eP) l1 l2 (fr.trans f') e7'
          refine sg_X2_read_28 E (d + 6) ga _ _ h' P ?_
          rw [nI_1]
          exact ek_if (nI_ltI (a := 12) (by decide) (by omega)) (fun _ => dn) (fun _ => br_t rfl dn)
        · rw [e] at eP
          obtain ⟨l1, l2, l3, _⟩ := po_ld hq (show D.1 < 13 from Nat.lt_succ_of_le hN) e
          rw [nI_1, ← l1]
          exact ih q' D' h' (by omega) hq' (fun q2 D2 e2 => eO q2 D2 (eP.trans e2)) (fun c e2 => eE c (eP.trans e2)) w' (by omega) (ld.po hq (show D.1 < 13 from Nat.lt_succ_of_le hN) e) (fr.trans f') (by rw [e7']; exact e7) ps' tk'
  have ps1 : PSrc D0 h1 := ps0.fr f1 rfl rfl (fun c m _ _ hm => absurd hm (Nat.not_lt_zero m)) (fun c i _ _ hi => absurd hi (Nat.not_lt_zero i)) (fun i k hi => absurd hi (Nat.not_lt_zero i))
  refine ops 14 0 D0 h1 rfl (Nat.zero_le _) (fun q' D' e => ?_) (fun c e => ?_) ?_ rfl (fun i vi => ?_) (f0.trans (f1.mono tk_pc)) (by rw [f1.i 1 7 rfl]; exact x7) ps1 tk1
  · unfold pAll; rw [e]
  · unfold pAll; rw [e]
  · exact ⟨by decide, fun m hm => absurd hm (Nat.not_lt_zero m), by decide, fun i hi => absurd hi (Nat.not_lt_zero i), fun m hm => absurd hm (Nat.not_lt_zero m), fun i hi => absurd hi (Nat.not_lt_zero i)⟩
  · have vi : i < 0 ∨ (12 ≤ i ∧ i < 12 + 0) := vi
    omega
theorem r_all (ok : TxOK T) (rb : RBuf T h) (t0 : ∀ c h', pAll T = .inl c → Fr fPr h h' → ErrV c h' → P 0 h') (t1 : ∀ D mks h', pAll T = .inr (D, mks) → Fr fPr h h' → RSrc D h' → RMk D mks h' → P 1 h') : SpI E (d + 9) MX10_takesAll [.ref (eA E 63)] h P := by
  refine wp_X10_takesAll E (d + 8) h P (fun ga => ?_)
  have f0 : Fr fPr h (sI (sI (sI h 63 45 (0 : Int32)) 63 1 (0 : Int32)) 63 2 (0 : Int32)) := ((((Fr.refl h).si rfl).si rfl).si rfl)
  have sr0 : RSrc D0 (sI (sI (sI h 63 45 (0 : Int32)) 63 1 (0 : Int32)) 63 2 (0 : Int32)) := ⟨by rw [sI_j (by decide), sI_at]; rfl, sI_at _ _ _ _, fun m hm => absurd hm (Nat.not_lt_zero m), fun m hm => absurd hm (Nat.not_lt_zero m), fun i hi => absurd hi (Nat.not_lt_zero i), fun i hi => absurd hi (Nat.not_lt_zero i)⟩
  refine r_step ok (rb.fr f0 rfl (fun _ => rfl)) (Nat.zero_le _) (by rw [sI_j (by decide), sI_j (by decide), sI_at]; rfl) (fun h1 f1 tk1 => ?_)
  have trpr : ∀ c j, fPr c j = false → fTr c j = false := fun c j e => tr_or (N := 0) c j (or_pr c j e)
  have ins : ∀ (f q : Nat) (D : SD) (mks : Nat → Nat) (h2 : Hp), f + dI D = 10 → q ≤ T.1 → pAll T = pIns T f q D mks → Wf D → Fr fPr h h2 → RSrc D h2 → RMk D mks h2 → RTk T q h2 → VX10_takesAll_38 E (d + 8) ga P h2 := by
    intro f
    induction f with
    | zero => intro q D mks h2 hf _ _ w; have := w.2.2.1; omega
    | succ f ih =>
      intro q D mks h2 hf hq eA w fr sr rm tk
      have eA : pAll T = (if tK T q = 7 then (match pin T q D with
        | .inl c => .inl c
        | .inr s => pIns T f s.1 s.2.1 (mkA mks (dI D) s.2.2)) else if tK T q = 0 then .inr (D, mks) else .inl (pE T q 1)) := eA
      have rb2 := rb.fr fr rfl (fun _ => rfl)
      obtain ⟨r0, _, _, _, _, rk, _⟩ := tok_all hq
      refine sg_X10_takesAll_38 E (d + 8) ga h2 P (r_isGw ok hq rb2 tk (Or.inr (Or.inr rfl)) (ek_if (b2i_0 _) (fun z => ?_) (fun z => ?_)))
      · rw [if_neg (of_decide_eq_false z)] at eA
        rw [tk.2.2.1]
        refine ek_if (nI_z (by omega)) (fun z0 => ?_) (fun z0 => r_bad (k := 1) tk (fun h' e => br_t rfl ?_))
        · rw [if_pos (r0.mp z0)] at eA
          exact t1 D mks h2 eA fr sr rm
        · rw [if_neg (fun y => z0 (r0.mpr y))] at eA
          refine t0 _ h' eA (fr.trans (e.1.mono (fun c j z => ?_))) e.2
          unfold fPr at z
          simp only [Bool.or_eq_false_iff, Bool.and_eq_false_iff, decide_eq_false_iff_not, beq_eq_false_iff_ne] at z ⊢
          omega
      · rw [if_pos (of_decide_eq_true (ts_nf' z))] at eA
        refine r_pin w ok rb2 hq tk sr rm (fun c h' e f' ev => bq_t rfl ?_) (fun q' D' mk h' e f' sr' rm' tk' => bq_f (by decide) ?_)
        · rw [e] at eA
          exact t0 c h' eA (fr.trans f') ev
        · rw [e] at eA
          obtain ⟨w', hq'⟩ := pin_wf w hq e
          obtain ⟨_, eI, _⟩ := pin_ld hq e
          exact ih q' D' _ h' (by omega) hq' eA w' (fr.trans f') sr' rm' tk'
  have ops : ∀ (f q : Nat) (D : SD) (h2 : Hp), f + dN D = 14 → q ≤ T.1 → (∀ q' D', pOps T f q D = .inr (q', D') → pAll T = pIns T 10 q' D' (fun _ => 0)) → (∀ c, pOps T f q D = .inl c → pAll T = .inl c) → Wf D → dI D = 0 → Fr fPr h h2 → RSrc D h2 → RTk T q h2 → VX10_takesAll_19 E (d + 8) ga P h2 := by
    intro f
    induction f with
    | zero => intro q D h2 hf _ _ _ w; have := w.1; omega
    | succ f ih =>
      intro q D h2 hf hq eO eE w dI0 fr sr tk
      have hN := w.1
      have rb2 := rb.fr fr rfl (fun _ => rfl)
      have eP : pOps T (f + 1) q D = (if tK T q = 5 then (match po T q D with
        | .inl c => .inl c
        | .inr s => pOps T f s.1 s.2) else .inr (q, D)) := rfl
      refine sg_X10_takesAll_19 E (d + 8) ga h2 P (r_isGw ok hq rb2 tk (Or.inl rfl) (ek_if (b2i_0 _) (fun z => ?_) (fun z => ?_)))
      · rw [if_neg (of_decide_eq_false z)] at eP
        exact ins 10 q D (fun _ => 0) h2 (by omega) hq (eO q D eP) w fr sr (fun i hi => by omega) tk
      · rw [if_pos (of_decide_eq_true (ts_nf' z))] at eP
        refine r_po w ok rb2 hq tk sr (fun c h' e f' ev => bq_t rfl ?_) (fun q' D' h' e f' sr' tk' => bq_f (by decide) ?_)
        · rw [e] at eP
          exact t0 c h' (eE c eP) (fr.trans f') ev
        · rw [e] at eP
          obtain ⟨w', hq'⟩ := po_wf w hq e
          obtain ⟨l1, l2, l3, _⟩ := po_ld hq (show D.1 < 13 from Nat.lt_succ_of_le hN) e
          exact ih q' D' h' (by omega) hq' (fun q2 D2 e2 => eO q2 D2 (eP.trans e2)) (fun c e2 => eE c (eP.trans e2)) w' (by omega) (fr.trans f') sr' tk'
  have sr1 : RSrc D0 h1 := sr0.fr2 f1 rfl rfl (fun m x hm => absurd hm (Nat.not_lt_zero m)) (fun m k hm => absurd hm (Nat.not_lt_zero m)) (fun i k hi => absurd hi (Nat.not_lt_zero i)) (fun i hi => absurd hi (Nat.not_lt_zero i)) (fun i k hi => absurd hi (Nat.not_lt_zero i))
  refine ops 14 0 D0 h1 rfl (Nat.zero_le _) (fun q' D' e => ?_) (fun c e => ?_) ?_ rfl (f0.trans (f1.mono trpr)) sr1 tk1
  · unfold pAll; rw [e]
  · unfold pAll; rw [e]
  · exact ⟨by decide, fun m hm => absurd hm (Nat.not_lt_zero m), by decide, fun i hi => absurd hi (Nat.not_lt_zero i), fun m hm => absurd hm (Nat.not_lt_zero m), fun i hi => absurd hi (Nat.not_lt_zero i)⟩
end ALL
