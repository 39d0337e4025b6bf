/-! a segment packed, in the class -/
noncomputable def pkM (md : Nat) (g : SG) : List Nat := if md = 0 then oneP (gS g) else if md = 1 then lsP g (gS g) 0 else pkB g
/-- the notes of earlier searches -/
def TF0 (sr : Nat) (h : Hp) : Prop := h.1 32 10 = nI sr ∧ ∀ x, x < 1024 → ∃ a b, a ≤ sr ∧ b < 16 ∧ h.1 39 x = nI (16 * a + b)
theorem TF0.fr {sr : Nat} {h h' : Hp} {X : Nat → Nat → Bool} (a : TF0 sr h) (f : Fr X h h') (a0 : X 32 10 = false) (a1 : ∀ j, X 39 j = false) : TF0 sr h' := by
  unfold TF0
  rw [f.i 32 10 a0, f.f 39 a1]
  exact a
section PKC
variable {E : En} {d : Nat} {D : SD} {S : ST} {g : SG} {H : Nat → Nat} {sr : Nat} {h : Hp} {PV : Hp → Prop} {i b e md : Nat}
def fFw (c j : Nat) : Bool := c == 33 || c == 39 || (c == 32 && (j == 1 || j == 10 || j == 11))
theorem c_few (w : WfG g) (hg : HgOK g H) (sg : SegC g h) (hh : ∀ p, p < gS g → h.1 37 p = nI (H p)) (h0 : h.1 32 1 = 0) (tf : TF0 sr h) (hsr : sr + 1 < 2 ^ 26) (t : ∀ h', Fr fFw h h' → PkdC (pkB g) h' → TF0 (sr + 1) h' → BestP g (pkB g) → PV h') : SpV E (d + 134) MX4_packFewest [.ref (eA E 32)] h PV := by
  have w' := w
  obtain ⟨w1, w2, w3⟩ := w
  refine wp_X4_packFewest E (d + 133) h PV (fun ga => ?_)
  rw [tf.1, nI_1]
  have f0 : Fr fFw h (sI h 32 10 (nI (sr + 1))) := (Fr.refl h).si rfl
  have loop : ∀ k n, n + k = gS g + 1 → 1 ≤ n → (∀ m, m < n → ¬ Pk g m 0) → ∀ h1, Fr fFw h h1 → h1.1 32 1 = 0 → h1.1 32 10 = nI (sr + 1) → TF g (sr + 1) h1 → VX4_packFewest_12 E (d + 133) ga PV (nI n) h1 := by
    intro k
    induction k with
    | zero =>
      intro n hn _ no
      exact absurd (Pk_all w' (gS g) 0 (Nat.two_pow_pos _) (lft_le g 0)) (no _ (by omega))
    | succ k ih =>
      intro n hn hn1 no h1 f1 c0 s10 tf1
      have sg1 : SegC g h1 := sg.fr f1 rfl (fun _ => rfl) (fun _ => rfl) (fun _ => rfl) (fun _ => rfl)
      refine sg_X4_packFewest_12 E (d + 133) ga _ h1 PV ?_
      rw [sg1.1]
      refine br_f (nI_nlt (by omega) (by omega)) (bq_t c0 ?_)
      have hl := lft_le g 0
      have pk : PkC g H (sr + 1) n (sI h1 32 11 (nI n)) := by
        refine ⟨sg1.fr ((Fr.refl h1).si (S := fun c j => c == 32 && j == 11) rfl) rfl (fun _ => rfl) (fun _ => rfl) (fun _ => rfl) (fun _ => rfl), fun p hp => ?_, ?_, sI_at _ _ _ _⟩
        · rw [sI_n _ _ _ _ (by decide), f1.f 37 (fun _ => rfl)]; exact hh p hp
        · rw [sI_j (by decide)]; exact s10
      have tf2 : TF g (sr + 1) (sI h1 32 11 (nI n)) := fun x hx => by rw [sI_n _ _ _ _ (by decide)]; exact tf1 x hx
      have f2 : Fr fFw h (sI h1 32 11 (nI n)) := f1.si rfl
      refine (search_ok (sr := sr + 1) (wn := n) w' hg hsr (by omega) (lft g 0 * 12 + 11)).1 (d + 133) 0 0 rfl (by omega) _ _ pk tf2 (Cl.zero g) (Nat.zero_le _) (fun h3 f3 tf3 _ no3 => ?_) (fun h3 l f3 tf3 _ bs lst => ?_)
      · have f3' : Fr fFw h h3 := f2.trans (f3.mono (fun c j e => by
          unfold fFw at e
          unfold fSe
          simp only [Bool.or_eq_false_iff] at e ⊢
          exact e.1))
        rw [nI_1]
        refine br_t rfl (ih (n + 1) (by omega) (by omega) (fun m hm => ?_) h3 f3' ?_ ?_ tf3)
        · rcases Nat.lt_or_ge m n with q | q
          · exact no m q
          · obtain rfl : m = n := by omega
            exact no3
        · rw [f3.i 32 1 rfl, sI_j (by decide)]; exact c0
        · rw [f3.i 32 10 rfl, sI_j (by decide)]; exact s10
      · have f3' : Fr fFw h h3 := f2.trans (f3.mono (fun c j e => by
          unfold fFw at e
          unfold fSe
          simp only [Bool.or_eq_false_iff] at e ⊢
          exact e.1))
        have bs : Bs g n 0 l := bs
        have ll : l.length = n := by
          have h1 := Bs.len _ _ _ bs
          have h2 := Bs.pk _ _ _ bs
          rcases Nat.lt_or_ge l.length n with q | q
          · exact absurd h2 (no _ q)
          · omega
        have bp : BestP g l := ⟨n, by rw [← ll]; exact Bs.pk _ _ _ bs, no, bs⟩
        have eb := pkB_is bp
        have e10 : h3.1 32 10 = nI (sr + 1) := by rw [f3.i 32 10 rfl, sI_j (by decide)]; exact s10
        have fin : PV (sI h3 32 1 (nI n)) := by
          refine t _ (f3'.si rfl) ?_ ?_ (by rw [eb]; exact bp)
          · rw [eb]
            refine ⟨by rw [sI_at, ll], fun k hk => ?_⟩
            rw [sI_n _ _ _ _ (by decide)]
            have := lst k hk
            rw [Nat.zero_add] at this
            exact this
          · refine ⟨by rw [sI_j (by decide)]; exact e10, fun x hx => ?_⟩
            rw [sI_n _ _ _ _ (by decide)]
            obtain ⟨a, b, c1, c2, c3, _⟩ := tf3 x hx
            exact ⟨a, b, c1, c2, c3⟩
        refine br_f (by decide) ?_
        refine sg_X4_packFewest_12 E (d + 133) ga _ _ PV ?_
        rw [nI_1, sI_at]
        exact br_c (fun _ => fin) (fun _ => bq_f (nI_ne0 (by omega) (by omega)) fin)
  refine loop (gS g) 1 (by omega) (Nat.le_refl _) (fun m hm => ?_) _ f0 ?_ (sI_at _ _ _ _) (fun x hx => ?_)
  · obtain rfl : m = 0 := by omega
    intro c
    have c : 0 = gA g := c
    have b := gA_bit g 0
    rw [← c, Nat.zero_testBit, decide_eq_true w1] at b
    cases b
  · rw [sI_j (by decide)]; exact h0
  · rw [sI_n _ _ _ _ (by decide)]
    obtain ⟨a, b, c1, c2, c3⟩ := tf.2 x hx
    exact ⟨a, b, by omega, c2, c3, fun q => by omega⟩
def fPk (c j : Nat) : Bool := (33 ≤ c && c ≤ 39) || (c == 32 && (j == 1 || j == 2 || j == 3 || j == 10 || j == 11))
theorem srcC_pk (c j : Nat) (e : isSrcC c j = true) : fPk c j = false := by
  unfold isSrcC at e
  unfold fPk
  simp only [Bool.or_eq_true, Bool.and_eq_true, decide_eq_true_eq, beq_iff_eq] at e
  simp only [Bool.or_eq_false_iff, Bool.and_eq_false_iff, decide_eq_false_iff_not, beq_eq_false_iff_ne]
  omega
theorem fUn_pk (c j : Nat) (h : fPk c j = false) : fUn c j = false := by
  unfold fPk at h
  unfold fUn
  simp only [Bool.or_eq_false_iff, Bool.and_eq_false_iff, decide_eq_false_iff_not, beq_eq_false_iff_ne] at h ⊢
  omega
theorem fTi_pk (c j : Nat) (h : fPk c j = false) : fTi c j = false := by
  unfold fPk at h
  unfold fTi
  simp only [Bool.or_eq_false_iff, Bool.and_eq_false_iff, decide_eq_false_iff_not, beq_eq_false_iff_ne] at h ⊢
  omega
theorem fHg_pk (c j : Nat) (h : fPk c j = false) : fHg c j = false := by
  unfold fPk at h
  unfold fHg
  simp only [Bool.or_eq_false_iff, Bool.and_eq_false_iff, decide_eq_false_iff_not, beq_eq_false_iff_ne] at h ⊢
  omega
theorem fFw_pk (c j : Nat) (h : fPk c j = false) : fFw c j = false := by
  unfold fPk at h
  unfold fFw
  simp only [Bool.or_eq_false_iff, Bool.and_eq_false_iff, decide_eq_false_iff_not, beq_eq_false_iff_ne] at h ⊢
  omega
theorem fPl_pk (c j : Nat) (h : fPk c j = false) : fPl c j = false := by
  unfold fPk at h
  unfold fPl
  simp only [Bool.or_eq_false_iff, Bool.and_eq_false_iff, decide_eq_false_iff_not, beq_eq_false_iff_ne] at h ⊢
  omega
def pkOK (g : SG) (l : List Nat) : Prop := 0 < l.length ∧ l.length ≤ gS g ∧ ∀ x, x ∈ l → x < 2 ^ gS g
theorem lsP_pos {g : SG} (w : WfG g) : 0 < (lsP g (gS g) 0).length := by
  obtain ⟨n, hn⟩ : ∃ n, gS g = n + 1 := ⟨gS g - 1, by have := w.1; omega⟩
  rw [hn]
  show 0 < (if 0 = gA g then [] else _ :: _).length
  rw [if_neg]
  · exact Nat.succ_pos _
  · intro c
    have b := gA_bit g 0
    rw [← c, Nat.zero_testBit, decide_eq_true w.1] at b
    cases b
theorem c_pack (w : Wf D) (sr0 : CSrc D h) (hi : i < dI D) (h1 : b < e) (h2 : e ≤ dL D i) (h3 : e ≤ b + 10) (hmd : md ≤ 2) (tf : TF0 sr h) (hsr : sr + 1 < 2 ^ 26) (t : ∀ h' sr', Fr fPk h h' → PkdC (pkM md (sgm D i b e)) h' → h'.1 32 2 = nI (depth (sgm D i b e)) → TF0 sr' h' → sr' ≤ sr + 1 → pkOK (sgm D i b e) (pkM md (sgm D i b e)) → PV h') : SpV E (d + 135) MX4_pack [.ref (eA E 32), .ref (eA E 5), .int (nI (24 * i + b)), .int (nI (24 * i + e)), .int (nI md)] h PV := by
  have wg := sgm_wf w hi h1 h2 h3
  have hI := w.2.2.1
  have l24 := (w.2.2.2.1 i hi).2.1
  refine wp_X4_pack E (d + 134) _ _ _ h PV ?_
  rw [pk_sub (by omega), show 24 * i + e - (24 * i + b) = e - b by omega]
  have f0 : Fr fPk h (sI (sI h 32 3 (nI (e - b))) 32 1 (0 : Int32)) := ((Fr.refl h).si rfl).si rfl
  have z3 : (sI (sI h 32 3 (nI (e - b))) 32 1 (0 : Int32)).1 32 3 = nI (e - b) := by rw [sI_j (by decide), sI_at]
  have z1 : (sI (sI h 32 3 (nI (e - b))) 32 1 (0 : Int32)).1 32 1 = 0 := sI_at _ _ _ _
  have tfa : TF0 sr (sI (sI h 32 3 (nI (e - b))) 32 1 (0 : Int32)) := tf.fr (((Fr.refl h).si (S := fun c j => c == 32 && (j == 1 || j == 3)) rfl).si rfl) rfl (fun _ => rfl)
  generalize sI (sI h 32 3 (nI (e - b))) 32 1 (0 : Int32) = hA at f0 z3 z1 tfa
  refine c_units w (sr0.fr f0 srcC_pk) hi h1 h2 h3 z3 (fun hB fB uB oB => ?_)
  have gB := f0.trans (fB.mono fUn_pk)
  refine c_ties w (sr0.fr gB srcC_pk) hi h1 h2 h3 (by rw [fB.i 32 3 rfl]; exact z3) (fun hC fC tC => ?_)
  have gC := gB.trans (fC.mono fTi_pk)
  have sg : SegC (sgm D i b e) hC := by
    refine ⟨by rw [fC.i 32 3 rfl, fB.i 32 3 rfl]; exact z3, fun p hp => ⟨?_, tC p hp⟩, fun x hx => ?_⟩
    · rw [fC.f 34 (fun _ => rfl)]; exact uB p hp
    · rw [fC.f 38 (fun _ => rfl)]; exact oB x hx
  refine c_hgt wg sg (fun hD H fD hg hH dD => ?_)
  have gD := gC.trans (fD.mono fHg_pk)
  have sgD : SegC (sgm D i b e) hD := sg.fr fD rfl (fun _ => rfl) (fun _ => rfl) (fun _ => rfl) (fun _ => rfl)
  have z1D : hD.1 32 1 = 0 := by rw [fD.i 32 1 rfl, fC.i 32 1 rfl, fB.i 32 1 rfl]; exact z1
  have tfD : TF0 sr hD := ((tfa.fr fB rfl (fun _ => rfl)).fr fC rfl (fun _ => rfl)).fr fD rfl (fun _ => rfl)
  refine bj_if (nI0 (by omega)) (fun q => ?_) (fun q => ?_)
  · refine bj_if (nI_eq (b := 1) (by omega) (by decide)) (fun q1 => ?_) (fun q1 => ?_)
    · have em : pkM md (sgm D i b e) = pkB (sgm D i b e) := by unfold pkM; rw [if_neg q, if_neg q1]
      rw [em] at t
      refine c_few wg hg sgD hH z1D tfD hsr (fun hE fE pE tE bE => t hE (sr + 1) (gD.trans (fE.mono fFw_pk)) pE (by rw [fE.i 32 2 rfl]; exact dD) tE (Nat.le_refl _) ?_)
      exact ⟨(bE.len wg).1, (bE.len wg).2, fun x hx => bE.mem hx⟩
    · have em : pkM md (sgm D i b e) = lsP (sgm D i b e) (gS (sgm D i b e)) 0 := by unfold pkM; rw [if_neg q, if_pos q1]
      rw [em] at t
      refine c_list wg sgD z1D (fun hE fE pE => t hE sr (gD.trans (fE.mono fPl_pk)) pE (by rw [fE.i 32 2 rfl]; exact dD) (tfD.fr fE rfl (fun _ => rfl)) (by omega) ?_)
      exact ⟨lsP_pos wg, lsP_len _ _ _, fun x hx => lsP_mem _ _ _ x hx⟩
  · have em : pkM md (sgm D i b e) = oneP (gS (sgm D i b e)) := by unfold pkM; rw [if_pos q]
    rw [em] at t
    refine c_one wg sgD (fun hE fE pE => t hE sr (gD.trans (fE.mono fPl_pk)) pE (by rw [fE.i 32 2 rfl]; exact dD) (tfD.fr fE rfl (fun _ => rfl)) (by omega) ?_)
    exact ⟨by rw [oneP_len]; exact wg.1, by rw [oneP_len]; exact Nat.le_refl _, fun x hx => oneP_mem _ x hx⟩
end PKC
