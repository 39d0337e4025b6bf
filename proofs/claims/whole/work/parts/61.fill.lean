/-! all words and the whole store, in the class and in the reference -/
def fFi (c j : Nat) : Bool := (47 ≤ c && c ≤ 50) || (c == 46 && j == 4) || (c == 51 && j == 0) || (c == 58 && j == 1)
def fPA (c j : Nat) : Bool := fFi c j || fPk c j || (41 ≤ c && c ≤ 45)
/-- where the words of an instruction begin in the reference -/
noncomputable def mo (D : SD) (S : ST) : Nat → Nat
  | 0 => 0
  | n + 1 => mo D S n + (wd D S n).length
def RW (D : SD) (S : ST) (n : Nat) (h : Hp) : Prop := (∀ j, j ≤ n → 0 < n → h.1 76 j = nI (mo D S j)) ∧ ∀ j, j < n → WRp (mo D S j) (wd D S j) h ∧ h.1 77 j = nI (lt D S j) ∧ h.1 78 j = nI (ch D S j)
theorem srcC_fi (c j : Nat) (e : isSrcC c j = true) : fFi c j = false := by
  unfold isSrcC at e
  unfold fFi
  simp only [Bool.or_eq_true, Bool.and_eq_true, decide_eq_true_eq, beq_iff_eq] at e
  simp only [Bool.false_or, Bool.or_eq_false_iff, Bool.and_eq_false_iff, decide_eq_false_iff_not, beq_eq_false_iff_ne]
  omega
theorem srcC_pa (c j : Nat) (e : isSrcC c j = true) : fPA c j = false := by
  unfold fPA
  rw [srcC_fi c j e, srcC_pk c j e]
  unfold isSrcC at e
  simp only [Bool.or_eq_true, Bool.and_eq_true, decide_eq_true_eq, beq_iff_eq] at e
  simp only [Bool.false_or, Bool.or_eq_false_iff, Bool.and_eq_false_iff, decide_eq_false_iff_not, beq_eq_false_iff_ne]
  omega
theorem st_fi (c j : Nat) (e : fFi c j = false) : fSt c j = false := by
  unfold fFi at e
  unfold fSt
  simp only [Bool.false_or, Bool.or_eq_false_iff, Bool.and_eq_false_iff, decide_eq_false_iff_not, beq_eq_false_iff_ne] at e ⊢
  omega
theorem fi_pa (c j : Nat) (e : fPA c j = false) : fFi c j = false := by
  unfold fPA at e
  simp only [Bool.or_eq_false_iff] at e
  exact e.1.1
theorem wp_pa {i : Nat} (c j : Nat) (e : fPA c j = false) : fWp i c j = false := by
  unfold fPA at e
  unfold fWp fWa
  simp only [Bool.or_eq_false_iff] at e
  obtain ⟨⟨_, e2⟩, e3⟩ := e
  rw [e2]
  simp only [Bool.false_or, Bool.or_eq_false_iff, Bool.and_eq_false_iff, decide_eq_false_iff_not, beq_eq_false_iff_ne] at e3 ⊢
  omega
section FIL
variable {E : En} {d : Nat} {D : SD} {S S' : ST} {h : Hp} {PV : Hp → Prop} {i sr : Nat}
theorem WI.fr {h' : Hp} {X : Nat → Nat → Bool} (a : WI D S i h) (f : Fr X h h') (e1 : ∀ c, 41 ≤ c → c ≤ 43 → X c i = false) (e2 : ∀ c n, 44 ≤ c → c ≤ 45 → n < (wd D S i).length → X c (24 * i + n) = false) : WI D S i h' := by
  obtain ⟨a1, a2, a3, a4⟩ := a
  refine ⟨by rw [f.i 41 i (e1 41 (by decide) (by decide))]; exact a1, by rw [f.i 42 i (e1 42 (by decide) (by decide))]; exact a2, by rw [f.i 43 i (e1 43 (by decide) (by decide))]; exact a3, fun n hn => ?_⟩
  rw [f.i 44 _ (e2 44 n (by decide) (by decide) hn), f.i 45 _ (e2 45 n (by decide) (by decide) hn)]
  exact a4 n hn
theorem c_fillS (w : Wf D) (ws : WfS D S) (sr0 : CSrc D h) (wi : ∀ i, i < dI D → WI D S i h) (t : ∀ h' Q, Fr fFi h h' → StR D S (dI D) Q → CSto D Q h' → h'.1 51 0 = 0 → h'.1 58 1 = -1 → PV h') : SpV E (d + 2) MX9_fillStore [.ref (eA E 0)] h PV := by
  have hI := w.2.2.1
  refine wp_X9_fillStore E (d + 1) h PV (fun ga => ?_)
  have loop : ∀ n, n ≤ dI D → ∀ Q h1, Fr fFi h h1 → StR D S n Q → CStn n Q h1 → VX9_fillStore_10 E (d + 1) ga PV (nI n) h1 := by
    refine up_ind _ ?_ ?_
    · intro Q h1 f sq cs
      refine sg_X9_fillStore_10 E (d + 1) ga _ h1 PV ?_
      rw [f.i 5 8 rfl, sr0.2.1]
      refine br_t (nI_le (Nat.le_refl _) (by omega)) (t _ Q ((f.si rfl).si rfl) sq ?_ ?_ (sI_at _ _ _ _))
      · exact cs.fr (((Fr.refl h1).si (S := fun c _ => c == 51 || c == 58) rfl).si rfl) rfl (fun c j h1 h2 => by
          simp only [Bool.or_eq_false_iff, beq_eq_false_iff_ne]
          omega)
      · rw [sI_n _ _ _ _ (by decide), sI_at]
    · intro n hn ih Q h1 f sq cs
      refine sg_X9_fillStore_10 E (d + 1) ga _ h1 PV ?_
      rw [f.i 5 8 rfl, sr0.2.1, nI_1]
      have wn := (wi n hn).fr f (fun c h1 h2 => by
        unfold fFi
        simp only [Bool.false_or, Bool.or_eq_false_iff, Bool.and_eq_false_iff, decide_eq_false_iff_not, beq_eq_false_iff_ne]
        omega) (fun c k h1 h2 _ => by
        unfold fFi
        simp only [Bool.false_or, Bool.or_eq_false_iff, Bool.and_eq_false_iff, decide_eq_false_iff_not, beq_eq_false_iff_ne]
        omega)
      refine br_f (nI_ge hn (by omega)) (c_place w (by omega) (wd_ok w ws hn) wn (StR.ok w ws n Q (by omega) sq) cs (fun h2 k o f2 sp c2 => ?_))
      exact ih _ h2 (f.trans (f2.mono st_fi)) ⟨Q, k, o, sq, sp, rfl⟩ c2
  refine loop 0 (Nat.zero_le _) (0, fun _ => 0, fun _ => false, fun _ => none, fun _ => none) _ ((Fr.refl h).si rfl) rfl ⟨sI_at _ _ _ _, fun a ha => absurd ha (Nat.not_lt_zero a), fun i hi => absurd hi (Nat.not_lt_zero i)⟩
theorem c_packAll (w : Wf D) (ws : WfS D S) (sr0 : CSrc D h) (st : CSt D S h) (tf : TF0 sr h) (hsr : sr + 250 < 2 ^ 26) (t : ∀ h' Q sr', Fr fPA h h' → (∀ i, i < dI D → WI D S i h') → StR D S (dI D) Q → CSto D Q h' → h'.1 51 0 = 0 → h'.1 58 1 = -1 → TF0 sr' h' → sr' ≤ sr + 192 → PV h') : SpV E (d + 137) MX9_packAll [.ref (eA E 0)] h PV := by
  have hI := w.2.2.1
  refine wp_X9_packAll E (d + 136) h PV (fun ga => ?_)
  have loop : ∀ n, n ≤ dI D → ∀ s1 h1, s1 ≤ sr + 24 * n → Fr fPA h h1 → (∀ i, i < n → WI D S i h1) → TF0 s1 h1 → VX9_packAll_2 E (d + 136) ga PV (nI n) h1 := by
    refine up_ind _ ?_ ?_
    · intro s1 h1 hs f wi tf1
      refine sg_X9_packAll_2 E (d + 136) ga _ h1 PV ?_
      rw [f.i 5 8 rfl, sr0.2.1]
      refine br_t (nI_le (Nat.le_refl _) (by omega)) (c_fillS w ws (sr0.fr f srcC_pa) wi (fun h2 Q f2 sq cs e1 e2 => ?_))
      refine t h2 Q s1 (f.trans (f2.mono fi_pa)) (fun i hi => (wi i hi).fr f2 (fun c h1 h2 => ?_) (fun c k h1 h2 _ => ?_)) sq cs e1 e2 (tf1.fr f2 rfl (fun _ => rfl)) (by omega)
      · unfold fFi
        simp only [Bool.false_or, Bool.or_eq_false_iff, Bool.and_eq_false_iff, decide_eq_false_iff_not, beq_eq_false_iff_ne]
        omega
      · unfold fFi
        simp only [Bool.false_or, Bool.or_eq_false_iff, Bool.and_eq_false_iff, decide_eq_false_iff_not, beq_eq_false_iff_ne]
        omega
    · intro n hn ih s1 h1 hs f wi tf1
      have st1 : CSt D S h1 := st.fr f rfl (fun _ => rfl)
      refine sg_X9_packAll_2 E (d + 136) ga _ h1 PV ?_
      rw [f.i 5 8 rfl, sr0.2.1, nI_1, st1.1]
      refine br_f (nI_ge hn (by omega)) (c_words w ws (sr0.fr f srcC_pa) st1 hn tf1 (by omega) (fun h2 s2 f2 w2 tf2 hs2 => ?_))
      refine ih s2 h2 (by omega) (f.trans (f2.mono wp_pa)) (fun i hi => ?_) tf2
      by_cases q : i = n
      · rw [q]; exact w2
      · have wl := (wd_ok w ws (i := i) (by omega)).2.1
        refine (wi i (by omega)).fr f2 (fun c h1 h2 => ?_) (fun c k h1 h2 hk => ?_)
        · unfold fWp
          rw [pk_41 c i (by omega) (by omega)]
          unfold fWa
          simp only [Bool.false_or, Bool.or_eq_false_iff, Bool.and_eq_false_iff, decide_eq_false_iff_not, beq_eq_false_iff_ne]
          omega
        · unfold fWp
          rw [pk_41 c _ (by omega) (by omega)]
          unfold fWa
          simp only [Bool.false_or, Bool.or_eq_false_iff, Bool.and_eq_false_iff, decide_eq_false_iff_not, beq_eq_false_iff_ne]
          omega
  exact loop 0 (Nat.zero_le _) sr h (by omega) (Fr.refl h) (fun i hi => absurd hi (Nat.not_lt_zero i)) tf
theorem sEnd_cong (e : sK S' i = sK S i) (b : Nat) : sEnd D S' i b = sEnd D S i b := by
  unfold sEnd
  rw [e]
theorem wG_cong (e : sK S' i = sK S i) (b : Nat) : wG D S' i b = wG D S i b := by
  unfold wG
  rw [sEnd_cong e]
theorem wdF_cong (e : sK S' i = sK S i) (em : sM S' = sM S) : ∀ f b, wdF D S' i f b = wdF D S i f b ∧ chF D S' i f b = chF D S i f b ∧ ltF D S' i f b = ltF D S i f b
  | 0, _ => ⟨rfl, rfl, rfl⟩
  | f + 1, b => by
    show (if b < dL D i then wS D S' i b ++ wdF D S' i f (sEnd D S' i b) else []) = (if b < dL D i then wS D S i b ++ wdF D S i f (sEnd D S i b) else []) ∧ (if b < dL D i then depth (wG D S' i b) + chF D S' i f (sEnd D S' i b) else 0) = (if b < dL D i then depth (wG D S i b) + chF D S i f (sEnd D S i b) else 0) ∧ (if b < dL D i then max (pkM (sM S') (wG D S' i b)).length (ltF D S' i f (sEnd D S' i b)) else 0) = (if b < dL D i then max (pkM (sM S) (wG D S i b)).length (ltF D S i f (sEnd D S i b)) else 0)
    obtain ⟨h1, h2, h3⟩ := wdF_cong e em f (sEnd D S i b)
    unfold wS
    rw [sEnd_cong e, wG_cong e, em, h1, h2, h3]
    exact ⟨rfl, rfl, rfl⟩
theorem WI_cong (e : sK S' i = sK S i) (em : sM S' = sM S) (a : WI D S i h) : WI D S' i h := by
  unfold WI wd ch lt
  obtain ⟨h1, h2, h3⟩ := wdF_cong (D := D) e em 24 0
  rw [h1, h2, h3]
  exact a
theorem c_change {k : Nat} {v : Int32} (w : Wf D) (ws' : WfS D S') (sr0 : CSrc D h) (hi : i < dI D) (hk : k < dL D i) (eM : sM S' = sM S) (eK : ∀ j, j ≠ i → sK S' j = sK S j) (wi : ∀ j, j < dI D → WI D S j h) (st : CSt D S' (sI h 16 (24 * i + k) (vp_nar .boolean v))) (tf : TF0 sr h) (hsr : sr + 250 < 2 ^ 26) (t : ∀ h' Q sr', Fr (fun c j => fPA c j || c == 16) h h' → CSt D S' h' → (∀ i, i < dI D → WI D S' i h') → StR D S' (dI D) Q → CSto D Q h' → h'.1 51 0 = 0 → h'.1 58 1 = -1 → TF0 sr' h' → sr' ≤ sr + 192 → PV h') : SpV E (d + 137) MX9_changeMark [.ref (eA E 0), .int (nI (24 * i + k)), .int v] h PV := by
  have hI := w.2.2.1
  obtain ⟨l0, l24, hrow⟩ := w.2.2.2.1 i hi
  refine wp_X9_changeMark E (d + 136) _ _ h PV ⟨vp_in_nI (by omega) (by decide), ?_⟩
  have em := st.1
  rw [sI_n _ _ _ _ (by decide)] at em
  rw [nI_clamp (by omega), show (24 : Int32) = nI 24 from rfl, pk_div (by omega) (by decide) (by decide), show (24 * i + k) / 24 = i by omega, em]
  have f0 : Fr (fun c _ => c == 16) h (sI h 16 (24 * i + k) (vp_nar .boolean v)) := (Fr.refl h).si rfl
  have sr1 : CSrc D (sI h 16 (24 * i + k) (vp_nar .boolean v)) := sr0.fr f0 (fun c j e => by
    unfold isSrcC at e
    simp only [Bool.or_eq_true, Bool.and_eq_true, decide_eq_true_eq, beq_iff_eq] at e
    rw [beq_eq_false_iff_ne]
    omega)
  refine c_words w ws' sr1 st hi (tf.fr f0 rfl (fun _ => rfl)) (by omega) (fun h2 s2 f2 w2 tf2 hs2 => ?_)
  have fb : Fr (fun c j => fPA c j || c == 16) h h2 := (f0.mono (fun c j e => by
    rw [Bool.or_eq_false_iff] at e
    exact e.2)).trans (f2.mono (fun c j e => by
    rw [Bool.or_eq_false_iff] at e
    exact wp_pa c j e.1))
  have wi2 : ∀ j, j < dI D → WI D S' j h2 := by
    intro j hj
    by_cases q : j = i
    · rw [q]; exact w2
    · refine ((WI_cong (eK j q) eM (wi j hj)).fr f0 (fun c h1 h2 => ?_) (fun c k h1 h2 hk => ?_)).fr f2 (fun c h1 h2 => ?_) (fun c k h1 h2 hk => ?_)
      · rw [beq_eq_false_iff_ne]; omega
      · rw [beq_eq_false_iff_ne]; omega
      · unfold fWp
        rw [pk_41 c j (by omega) (by omega)]
        unfold fWa
        simp only [Bool.false_or, Bool.or_eq_false_iff, Bool.and_eq_false_iff, decide_eq_false_iff_not, beq_eq_false_iff_ne]
        omega
      · have wl := (wd_ok w ws' (i := j) (by omega)).2.1
        unfold fWp
        rw [pk_41 c _ (by omega) (by omega)]
        unfold fWa
        simp only [Bool.false_or, Bool.or_eq_false_iff, Bool.and_eq_false_iff, decide_eq_false_iff_not, beq_eq_false_iff_ne]
        omega
  refine c_fillS w ws' (sr1.fr f2 srcC_wp) wi2 (fun h3 Q f3 sq cs e1 e2 => ?_)
  refine t h3 Q s2 (fb.trans (f3.mono (fun c j e => ?_))) ((st.fr f2 rfl (fun _ => rfl)).fr f3 rfl (fun _ => rfl)) (fun j hj => (wi2 j hj).fr f3 (fun c h1 h2 => ?_) (fun c k h1 h2 _ => ?_)) sq cs e1 e2 (tf2.fr f3 rfl (fun _ => rfl)) (by omega)
  · rw [Bool.or_eq_false_iff] at e
    exact fi_pa c j e.1
  · unfold fFi
    simp only [Bool.false_or, Bool.or_eq_false_iff, Bool.and_eq_false_iff, decide_eq_false_iff_not, beq_eq_false_iff_ne]
    omega
  · unfold fFi
    simp only [Bool.false_or, Bool.or_eq_false_iff, Bool.and_eq_false_iff, decide_eq_false_iff_not, beq_eq_false_iff_ne]
    omega
/-- the reference -/
def fLA (c j : Nat) : Bool := (69 ≤ c && c ≤ 85) || (c == 63 && (j == 8 || j == 9 || j == 10 || j == 21 || j == 26 || j == 30 || j == 31 || j == 38))
theorem srcR_lA (c j : Nat) (e : isSrcR c j = true) : fLA c j = false := by
  unfold isSrcR at e
  unfold fLA
  simp only [Bool.or_eq_true, Bool.and_eq_true, beq_iff_eq] at e
  simp only [Bool.false_or, Bool.or_eq_false_iff, Bool.and_eq_false_iff, decide_eq_false_iff_not, beq_eq_false_iff_ne]
  omega
theorem rp_la (c j : Nat) (e : fLA c j = false) : fRp i c j = false := by
  unfold fLA at e
  unfold fRp
  simp only [Bool.false_or, Bool.or_eq_false_iff, Bool.and_eq_false_iff, decide_eq_false_iff_not, beq_eq_false_iff_ne] at e ⊢
  omega
theorem sr_la (c j : Nat) (e : fLA c j = false) : fSr c j = false := by
  unfold fLA at e
  unfold fSr
  simp only [Bool.false_or, Bool.or_eq_false_iff, Bool.and_eq_false_iff, decide_eq_false_iff_not, beq_eq_false_iff_ne] at e ⊢
  omega
theorem fd_la (c j : Nat) (e : fLA c j = false) : fFd c j = false := by
  unfold fLA at e
  unfold fFd
  simp only [Bool.false_or, Bool.or_eq_false_iff, Bool.and_eq_false_iff, decide_eq_false_iff_not, beq_eq_false_iff_ne] at e ⊢
  omega
theorem mo_le (w : Wf D) (ws : WfS D S) : ∀ n, n ≤ dI D → mo D S n ≤ 24 * n
  | 0, _ => Nat.le_refl _
  | n + 1, hn => by
    show mo D S n + (wd D S n).length ≤ _
    have := mo_le w ws n (by omega)
    have := (wd_ok w ws (i := n) (by omega)).2.1
    omega
theorem mo_lt : ∀ {n m : Nat}, n < m → mo D S n + (wd D S n).length ≤ mo D S m := by
  intro n m h
  induction m with
  | zero => cases h
  | succ m ih =>
    show _ ≤ mo D S m + _
    by_cases q : n = m
    · rw [q]; exact Nat.le_refl _
    · have := ih (by omega)
      omega
theorem RW.fr {n : Nat} {h' : Hp} {X : Nat → Nat → Bool} (a : RW D S n h) (f : Fr X h h') (e : ∀ c j, 74 ≤ c → c ≤ 78 → X c j = false) : RW D S n h' := by
  unfold RW WRp
  rw [f.f 74 (fun j => e 74 j (by decide) (by decide)), f.f 75 (fun j => e 75 j (by decide) (by decide)), f.f 76 (fun j => e 76 j (by decide) (by decide)), f.f 77 (fun j => e 77 j (by decide) (by decide)), f.f 78 (fun j => e 78 j (by decide) (by decide))]
  exact a
theorem r_laysAll (w : Wf D) (ws : WfS D S) (sr0 : RSrc D h) (st : RSt D S h) (t : ∀ h' Q, Fr fLA h h' → RW D S (dI D) h' → StR D S (dI D) Q → RSto D Q h' → FldR (fl Q) h' → h'.1 63 38 = -1 → PV h') : SpV E (d + 6) MX10_laysAll [.ref (eA E 63)] h PV := by
  have hI := w.2.2.1
  refine wp_X10_laysAll E (d + 5) h PV (fun ga => ?_)
  have loop : ∀ n, n ≤ dI D → ∀ Q h1, Fr fLA h h1 → h1.1 63 21 = nI (mo D S n) → RW D S n h1 → StR D S n Q → RStn n Q h1 → VX10_laysAll_12 E (d + 5) ga PV (nI n) h1 := by
    refine up_ind _ ?_ ?_
    · intro Q h1 f e21 rw1 sq cs
      have wq := (StR.ok w ws _ Q (Nat.le_refl _) sq).wf w
      refine sg_X10_laysAll_12 E (d + 5) ga _ h1 PV ?_
      rw [f.i 63 2 rfl, sr0.2.1]
      refine br_t (nI_le (Nat.le_refl _) (by omega)) (r_fields w wq cs (fun h2 f2 fd2 => ?_))
      have f3 : Fr (fun c j => c == 63 && j == 38) h2 (sI h2 63 38 (-1 : Int32)) := (Fr.refl h2).si rfl
      refine t _ Q ((f.trans (f2.mono fd_la)).si rfl) ((rw1.fr f2 (fun c j h1 h2 => ?_)).fr f3 (fun c j h1 h2 => ?_)) sq (RSto.fr (RSto.fr cs f2 rfl (fun c j h1 h2 => ?_)) f3 rfl (fun c j h1 h2 => ?_)) (fd2.fr f3 rfl rfl (fun _ => rfl)) (sI_at _ _ _ _)
      · unfold fFd
        simp only [Bool.false_or, Bool.or_eq_false_iff, Bool.and_eq_false_iff, decide_eq_false_iff_not, beq_eq_false_iff_ne]
        omega
      · simp only [Bool.and_eq_false_iff, beq_eq_false_iff_ne]
        omega
      · unfold fFd
        simp only [Bool.false_or, Bool.or_eq_false_iff, Bool.and_eq_false_iff, decide_eq_false_iff_not, beq_eq_false_iff_ne]
        omega
      · simp only [Bool.and_eq_false_iff, beq_eq_false_iff_ne]
        omega
    · intro n hn ih Q h1 f e21 rw1 sq cs
      have ml := mo_le w ws n (by omega)
      have wo := wd_ok w ws hn
      refine sg_X10_laysAll_12 E (d + 5) ga _ h1 PV ?_
      rw [f.i 63 2 rfl, sr0.2.1, nI_1]
      refine br_f (nI_ge hn (by omega)) (r_packs w ws (sr0.fr f srcR_lA) (st.fr f (fun _ => rfl)) hn e21 (by omega) (fun h2 f2 lo2 wr2 e212 => ?_))
      obtain ⟨r1, r2, r3, r4, r5⟩ := wr2
      have cs2 : RStn n Q h2 := cs.fr f2 rfl (fun c j h1 h2 => by
        unfold fRp
        simp only [Bool.false_or, Bool.or_eq_false_iff, Bool.and_eq_false_iff, decide_eq_false_iff_not, beq_eq_false_iff_ne]
        omega)
      have rw2 : RW D S (n + 1) h2 := by
        refine ⟨fun j hj _ => ?_, fun j hj => ?_⟩
        · by_cases q : j = n + 1
          · rw [q]; exact r2
          · by_cases q2 : j = n
            · rw [q2]; exact r1
            · rw [f2.i 76 j (by
                unfold fRp
                simp only [Bool.false_or, Bool.or_eq_false_iff, Bool.and_eq_false_iff, decide_eq_false_iff_not, beq_eq_false_iff_ne]
                omega)]
              exact rw1.1 j (by omega) (by omega)
        · by_cases q : j = n
          · rw [q]; exact ⟨r3, r4, r5⟩
          · obtain ⟨k1, k2, k3⟩ := rw1.2 j (by omega)
            have lt := mo_lt (D := D) (S := S) (n := j) (m := n) (by omega)
            refine ⟨fun k hk => ?_, ?_, ?_⟩
            · obtain ⟨l1, l2⟩ := lo2 (mo D S j + k) (by omega)
              rw [l1, l2]
              exact k1 k hk
            · rw [f2.i 77 j (by
                unfold fRp
                simp only [Bool.false_or, Bool.or_eq_false_iff, Bool.and_eq_false_iff, decide_eq_false_iff_not, beq_eq_false_iff_ne]
                omega)]
              exact k2
            · rw [f2.i 78 j (by
                unfold fRp
                simp only [Bool.false_or, Bool.or_eq_false_iff, Bool.and_eq_false_iff, decide_eq_false_iff_not, beq_eq_false_iff_ne]
                omega)]
              exact k3
      refine r_stores w (by omega) wo r1 r2 r3 (by omega) (StR.ok w ws n Q (by omega) sq) cs2 (fun h3 k o f3 sp cs3 => ?_)
      refine ih _ h3 ((f.trans (f2.mono rp_la)).trans (f3.mono sr_la)) ?_ (rw2.fr f3 (fun c j h1 h2 => ?_)) ⟨Q, k, o, sq, sp, rfl⟩ cs3
      · rw [f3.i 63 21 rfl]; exact e212
      · unfold fSr
        simp only [Bool.false_or, Bool.or_eq_false_iff, Bool.and_eq_false_iff, decide_eq_false_iff_not, beq_eq_false_iff_ne]
        omega
  refine loop 0 (Nat.zero_le _) (0, fun _ => 0, fun _ => false, fun _ => none, fun _ => none) _ (((Fr.refl h).si rfl).si rfl) ?_ ⟨fun j _ z => absurd z (Nat.lt_irrefl 0), fun j hj => absurd hj (Nat.not_lt_zero j)⟩ rfl ⟨sI_at _ _ _ _, fun a ha => absurd ha (Nat.not_lt_zero a), fun i hi => absurd hi (Nat.not_lt_zero i)⟩
  rw [sI_j (by decide), sI_at]; rfl
end FIL
