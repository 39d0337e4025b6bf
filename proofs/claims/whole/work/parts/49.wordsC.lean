/-! the words of an instruction; in the class -/
theorem best_ex {g : SG} : ∀ n dn, Pk g n dn → ∃ l, Bs g n dn l := by
  intro n
  induction n with
  | zero => intro dn h; exact ⟨[], h⟩
  | succ n ih =>
    intro dn h
    by_cases q : dn = gA g
    · exact ⟨[], q⟩
    · rcases h with h | ⟨w, o, h⟩
      · exact absurd h q
      · haveI : DecidablePred (fun w => Ok g dn w ∧ Pk g n (dn ||| w)) := fun _ => Classical.propDecidable _
        obtain ⟨v, v1, v2, v3⟩ := fb_last (p := fun w => Ok g dn w ∧ Pk g n (dn ||| w)) (n := 2 ^ gS g) ⟨w, o.2.1, o, h⟩
        obtain ⟨l, hl⟩ := ih _ v2.2
        refine ⟨v :: l, q, v2.1, v2.2, fun w' o' p' => ?_, hl⟩
        rcases Nat.lt_or_ge v w' with z | z
        · exact absurd ⟨o', p'⟩ (v3 w' z o'.2.1)
        · exact z
theorem best_is {g : SG} (w : WfG g) : BestP g (pkB g) := by
  obtain ⟨n, h1, h2⟩ := pk_least (fun n => Pk g n 0) ⟨gS g, Pk_all w _ _ (Nat.two_pow_pos _) (lft_le g 0)⟩
  obtain ⟨l, hl⟩ := best_ex n 0 h1
  have bp : BestP g l := ⟨n, h1, h2, hl⟩
  rw [pkB_is bp]
  exact bp
theorem pkM_ok {g : SG} (w : WfG g) (md : Nat) : pkOK g (pkM md g) := by
  unfold pkM
  by_cases q : md = 0
  · rw [if_pos q]
    exact ⟨by rw [oneP_len]; exact w.1, by rw [oneP_len]; exact Nat.le_refl _, fun x hx => oneP_mem _ x hx⟩
  · rw [if_neg q]
    by_cases q1 : md = 1
    · rw [if_pos q1]
      exact ⟨lsP_pos w, lsP_len _ _ _, fun x hx => lsP_mem _ _ _ x hx⟩
    · rw [if_neg q1]
      have b := best_is w
      exact ⟨(b.len w).1, (b.len w).2, fun x hx => b.mem hx⟩
def mkW (f : Nat → Nat) (l : List Nat) : List (Nat × Bool) := l.mapIdx (fun n x => (f x, decide (n + 1 = l.length)))
theorem mkW_len (f : Nat → Nat) (l : List Nat) : (mkW f l).length = l.length := List.length_mapIdx
theorem mkW_at {f : Nat → Nat} {l : List Nat} {n : Nat} (h : n < l.length) : (mkW f l).getD n (0, false) = (f (l.getD n 0), decide (n + 1 = l.length)) := by
  unfold mkW
  rw [List.getD_eq_getElem?_getD, List.getElem?_mapIdx, List.getD_eq_getElem?_getD, List.getElem?_eq_getElem h]
  rfl
def wG (D : SD) (S : ST) (i b : Nat) : SG := sgm D i b (sEnd D S i b)
noncomputable def wS (D : SD) (S : ST) (i b : Nat) : List (Nat × Bool) := mkW (fun x => opF D i b x (gS (wG D S i b))) (pkM (sM S) (wG D S i b))
noncomputable def wdF (D : SD) (S : ST) (i : Nat) : Nat → Nat → List (Nat × Bool)
  | 0, _ => []
  | f + 1, b => if b < dL D i then wS D S i b ++ wdF D S i f (sEnd D S i b) else []
def chF (D : SD) (S : ST) (i : Nat) : Nat → Nat → Nat
  | 0, _ => 0
  | f + 1, b => if b < dL D i then depth (wG D S i b) + chF D S i f (sEnd D S i b) else 0
noncomputable def ltF (D : SD) (S : ST) (i : Nat) : Nat → Nat → Nat
  | 0, _ => 0
  | f + 1, b => if b < dL D i then max (pkM (sM S) (wG D S i b)).length (ltF D S i f (sEnd D S i b)) else 0
noncomputable def wd (D : SD) (S : ST) (i : Nat) : List (Nat × Bool) := wdF D S i 24 0
def ch (D : SD) (S : ST) (i : Nat) : Nat := chF D S i 24 0
noncomputable def lt (D : SD) (S : ST) (i : Nat) : Nat := ltF D S i 24 0
section WDC
variable {E : En} {d : Nat} {D : SD} {S : ST} {h : Hp} {P : Int32 → Hp → Prop} {PV : Hp → Prop} {i b sr : Nat}
theorem wG_wf (w : Wf D) (ws : WfS D S) (hi : i < dI D) (hb : b < dL D i) : WfG (wG D S i b) ∧ gS (wG D S i b) = sEnd D S i b - b := ⟨sgm_wf w hi (sEnd_gt D S i b) (sEnd_le S hb) ((ws.2 i hi).2 b hb), rfl⟩
theorem wS_len (w : Wf D) (ws : WfS D S) (hi : i < dI D) (hb : b < dL D i) : 0 < (wS D S i b).length ∧ (wS D S i b).length ≤ sEnd D S i b - b := by
  obtain ⟨g1, g2⟩ := wG_wf w ws hi hb
  have := pkM_ok g1 (sM S)
  unfold wS
  rw [mkW_len]
  exact ⟨this.1, by have := this.2.1; omega⟩
theorem wdF_len (w : Wf D) (ws : WfS D S) (hi : i < dI D) : ∀ f b, b ≤ dL D i → (wdF D S i f b).length ≤ dL D i - b
  | 0, _, _ => Nat.zero_le _
  | f + 1, b, hb => by
    show (if b < dL D i then wS D S i b ++ wdF D S i f (sEnd D S i b) else []).length ≤ _
    by_cases q : b < dL D i
    · rw [if_pos q, List.length_append]
      have h1 := (wS_len w ws hi q).2
      have h2 := sEnd_le S q
      have h3 := sEnd_gt D S i b
      have h4 := wdF_len w ws hi f _ h2
      omega
    · rw [if_neg q]; exact Nat.zero_le _
theorem chF_le (w : Wf D) (ws : WfS D S) (hi : i < dI D) : ∀ f b, b ≤ dL D i → chF D S i f b ≤ dL D i - b
  | 0, _, _ => Nat.zero_le _
  | f + 1, b, hb => by
    show (if b < dL D i then depth (wG D S i b) + chF D S i f (sEnd D S i b) else 0) ≤ _
    by_cases q : b < dL D i
    · rw [if_pos q]
      have h1 : depth (wG D S i b) ≤ gS (wG D S i b) := depth_le
      rw [(wG_wf w ws hi q).2] at h1
      have h2 := sEnd_le S q
      have h3 := sEnd_gt D S i b
      have h4 := chF_le w ws hi f _ h2
      omega
    · rw [if_neg q]; exact Nat.zero_le _
/-- the words of an instruction in the class, and those that are there before b -/
def WIp (i : Nat) (l : List (Nat × Bool)) (c m : Nat) (h : Hp) : Prop := h.1 41 i = nI l.length ∧ h.1 42 i = nI c ∧ h.1 43 i = nI m ∧ ∀ n, n < l.length → h.1 44 (24 * i + n) = nI (l.getD n (0, false)).1 ∧ h.1 45 (24 * i + n) = b2i (l.getD n (0, false)).2
def WI (D : SD) (S : ST) (i : Nat) (h : Hp) : Prop := WIp i (wd D S i) (ch D S i) (lt D S i) h
theorem opF_ext {x s : Nat} (hx : x < 2 ^ s) : ∀ k, opF D i b x (s + k) = opF D i b x s
  | 0 => rfl
  | k + 1 => by
    show opF D i b x (s + k) ||| (if x.testBit (s + k) then _ else 0) = _
    rw [tb_lt hx (by omega)]
    show _ ||| 0 = _
    rw [Nat.or_zero]
    exact opF_ext hx k
theorem c_ops {x s : Nat} (w : Wf D) (sr0 : CSrc D h) (hi : i < dI D) (hs : s ≤ 10) (hb : b + s ≤ dL D i) (hx : x < 2 ^ s) (t : P (nI (opF D i b x s)) h) : SpI E d MX8_operationsOf [.ref (eA E 5), .int (nI (24 * i + b)), .int (nI x)] h P := by
  have hN := w.1
  have hI := w.2.2.1
  obtain ⟨l0, l24, hrow⟩ := w.2.2.2.1 i hi
  refine wp_X8_operationsOf E d _ _ h P (fun g => ?_)
  have loop : ∀ p, p ≤ 10 → VX8_operationsOf_5 E d g P (nI (24 * i + b)) (nI x) (nI (opF D i b x p)) (nI p) h := by
    refine up_ind _ ?_ ?_
    · refine sg_X8_operationsOf_5 E d g _ _ _ _ h P (br_t (nI_le (Nat.le_refl 10) (by decide)) ?_)
      have := opF_ext (D := D) (i := i) (b := b) hx (10 - s)
      rw [show s + (10 - s) = 10 by omega] at this
      rw [this]
      exact t
    · intro p hp ih
      have e1 : opF D i b x (p + 1) = opF D i b x p ||| (if x.testBit p then 2 ^ dR D i (b + p) else 0) := rfl
      refine sg_X8_operationsOf_5 E d g _ _ _ _ h P (br_f (nI_ge (b := 10) hp (by decide)) ?_)
      rw [nI_1, nI_add]
      refine ek_if (bitA (by omega)) (fun z => ?_) (fun z => ?_)
      · rw [z] at e1
        have e1 : opF D i b x (p + 1) = opF D i b x p ||| 0 := e1
        rw [Nat.or_zero] at e1
        rw [← e1]; exact ih
      · have z := ts_nf' z
        have hps : p < s := by
          rcases Nat.lt_or_ge p s with q | q
          · exact q
          · rw [tb_lt hx q] at z; cases z
        have hr := hrow (b + p) (by omega)
        rw [nI_clamp (by omega), show 24 * i + b + p = 24 * i + (b + p) by omega, (sr0.2.2.2 i hi).2.2 (b + p) (by omega), sh1 _ (by omega), nI_or]
        rw [z] at e1
        have e1 : opF D i b x (p + 1) = opF D i b x p ||| 2 ^ dR D i (b + p) := e1
        rw [← e1]
        exact ⟨vp_in_nI (by omega) (by decide), ih⟩
  exact loop 0 (by decide)
def fWa (i : Nat) (c j : Nat) : Bool := ((c == 41 || c == 42 || c == 43) && j == i) || ((c == 44 || c == 45) && decide (24 * i ≤ j ∧ j < 24 * i + 24))
theorem getP_app1 {l : List (Nat × Bool)} {x : Nat × Bool} : (l ++ [x]).getD l.length (0, false) = x := by simp [List.getD]
theorem getP_app {l l2 : List (Nat × Bool)} {k : Nat} (h : k < l.length) : (l ++ l2).getD k (0, false) = l.getD k (0, false) := by
  simp [List.getD, List.getElem?_append_left h]
theorem getP_app2 {l l2 : List (Nat × Bool)} {k : Nat} : (l ++ l2).getD (l.length + k) (0, false) = l2.getD k (0, false) := by
  simp [List.getD, List.getElem?_append_right]
theorem srcC_wa (c j : Nat) (e : isSrcC c j = true) : fWa i c j = false := by
  unfold isSrcC at e
  unfold fWa
  simp only [Bool.or_eq_true, Bool.and_eq_true, decide_eq_true_eq, beq_iff_eq] at e
  simp only [Bool.or_eq_false_iff, Bool.and_eq_false_iff, decide_eq_false_iff_not, beq_eq_false_iff_ne]
  omega
theorem c_add {g : SG} {l : List Nat} {pre : List (Nat × Bool)} {c m : Nat} (w : Wf D) (sr0 : CSrc D h) (hi : i < dI D) (hs : gS g ≤ 10) (hb : b + gS g ≤ dL D i) (pk : pkOK g l) (pc : PkdC l h) (dp : h.1 32 2 = nI (depth g)) (wi : WIp i pre c m h) (hl : pre.length + gS g ≤ 24) (hc : c < 1000) (hm : m < 1000) (t : ∀ h', Fr (fWa i) h h' → WIp i (pre ++ mkW (fun x => opF D i b x (gS g)) l) (c + depth g) (max m l.length) h' → PV h') : SpV E (d + 1) MX8_addSegment [.ref (eA E 40), .ref (eA E 5), .int (nI i), .int (nI (24 * i + b)), .ref (eA E 32)] h PV := by
  have hI := w.2.2.1
  obtain ⟨k1, k2, k3⟩ := pk
  have vi : vp_in (nI i) 8 := vp_in_nI (by omega) (by decide)
  refine wp_X8_addSegment E d _ _ h PV (fun ga => ⟨vi, ?_⟩)
  rw [nI_clamp (by omega), wi.1, show (24 : Int32) = nI 24 from rfl, pk_mul, nI_add]
  have loop : ∀ n, n ≤ l.length → ∀ h1, Fr (fWa i) h h1 → h1.1 41 = h.1 41 → h1.1 42 = h.1 42 → h1.1 43 = h.1 43 → (∀ k, k < pre.length → h1.1 44 (24 * i + k) = nI (pre.getD k (0, false)).1 ∧ h1.1 45 (24 * i + k) = b2i (pre.getD k (0, false)).2) → (∀ k, k < n → h1.1 44 (24 * i + (pre.length + k)) = nI (opF D i b (l.getD k 0) (gS g)) ∧ h1.1 45 (24 * i + (pre.length + k)) = b2i (decide (k + 1 = l.length))) → VX8_addSegment_16 E d ga PV (nI i) (nI (24 * i + b)) (nI (i * 24 + pre.length)) (nI n) h1 := by
    refine up_ind _ ?_ ?_
    · intro h1 f e41 e42 e43 a1 a2
      have dl := depth_le (g := g)
      refine sg_X8_addSegment_16 E d ga _ _ _ _ h1 PV ?_
      rw [f.i 32 1 rfl, f.i 32 2 rfl, pc.1, dp, nI_clamp (by omega), e41, e42, e43, wi.1, wi.2.1, wi.2.2.1, nI_add, nI_add, nI_max (by omega) (by omega)]
      refine br_t (nI_le (Nat.le_refl _) (by omega)) ⟨vi, vi, vi, vi, vi, vi, t _ ?_ ⟨?_, ?_, ?_, fun n hn => ?_⟩⟩
      · exact ((f.si (by simp [fWa])).si (by simp [fWa])).si (by simp [fWa])
      · rw [sI_n _ _ _ _ (by decide), sI_n _ _ _ _ (by decide), sI_at, List.length_append, mkW_len]
      · rw [sI_n _ _ _ _ (by decide), sI_at]
      · rw [sI_at]
      · rw [sI_n _ _ _ _ (show 44 ≠ 43 by decide), sI_n _ _ _ _ (show 44 ≠ 42 by decide), sI_n _ _ _ _ (show 44 ≠ 41 by decide), sI_n _ _ _ _ (show 45 ≠ 43 by decide), sI_n _ _ _ _ (show 45 ≠ 42 by decide), sI_n _ _ _ _ (show 45 ≠ 41 by decide)]
        rw [List.length_append, mkW_len] at hn
        rcases Nat.lt_or_ge n pre.length with q | q
        · rw [getP_app q]; exact a1 n q
        · obtain ⟨k, rfl⟩ : ∃ k, n = pre.length + k := ⟨n - pre.length, by omega⟩
          rw [getP_app2, mkW_at (by omega)]
          exact a2 k (by omega)
    · intro n hn ih h1 f e41 e42 e43 a1 a2
      have sr1 := sr0.fr f srcC_wa
      refine sg_X8_addSegment_16 E d ga _ _ _ _ h1 PV ?_
      rw [f.i 32 1 rfl, pc.1, nI_clamp (n := n) (by omega), f.f 33 (fun _ => rfl), pc.2 n hn]
      have hm2 : l.getD n 0 ∈ l := by rw [List.getD_eq_getElem?_getD, List.getElem?_eq_getElem hn]; exact List.getElem_mem hn
      refine br_f (nI_ge hn (by omega)) ⟨vp_in_nI (by omega) (by decide), c_ops w sr1 hi hs hb (k3 _ hm2) ?_⟩
      rw [f.i 32 1 rfl, pc.1, nI_add, nI_1, show (1 : Int32) = nI 1 from rfl, pk_sub (by omega), nI_clamp (by omega), show i * 24 + pre.length + n = 24 * i + (pre.length + n) by omega]
      have v192 : vp_in (nI (24 * i + (pre.length + n))) 192 := vp_in_nI (by omega) (by decide)
      have go : ∀ z : Int32, z = b2i (decide (n + 1 = l.length)) → VX8_addSegment_16 E d ga PV (nI i) (nI (24 * i + b)) (nI (i * 24 + pre.length)) (nI (n + 1)) (sI (sI h1 44 (24 * i + (pre.length + n)) (nI (opF D i b (l.getD n 0) (gS g)))) 45 (24 * i + (pre.length + n)) z) := by
        intro z hz
        refine ih _ ((f.si ?_).si ?_) (by rw [sI_n _ _ _ _ (by decide), sI_n _ _ _ _ (by decide)]; exact e41) (by rw [sI_n _ _ _ _ (by decide), sI_n _ _ _ _ (by decide)]; exact e42) (by rw [sI_n _ _ _ _ (by decide), sI_n _ _ _ _ (by decide)]; exact e43) (fun k hk => ?_) (fun k hk => ?_)
        · unfold fWa
          rw [decide_eq_true (by omega)]; rfl
        · unfold fWa
          rw [decide_eq_true (by omega)]; rfl
        · rw [sI_j (by omega), sI_j (by omega), sI_j (by omega), sI_j (by omega)]
          exact a1 k hk
        · by_cases e : k = n
          · subst e
            rw [sI_n _ _ _ _ (show 44 ≠ 45 by decide), sI_at, sI_at, hz]
            exact ⟨rfl, rfl⟩
          · rw [sI_j (by omega), sI_j (by omega), sI_j (by omega), sI_j (by omega)]
            exact a2 k (by omega)
      refine ⟨v192, bj_if (nI_eq (by omega) (by omega)) (fun z => ⟨v192, go _ ?_⟩) (fun z => ⟨v192, go _ ?_⟩)⟩
      · rw [decide_eq_false (by omega)]; decide
      · rw [decide_eq_true (by omega)]; decide
  exact loop 0 (by omega) h (Fr.refl h) rfl rfl rfl wi.2.2.2 (fun k hk => by omega)
def fWp (i : Nat) (c j : Nat) : Bool := fPk c j || fWa i c j
theorem srcC_wp (c j : Nat) (e : isSrcC c j = true) : fWp i c j = false := by
  unfold fWp
  rw [srcC_pk c j e, srcC_wa c j e]; rfl
theorem pk_wp (c j : Nat) (h : fWp i c j = false) : fPk c j = false := by
  unfold fWp at h
  simp only [Bool.or_eq_false_iff] at h
  exact h.1
theorem wa_wp (c j : Nat) (h : fWp i c j = false) : fWa i c j = false := by
  unfold fWp at h
  simp only [Bool.or_eq_false_iff] at h
  exact h.2
theorem WIp.fr {l : List (Nat × Bool)} {c m : Nat} {h' : Hp} {X : Nat → Nat → Bool} (a : WIp i l c m h) (f : Fr X h h') (hx : ∀ c j, 41 ≤ c → c ≤ 45 → X c j = false) : WIp i l c m h' := by
  unfold WIp
  rw [f.f 41 (fun j => hx 41 j (by decide) (by decide)), f.f 42 (fun j => hx 42 j (by decide) (by decide)), f.f 43 (fun j => hx 43 j (by decide) (by decide)), f.f 44 (fun j => hx 44 j (by decide) (by decide)), f.f 45 (fun j => hx 45 j (by decide) (by decide))]
  exact a
theorem pk_41 (c j : Nat) (h1 : 41 ≤ c) (h2 : c ≤ 45) : fPk c j = false := by
  unfold fPk
  simp only [Bool.or_eq_false_iff, Bool.and_eq_false_iff, decide_eq_false_iff_not, beq_eq_false_iff_ne]
  omega
theorem c_words (w : Wf D) (ws : WfS D S) (sr0 : CSrc D h) (st : CSt D S h) (hi : i < dI D) (tf : TF0 sr h) (hsr : sr + 25 < 2 ^ 26) (t : ∀ h' sr', Fr (fWp i) h h' → WI D S i h' → TF0 sr' h' → sr' ≤ sr + 24 → PV h') : SpV E (d + 136) MX8_pack [.ref (eA E 40), .ref (eA E 5), .int (nI i), .int (nI (sM S)), .ref (eA E 32)] h PV := by
  have hI := w.2.2.1
  obtain ⟨l0, l24, hrow⟩ := w.2.2.2.1 i hi
  have vi : vp_in (nI i) 8 := vp_in_nI (by omega) (by decide)
  have md2 := ws.1
  refine wp_X8_pack E (d + 135) _ _ h PV (fun ga => ⟨vi, vi, vi, ?_⟩)
  rw [nI_clamp (by omega), show (24 : Int32) = nI 24 from rfl, pk_mul, show i * 24 = 24 * i by omega]
  have loop : ∀ (f b k : Nat) (pre : List (Nat × Bool)) (c m s1 : Nat) (h1 : Hp), k + f = 24 → k ≤ b → b ≤ dL D i → pre.length ≤ b → c ≤ b → m ≤ 10 → s1 ≤ sr + k → pre ++ wdF D S i f b = wd D S i → c + chF D S i f b = ch D S i → max m (ltF D S i f b) = lt D S i → Fr (fWp i) h h1 → WIp i pre c m h1 → TF0 s1 h1 → VX8_pack_33 E (d + 135) ga PV (nI i) (nI (sM S)) (nI (24 * i)) (nI b) (nI k) h1 := by
    intro f
    induction f with
    | zero =>
      intro b k pre c m s1 h1 hk hkb hbl hpl hc hm hs e1 e2 e3 fr wi tf1
      refine sg_X8_pack_33 E (d + 135) ga _ _ _ _ _ h1 PV (br_t (nI_le (a := 24) (by omega) (by omega)) (t h1 s1 fr ?_ tf1 (by omega)))
      have e1 : pre ++ [] = wd D S i := e1
      have e2 : c + 0 = ch D S i := e2
      have e3 : max m 0 = lt D S i := e3
      rw [List.append_nil] at e1
      unfold WI
      rw [← e1, ← e2, ← e3, Nat.max_eq_left (Nat.zero_le _)]
      exact wi
    | succ f ih =>
      intro b k pre c m s1 h1 hk hkb hbl hpl hc hm hs e1 e2 e3 fr wi tf1
      have sr1 := sr0.fr fr srcC_wp
      have st1 : CSt D S h1 := st.fr fr rfl (fun _ => rfl)
      have e1 : pre ++ (if b < dL D i then wS D S i b ++ wdF D S i f (sEnd D S i b) else []) = wd D S i := e1
      have e2 : c + (if b < dL D i then depth (wG D S i b) + chF D S i f (sEnd D S i b) else 0) = ch D S i := e2
      have e3 : max m (if b < dL D i then max (pkM (sM S) (wG D S i b)).length (ltF D S i f (sEnd D S i b)) else 0) = lt D S i := e3
      refine sg_X8_pack_33 E (d + 135) ga _ _ _ _ _ h1 PV (br_f (nI_ge (b := 24) (by omega) (by decide)) ⟨vi, ?_⟩)
      rw [nI_clamp (by omega), (sr1.2.2.2 i hi).2.1]
      refine ek_if (nI_leI (by omega) (by omega)) (fun q => ?_) (fun q => ?_)
      · rw [if_neg (by omega)] at e1 e2 e3
        rw [List.append_nil] at e1
        refine t h1 s1 fr ?_ tf1 (by omega)
        unfold WI
        rw [← e1, ← e2, ← e3, Nat.max_eq_left (Nat.zero_le _)]
        exact wi
      · have q : b < dL D i := by omega
        rw [if_pos q] at e1 e2 e3
        have g1 := sEnd_gt D S i b
        have g2 := sEnd_le S q
        have g3 := (ws.2 i hi).2 b q
        obtain ⟨wg, gs⟩ := wG_wf w ws hi q
        refine c_end w sr1 st1 hi q ?_
        rw [nI_add, nI_add, nI_1]
        refine c_pack w sr1 hi g1 g2 g3 md2 tf1 (by omega) (fun h2 s2 f2 pc dp tf2 hs2 pk => ?_)
        have fr2 : Fr (fWp i) h h2 := fr.trans (f2.mono pk_wp)
        have wi2 : WIp i pre c m h2 := wi.fr f2 pk_41
        have gs' : gS (sgm D i b (sEnd D S i b)) = sEnd D S i b - b := rfl
        refine c_add w (sr0.fr fr2 srcC_wp) hi (by omega) (by omega) pk pc dp wi2 (by omega) (by omega) (by omega) (fun h3 f3 wi3 => ?_)
        have dle : depth (sgm D i b (sEnd D S i b)) ≤ gS (sgm D i b (sEnd D S i b)) := depth_le
        have ple := pk.2.1
        refine ih (sEnd D S i b) (k + 1) _ _ _ s2 h3 (by omega) (by omega) g2 ?_ (by omega) (by omega) (by omega) ?_ ?_ ?_ (fr2.trans (f3.mono wa_wp)) wi3 (tf2.fr f3 rfl (fun _ => rfl))
        · rw [List.length_append, mkW_len]; omega
        · rw [List.append_assoc]; exact e1
        · rw [Nat.add_assoc]; exact e2
        · rw [Nat.max_assoc]; exact e3
  refine loop 24 0 0 [] 0 0 sr _ (by decide) (Nat.le_refl _) (by omega) (Nat.le_refl _) (Nat.le_refl _) (by decide) (by omega) rfl (Nat.zero_add _) (Nat.max_eq_right (Nat.zero_le _)) ?_ ?_ ?_
  · exact (((Fr.refl h).si (by simp [fWp, fWa])).si (by simp [fWp, fWa])).si (by simp [fWp, fWa])
  · refine ⟨?_, ?_, ?_, fun n hn => by cases hn⟩
    · rw [sI_n _ _ _ _ (by decide), sI_n _ _ _ _ (by decide), sI_at]; rfl
    · rw [sI_n _ _ _ _ (by decide), sI_at]; rfl
    · rw [sI_at]; rfl
  · exact tf.fr ((((Fr.refl h).si (S := fun c _ => c == 41 || c == 42 || c == 43) rfl).si rfl).si rfl) rfl (fun _ => rfl)
end WDC
