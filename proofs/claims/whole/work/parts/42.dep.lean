/-! depth, in both -/
section DEP
variable {E : En} {d : Nat} {g : SG} {h : Hp} {P : Int32 → Hp → Prop} {PV : Hp → Prop}
theorem HP_cong {H H2 : Nat → Nat} {p n v : Nat} (e : ∀ q, p < q → q < n → H q = H2 q) (a : HP g H p n v) : HP g H2 p n v := by
  refine ⟨a.1, fun q h1 h2 => ?_, ?_⟩
  · rw [← e q h1 h2]; exact a.2.1 q h1 h2
  · rcases a.2.2 with z | ⟨q, h1, h2, z⟩
    · exact Or.inl z
    · refine Or.inr ⟨q, h1, h2, ?_⟩
      rw [← e q h1 h2]; exact z
theorem HP_step {H : Nat → Nat} {p n v v2 : Nat} (hp : p < n) (a : HP g H p n v) (e : v2 = if (gX g n).testBit p then max v (H n + 1) else if (gW g n).testBit p then max v (H n) else v) : HP g H p (n + 1) v2 := by
  obtain ⟨h1, h2, h3⟩ := a
  have hv : v ≤ v2 := by
    rw [e]
    cases (gX g n).testBit p with
    | true => exact Nat.le_max_left _ _
    | false =>
      cases (gW g n).testBit p with
      | true => exact Nat.le_max_left _ _
      | false => exact Nat.le_refl _
  have lift : v2 = v → (v2 = 1 ∨ ∃ q, p < q ∧ q < n + 1 ∧ (((gX g q).testBit p = true ∧ v2 = H q + 1) ∨ ((gW g q).testBit p = true ∧ v2 = H q))) := by
    intro q
    rcases h3 with z | ⟨q, q1, q2, z⟩
    · exact Or.inl (by omega)
    · refine Or.inr ⟨q, q1, by omega, ?_⟩
      rw [‹v2 = v›]; exact z
  refine ⟨by omega, fun q q1 q2 => ?_, ?_⟩
  · by_cases z : q = n
    · subst z
      refine ⟨fun y => ?_, fun y => ?_⟩
      · rw [e, y]; exact Nat.le_max_right _ _
      · rw [e, y]
        cases (gX g q).testBit p with
        | true => show H q ≤ max _ _; omega
        | false => exact Nat.le_max_right _ _
    · have := h2 q q1 (by omega)
      exact ⟨fun y => Nat.le_trans (this.1 y) hv, fun y => Nat.le_trans (this.2 y) hv⟩
  · cases hX : (gX g n).testBit p with
    | true =>
      rw [hX] at e
      have e : v2 = max v (H n + 1) := e
      rcases Nat.lt_or_ge v (H n + 1) with z | z
      · exact Or.inr ⟨n, hp, by omega, Or.inl ⟨hX, by omega⟩⟩
      · exact lift (by omega)
    | false =>
      rw [hX] at e
      cases hW : (gW g n).testBit p with
      | true =>
        rw [hW] at e
        have e : v2 = max v (H n) := e
        rcases Nat.lt_or_ge v (H n) with z | z
        · exact Or.inr ⟨n, hp, by omega, Or.inr ⟨hW, by omega⟩⟩
        · exact lift (by omega)
      | false =>
        rw [hW] at e
        exact lift e
def fHg (c j : Nat) : Bool := c == 37 || (c == 32 && j == 2)
theorem c_hgt (w : WfG g) (sg : SegC g h) (t : ∀ h' H, Fr fHg h h' → HgOK g H → (∀ p, p < gS g → h'.1 37 p = nI (H p)) → h'.1 32 2 = nI (depth g) → PV h') : SpV E (d + 1) MX4_prepareHeights [.ref (eA E 32)] h PV := by
  obtain ⟨w1, w2, w3⟩ := w
  refine wp_X4_prepareHeights E d h PV (fun ga => ?_)
  rw [sg.1, show (1 : Int32) = nI 1 from rfl, pk_sub w1]
  have outer : ∀ n, n ≤ gS g → ∀ (x : Int32) (h1 : Hp) (H : Nat → Nat) (m : Nat), (n = 0 → x = (-1 : Int32)) → (∀ k, n = k + 1 → x = nI k) → Fr fHg h h1 → (∀ q, n ≤ q → q < gS g → h1.1 37 q = nI (H q) ∧ HP g H q (gS g) (H q) ∧ H q ≤ gS g - q) → h1.1 32 2 = nI m → (∀ q, n ≤ q → q < gS g → H q ≤ m) → (m = 0 ∨ ∃ q, n ≤ q ∧ q < gS g ∧ m = H q) → VX4_prepareHeights_12 E d ga PV x h1 := by
    intro n
    induction n with
    | zero =>
      intro _ x h1 H m hx _ f a e m1 m2
      rw [hx rfl]
      refine sg_X4_prepareHeights_12 E d ga _ h1 PV (br_t (by decide) ?_)
      have hg : HgOK g H := fun p hp => (a p (by omega) hp).2.1
      have em : m = depth g := by
        rw [mxF_is (fun q hq => m1 q (by omega) hq) (m2.imp id (fun ⟨q, _, b, c⟩ => ⟨q, b, c⟩)), depth_eq hg (uV_ok g)]
        rfl
      exact t h1 H f hg (fun p hp => (a p (by omega) hp).1) (by rw [e, em])
    | succ p ih =>
      intro hn x h1 H m _ hx f a e m1 m2
      have hmb : m ≤ 10 := by
        rcases m2 with z | ⟨q, q1, q2, z⟩
        · omega
        · have := (a q q1 q2).2.2; omega
      have sg1 : SegC g h1 := sg.fr f rfl (fun _ => rfl) (fun _ => rfl) (fun _ => rfl) (fun _ => rfl)
      rw [hx p rfl]
      refine sg_X4_prepareHeights_12 E d ga _ h1 PV (br_f (nI_pos (by omega)) ?_)
      rw [nI_1]
      have inner : ∀ n, n ≤ gS g → p + 1 ≤ n → ∀ v, HP g H p n v → v ≤ gS g - p → VX4_prepareHeights_22 E d ga PV (nI p) (nI v) (nI n) h1 := by
        refine up_ind _ ?_ ?_
        · intro _ v hv hb
          refine sg_X4_prepareHeights_22 E d ga _ _ _ h1 PV ?_
          rw [sg1.1, e, nI_max (by omega) (by omega), nI_clamp (by omega)]
          refine br_t (nI_le (Nat.le_refl _) (by omega)) ⟨vp_in_nI (by omega) (by decide), ?_⟩
          refine ih (by omega) _ _ (fun q => if q = p then v else H q) (max m v) (fun q => ?_) (fun k q => ?_) ((f.si rfl).si rfl) (fun q q1 q2 => ?_) (sI_at _ _ _ _) (fun q q1 q2 => ?_) ?_
          · subst q; decide
          · subst q
            exact pk_m1 k
          · rw [sI_n _ _ _ _ (by decide)]
            by_cases z : q = p
            · subst z
              rw [sI_at, if_pos rfl]
              refine ⟨rfl, HP_cong (fun q' h1 _ => ?_) hv, hb⟩
              rw [if_neg (by omega)]
            · rw [sI_j z, if_neg z]
              obtain ⟨b1, b2, b3⟩ := a q (by omega) q2
              refine ⟨b1, HP_cong (fun q' h1 _ => ?_) b2, b3⟩
              rw [if_neg (by omega)]
          · by_cases z : q = p
            · rw [if_pos z]; omega
            · rw [if_neg z]
              have := m1 q (by omega) q2
              omega
          · have := hv.1
            rcases Nat.lt_or_ge m v with z | z
            · exact Or.inr ⟨p, Nat.le_refl _, by omega, by rw [if_pos rfl]; omega⟩
            · rcases m2 with y | ⟨q, q1, q2, y⟩
              · omega
              · exact Or.inr ⟨q, by omega, q2, by rw [if_neg (by omega)]; omega⟩
        · intro n hn2 ihn hpn v hv hb
          obtain ⟨s1, s2, s3⟩ := sg1.2.1 n hn2
          obtain ⟨b1, b2, b3⟩ := a n (by omega) hn2
          have vn : vp_in (nI n) 10 := vp_in_nI (by omega) (by decide)
          refine sg_X4_prepareHeights_22 E d ga _ _ _ h1 PV ?_
          rw [sg1.1, nI_clamp (n := n) (by omega), s2, s3, b1, nI_1, nI_1, nI_max (by omega) (by omega), nI_max (by omega) (by omega)]
          refine br_f (nI_ge hn2 (by omega)) ⟨vn, ek_if (bitA (by omega)) (fun z => ⟨vn, ek_if (bitA (by omega)) (fun y => ?_) (fun y => ⟨vn, ?_⟩)⟩) (fun z => ⟨vn, ?_⟩)⟩
          · exact ihn (by omega) v (HP_step (by omega) hv (by rw [z, y]; rfl)) hb
          · exact ihn (by omega) _ (HP_step (by omega) hv (by rw [z, ts_nf' y]; rfl)) (by omega)
          · exact ihn (by omega) _ (HP_step (by omega) hv (by rw [ts_nf' z]; rfl)) (by omega)
      exact inner (p + 1) (by omega) (Nat.le_refl _) 1 ⟨Nat.le_refl 1, fun q q1 q2 => by omega, Or.inl rfl⟩ (by omega)
  refine outer (gS g) (Nat.le_refl _) _ _ (fun _ => 0) 0 (fun q => by omega) (fun k q => by rw [q]; rfl) ((Fr.refl h).si rfl) (fun q q1 q2 => by omega) (sI_at _ _ _ _) (fun q q1 q2 => by omega) (Or.inl rfl)
def fCh (c _ : Nat) : Bool := c == 73
theorem r_chain (w : WfG g) (sg : SegR g h) (t : ∀ h', Fr fCh h h' → P (nI (depth g)) h') : SpI E (d + 1) MX10_chainOf [.ref (eA E 63)] h P := by
  obtain ⟨w1, w2, w3⟩ := w
  refine wp_X10_chainOf E d h P (fun ga => ?_)
  have mxb : ∀ j, j ≤ gS g → mxF (uV g) j ≤ 10 := by
    intro j hj
    rcases mxF_at (uV g) j with z | ⟨q, q1, e⟩
    · omega
    · have := uV_le g q; omega
  have outer : ∀ j, j ≤ gS g → ∀ h', Fr fCh h h' → (∀ k, k < j → h'.1 73 k = nI (uV g k)) → VX10_chainOf_4 E d ga P (nI (mxF (uV g) j)) (nI j) h' := by
    refine up_ind _ ?_ ?_
    · intro h' f a
      have sg1 : SegR g h' := sg.fr f rfl (fun _ => rfl) (fun _ => rfl) (fun _ => rfl)
      refine sg_X10_chainOf_4 E d ga _ _ h' P ?_
      rw [sg1.1]
      exact br_t (nI_le (Nat.le_refl _) (by omega)) (t h' f)
    · intro j hj ih h' f a
      have sg1 : SegR g h' := sg.fr f rfl (fun _ => rfl) (fun _ => rfl) (fun _ => rfl)
      have vj : vp_in (nI j) 1024 := vp_in_nI (by omega) (by decide)
      have vj10 : vp_in (nI j) 10 := vp_in_nI (by omega) (by decide)
      refine sg_X10_chainOf_4 E d ga _ _ h' P ?_
      rw [sg1.1, nI_clamp (by omega)]
      refine br_f (nI_ge hj (by omega)) ⟨vj, ?_⟩
      have ub : ∀ k, k ≤ j → umx g (uV g) j k ≤ 11 := by
        intro k hk
        rcases (umx_UP g (uV g) j k).2.2 with z | ⟨q, q1, z⟩
        · omega
        · have := uV_le g q
          rcases z with ⟨_, e⟩ | ⟨_, e⟩ <;> omega
      have inner : ∀ k, k ≤ j → ∀ h2, Fr fCh h h2 → (∀ q, q < j → h2.1 73 q = nI (uV g q)) → h2.1 73 j = nI (umx g (uV g) j k) → VX10_chainOf_21 E d ga P (nI (mxF (uV g) j)) (nI j) (nI k) h2 := by
        refine up_ind _ ?_ ?_
        · intro h2 f2 a2 e2
          have := mxb j (by omega)
          have := uV_le g j
          refine sg_X10_chainOf_21 E d ga _ _ _ h2 P (br_t (nI_le (Nat.le_refl _) (by omega)) ⟨vj, ?_⟩)
          rw [nI_clamp (by omega), e2, ← uV_eq, nI_max (by omega) (by omega), nI_1]
          refine ih h2 f2 (fun q hq => ?_)
          by_cases z : q = j
          · rw [z, e2, ← uV_eq]
          · exact a2 q (by omega)
        · intro k hk ihk h2 f2 a2 e2
          have sg2 : SegR g h2 := sg.fr f2 rfl (fun _ => rfl) (fun _ => rfl) (fun _ => rfl)
          obtain ⟨s1, s2, s3⟩ := sg2.2 j hj
          obtain ⟨-, gx, gw⟩ := w3 j hj
          have gx : gX g j < 2 ^ 31 := Nat.lt_trans gx (p2_lt (by omega))
          have gw : gW g j < 2 ^ 31 := Nat.lt_trans gw (p2_lt (by omega))
          have vk : vp_in (nI k) 1024 := vp_in_nI (by omega) (by decide)
          have u1 := ub k (by omega)
          have u2 := uV_le g k
          refine sg_X10_chainOf_21 E d ga _ _ _ h2 P (br_f (nI_ge hk (by omega)) ⟨vj10, ?_⟩)
          rw [nI_clamp (n := j) (by omega), nI_clamp (n := k) (by omega), s1, s2, e2, a2 k hk, nI_1, nI_1, nI_max (by omega) (by omega), nI_max (by omega) (by omega)]
          have eu : umx g (uV g) j (k + 1) = if (gX g j).testBit k then max (umx g (uV g) j k) (uV g k + 1) else if (gW g j).testBit k then max (umx g (uV g) j k) (uV g k) else umx g (uV g) j k := rfl
          have fin : ∀ v, v = umx g (uV g) j (k + 1) → VX10_chainOf_21 E d ga P (nI (mxF (uV g) j)) (nI j) (nI (k + 1)) (sI h2 73 j (nI v)) := by
            intro v hv
            refine ihk _ (f2.si rfl) (fun q hq => ?_) (by rw [sI_at, hv])
            rw [sI_j (by omega)]
            exact a2 q hq
          refine bj_if (bitB gx (by omega)) (fun z => ⟨vj10, bj_if (bitB gw (by omega)) (fun y => ?_) (fun y => ⟨vj, vk, vj, fin _ ?_⟩)⟩) (fun z => ⟨vj, vk, vj, fin _ ?_⟩)
          · refine ihk h2 f2 a2 ?_
            rw [e2, eu, ts_nt' z, ts_nt' y]; rfl
          · rw [eu, ts_nt' z, y]; rfl
          · rw [eu, z]; rfl
      refine inner 0 (by omega) _ (f.si rfl) (fun q hq => ?_) (sI_at _ _ _ _)
      rw [sI_j (by omega)]
      exact a q hq
  exact outer 0 (by omega) h (Fr.refl h) (fun k hk => by omega)
end DEP
