/-! packing by a list, in both; one by one -/
def gA (g : SG) : Nat := 2 ^ gS g - 1
theorem gA_bit (g : SG) (p : Nat) : (gA g).testBit p = decide (p < gS g) := Nat.testBit_two_pow_sub_one ..
theorem gA_lt (g : SG) : gA g < 2 ^ gS g := by have := Nat.two_pow_pos (gS g); unfold gA; omega
theorem eq_all {g : SG} {x : Nat} (h : x < 2 ^ gS g) (a : ∀ p, p < gS g → x.testBit p = true) : x = gA g := by
  apply Nat.eq_of_testBit_eq
  intro p
  rw [gA_bit]
  by_cases q : p < gS g
  · rw [a p q, decide_eq_true q]
  · rw [tb_lt h (by omega), decide_eq_false q]
theorem not_all {g : SG} {x : Nat} (h : x < 2 ^ gS g) (a : x ≠ gA g) : ∃ p, p < gS g ∧ x.testBit p = false ∧ ∀ q, q < p → x.testBit q = true := by
  have : ∃ p, p < gS g ∧ x.testBit p = false := by
    apply Classical.byContradiction
    intro n
    apply a
    exact eq_all h (fun p hp => Classical.byContradiction (fun z => n ⟨p, hp, ts_nt' z⟩))
  obtain ⟨p, h1, h2, h3⟩ := fb_first this
  exact ⟨p, h1, h2, fun q hq => ts_nf' (h3 q hq)⟩
def uFr (g : SG) (w p : Nat) : Bool := decide (∀ q, q < p → (w.testBit q = true → gU g q ≠ gU g p))
def okL (g : SG) (done w p : Nat) : Bool := !done.testBit p && decide (dif (gX g p) done = 0) && decide (dif (gW g p) (done ||| w) = 0) && uFr g w p
def lwF (g : SG) (done : Nat) : Nat → Nat
  | 0 => 0
  | n + 1 => if okL g done (lwF g done n) n then lwF g done n ||| 2 ^ n else lwF g done n
theorem lwF_lt (g : SG) (done : Nat) : ∀ n, lwF g done n < 2 ^ n
  | 0 => by show 0 < 1; decide
  | n + 1 => by
    have h1 := lwF_lt g done n
    have h2 : (2 : Nat) ^ n < 2 ^ (n + 1) := p2_lt (Nat.lt_succ_self n)
    show (if okL g done (lwF g done n) n then lwF g done n ||| 2 ^ n else lwF g done n) < _
    cases okL g done (lwF g done n) n with
    | true => exact or_lt (Nat.lt_trans h1 h2) h2
    | false => exact Nat.lt_trans h1 h2
theorem lwF_keep (g : SG) (done p : Nat) {n : Nat} (h : (lwF g done n).testBit p = true) : ∀ k, (lwF g done (n + k)).testBit p = true
  | 0 => h
  | k + 1 => by
    show (if okL g done (lwF g done (n + k)) (n + k) then lwF g done (n + k) ||| 2 ^ (n + k) else lwF g done (n + k)).testBit p = true
    cases okL g done (lwF g done (n + k)) (n + k) with
    | true => show Nat.testBit (_ ||| _) p = true; rw [Nat.testBit_or, lwF_keep g done p h k]; rfl
    | false => exact lwF_keep g done p h k
theorem lwF_not (g : SG) (done : Nat) : ∀ n p, (lwF g done n).testBit p = true → done.testBit p = false
  | 0, p, h => by rw [show lwF g done 0 = 0 from rfl, Nat.zero_testBit] at h; cases h
  | n + 1, p, h => by
    have h : (if okL g done (lwF g done n) n then lwF g done n ||| 2 ^ n else lwF g done n).testBit p = true := h
    cases hk : okL g done (lwF g done n) n with
    | false => rw [hk] at h; exact lwF_not g done n p h
    | true =>
      rw [hk] at h
      have h : (lwF g done n ||| 2 ^ n).testBit p = true := h
      rw [Nat.testBit_or, p2_bit] at h
      by_cases q : n = p
      · subst q
        unfold okL at hk
        simp only [Bool.and_eq_true, Bool.not_eq_true'] at hk
        exact hk.1.1.1
      · rw [decide_eq_false q, Bool.or_false] at h
        exact lwF_not g done n p h
theorem sub_done {a done p : Nat} (ha : a < 2 ^ p) (h : ∀ q, q < p → done.testBit q = true) : dif a done = 0 := by
  rw [dif_0]
  intro i hi
  rcases Nat.lt_or_ge i p with q | q
  · exact h i q
  · rw [tb_lt ha q] at hi; cases hi
theorem lw_prog {g : SG} (w : WfG g) {done : Nat} (h : done < 2 ^ gS g) (a : done ≠ gA g) : ∃ p, p < gS g ∧ done.testBit p = false ∧ (lwF g done (gS g)).testBit p = true := by
  obtain ⟨p, h1, h2, h3⟩ := not_all h a
  obtain ⟨-, x, y⟩ := w.2.2 p h1
  refine ⟨p, h1, h2, ?_⟩
  have z : ∀ q, q < p → (lwF g done p).testBit q = false := fun q hq => ts_nt' (fun z => by
    have := lwF_not g done p q z
    rw [h3 q hq] at this; cases this)
  have ok : okL g done (lwF g done p) p = true := by
    unfold okL
    rw [h2, decide_eq_true (sub_done x h3), decide_eq_true (sub_done y (fun q hq => by rw [Nat.testBit_or, h3 q hq]; rfl))]
    show uFr g (lwF g done p) p = true
    exact decide_eq_true (fun q hq e => by rw [z q hq] at e; cases e)
  have b : (lwF g done (p + 1)).testBit p = true := by
    show (if okL g done (lwF g done p) p then lwF g done p ||| 2 ^ p else lwF g done p).testBit p = true
    rw [ok]
    show Nat.testBit (_ ||| _) p = true
    rw [Nat.testBit_or, p2_bit, decide_eq_true rfl, Bool.or_true]
  have := lwF_keep g done p b (gS g - (p + 1))
  rw [show p + 1 + (gS g - (p + 1)) = gS g by omega] at this
  exact this
def lsP (g : SG) : Nat → Nat → List Nat
  | 0, _ => []
  | f + 1, done => if done = gA g then [] else lwF g done (gS g) :: lsP g f (done ||| lwF g done (gS g))
theorem lsP_len (g : SG) : ∀ f done, (lsP g f done).length ≤ f
  | 0, _ => Nat.le_refl 0
  | f + 1, done => by
    show (if done = gA g then [] else lwF g done (gS g) :: lsP g f (done ||| lwF g done (gS g))).length ≤ f + 1
    by_cases q : done = gA g
    · rw [if_pos q]; exact Nat.zero_le _
    · rw [if_neg q]
      have := lsP_len g f (done ||| lwF g done (gS g))
      show _ + 1 ≤ _
      omega
theorem lsP_mem (g : SG) : ∀ f done x, x ∈ lsP g f done → x < 2 ^ gS g
  | 0, _, _, h => by cases h
  | f + 1, done, x, h => by
    have h : x ∈ (if done = gA g then [] else lwF g done (gS g) :: lsP g f (done ||| lwF g done (gS g))) := h
    by_cases q : done = gA g
    · rw [if_pos q] at h; cases h
    · rw [if_neg q, List.mem_cons] at h
      rcases h with rfl | h
      · exact lwF_lt g done (gS g)
      · exact lsP_mem g f _ x h
/-- how many positions are left -/
def lft (g : SG) (done : Nat) : Nat := fb_ct (fun p => !done.testBit p) (gS g)
theorem lft_lt {g : SG} {done w p : Nat} (hp : p < gS g) (h1 : done.testBit p = false) (h2 : w.testBit p = true) : lft g (done ||| w) < lft g done := by
  have key : ∀ n, n ≤ gS g → fb_ct (fun p => !(done ||| w).testBit p) n ≤ fb_ct (fun p => !done.testBit p) n ∧ (p < n → fb_ct (fun p => !(done ||| w).testBit p) n < fb_ct (fun p => !done.testBit p) n) := by
    intro n
    induction n with
    | zero => intro _; exact ⟨Nat.le_refl _, fun h => by omega⟩
    | succ n ih =>
      intro hn
      obtain ⟨a, b⟩ := ih (by omega)
      rw [fb_ct_succ, fb_ct_succ]
      have m : (if (!(done ||| w).testBit n) = true then 1 else 0) ≤ (if (!done.testBit n) = true then 1 else 0) := by
        rw [Nat.testBit_or]
        cases done.testBit n <;> cases w.testBit n <;> decide
      refine ⟨by omega, fun hpn => ?_⟩
      rcases Nat.lt_or_ge p n with q | q
      · have := b q; omega
      · obtain rfl : p = n := by omega
        have : (if (!(done ||| w).testBit p) = true then 1 else 0) < (if (!done.testBit p) = true then 1 else 0) := by
          rw [Nat.testBit_or, h1, h2]; decide
        omega
  exact (key (gS g) (Nat.le_refl _)).2 hp
theorem lft_0 {g : SG} {done : Nat} (h : done < 2 ^ gS g) (a : lft g done = 0) : done = gA g := by
  refine eq_all h (fun p hp => ?_)
  have := fb_ct_zero.mp a p hp
  cases hb : done.testBit p with
  | true => rfl
  | false => rw [hb] at this; cases this
theorem lft_le (g : SG) (done : Nat) : lft g done ≤ gS g := fb_ct_le _ _
section LST
variable {E : En} {d : Nat} {g : SG} {h : Hp} {P : Int32 → Hp → Prop} {PV : Hp → Prop}
theorem p2_10 {s : Nat} (h : s ≤ 10) : 2 ^ s ≤ 1024 := Nat.pow_le_pow_right (n := 2) (by decide) h
theorem allI {s : Nat} (h : s ≤ 10) : ((1 : Int32) <<< (nI s &&& 31)) - (1 : Int32) = nI (2 ^ s - 1) := by
  rw [sh1 s (by omega), show (1 : Int32) = nI 1 from rfl, pk_sub (Nat.two_pow_pos s)]
def mayE (g : SG) (packed word p : Nat) : Bool := !(packed ||| word).testBit p && decide (dif (gX g p) packed = 0) && decide (ofU g (gU g p) &&& word = 0)
theorem and_0 {a b : Nat} : a &&& b = 0 ↔ ∀ i, a.testBit i = true → b.testBit i = false := by
  constructor
  · intro h i hi
    have := Nat.testBit_and a b i
    rw [h, Nat.zero_testBit, hi] at this
    cases hb : b.testBit i with
    | false => rfl
    | true => rw [hb] at this; cases this
  · intro h
    apply Nat.eq_of_testBit_eq
    intro i
    rw [Nat.testBit_and, Nat.zero_testBit]
    cases ha : a.testBit i with
    | false => rfl
    | true => rw [h i ha]; rfl
theorem nI0 {n : Nat} (h : n < 2 ^ 31) : nI n = 0 ↔ n = 0 := nI_eq (b := 0) h (by decide)
theorem c_may {p packed word : Nat} (w : WfG g) (sg : SegC g h) (hp : p < gS g) (h1 : packed < 2 ^ gS g) (h2 : word < 2 ^ gS g) (t : P (b2i (mayE g packed word p)) h) : SpI E d MX4_mayEnter [.ref (eA E 32), .int (nI p), .int (nI packed), .int (nI word)] h P := by
  obtain ⟨w1, w2, w3⟩ := w
  obtain ⟨u6, x, y⟩ := w3 p hp
  have p10 := p2_10 w2
  obtain ⟨s1, s2, s3⟩ := sg.2.1 p hp
  have hx : gX g p < 2 ^ 31 := Nat.lt_trans x (p2_lt (by omega))
  have vp : vp_in (nI p) 10 := vp_in_nI (by omega) (by decide)
  unfold mayE at t
  refine wp_X4_mayEnter E d _ _ _ h P ?_
  rw [nI_clamp (by omega), s1, s2, nI_clamp (by omega), sg.2.2 _ u6, nI_or, nI_dif, nI_and]
  refine bj_if (bitA (by omega)) (fun z => ?_) (fun z => ⟨vp, bj_if (nI0 (Nat.lt_of_le_of_lt (dif_le _ _) hx)) (fun y => ?_) (fun y => ⟨vp, vp_in_nI u6 (by decide), bj_if (nI0 (Nat.lt_of_le_of_lt Nat.and_le_right (by omega))) (fun v => ?_) (fun v => ?_)⟩)⟩)
  · rw [ts_nf' z] at t; exact t
  · rw [z, decide_eq_false y] at t; exact t
  · rw [z, decide_eq_true y, decide_eq_false v] at t; exact t
  · rw [z, decide_eq_true y, decide_eq_true v] at t; exact t
theorem ofU_0 {p word : Nat} (h2 : word < 2 ^ p) (hp : p < gS g) : ofU g (gU g p) &&& word = 0 ↔ uFr g word p = true := by
  rw [and_0]
  unfold ofU uFr
  rw [decide_eq_true_iff]
  constructor
  · intro a q hq e z
    have := a q (by rw [mskF_bit, decide_eq_true (by omega), decide_eq_true z]; rfl)
    rw [this] at e; cases e
  · intro a q hq
    rw [mskF_bit] at hq
    simp only [Bool.and_eq_true, decide_eq_true_eq] at hq
    apply ts_nt'
    intro e
    rcases Nat.lt_or_ge q p with z | z
    · exact a q z e hq.2
    · rw [tb_lt h2 z] at e; cases e
/-- what a packing leaves -/
def PkdC (l : List Nat) (h : Hp) : Prop := h.1 32 1 = nI l.length ∧ ∀ k, k < l.length → h.1 33 k = nI (l.getD k 0)
def fPl (c j : Nat) : Bool := c == 33 || (c == 32 && j == 1)
theorem getD_app1 {l : List Nat} {x : Nat} : (l ++ [x]).getD l.length 0 = x := by simp [List.getD]
theorem getD_app {l l2 : List Nat} {k : Nat} (h : k < l.length) : (l ++ l2).getD k 0 = l.getD k 0 := by
  simp [List.getD, List.getElem?_append_left h]
theorem c_list (w : WfG g) (sg : SegC g h) (h0 : h.1 32 1 = 0) (t : ∀ h', Fr fPl h h' → PkdC (lsP g (gS g) 0) h' → PV h') : SpV E (d + 1) MX4_packByList [.ref (eA E 32)] h PV := by
  have w' := w
  obtain ⟨w1, w2, w3⟩ := w
  have p10 := p2_10 w2
  refine wp_X4_packByList E d h PV (fun ga => ?_)
  rw [sg.1, allI w2]
  have S1 : ∀ {h'}, Fr fPl h h' → SegC g h' := fun f => sg.fr f rfl (fun _ => rfl) (fun _ => rfl) (fun _ => rfl) (fun _ => rfl)
  have outer : ∀ (f : Nat) (pre : List Nat) (packed : Nat) (h1 : Hp), pre.length + f = gS g → packed < 2 ^ gS g → pre ++ lsP g f packed = lsP g (gS g) 0 → Fr fPl h h1 → PkdC pre h1 → VX4_packByList_13 E d ga PV (nI (2 ^ gS g - 1)) (nI packed) (nI pre.length) h1 := by
    intro f
    induction f with
    | zero =>
      intro pre packed h1 hl hp he fr pk
      have sg1 := S1 fr
      refine sg_X4_packByList_13 E d ga _ _ _ h1 PV ?_
      rw [sg1.1]
      refine br_t (nI_le (by omega) (by omega)) (t h1 fr ?_)
      rw [← he]
      show PkdC (pre ++ []) h1
      rw [List.append_nil]
      exact pk
    | succ f ih =>
      intro pre packed h1 hl hp he fr pk
      have sg1 := S1 fr
      have he : pre ++ (if packed = gA g then [] else lwF g packed (gS g) :: lsP g f (packed ||| lwF g packed (gS g))) = _ := he
      refine sg_X4_packByList_13 E d ga _ _ _ h1 PV ?_
      rw [sg1.1]
      refine br_f (nI_ge (by omega) (by omega)) (ek_if (nI_eq (by omega) (by omega)) (fun q => ?_) (fun q => ?_))
      · have q : packed = gA g := q
        rw [if_pos q, List.append_nil] at he
        rw [← he] at t
        exact t h1 fr pk
      · have q : ¬ packed = gA g := q
        rw [if_neg q] at he
        have inner : ∀ p, p ≤ gS g → VX4_packByList_32 E d ga PV (nI (2 ^ gS g - 1)) (nI packed) (nI pre.length) (nI (lwF g packed p)) (nI p) h1 := by
          refine up_ind _ ?_ ?_
          · refine sg_X4_packByList_32 E d ga _ _ _ _ _ h1 PV ?_
            rw [sg1.1, nI_1, nI_or, nI_clamp (by omega)]
            refine br_t (nI_le (Nat.le_refl _) (by omega)) ⟨vp_in_nI (by omega) (by decide), ?_⟩
            have key := ih (pre ++ [lwF g packed (gS g)]) (packed ||| lwF g packed (gS g)) (sI (sI h1 33 pre.length (nI (lwF g packed (gS g)))) 32 1 (nI (pre.length + 1))) (by rw [List.length_append]; show _ + 1 + _ = _; omega) (or_lt hp (lwF_lt g packed (gS g))) (by rw [List.append_assoc]; exact he) ((fr.si rfl).si rfl) ?_
            · rw [List.length_append] at key; exact key
            · refine ⟨by rw [sI_at, List.length_append]; rfl, fun k hk => ?_⟩
              rw [List.length_append] at hk
              have hk : k < pre.length + 1 := hk
              rw [sI_n _ _ _ _ (by decide)]
              by_cases z : k = pre.length
              · rw [z, sI_at, getD_app1]
              · rw [sI_j z, getD_app (by omega)]
                exact pk.2 k (by omega)
          · intro p hp2 ihp
            have lw := lwF_lt g packed p
            have lw2 : lwF g packed p < 2 ^ gS g := Nat.lt_trans lw (p2_lt hp2)
            obtain ⟨u6, x, y⟩ := w3 p hp2
            obtain ⟨-, -, s3⟩ := sg1.2.1 p hp2
            have hy : gW g p < 2 ^ 31 := Nat.lt_trans y (p2_lt (by omega))
            have e1 : lwF g packed (p + 1) = if okL g packed (lwF g packed p) p then lwF g packed p ||| 2 ^ p else lwF g packed p := rfl
            refine sg_X4_packByList_32 E d ga _ _ _ _ _ h1 PV ?_
            rw [sg1.1]
            refine br_f (nI_ge hp2 (by omega)) (c_may w' sg1 hp2 hp lw2 ?_)
            rw [nI_1, nI_or, nI_clamp (by omega), s3, nI_dif, sh1 _ (by omega), nI_or]
            have em : mayE g packed (lwF g packed p) p = (!packed.testBit p && decide (dif (gX g p) packed = 0) && uFr g (lwF g packed p) p) := by
              unfold mayE
              rw [Nat.testBit_or, tb_lt lw (Nat.le_refl p), Bool.or_false]
              congr 1
              cases hu : uFr g (lwF g packed p) p with
              | true => exact decide_eq_true ((ofU_0 lw hp2).mpr hu)
              | false => exact decide_eq_false (fun z => by rw [(ofU_0 lw hp2).mp z] at hu; cases hu)
            refine ek_if (b2i_0 _) (fun z => ?_) (fun z => ⟨vp_in_nI (by omega) (by decide), bj_if (nI0 (Nat.lt_of_le_of_lt (dif_le _ _) hy)) (fun v => ?_) (fun v => ?_)⟩)
            · have : okL g packed (lwF g packed p) p = false := by
                rw [em] at z
                unfold okL
                rw [Bool.and_right_comm, z]; rfl
              rw [this] at e1
              rw [← show lwF g packed (p + 1) = lwF g packed p from e1]
              exact ihp
            · have : okL g packed (lwF g packed p) p = false := by
                unfold okL
                rw [decide_eq_false v, Bool.and_false]; rfl
              rw [this] at e1
              rw [← show lwF g packed (p + 1) = lwF g packed p from e1]
              exact ihp
            · have : okL g packed (lwF g packed p) p = true := by
                have z := ts_nf' z
                rw [em] at z
                unfold okL
                rw [decide_eq_true v, Bool.and_true]; exact z
              rw [this] at e1
              rw [← show lwF g packed (p + 1) = lwF g packed p ||| 2 ^ p from e1]
              exact ihp
        exact inner 0 (by omega)
  exact outer (gS g) [] 0 h (by show 0 + _ = _; omega) (Nat.two_pow_pos _) rfl (Fr.refl h) ⟨h0, fun k hk => by cases hk⟩
/-- one by one -/
def oneP : Nat → List Nat
  | 0 => []
  | n + 1 => oneP n ++ [2 ^ n]
theorem oneP_len : ∀ n, (oneP n).length = n
  | 0 => rfl
  | n + 1 => by show (oneP n ++ [2 ^ n]).length = _; rw [List.length_append, oneP_len n]; rfl
theorem oneP_mem : ∀ n x, x ∈ oneP n → x < 2 ^ n
  | 0, _, h => by cases h
  | n + 1, x, h => by
    have h : x ∈ oneP n ++ [2 ^ n] := h
    rw [List.mem_append] at h
    rcases h with h | h
    · exact Nat.lt_trans (oneP_mem n x h) (p2_lt (Nat.lt_succ_self n))
    · rw [List.mem_singleton] at h
      rw [h]; exact p2_lt (Nat.lt_succ_self n)
theorem c_one (w : WfG g) (sg : SegC g h) (t : ∀ h', Fr fPl h h' → PkdC (oneP (gS g)) h' → PV h') : SpV E d MX4_packOneByOne [.ref (eA E 32)] h PV := by
  obtain ⟨w1, w2, w3⟩ := w
  refine wp_X4_packOneByOne E d h PV (fun ga => ?_)
  have loop : ∀ p, p ≤ gS g → ∀ h1, Fr fPl h h1 → (∀ k, k < p → h1.1 33 k = nI ((oneP p).getD k 0)) → VX4_packOneByOne_2 E d ga PV (nI p) h1 := by
    refine up_ind _ ?_ ?_
    · intro h1 f a
      refine sg_X4_packOneByOne_2 E d ga _ h1 PV ?_
      rw [f.i 32 3 rfl, sg.1]
      refine br_t (nI_le (Nat.le_refl _) (by omega)) (t _ (f.si rfl) ⟨by rw [sI_at, oneP_len], fun k hk => ?_⟩)
      rw [sI_n _ _ _ _ (by decide)]
      rw [oneP_len] at hk
      exact a k hk
    · intro p hp ih h1 f a
      refine sg_X4_packOneByOne_2 E d ga _ h1 PV ?_
      rw [f.i 32 3 rfl, sg.1, nI_1, nI_clamp (by omega), sh1 _ (by omega)]
      refine br_f (nI_ge hp (by omega)) ⟨vp_in_nI (by omega) (by decide), ih _ (f.si rfl) (fun k hk => ?_)⟩
      show _ = nI ((oneP p ++ [2 ^ p]).getD k 0)
      by_cases z : k = p
      · have := getD_app1 (l := oneP p) (x := 2 ^ p)
        rw [oneP_len] at this
        rw [z, sI_at, this]
      · rw [sI_j z, getD_app (by rw [oneP_len]; omega)]
        exact a k (by omega)
  exact loop 0 (by omega) h (Fr.refl h) (fun k hk => by omega)
end LST
