/-! packing by a list and one by one, in the reference -/
/-- the operations at some positions -/
def opF (D : SD) (i b w : Nat) : Nat → Nat
  | 0 => 0
  | n + 1 => opF D i b w n ||| (if w.testBit n then 2 ^ dR D i (b + n) else 0)
theorem opF_lt {D : SD} {i b w : Nat} : ∀ n, (∀ p, p < n → dR D i (b + p) < dN D) → opF D i b w n < 2 ^ dN D
  | 0, _ => Nat.two_pow_pos _
  | n + 1, h => by
    show opF D i b w n ||| _ < _
    refine or_lt (opF_lt n (fun p hp => h p (by omega))) ?_
    cases w.testBit n with
    | true => exact p2_lt (h n (by omega))
    | false => exact Nat.two_pow_pos _
section LSR
variable {E : En} {d : Nat} {D : SD} {g : SG} {h : Hp} {P : Int32 → Hp → Prop} {PV : Hp → Prop} {i b m : Nat}
/-- the segment that the reference holds lies at b in instruction i -/
def AtR (D : SD) (i b : Nat) (g : SG) (h : Hp) : Prop := h.1 63 8 = nI i ∧ h.1 63 9 = nI b ∧ SegR g h ∧ RSrc D h ∧ i < dI D ∧ b + gS g ≤ dL D i
def fWd (c j : Nat) : Bool := c == 74 || c == 75 || (c == 63 && j == 21)
theorem srcR_wd (c j : Nat) (e : isSrcR c j = true) : fWd c j = false := by
  unfold isSrcR at e
  unfold fWd
  simp only [Bool.or_eq_true, Bool.and_eq_true, beq_iff_eq] at e
  simp only [Bool.or_eq_false_iff, beq_eq_false_iff_ne, Bool.and_eq_false_iff]
  omega
theorem AtR.wd {h' : Hp} (a : AtR D i b g h) (f : Fr fWd h h') : AtR D i b g h' := by
  obtain ⟨a1, a2, a3, a4, a5, a6⟩ := a
  exact ⟨by rw [f.i 63 8 rfl]; exact a1, by rw [f.i 63 9 rfl]; exact a2, a3.fr f rfl (fun _ => rfl) (fun _ => rfl) (fun _ => rfl), a4.fr f srcR_wd, a5, a6⟩
/-- some words more, from place m on -/
def WApp (h : Hp) (m : Nat) (l : List Nat) (h' : Hp) : Prop := Fr fWd h h' ∧ h'.1 63 21 = nI (m + l.length) ∧ (∀ k, k < l.length → h'.1 74 (m + k) = nI (l.getD k 0) ∧ h'.1 75 (m + k) = 0) ∧ ∀ j, j < m → h'.1 74 j = h.1 74 j ∧ h'.1 75 j = h.1 75 j
theorem WApp.nil (e : h.1 63 21 = nI m) : WApp h m [] h := ⟨Fr.refl h, e, fun k hk => (by cases hk), fun _ _ => ⟨rfl, rfl⟩⟩
theorem WApp.one {x : Nat} {l : List Nat} {h1 : Hp} (a : WApp h m l h1) : WApp h m (l ++ [x]) (sI (sI (sI h1 74 (m + l.length) (nI x)) 75 (m + l.length) (0 : Int32)) 63 21 (nI (m + l.length + 1))) := by
  obtain ⟨a1, a2, a3, a4⟩ := a
  have rr : ∀ c, c ≠ 63 → ∀ q, q ≠ m + l.length → (sI (sI (sI h1 74 (m + l.length) (nI x)) 75 (m + l.length) (0 : Int32)) 63 21 (nI (m + l.length + 1))).1 c q = h1.1 c q := by
    intro c hc q hq
    rw [sI_n _ _ _ _ hc, sI_j hq, sI_j hq]
  refine ⟨((a1.si rfl).si rfl).si rfl, by rw [sI_at, List.length_append]; rfl, fun k hk => ?_, fun j hj => ?_⟩
  · rw [List.length_append] at hk
    have hk : k < l.length + 1 := hk
    by_cases z : k = l.length
    · subst z
      rw [sI_n _ _ _ _ (show 74 ≠ 63 by decide), sI_n _ _ _ _ (show 74 ≠ 75 by decide), sI_at, sI_n _ _ _ _ (show 75 ≠ 63 by decide), sI_at, getD_app1]
      exact ⟨rfl, rfl⟩
    · rw [rr 74 (by decide) _ (by omega), rr 75 (by decide) _ (by omega), getD_app (by omega)]
      exact a3 k (by omega)
  · rw [rr 74 (by decide) _ (by omega), rr 75 (by decide) _ (by omega)]
    exact a4 j hj
theorem r_word {x : Nat} (w : Wf D) (wg : WfG g) (a : AtR D i b g h) (hx : x < 2 ^ gS g) (hm : h.1 63 21 = nI m) (hm2 : m < 192) (t : PV (sI (sI (sI h 74 m (nI (opF D i b x (gS g)))) 75 m (0 : Int32)) 63 21 (nI (m + 1)))) : SpV E (d + 1) MX10_laysWord [.ref (eA E 63), .int (nI x)] h PV := by
  obtain ⟨a1, a2, a3, a4, a5, a6⟩ := a
  have hN := w.1
  have p10 := p2_10 wg.2.1
  have hrow := (w.2.2.2.1 i a5).2.2
  refine wp_X10_laysWord E d _ h PV (fun ga => ?_)
  have loop : ∀ n, n ≤ gS g → VX10_laysWord_4 E d ga PV (nI x) (nI (opF D i b x n)) (nI n) h := by
    refine up_ind _ ?_ ?_
    · refine sg_X10_laysWord_4 E d ga _ _ _ h PV ?_
      rw [a3.1, hm, nI_clamp (by omega), nI_1]
      have v : vp_in (nI m) 192 := vp_in_nI hm2 (by decide)
      exact br_t (nI_le (Nat.le_refl _) (by have := wg.2.1; omega)) ⟨v, v, t⟩
    · intro n hn ih
      have w2 := wg.2.1
      have hR := hrow (b + n) (by omega)
      have e1 : opF D i b x (n + 1) = opF D i b x n ||| (if x.testBit n then 2 ^ dR D i (b + n) else 0) := rfl
      refine sg_X10_laysWord_4 E d ga _ _ _ h PV ?_
      rw [a3.1, a1, a2, nI_1, nI_add]
      refine br_f (nI_ge hn (by omega)) (bj_if (bitB (by omega) (by omega)) (fun z => ?_) (fun z => ?_))
      · rw [show (0 : Int32) = nI 0 from rfl, nI_or]
        rw [ts_nt' z] at e1
        rw [← show opF D i b x (n + 1) = opF D i b x n ||| 0 from e1]
        exact ih
      · refine r_at w a4 a5 (by omega) ?_
        rw [sh1 _ (by omega), nI_or]
        rw [z] at e1
        rw [← show opF D i b x (n + 1) = opF D i b x n ||| 2 ^ dR D i (b + n) from e1]
        exact ih
  exact loop 0 (by omega)
theorem r_list (w : Wf D) (wg : WfG g) (a : AtR D i b g h) (hm : h.1 63 21 = nI m) (hm2 : m + gS g ≤ 192) (t : ∀ h', WApp h m ((lsP g (gS g) 0).map (fun x => opF D i b x (gS g))) h' → PV h') : SpV E (d + 2) MX10_packsByList [.ref (eA E 63)] h PV := by
  obtain ⟨w1, w2, w3⟩ := id wg
  have p10 := p2_10 w2
  refine wp_X10_packsByList E (d + 1) h PV (fun ga => ?_)
  have outer : ∀ (f : Nat) (pre : List Nat) (done : Nat) (h1 : Hp), lft g done ≤ f → pre.length + f ≤ gS g → done < 2 ^ gS g → pre ++ lsP g f done = lsP g (gS g) 0 → WApp h m (pre.map (fun x => opF D i b x (gS g))) h1 → VX10_packsByList_2 E (d + 1) ga PV (nI done) h1 := by
    intro f
    induction f with
    | zero =>
      intro pre done h1 hf hl hd he ap
      have a1 := a.wd ap.1
      refine sg_X10_packsByList_2 E (d + 1) ga _ h1 PV ?_
      rw [a1.2.2.1.1, allI w2]
      refine br_t (by rw [lft_0 hd (by omega)]; rfl) (t h1 ?_)
      rw [← he]
      show WApp h m ((pre ++ []).map _) h1
      rw [List.append_nil]
      exact ap
    | succ f ih =>
      intro pre done h1 hf hl hd he ap
      have a1 := a.wd ap.1
      have he : pre ++ (if done = gA g then [] else lwF g done (gS g) :: lsP g f (done ||| lwF g done (gS g))) = _ := he
      refine sg_X10_packsByList_2 E (d + 1) ga _ h1 PV ?_
      rw [a1.2.2.1.1, allI w2]
      refine ek_if (nI_eq (by omega) (by omega)) (fun q => ?_) (fun q => ?_)
      · have q : done = gA g := q
        rw [if_pos q, List.append_nil] at he
        rw [← he] at t
        exact t h1 ap
      · have q : ¬ done = gA g := q
        rw [if_neg q] at he
        obtain ⟨pp, k1, k2, k3⟩ := lw_prog wg hd q
        have inner : ∀ p, p ≤ gS g → ∀ us : Nat, us < 2 ^ 6 → (∀ x, us.testBit x = true ↔ ∃ r, r < p ∧ (lwF g done p).testBit r = true ∧ gU g r = x) → VX10_packsByList_21 E (d + 1) ga PV (nI done) (nI (lwF g done p)) (nI us) (nI p) h1 := by
          refine up_ind _ ?_ ?_
          · intro us hu hus
            refine sg_X10_packsByList_21 E (d + 1) ga _ _ _ _ h1 PV ?_
            rw [a1.2.2.1.1]
            have e21 := ap.2.1
            rw [List.length_map] at e21
            refine br_t (nI_le (Nat.le_refl _) (by omega)) (r_word w wg a1 (lwF_lt g done (gS g)) e21 (by omega) ?_)
            rw [nI_or]
            have lt := lft_lt k1 k2 k3
            refine ih (pre ++ [lwF g done (gS g)]) _ _ (by omega) (by rw [List.length_append]; show _ + 1 + _ ≤ _; omega) (or_lt hd (lwF_lt g done (gS g))) (by rw [List.append_assoc]; exact he) ?_
            have := ap.one (x := opF D i b (lwF g done (gS g)) (gS g))
            rw [List.length_map] at this
            rw [List.map_append]
            exact this
          · intro p hp ihp us hu hus
            have lw := lwF_lt g done p
            have lw2 : lwF g done p < 2 ^ gS g := Nat.lt_trans lw (p2_lt hp)
            obtain ⟨u6, x, y⟩ := w3 p hp
            obtain ⟨s1, s2, s3⟩ := a1.2.2.1.2 p hp
            have hx : gX g p < 2 ^ 31 := Nat.lt_trans x (p2_lt (by omega))
            have hy : gW g p < 2 ^ 31 := Nat.lt_trans y (p2_lt (by omega))
            have vp : vp_in (nI p) 10 := vp_in_nI (by omega) (by decide)
            have e1 : lwF g done (p + 1) = if okL g done (lwF g done p) p then lwF g done p ||| 2 ^ p else lwF g done p := rfl
            have no : okL g done (lwF g done p) p = false → VX10_packsByList_21 E (d + 1) ga PV (nI done) (nI (lwF g done p)) (nI us) (nI (p + 1)) h1 := by
              intro z
              rw [z] at e1
              have e1 : lwF g done (p + 1) = lwF g done p := e1
              rw [← e1]
              refine ihp us hu (fun x => (hus x).trans ⟨fun ⟨r, r1, r2, r3⟩ => ⟨r, by omega, by rw [e1]; exact r2, r3⟩, fun ⟨r, r1, r2, r3⟩ => ?_⟩)
              rw [e1] at r2
              rcases Nat.lt_or_ge r p with v | v
              · exact ⟨r, v, r2, r3⟩
              · rw [tb_lt lw v] at r2; cases r2
            have euf : (us.testBit (gU g p) = false) ↔ uFr g (lwF g done p) p = true := by
              unfold uFr
              rw [decide_eq_true_iff]
              constructor
              · intro z r r1 r2 r3
                rw [(hus (gU g p)).mpr ⟨r, r1, r2, r3⟩] at z; cases z
              · intro z
                apply ts_nt'
                intro v
                obtain ⟨r, r1, r2, r3⟩ := (hus _).mp v
                exact z r r1 r2 r3
            refine sg_X10_packsByList_21 E (d + 1) ga _ _ _ _ h1 PV ?_
            rw [a1.2.2.1.1, nI_clamp (by omega), s1, s2, s3, nI_1, nI_or, nI_dif, nI_dif, sh1 p (by omega), sh1 (gU g p) (by omega), nI_or, nI_or]
            refine br_f (nI_ge hp (by omega)) (bj_if (bitB0 (by omega) (by omega)) (fun z => bq_t rfl (no ?_)) (fun z => ⟨vp, bj_if (nI0 (Nat.lt_of_le_of_lt (dif_le _ _) hx)) (fun v => bq_t rfl (no ?_)) (fun v => ⟨vp, bj_if (nI0 (Nat.lt_of_le_of_lt (dif_le _ _) hy)) (fun u => bq_t rfl (no ?_)) (fun u => ⟨vp, bj_if (bitB0 (by omega) (by omega)) (fun s => bq_t rfl (no ?_)) (fun s => bq_f (by decide) ⟨vp, ?_⟩)⟩)⟩)⟩))
            · unfold okL; rw [ts_nf' z]; rfl
            · unfold okL; rw [decide_eq_false v, Bool.and_false]; rfl
            · unfold okL; rw [decide_eq_false u, Bool.and_false]; rfl
            · unfold okL
              rw [show uFr g (lwF g done p) p = false from ts_nt' (fun v => s (euf.mpr v)), Bool.and_false]
            · have ok : okL g done (lwF g done p) p = true := by
                unfold okL
                rw [z, decide_eq_true v, decide_eq_true u, euf.mp s]; rfl
              rw [ok] at e1
              have e1 : lwF g done (p + 1) = lwF g done p ||| 2 ^ p := e1
              rw [← e1]
              refine ihp _ (or_lt hu (p2_lt u6)) (fun x => ?_)
              rw [Nat.testBit_or, p2_bit, e1]
              constructor
              · intro q
                simp only [Bool.or_eq_true, decide_eq_true_eq] at q
                rcases q with q | q
                · obtain ⟨r, r1, r2, r3⟩ := (hus x).mp q
                  exact ⟨r, by omega, by rw [Nat.testBit_or, r2]; rfl, r3⟩
                · exact ⟨p, by omega, by rw [Nat.testBit_or, p2_bit, decide_eq_true rfl, Bool.or_true], q⟩
              · intro ⟨r, r1, r2, r3⟩
                simp only [Bool.or_eq_true, decide_eq_true_eq]
                rw [Nat.testBit_or, p2_bit] at r2
                by_cases q : p = r
                · right; rw [q]; exact r3
                · rw [decide_eq_false q, Bool.or_false] at r2
                  exact Or.inl ((hus x).mpr ⟨r, by omega, r2, r3⟩)
        exact inner 0 (by omega) 0 (by decide) (fun x => by
          rw [Nat.zero_testBit]
          exact ⟨fun q => (by cases q), fun ⟨r, r1, _⟩ => (by omega)⟩)
  exact outer (gS g) [] 0 h (lft_le g 0) (by show 0 + _ ≤ _; omega) (Nat.two_pow_pos _) rfl (WApp.nil hm)
end LSR
