/-! obligations: load -/
section LDR
variable {E : En} {d : Nat} {h : Hp} {PV : Hp → Prop}
theorem r_moves {ca cb nca ncb n : Nat} (hca : lay[ca]? = some (.inr (0, nca))) (hcb : lay[cb]? = some (.inr (0, ncb))) (ne : ca ≠ cb) (h1 : n ≤ nca) (h2 : n ≤ ncb) (h3 : nca < 2 ^ 31) (h4 : ncb < 2 ^ 31) (t : ∀ h', Fr (fun c _ => c == cb) h h' → (∀ x, x < n → h'.1 cb x = h.1 ca x) → PV h') : SpV E d MX10_moves [.ref (eA E ca), .ref (eA E cb), .int (nI n)] h PV := by
  refine wp_X10_moves E d ca nca hca cb ncb hcb _ h PV (fun ga => ?_)
  have loop : ∀ k, k ≤ n → ∀ h5, Fr (fun c _ => c == cb) h h5 → (∀ x, x < k → h5.1 cb x = h.1 ca x) → VX10_moves_2 E d ga PV ca cb (nI n) (nI k) h5 := by
    refine up_ind _ ?_ ?_
    · intro h5 f al
      exact sg_X10_moves_2 E d ga ca nca hca cb ncb hcb _ _ h5 PV (br_t (nI_le (Nat.le_refl _) (by omega)) (t h5 f al))
    · intro k hk ih h5 f al
      refine sg_X10_moves_2 E d ga ca nca hca cb ncb hcb _ _ h5 PV (br_f (nI_ge hk (by omega)) ⟨vp_in_nI (by omega) (by omega), vp_in_nI (by omega) (by omega), ?_⟩)
      rw [nI_clamp (by omega), nI_1, f.f ca (fun _ => beq_eq_false_iff_ne.mpr ne)]
      refine ih _ (f.si (by simp)) (fun x hx => ?_)
      by_cases q : x = k
      · rw [q, sI_at]
      · rw [sI_j q]; exact al x (by omega)
  exact loop 0 (Nat.zero_le _) h (Fr.refl h) (fun x hx => absurd hx (Nat.not_lt_zero x))
end LDR
theorem RSrc.eqv {D : SD} {h h' : Hp} (w : Wf D) (a : RSrc D h) (e1 : h'.1 63 1 = h.1 63 1) (e2 : h'.1 63 2 = h.1 63 2) (e64 : ∀ x, x < 60 → h'.1 64 x = h.1 64 x) (e65 : ∀ x, x < 160 → h'.1 65 x = h.1 65 x) (e66 : ∀ x, x < 8 → h'.1 66 x = h.1 66 x) (e67 : ∀ x, x < 192 → h'.1 67 x = h.1 67 x) : RSrc D h' := by
  have hN := w.1
  have hI := w.2.2.1
  obtain ⟨a1, a2, a3, a4, a5, a6⟩ := a
  refine ⟨by rw [e1]; exact a1, by rw [e2]; exact a2, fun m hm => ?_, fun m hm k hk => ?_, fun i hi k hk => ?_, fun i hi => ⟨?_, fun k hk => ?_⟩⟩
  · rw [e64 _ (by omega), e64 _ (by omega), e64 _ (by omega), e64 _ (by omega), e64 _ (by omega)]; exact a3 m hm
  · rw [e65 _ (by omega)]; exact a4 m hm k hk
  · rw [e65 _ (by omega)]; exact a5 i hi k hk
  · rw [e66 _ (by omega)]; exact (a6 i hi).1
  · have := (w.2.2.2.1 i hi).2.1
    rw [e67 _ (by omega)]; exact (a6 i hi).2 k hk
theorem WfK.wf {D : SD} {mks : Nat → Nat} {md : Nat} (w : Wf D) (a : WfK D mks) (hm : md ≤ 2) : WfS D (md, mks) := by
  refine ⟨hm, fun i hi => ⟨(a i hi).1, fun k hk => ?_⟩⟩
  obtain ⟨l0, l24, _⟩ := w.2.2.2.1 i hi
  have le := sEnd_le (md, mks) hk
  rcases (a i hi).2 k hk with q | ⟨e, e1, e2, e3, e4⟩
  · omega
  · rcases Nat.lt_or_ge e (sEnd D (md, mks) i k) with z | z
    · have := (sEnd_is (S := (md, mks)) l24 hk).2 (e - 1) (by omega) (by omega)
      have e4 : (sK (md, mks) i).testBit (e - 1) = true := e4
      rw [this] at e4; cases e4
    · omega
/-- what the reference's load may change -/
def fLd (c j : Nat) : Bool := fPr c j || c == 68 || (93 ≤ c && c ≤ 97) || (c == 63 && (j == 0 || j == 41 || j == 42))
theorem pr_ld (c j : Nat) (q : fLd c j = false) : fPr c j = false := by unfold fLd at q; simp only [Bool.or_eq_false_iff] at q; exact q.1.1.1
theorem mv_ld (cb : Nat) (hc : (93 ≤ cb ∧ cb ≤ 97) ∨ (64 ≤ cb ∧ cb ≤ 68)) (c j : Nat) (q : fLd c j = false) : (fun c _ => c == cb : Nat → Nat → Bool) c j = false := by
  unfold fLd fPr at q
  simp only [Bool.or_eq_false_iff, Bool.and_eq_false_iff, decide_eq_false_iff_not, beq_eq_false_iff_ne] at q ⊢
  omega
/-- the reference loads -/
theorem r_load {E : En} {h : Hp} {T : Tx} {D : SD} {S : ST} {n0 : Nat} {P : Int32 → Hp → Prop} (w : Wf D) (ok : TxOK T) (eT : T.1 = n0) (e41 : h.1 63 41 = nI n0) (eb : ∀ k, h.1 91 k = sb (T.2 k)) (sr : RSrc D h) (st : RSt D S h) (t0 : ∀ c h', pAll T = .inl c → Fr fLd h h' → h'.1 63 41 = 0 → h'.1 63 0 = 0 → RSrc D h' → RSt D S h' → P (-(nI c)) h') (t1 : ∀ D' mks h6, pAll T = .inr (D', mks) → Fr fLd h h6 → h6.1 63 41 = 0 → h6.1 63 0 = 0 → RSrc D' h6 → RMk D' mks h6 → h6.1 68 0 = nI (sM S) → SpV E 199 MX10_laysAll [.ref (eA E 63)] (sI h6 63 33 (0 : Int32)) (fun h13 => P (h13.1 63 2) h13)) : SpI E 200 MX10_load [.ref (eA E 63)] h P := by
  refine wp_X10_load E 199 h P ?_
  rw [e41]
  have f0 : Fr fLd h (sI (sI (sI h 63 0 (0 : Int32)) 63 42 (nI n0)) 63 41 (0 : Int32)) := (((Fr.refl h).si rfl).si rfl).si rfl
  refine r_moves (n := 60) lay_64 lay_93 (by decide) (by decide) (by decide) (by decide) (by decide) (fun h1 f1 m1 => ?_)
  refine r_moves (n := 160) lay_65 lay_94 (by decide) (by decide) (by decide) (by decide) (by decide) (fun h2 f2 m2 => ?_)
  refine r_moves (n := 8) lay_66 lay_95 (by decide) (by decide) (by decide) (by decide) (by decide) (fun h3 f3 m3 => ?_)
  refine r_moves (n := 192) lay_67 lay_96 (by decide) (by decide) (by decide) (by decide) (by decide) (fun h4 f4 m4 => ?_)
  refine r_moves (n := 9) lay_68 lay_97 (by decide) (by decide) (by decide) (by decide) (by decide) (fun h5 f5 m5 => ?_)
  have g5 : Fr fLd h h5 := ((((f0.trans (f1.mono (mv_ld 93 (by omega)))).trans (f2.mono (mv_ld 94 (by omega)))).trans (f3.mono (mv_ld 95 (by omega)))).trans (f4.mono (mv_ld 96 (by omega)))).trans (f5.mono (mv_ld 97 (by omega)))
  have y41 : h5.1 63 41 = 0 := by rw [f5.i 63 41 rfl, f4.i 63 41 rfl, f3.i 63 41 rfl, f2.i 63 41 rfl, f1.i 63 41 rfl, sI_at]
  have y42 : h5.1 63 42 = nI n0 := by rw [f5.i 63 42 rfl, f4.i 63 42 rfl, f3.i 63 42 rfl, f2.i 63 42 rfl, f1.i 63 42 rfl, sI_j (by decide), sI_at]
  have y0 : h5.1 63 0 = 0 := by rw [f5.i 63 0 rfl, f4.i 63 0 rfl, f3.i 63 0 rfl, f2.i 63 0 rfl, f1.i 63 0 rfl, sI_j (by decide), sI_j (by decide), sI_at]
  have z : ∀ c, c ≠ 63 → (sI (sI (sI h 63 0 (0 : Int32)) 63 42 (nI n0)) 63 41 (0 : Int32)).1 c = h.1 c := fun c hc => by rw [sI_n _ _ _ _ hc, sI_n _ _ _ _ hc, sI_n _ _ _ _ hc]
  have k93 : ∀ x, x < 60 → h5.1 93 x = h.1 64 x := fun x hx => by rw [f5.f 93 (fun _ => rfl), f4.f 93 (fun _ => rfl), f3.f 93 (fun _ => rfl), f2.f 93 (fun _ => rfl), m1 x hx, z 64 (by decide)]
  have k94 : ∀ x, x < 160 → h5.1 94 x = h.1 65 x := fun x hx => by rw [f5.f 94 (fun _ => rfl), f4.f 94 (fun _ => rfl), f3.f 94 (fun _ => rfl), m2 x hx, f1.f 65 (fun _ => rfl), z 65 (by decide)]
  have k95 : ∀ x, x < 8 → h5.1 95 x = h.1 66 x := fun x hx => by rw [f5.f 95 (fun _ => rfl), f4.f 95 (fun _ => rfl), m3 x hx, f2.f 66 (fun _ => rfl), f1.f 66 (fun _ => rfl), z 66 (by decide)]
  have k96 : ∀ x, x < 192 → h5.1 96 x = h.1 67 x := fun x hx => by rw [f5.f 96 (fun _ => rfl), m4 x hx, f3.f 67 (fun _ => rfl), f2.f 67 (fun _ => rfl), f1.f 67 (fun _ => rfl), z 67 (by decide)]
  have k97 : ∀ x, x < 9 → h5.1 97 x = h.1 68 x := fun x hx => by rw [m5 x hx, f4.f 68 (fun _ => rfl), f3.f 68 (fun _ => rfl), f2.f 68 (fun _ => rfl), f1.f 68 (fun _ => rfl), z 68 (by decide)]
  have k68 : h5.1 68 = h.1 68 := by rw [f5.f 68 (fun _ => rfl), f4.f 68 (fun _ => rfl), f3.f 68 (fun _ => rfl), f2.f 68 (fun _ => rfl), f1.f 68 (fun _ => rfl), z 68 (by decide)]
  have rb : RBuf T h5 := ⟨by rw [eT]; exact y42, fun k _ => by rw [g5.f 91 (fun _ => rfl)]; exact eb k⟩
  refine r_all (d := 190) ok rb (fun c h6 e f6 ev => br_t rfl ?_) (fun D' mks h6 e f6 sr6 rm6 => br_f (by decide) ?_)
  · obtain ⟨a, k, ec, v1, v2⟩ := ev
    have g6 : Fr fLd h h6 := g5.trans (f6.mono pr_ld)
    have g7 : Fr fLd h (sI (sI h6 63 1 (h.1 63 1)) 63 2 (h.1 63 2)) := (g6.si rfl).si rfl
    refine r_moves (n := 60) lay_93 lay_64 (by decide) (by decide) (by decide) (by decide) (by decide) (fun i1 j1 l1 => ?_)
    refine r_moves (n := 160) lay_94 lay_65 (by decide) (by decide) (by decide) (by decide) (by decide) (fun i2 j2 l2 => ?_)
    refine r_moves (n := 8) lay_95 lay_66 (by decide) (by decide) (by decide) (by decide) (by decide) (fun i3 j3 l3 => ?_)
    refine r_moves (n := 192) lay_96 lay_67 (by decide) (by decide) (by decide) (by decide) (by decide) (fun i4 j4 l4 => ?_)
    refine r_moves (n := 9) lay_97 lay_68 (by decide) (by decide) (by decide) (by decide) (by decide) (fun i5 j5 l5 => ?_)
    have g8 : Fr fLd h i5 := ((((g7.trans (j1.mono (mv_ld 64 (by omega)))).trans (j2.mono (mv_ld 65 (by omega)))).trans (j3.mono (mv_ld 66 (by omega)))).trans (j4.mono (mv_ld 67 (by omega)))).trans (j5.mono (mv_ld 68 (by omega)))
    have q63 : ∀ x, i5.1 63 x = (sI (sI h6 63 1 (h.1 63 1)) 63 2 (h.1 63 2)).1 63 x := fun x => by rw [j5.i 63 x rfl, j4.i 63 x rfl, j3.i 63 x rfl, j2.i 63 x rfl, j1.i 63 x rfl]
    rw [q63 49, q63 48, sI_j (by decide), sI_j (by decide), sI_j (by decide), sI_j (by decide), v1, v2, show (8 : Int32) = nI 8 from rfl, pk_mul, nI_add, ← ec]
    refine t0 c i5 e g8 (by rw [q63, sI_j (by decide), sI_j (by decide), f6.i 63 41 rfl]; exact y41) (by rw [q63, sI_j (by decide), sI_j (by decide), f6.i 63 0 rfl]; exact y0) (sr.eqv w (by rw [q63, sI_j (by decide), sI_at]) (by rw [q63, sI_at]) (fun x hx => ?_) (fun x hx => ?_) (fun x hx => ?_) (fun x hx => ?_)) ⟨?_, fun i hi => ?_⟩
    · rw [j5.f 64 (fun _ => rfl), j4.f 64 (fun _ => rfl), j3.f 64 (fun _ => rfl), j2.f 64 (fun _ => rfl), l1 x hx, sI_n _ _ _ _ (by decide), sI_n _ _ _ _ (by decide), f6.f 93 (fun _ => rfl)]; exact k93 x hx
    · rw [j5.f 65 (fun _ => rfl), j4.f 65 (fun _ => rfl), j3.f 65 (fun _ => rfl), l2 x hx, j1.f 94 (fun _ => rfl), sI_n _ _ _ _ (by decide), sI_n _ _ _ _ (by decide), f6.f 94 (fun _ => rfl)]; exact k94 x hx
    · rw [j5.f 66 (fun _ => rfl), j4.f 66 (fun _ => rfl), l3 x hx, j2.f 95 (fun _ => rfl), j1.f 95 (fun _ => rfl), sI_n _ _ _ _ (by decide), sI_n _ _ _ _ (by decide), f6.f 95 (fun _ => rfl)]; exact k95 x hx
    · rw [j5.f 67 (fun _ => rfl), l4 x hx, j3.f 96 (fun _ => rfl), j2.f 96 (fun _ => rfl), j1.f 96 (fun _ => rfl), sI_n _ _ _ _ (by decide), sI_n _ _ _ _ (by decide), f6.f 96 (fun _ => rfl)]; exact k96 x hx
    · rw [l5 0 (by decide), j4.f 97 (fun _ => rfl), j3.f 97 (fun _ => rfl), j2.f 97 (fun _ => rfl), j1.f 97 (fun _ => rfl), sI_n _ _ _ _ (by decide), sI_n _ _ _ _ (by decide), f6.f 97 (fun _ => rfl), k97 0 (by decide)]; exact st.1
    · have := w.2.2.1
      rw [l5 (1 + i) (by omega), j4.f 97 (fun _ => rfl), j3.f 97 (fun _ => rfl), j2.f 97 (fun _ => rfl), j1.f 97 (fun _ => rfl), sI_n _ _ _ _ (by decide), sI_n _ _ _ _ (by decide), f6.f 97 (fun _ => rfl), k97 (1 + i) (by omega)]; exact st.2 i hi
  · exact t1 D' mks h6 e (g5.trans (f6.mono pr_ld)) (by rw [f6.i 63 41 rfl]; exact y41) (by rw [f6.i 63 0 rfl]; exact y0) sr6 rm6 (by rw [f6.i 68 0 rfl, k68]; exact st.1)
