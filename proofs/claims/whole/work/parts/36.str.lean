/-! constant texts; writing into an output; numbers and names as texts -/
def sTx : List (List Nat) := [[61, 59, 58, 44, 33, 43, 45, 42, 38, 124, 94], [43, 45, 42, 38, 124, 94], [111, 112, 32], [32, 117, 110, 105, 116, 32], [105, 110, 115, 116, 114, 32], [111, 112], [117, 110, 105, 116], [105, 110, 115, 116, 114]]
theorem sTx_len : ∀ i : Nat, i < 8 → slen.getD i 0 = (sTx.getD i []).length := by decide +kernel
theorem sTx_le : ∀ i : Nat, i < 8 → (sTx.getD i []).length ≤ 11 := by decide +kernel
theorem sTx_ch : ∀ i : Nat, i < 8 → ∀ k : Nat, k < 11 → k < (sTx.getD i []).length → ((((sbyt.getD i []).getD k 0) &&& (255 : Int32)).toUInt32 % 65536).toInt32 = nI ((sTx.getD i []).getD k 0) ∧ (sTx.getD i []).getD k 0 < 128 := by decide +kernel
theorem s_len {E : En} {d i : Nat} {h : Hp} {P : Int32 → Hp → Prop} (hi : i < 8) (t : P (nI (sTx.getD i []).length) h) : SpI E (d + 1) MJ0_length_8abf5 [.ref (eK E i)] h P := by
  refine wp_J0_length_8abf5 E d i hi h P (wp_J0_coder_7d493 E d i hi h _ (br_f (by decide) ?_))
  rw [sTx_len i hi, sb_shr0]
  exact t
theorem s_ck {E : En} {d k n : Nat} {h : Hp} {P : Hp → Prop} (hk : k < n) (hn : n < 2 ^ 31) (t : P h) : SpV E (d + 2) MJ0_checkIndex_df160 [.int (nI k), .int (Int32.ofNat n)] h P := by
  refine wp_J0_checkIndex_df160 E (d + 1) _ _ h P ⟨?_, fun q => ?_⟩
  · exact wp_J3_checkIndex_n E d _ _ h _ (br_f (nI_pos (by omega)) (br_t (nI_lt hk hn) t))
  · exact wp_J3_checkIndex_r E d q _ _ h _ (br_f (nI_pos (by omega)) (br_t (nI_lt hk hn) t))
theorem s_ch {E : En} {d i k : Nat} {h : Hp} {P : Int32 → Hp → Prop} (hi : i < 8) (hk : k < (sTx.getD i []).length) (t : P (nI ((sTx.getD i []).getD k 0)) h) : SpI E (d + 4) MJ0_charAt_5068e [.ref (eK E i), .int (nI k)] h P := by
  have hl := sTx_le i hi
  obtain ⟨e1, e2⟩ := sTx_ch i hi k (by omega) hk
  refine wp_J0_charAt_5068e E (d + 3) i hi _ h P (wp_J0_isLatin1_aae02 E (d + 3) i hi h _ (br_f (by decide) (bq_t rfl (br_f (by decide) ?_))))
  refine wp_J1_charAt_3b067 E (d + 2) i hi _ h _ ?_
  rw [sTx_len i hi, nI_clamp (by omega), e1]
  exact s_ck hk (by omega) ⟨vp_in_nI hk (by omega), (pk_charN (by omega)).1, t⟩
/-- a row of bytes written from a place on -/
def puts (f : Nat → Int32) (n : Nat) : List Nat → (Nat → Int32)
  | [] => f
  | b :: l => puts (upd f n (nI b)) (n + 1) l
theorem puts_app (l2 : List Nat) : ∀ (l1 : List Nat) (f : Nat → Int32) (n : Nat), puts (puts f n l1) (n + l1.length) l2 = puts f n (l1 ++ l2)
  | [], _, _ => rfl
  | b :: l, f, n => by
    show puts (puts (upd f n (nI b)) (n + 1) l) (n + (l.length + 1)) l2 = puts (upd f n (nI b)) (n + 1) (l ++ l2)
    rw [show n + (l.length + 1) = n + 1 + l.length by omega]
    exact puts_app l2 l _ _
def fPt (ca cc cj : Nat) (c j : Nat) : Bool := c == ca || (c == cc && j == cj)
def Pt (ca cc cj : Nat) (h : Hp) (n : Nat) (l : List Nat) (h' : Hp) : Prop := Fr (fPt ca cc cj) h h' ∧ h'.1 ca = puts (h.1 ca) n l ∧ h'.1 cc cj = nI (n + l.length)
theorem Pt.trans {ca cc cj : Nat} {h h1 h2 : Hp} {n n2 : Nat} {l1 l2 : List Nat} (a : Pt ca cc cj h n l1 h1) (b : Pt ca cc cj h1 n2 l2 h2) (e : n2 = n + l1.length) : Pt ca cc cj h n (l1 ++ l2) h2 := by
  subst e
  refine ⟨a.1.trans b.1, ?_, ?_⟩
  · rw [b.2.1, a.2.1, puts_app]
  · rw [b.2.2, List.length_append, Nat.add_assoc]
theorem Pt.none {ca cc cj : Nat} {h : Hp} {n : Nat} (e : h.1 cc cj = nI n) : Pt ca cc cj h n [] h := ⟨Fr.refl h, rfl, e⟩
theorem Pt.one {ca cc cj : Nat} {h : Hp} {n b : Nat} (hne : ca ≠ cc) : Pt ca cc cj h n [b] (sI (sI h ca n (nI b)) cc cj (nI (n + 1))) := by
  refine ⟨((Fr.refl h).si (by simp [fPt])).si (by simp [fPt]), ?_, sI_at _ _ _ _⟩
  rw [sI_n _ _ _ _ hne, sI_s]
  rfl
def num (v : Nat) : List Nat := (if 1000 ≤ v then [48 + v / 1000 % 10] else []) ++ ((if 100 ≤ v then [48 + v / 100 % 10] else []) ++ ((if 10 ≤ v then [48 + v / 10 % 10] else []) ++ [48 + v / 1 % 10]))
theorem num_len {v : Nat} (_h : v < 10000) : (num v).length ≤ 4 ∧ (v < 10 → (num v).length = 1) := by
  unfold num
  refine ⟨?_, fun q => ?_⟩
  · by_cases a : 1000 ≤ v <;> by_cases b : 100 ≤ v <;> by_cases c : 10 ≤ v <;> simp [a, b, c]
  · have a : ¬ 1000 ≤ v := by omega
    have b : ¬ 100 ≤ v := by omega
    have c : ¬ 10 ≤ v := by omega
    simp [a, b, c]
def nmL (f : Nat → Nat) : Nat → List Nat
  | 0 => []
  | k + 1 => nmL f k ++ (if f k = 0 then [] else [f k])
theorem nmL_len (f : Nat → Nat) : ∀ k, (nmL f k).length ≤ k
  | 0 => Nat.le_refl 0
  | k + 1 => by
    have := nmL_len f k
    show (nmL f k ++ _).length ≤ k + 1
    by_cases q : f k = 0
    · rw [if_pos q, List.append_nil]; omega
    · rw [if_neg q, List.length_append]; show _ + 1 ≤ _; omega
def opL (a : Nat) : List Nat := if a < 8 then 114 :: num a else num (a - 8)
theorem opL_len {a : Nat} (h : a < 10008) : (opL a).length ≤ 4 := by
  unfold opL
  by_cases q : a < 8
  · rw [if_pos q, List.length_cons, (num_len (by omega)).2 (by omega)]; decide
  · rw [if_neg q]; exact (num_len (by omega)).1
def opT (D : SD) (m : Nat) : List Nat := sTx.getD 2 [] ++ (nmL (dM D m) 8 ++ (sTx.getD 3 [] ++ (num (dU D m) ++ ([32] ++ (opL (dT D m) ++ ([61] ++ (opL (dA D m) ++ ((if dK D m = 0 then [] else ([(sTx.getD 1 []).getD (dK D m - 1) 0] ++ opL (dB D m))) ++ [59]))))))))
def inB (D : SD) (S : ST) (i : Nat) : Nat → List Nat
  | 0 => []
  | k + 1 => inB D S i k ++ ([if k = 0 then 58 else if (sK S i).testBit (k - 1) then 33 else 44] ++ nmL (dM D (dR D i k)) 8)
def inT (D : SD) (S : ST) (i : Nat) : List Nat := sTx.getD 4 [] ++ (nmL (dM D (12 + i)) 8 ++ (inB D S i (dL D i) ++ [59]))
def opsT (D : SD) : Nat → List Nat
  | 0 => []
  | m + 1 => opsT D m ++ opT D m
def insT (D : SD) (S : ST) : Nat → List Nat
  | 0 => []
  | i + 1 => insT D S i ++ inT D S i
theorem opT_len {D : SD} {m : Nat} (w : Wf D) (hm : m < dN D) : (opT D m).length ≤ 32 := by
  obtain ⟨u, t, k, a, b⟩ := w.2.1 m hm
  have h1 := nmL_len (dM D m) 8
  have h2 := (num_len (v := dU D m) (by omega)).2 (by omega)
  have h3 : (opL (dT D m)).length = 2 := by
    unfold opL
    rw [if_pos t, List.length_cons, (num_len (by omega)).2 (by omega)]
  have h4 := opL_len a
  have h5 := opL_len b
  unfold opT
  simp only [List.length_append]
  have e2 : (sTx.getD 2 []).length = 3 := rfl
  have e3 : (sTx.getD 3 []).length = 6 := rfl
  by_cases q : dK D m = 0
  · rw [if_pos q]; simp only [List.length_cons, List.length_nil]; omega
  · rw [if_neg q]; simp only [List.length_cons, List.length_nil, List.length_append]; omega
theorem inB_len (D : SD) (S : ST) (i : Nat) : ∀ k, (inB D S i k).length ≤ 9 * k
  | 0 => Nat.le_refl 0
  | k + 1 => by
    have h1 := inB_len D S i k
    have h2 := nmL_len (dM D (dR D i k)) 8
    show (inB D S i k ++ _).length ≤ _
    simp only [List.length_append, List.length_cons, List.length_nil]
    omega
theorem inT_len {D : SD} {S : ST} {i : Nat} (w : Wf D) (hi : i < dI D) : (inT D S i).length ≤ 231 := by
  have h1 := inB_len D S i (dL D i)
  have h2 := (w.2.2.2.1 i hi).2.1
  have h3 := nmL_len (dM D (12 + i)) 8
  have e4 : (sTx.getD 4 []).length = 6 := rfl
  unfold inT
  simp only [List.length_append, List.length_cons, List.length_nil]
  omega
theorem opsT_len {D : SD} (w : Wf D) : ∀ m, m ≤ dN D → (opsT D m).length ≤ 32 * m
  | 0, _ => Nat.le_refl 0
  | m + 1, h => by
    have h1 := opsT_len w m (by omega)
    have h2 := opT_len w (m := m) (by omega)
    show (opsT D m ++ opT D m).length ≤ _
    rw [List.length_append]
    omega
theorem insT_len {D : SD} {S : ST} (w : Wf D) : ∀ i, i ≤ dI D → (insT D S i).length ≤ 231 * i
  | 0, _ => Nat.le_refl 0
  | i + 1, h => by
    have h1 := insT_len (S := S) w i (by omega)
    have h2 := inT_len (S := S) w (i := i) (by omega)
    show (insT D S i ++ inT D S i).length ≤ _
    rw [List.length_append]
    omega
/-- a name's number, byte by byte -/
theorem nm_c {f : Nat → Nat} (h : NmOK f) : ∃ c, c ≤ 8 ∧ (∀ j, j < c → f j ≠ 0) ∧ ∀ j, c ≤ j → j < 8 → f j = 0 := by
  have key : ∀ n, n ≤ 8 → ∃ c, c ≤ n ∧ (∀ j, j < c → f j ≠ 0) ∧ ∀ j, c ≤ j → j < n → f j = 0 := by
    intro n
    induction n with
    | zero => intro _; exact ⟨0, by omega, fun j hj => by omega, fun j _ hj => by omega⟩
    | succ n ih =>
      intro hn
      obtain ⟨c, h1, h2, h3⟩ := ih (by omega)
      rcases Nat.lt_or_ge c n with q | q
      · refine ⟨c, by omega, h2, fun j a b => ?_⟩
        rcases Nat.lt_or_ge j n with z | z
        · exact h3 j a z
        · obtain rfl : j = n := by omega
          obtain ⟨k, rfl⟩ : ∃ k, j = k + 1 := ⟨j - 1, by omega⟩
          exact h.2.2 k (by omega) (h3 k (by omega) (by omega))
      · by_cases z : f n = 0
        · exact ⟨c, by omega, h2, fun j a b => by obtain rfl : j = n := by omega
                                                  exact z⟩
        · exact ⟨n + 1, by omega, fun j hj => by
            rcases Nat.lt_or_ge j n with y | y
            · exact h2 j (by omega)
            · obtain rfl : j = n := by omega
              exact z, fun j a b => by omega⟩
  exact key 8 (Nat.le_refl 8)
theorem nmF_lt {f : Nat → Nat} (h : NmOK f) : ∀ k, k ≤ 8 → nmF f k < 256 ^ k
  | 0, _ => (show 0 < 1 by decide)
  | k + 1, hk => by
    have h1 := nmF_lt h k (by omega)
    have h2 := h.2.1 k (by omega)
    have e : 256 ^ (k + 1) = 256 ^ k * 256 := Nat.pow_succ ..
    show (if f k = 0 then nmF f k else nmF f k * 256 + f k) < _
    by_cases q : f k = 0
    · rw [if_pos q, e]; omega
    · rw [if_neg q, e]; omega
theorem nmF_end {f : Nat → Nat} {c : Nat} (h3 : ∀ j, c ≤ j → j < 8 → f j = 0) : ∀ n, c + n ≤ 8 → nmF f (c + n) = nmF f c
  | 0, _ => rfl
  | n + 1, hn => by
    show (if f (c + n) = 0 then nmF f (c + n) else _) = _
    rw [if_pos (h3 _ (by omega) (by omega))]
    exact nmF_end h3 n (by omega)
theorem nmL_end {f : Nat → Nat} {c : Nat} (h3 : ∀ j, c ≤ j → j < 8 → f j = 0) : ∀ n, c + n ≤ 8 → nmL f (c + n) = nmL f c
  | 0, _ => rfl
  | n + 1, hn => by
    show nmL f (c + n) ++ (if f (c + n) = 0 then [] else _) = _
    rw [if_pos (h3 _ (by omega) (by omega)), List.append_nil]
    exact nmL_end h3 n (by omega)
theorem nmF_dig {f : Nat → Nat} (h : NmOK f) {c : Nat} (hc : c ≤ 8) (h2 : ∀ j, j < c → f j ≠ 0) : ∀ e, e < c → nmF f c / 256 ^ e % 256 = f (c - 1 - e) := by
  induction c with
  | zero => intro e he; omega
  | succ c ih =>
    intro e he
    have hf := h.2.1 c (by omega)
    have ec : nmF f (c + 1) = nmF f c * 256 + f c := by
      show (if f c = 0 then _ else _) = _
      rw [if_neg (h2 c (by omega))]
    rw [ec]
    cases e with
    | zero =>
      rw [show c + 1 - 1 - 0 = c by omega]
      show (nmF f c * 256 + f c) / 1 % 256 = f c
      omega
    | succ e =>
      rw [show c + 1 - 1 - (e + 1) = c - 1 - e by omega, ← ih (by omega) (fun j hj => h2 j (by omega)) e (by omega), Nat.pow_succ, Nat.mul_comm (256 ^ e) 256, ← Nat.div_div_eq_div_mul, show (nmF f c * 256 + f c) / 256 = nmF f c by omega]
