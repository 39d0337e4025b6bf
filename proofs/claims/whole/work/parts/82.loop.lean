/-! the law's loop, over an invariant I of the pure heap and what each of the 37 calls owes -/
def Obl (I : Nat → Hp → Prop) (T : En → Hp → (En → Hp → Prop) → Prop) : Prop := ∀ (E : En) (h : Hp) (n : Nat), n < 512 → I n h → ∀ K : En → Hp → Prop, (∀ (E2 : En) (h2 : Hp), eB E2 = eB E → I (n + 1) h2 → K E2 h2) → T E h K
def Ob0 (I : Nat → Hp → Prop) : Prop := ∀ a1 a2 a3 a4 a5 : Int32, Obl I (fun E h K => Tc0 E a1 a2 a3 a4 a5 h K)
def Ob1 (I : Nat → Hp → Prop) : Prop := ∀ a1 : Int32, Obl I (fun E h K => Tc1 E a1 h K)
def Ob2 (I : Nat → Hp → Prop) : Prop := Obl I (fun E h K => Tc2 E h K)
def Ob3 (I : Nat → Hp → Prop) : Prop := Obl I (fun E h K => Tc3 E h K)
def Ob4 (I : Nat → Hp → Prop) : Prop := Obl I (fun E h K => Tc4 E h K)
def Ob5 (I : Nat → Hp → Prop) : Prop := Obl I (fun E h K => Tc5 E h K)
def Ob6 (I : Nat → Hp → Prop) : Prop := ∀ a1 : Int32, Obl I (fun E h K => Tc6 E a1 h K)
def Ob7 (I : Nat → Hp → Prop) : Prop := Obl I (fun E h K => Tc7 E h K)
def Ob8 (I : Nat → Hp → Prop) : Prop := Obl I (fun E h K => Tc8 E h K)
def Ob9 (I : Nat → Hp → Prop) : Prop := ∀ a1 a2 : Int32, Obl I (fun E h K => Tc9 E a1 a2 h K)
def Ob10 (I : Nat → Hp → Prop) : Prop := ∀ a1 : Int32, Obl I (fun E h K => Tc10 E a1 h K)
def Ob11 (I : Nat → Hp → Prop) : Prop := ∀ a1 a2 : Int32, Obl I (fun E h K => Tc11 E a1 a2 h K)
def Ob12 (I : Nat → Hp → Prop) : Prop := ∀ a1 a2 : Int32, Obl I (fun E h K => Tc12 E a1 a2 h K)
def Ob13 (I : Nat → Hp → Prop) : Prop := ∀ a1 a2 a3 : Int32, Obl I (fun E h K => Tc13 E a1 a2 a3 h K)
def Ob14 (I : Nat → Hp → Prop) : Prop := ∀ a1 : Int32, Obl I (fun E h K => Tc14 E a1 h K)
def Ob15 (I : Nat → Hp → Prop) : Prop := Obl I (fun E h K => Tc15 E h K)
def Ob16 (I : Nat → Hp → Prop) : Prop := ∀ a1 a2 a3 : Int32, Obl I (fun E h K => Tc16 E a1 a2 a3 h K)
def Ob17 (I : Nat → Hp → Prop) : Prop := Obl I (fun E h K => Tc17 E h K)
def Ob18 (I : Nat → Hp → Prop) : Prop := ∀ a1 : Int32, Obl I (fun E h K => Tc18 E a1 h K)
def Ob19 (I : Nat → Hp → Prop) : Prop := ∀ a1 a2 : Int32, Obl I (fun E h K => Tc19 E a1 a2 h K)
def Ob20 (I : Nat → Hp → Prop) : Prop := ∀ a1 : Int32, Obl I (fun E h K => Tc20 E a1 h K)
def Ob21 (I : Nat → Hp → Prop) : Prop := ∀ a1 : Int32, Obl I (fun E h K => Tc21 E a1 h K)
def Ob22 (I : Nat → Hp → Prop) : Prop := Obl I (fun E h K => Tc22 E h K)
def Ob23 (I : Nat → Hp → Prop) : Prop := ∀ a1 : Int32, Obl I (fun E h K => Tc23 E a1 h K)
def Ob24 (I : Nat → Hp → Prop) : Prop := ∀ a1 a2 : Int32, Obl I (fun E h K => Tc24 E a1 a2 h K)
def Ob25 (I : Nat → Hp → Prop) : Prop := Obl I (fun E h K => Tc25 E h K)
def Ob26 (I : Nat → Hp → Prop) : Prop := Obl I (fun E h K => Tc26 E h K)
def Ob27 (I : Nat → Hp → Prop) : Prop := ∀ a1 : Int32, Obl I (fun E h K => Tc27 E a1 h K)
def Ob28 (I : Nat → Hp → Prop) : Prop := ∀ a1 : Int32, Obl I (fun E h K => Tc28 E a1 h K)
def Ob29 (I : Nat → Hp → Prop) : Prop := ∀ a1 : Int32, Obl I (fun E h K => Tc29 E a1 h K)
def Ob30 (I : Nat → Hp → Prop) : Prop := ∀ a1 a2 : Int32, Obl I (fun E h K => Tc30 E a1 a2 h K)
def Ob31 (I : Nat → Hp → Prop) : Prop := ∀ a1 : Int32, Obl I (fun E h K => Tc31 E a1 h K)
def Ob32 (I : Nat → Hp → Prop) : Prop := ∀ a1 : Int32, Obl I (fun E h K => Tc32 E a1 h K)
def Ob33 (I : Nat → Hp → Prop) : Prop := ∀ a1 a2 : Int32, Obl I (fun E h K => Tc33 E a1 a2 h K)
def Ob34 (I : Nat → Hp → Prop) : Prop := Obl I (fun E h K => Tc34 E h K)
def Ob35 (I : Nat → Hp → Prop) : Prop := Obl I (fun E h K => Tc35 E h K)
def Ob36 (I : Nat → Hp → Prop) : Prop := ∀ a1 : Int32, Obl I (fun E h K => Tc36 E a1 h K)
def Obs (I : Nat → Hp → Prop) : Prop := Ob0 I ∧ Ob1 I ∧ Ob2 I ∧ Ob3 I ∧ Ob4 I ∧ Ob5 I ∧ Ob6 I ∧ Ob7 I ∧ Ob8 I ∧ Ob9 I ∧ Ob10 I ∧ Ob11 I ∧ Ob12 I ∧ Ob13 I ∧ Ob14 I ∧ Ob15 I ∧ Ob16 I ∧ Ob17 I ∧ Ob18 I ∧ Ob19 I ∧ Ob20 I ∧ Ob21 I ∧ Ob22 I ∧ Ob23 I ∧ Ob24 I ∧ Ob25 I ∧ Ob26 I ∧ Ob27 I ∧ Ob28 I ∧ Ob29 I ∧ Ob30 I ∧ Ob31 I ∧ Ob32 I ∧ Ob33 I ∧ Ob34 I ∧ Ob35 I ∧ Ob36 I ∧ ∀ (n : Nat) (h : Hp), I n h → I (n + 1) h
theorem lp_in {L i j : Nat} (hj : j < 6) (h : 6 * i + 6 ≤ L) (hL : L ≤ 3072) {x4 y : Int32} (e : x4 = nI (6 * i)) (hy : y = nI j) : vp_in (x4 + y) L := by
  rw [e, hy, nI_add]
  exact vp_in_nI (by omega) (by omega)
theorem lp_cond {L i : Nat} (hL : L ≤ 3072) (hi : 6 * i ≤ 3072) {x4 : Int32} (e : x4 = nI (6 * i)) (h : ¬ (Int32.ofNat L - 6) < x4) : 6 * i + 6 ≤ L := by
  rw [Int32.lt_iff_toInt_lt, e, show (Int32.ofNat L - 6 : Int32) = nI L - nI 6 from rfl, pk_sub_toInt (by omega) (by omega), nI_toInt (by omega)] at h
  omega
abbrev VH (E : En) (g : Ga) (b : Nat) (x4 : Int32) (cells slots : Nat) (h : Hp) : Prop := V E ML room_1 g (LQ g) cells slots h 23 [(0, .ref b), (1, .ref (eA E 0)), (2, .ref (eA E 63)), (3, .ref (eA E 98)), (4, .int x4)] []
theorem q_end {E : En} {g : Ga} {b L : Nat} {xs : Nat → Int32} {cells slots : Nat} {h : Hp} {lv : List (Nat × Value)} (hX : Scr E g b L xs) (hc : cells ≤ 601024) (hs : slots ≤ 7293034) : V E ML room_1 g (LQ g) cells slots h 1901 lv [] := by
  refine r_iconst (v := (1 : Int32)) dL_law_1901 rfl ?_
  obtain ⟨p, e, s, m, args, below, meth, c0⟩ := g
  intro C H locs ls hP hS hl
  obtain ⟨rfl, h1, h2, h3⟩ := hX
  refine va_forget (fun q hq => by have := hS.2.2 q hq; unfold A0 at this; rw [h3] at this; exact this) ?_
  refine W.widen hc hs ?_
  exact lw_ret C.1 C.2.1 C.2.2.2.2.2.2.1 C.2.2.2.2.2.1 dL_law_1902
theorem q_inc {E : En} {g : Ga} {b : Nat} {x4 : Int32} {cells slots k n : Nat} {h : Hp} (h1 : cells ≤ k) (h2 : slots ≤ n) (t : VH E g b (x4 + 6) k n h) : VL E g b x4 cells slots h := by
  refine r_iinc (k := 4) (v := x4 + (6 : Int32)) (lv' := [(4, .int (x4 + (6 : Int32))), (0, .ref b), (1, .ref (eA E 0)), (2, .ref (eA E 63)), (3, .ref (eA E 98))]) dL_law_1895 rfl rfl (by decide) rfl ?_
  refine r_goto (tgt := 23) dL_law_1898 (by decide) ?_
  refine r_sub [1, 2, 3, 4, 0] rfl ?_
  exact q_widen h1 h2 t
set_option maxRecDepth 20000 in
set_option maxHeartbeats 4000000 in
theorem law_loop {I : Nat → Hp → Prop} (ob : Obs I) {g : Ga} {b L : Nat} {xs : Nat → Int32} (hL : L ≤ 3072) (c0 s0 : Nat) (hc0 : c0 + 8 * 514 ≤ 601024) (hs0 : s0 + 48 * 514 ≤ 7293034) :
    ∀ (n i : Nat) (E : En) (h : Hp) (x4 : Int32), Scr E g b L xs → I i h → x4 = nI (6 * i) → 6 * i ≤ L + 5 → L + 6 ≤ 6 * i + n → VH E g b x4 (c0 + 8 * i) (s0 + 48 * i) h := by
  obtain ⟨o0, o1, o2, o3, o4, o5, o6, o7, o8, o9, o10, o11, o12, o13, o14, o15, o16, o17, o18, o19, o20, o21, o22, o23, o24, o25, o26, o27, o28, o29, o30, o31, o32, o33, o34, o35, o36, omono⟩ := ob
  intro n
  induction n with
  | zero => intro i E h x4 hX hI e h1 h2; omega
  | succ n ih =>
    intro i E h x4 hX hI e h1 h2
    have hi5 : i ≤ 512 := by omega
    refine r_iload (q := 4) dL_law_23 rfl ?_
    refine r_aload_n (q := 0) dL_law_25 rfl rfl ?_
    refine q_slen hX dL_law_26 ?_
    refine r_bipush (v := (6 : Int32)) dL_law_27 rfl ?_
    refine r_isub dL_law_29 ?_
    refine r_icmp_gt (tgt := 1901) dL_law_30 (by decide) (fun q => ?_) (fun q => ?_)
    · exact q_end hX (by omega) (by omega)
    · have hr := lp_cond hL (by omega) e q
      have s0' : vp_in x4 L := by rw [e]; exact vp_in_nI (by omega) (by omega)
      have s1 : vp_in (x4 + (1 : Int32)) L := lp_in (j := 1) (by decide) hr hL e rfl
      have s2 : vp_in (x4 + (2 : Int32)) L := lp_in (j := 2) (by decide) hr hL e rfl
      have s3 : vp_in (x4 + (3 : Int32)) L := lp_in (j := 3) (by decide) hr hL e rfl
      have s4 : vp_in (x4 + (4 : Int32)) L := lp_in (j := 4) (by decide) hr hL e rfl
      have s5 : vp_in (x4 + (5 : Int32)) L := lp_in (j := 5) (by decide) hr hL e rfl
      have step : ∀ (E2 : En) (h2 : Hp) (kb : Nat), kb ≤ 8 → eB E2 = eB E → I (i + 1) h2 → VL E2 g b x4 (c0 + 8 * i + kb) (s0 + 48 * i + 6 * kb) h2 := by
        intro E2 h2 kb hkb hE hI2
        refine q_inc (k := c0 + 8 * (i + 1)) (n := s0 + 48 * (i + 1)) (by omega) (by omega) (ih (i + 1) E2 h2 (x4 + 6) ?_ hI2 ?_ (by omega) (by omega))
        · obtain ⟨p, e1, s, m, args, below, meth, cc⟩ := g
          exact ⟨hX.1, hX.2.1, hX.2.2.1, hE.trans hX.2.2.2⟩
        · rw [e, show (6 : Int32) = nI 6 from rfl, nI_add, show 6 * i + 6 = 6 * (i + 1) by omega]
      have hcs : c0 + 8 * i + 8 ≤ 601024 ∧ s0 + 48 * i + 48 ≤ 7293034 := ⟨by omega, by omega⟩
      have hc2 : ∀ kb, kb ≤ 8 → c0 + 8 * i + kb + 8 ≤ 601024 ∧ s0 + 48 * i + 6 * kb + 48 ≤ 7293034 := fun kb hk => ⟨by omega, by omega⟩
      refine r_aload_n (q := 0) dL_law_33 rfl rfl ?_
      refine r_iload (q := 4) dL_law_34 rfl ?_
      refine q_sld hX dL_law_36 s0' rfl ?_
      refine r_bipush (v := (63 : Int32)) dL_law_37 rfl ?_
      refine r_iand dL_law_39 ?_
      generalize hw : xs x4.toNatClampNeg &&& (63 : Int32) = w
      by_cases w0 : w = 0
      · refine r_tswI (x := w) (v := 0) (off := 164) (tgt := 204) dL_law_40 w0 (by decide) (by decide) (by decide) (by decide) ?_
        exact law_c0 hX s1 rfl s2 rfl s3 rfl s4 rfl s5 rfl hcs (o0 _ _ _ _ _ E h i (by omega) hI _ (fun E2 h2 hE hI2 => step E2 h2 0 (by decide) hE hI2))
      by_cases w1 : w = 1
      · refine r_tswI (x := w) (v := 1) (off := 237) (tgt := 277) dL_law_40 w1 (by decide) (by decide) (by decide) (by decide) ?_
        exact law_c1 hX s1 rfl hcs (o1 _ E h i (by omega) hI _ (fun E2 h2 hE hI2 => step E2 h2 0 (by decide) hE hI2))
      by_cases w2 : w = 2
      · refine r_tswI (x := w) (v := 2) (off := 262) (tgt := 302) dL_law_40 w2 (by decide) (by decide) (by decide) (by decide) ?_
        exact law_c2 hX hcs (o2 E h i (by omega) hI _ (fun E2 h2 hE hI2 => step E2 h2 0 (by decide) hE hI2))
      by_cases w3 : w = 3
      · refine r_tswI (x := w) (v := 3) (off := 275) (tgt := 315) dL_law_40 w3 (by decide) (by decide) (by decide) (by decide) ?_
        exact law_c3 hX hcs (o3 E h i (by omega) hI _ (fun E2 h2 hE hI2 => step E2 h2 0 (by decide) hE hI2))
      by_cases w4 : w = 4
      · refine r_tswI (x := w) (v := 4) (off := 288) (tgt := 328) dL_law_40 w4 (by decide) (by decide) (by decide) (by decide) ?_
        exact law_c4 hX hcs (o4 E h i (by omega) hI _ (fun E2 h2 hE hI2 => step E2 h2 0 (by decide) hE hI2))
      by_cases w5 : w = 5
      · refine r_tswI (x := w) (v := 5) (off := 301) (tgt := 341) dL_law_40 w5 (by decide) (by decide) (by decide) (by decide) ?_
        exact law_c5 hX hcs (o5 E h i (by omega) hI _ (fun E2 h2 hE hI2 => step E2 h2 0 (by decide) hE hI2))
      by_cases w6 : w = 6
      · refine r_tswI (x := w) (v := 6) (off := 314) (tgt := 354) dL_law_40 w6 (by decide) (by decide) (by decide) (by decide) ?_
        exact law_c6 hX s1 rfl hcs (hc2 1 (by decide)) (o6 _ E h i (by omega) hI _ (fun E2 h2 hE hI2 => step E2 h2 1 (by decide) hE hI2))
      by_cases w7 : w = 7
      · refine r_tswI (x := w) (v := 7) (off := 370) (tgt := 410) dL_law_40 w7 (by decide) (by decide) (by decide) (by decide) ?_
        exact law_c7 hX hcs (o7 E h i (by omega) hI _ (fun E2 h2 hE hI2 => step E2 h2 0 (by decide) hE hI2))
      by_cases w8 : w = 8
      · refine r_tswI (x := w) (v := 8) (off := 383) (tgt := 423) dL_law_40 w8 (by decide) (by decide) (by decide) (by decide) ?_
        exact law_c8 hX hcs (o8 E h i (by omega) hI _ (fun E2 h2 hE hI2 => step E2 h2 0 (by decide) hE hI2))
      by_cases w9 : w = 9
      · refine r_tswI (x := w) (v := 9) (off := 396) (tgt := 436) dL_law_40 w9 (by decide) (by decide) (by decide) (by decide) ?_
        exact law_c9 hX s1 rfl s2 rfl hcs (hc2 2 (by decide)) (o9 _ _ E h i (by omega) hI _ (fun E2 h2 hE hI2 => step E2 h2 2 (by decide) hE hI2))
      by_cases w10 : w = 10
      · refine r_tswI (x := w) (v := 10) (off := 464) (tgt := 504) dL_law_40 w10 (by decide) (by decide) (by decide) (by decide) ?_
        exact law_c10 hX s1 rfl hcs (hc2 1 (by decide)) (o10 _ E h i (by omega) hI _ (fun E2 h2 hE hI2 => step E2 h2 1 (by decide) hE hI2))
      by_cases w11 : w = 11
      · refine r_tswI (x := w) (v := 11) (off := 520) (tgt := 560) dL_law_40 w11 (by decide) (by decide) (by decide) (by decide) ?_
        exact law_c11 hX s1 rfl s2 rfl hcs (hc2 2 (by decide)) (o11 _ _ E h i (by omega) hI _ (fun E2 h2 hE hI2 => step E2 h2 2 (by decide) hE hI2))
      by_cases w12 : w = 12
      · refine r_tswI (x := w) (v := 12) (off := 588) (tgt := 628) dL_law_40 w12 (by decide) (by decide) (by decide) (by decide) ?_
        exact law_c12 hX s1 rfl s2 rfl hcs (hc2 2 (by decide)) (o12 _ _ E h i (by omega) hI _ (fun E2 h2 hE hI2 => step E2 h2 2 (by decide) hE hI2))
      by_cases w13 : w = 13
      · refine r_tswI (x := w) (v := 13) (off := 663) (tgt := 703) dL_law_40 w13 (by decide) (by decide) (by decide) (by decide) ?_
        exact law_c13 hX s1 rfl s2 rfl s3 rfl hcs (hc2 4 (by decide)) (o13 _ _ _ E h i (by omega) hI _ (fun E2 h2 hE hI2 => step E2 h2 4 (by decide) hE hI2))
      by_cases w14 : w = 14
      · refine r_tswI (x := w) (v := 14) (off := 743) (tgt := 783) dL_law_40 w14 (by decide) (by decide) (by decide) (by decide) ?_
        exact law_c14 hX s1 rfl hcs (hc2 1 (by decide)) (o14 _ E h i (by omega) hI _ (fun E2 h2 hE hI2 => step E2 h2 1 (by decide) hE hI2))
      by_cases w15 : w = 15
      · refine r_tswI (x := w) (v := 15) (off := 799) (tgt := 839) dL_law_40 w15 (by decide) (by decide) (by decide) (by decide) ?_
        exact law_c15 hX hcs (o15 E h i (by omega) hI _ (fun E2 h2 hE hI2 => step E2 h2 0 (by decide) hE hI2))
      by_cases w16 : w = 16
      · refine r_tswI (x := w) (v := 16) (off := 812) (tgt := 852) dL_law_40 w16 (by decide) (by decide) (by decide) (by decide) ?_
        exact law_c16 hX s1 rfl s2 rfl s3 rfl hcs (hc2 3 (by decide)) (o16 _ _ _ E h i (by omega) hI _ (fun E2 h2 hE hI2 => step E2 h2 3 (by decide) hE hI2))
      by_cases w17 : w = 17
      · refine r_tswI (x := w) (v := 17) (off := 908) (tgt := 948) dL_law_40 w17 (by decide) (by decide) (by decide) (by decide) ?_
        exact law_c17 hX hcs (o17 E h i (by omega) hI _ (fun E2 h2 hE hI2 => step E2 h2 0 (by decide) hE hI2))
      by_cases w18 : w = 18
      · refine r_tswI (x := w) (v := 18) (off := 921) (tgt := 961) dL_law_40 w18 (by decide) (by decide) (by decide) (by decide) ?_
        exact law_c18 hX s1 rfl hcs (hc2 1 (by decide)) (o18 _ E h i (by omega) hI _ (fun E2 h2 hE hI2 => step E2 h2 1 (by decide) hE hI2))
      by_cases w19 : w = 19
      · refine r_tswI (x := w) (v := 19) (off := 977) (tgt := 1017) dL_law_40 w19 (by decide) (by decide) (by decide) (by decide) ?_
        exact law_c19 hX s1 rfl s2 rfl hcs (hc2 2 (by decide)) (o19 _ _ E h i (by omega) hI _ (fun E2 h2 hE hI2 => step E2 h2 2 (by decide) hE hI2))
      by_cases w20 : w = 20
      · refine r_tswI (x := w) (v := 20) (off := 1045) (tgt := 1085) dL_law_40 w20 (by decide) (by decide) (by decide) (by decide) ?_
        exact law_c20 hX s1 rfl hcs (hc2 1 (by decide)) (o20 _ E h i (by omega) hI _ (fun E2 h2 hE hI2 => step E2 h2 1 (by decide) hE hI2))
      by_cases w21 : w = 21
      · refine r_tswI (x := w) (v := 21) (off := 1101) (tgt := 1141) dL_law_40 w21 (by decide) (by decide) (by decide) (by decide) ?_
        exact law_c21 hX s1 rfl hcs (hc2 1 (by decide)) (o21 _ E h i (by omega) hI _ (fun E2 h2 hE hI2 => step E2 h2 1 (by decide) hE hI2))
      by_cases w22 : w = 22
      · refine r_tswI (x := w) (v := 22) (off := 1157) (tgt := 1197) dL_law_40 w22 (by decide) (by decide) (by decide) (by decide) ?_
        exact law_c22 hX hcs (o22 E h i (by omega) hI _ (fun E2 h2 hE hI2 => step E2 h2 0 (by decide) hE hI2))
      by_cases w23 : w = 23
      · refine r_tswI (x := w) (v := 23) (off := 1170) (tgt := 1210) dL_law_40 w23 (by decide) (by decide) (by decide) (by decide) ?_
        exact law_c23 hX s1 rfl hcs (hc2 1 (by decide)) (o23 _ E h i (by omega) hI _ (fun E2 h2 hE hI2 => step E2 h2 1 (by decide) hE hI2))
      by_cases w24 : w = 24
      · refine r_tswI (x := w) (v := 24) (off := 1226) (tgt := 1266) dL_law_40 w24 (by decide) (by decide) (by decide) (by decide) ?_
        exact law_c24 hX s1 rfl s2 rfl hcs (hc2 2 (by decide)) (o24 _ _ E h i (by omega) hI _ (fun E2 h2 hE hI2 => step E2 h2 2 (by decide) hE hI2))
      by_cases w25 : w = 25
      · refine r_tswI (x := w) (v := 25) (off := 1294) (tgt := 1334) dL_law_40 w25 (by decide) (by decide) (by decide) (by decide) ?_
        exact law_c25 hX hcs (o25 E h i (by omega) hI _ (fun E2 h2 hE hI2 => step E2 h2 0 (by decide) hE hI2))
      by_cases w26 : w = 26
      · refine r_tswI (x := w) (v := 26) (off := 1307) (tgt := 1347) dL_law_40 w26 (by decide) (by decide) (by decide) (by decide) ?_
        exact law_c26 hX hcs (o26 E h i (by omega) hI _ (fun E2 h2 hE hI2 => step E2 h2 0 (by decide) hE hI2))
      by_cases w27 : w = 27
      · refine r_tswI (x := w) (v := 27) (off := 1320) (tgt := 1360) dL_law_40 w27 (by decide) (by decide) (by decide) (by decide) ?_
        exact law_c27 hX s1 rfl hcs (hc2 1 (by decide)) (o27 _ E h i (by omega) hI _ (fun E2 h2 hE hI2 => step E2 h2 1 (by decide) hE hI2))
      by_cases w28 : w = 28
      · refine r_tswI (x := w) (v := 28) (off := 1376) (tgt := 1416) dL_law_40 w28 (by decide) (by decide) (by decide) (by decide) ?_
        exact law_c28 hX s1 rfl hcs (hc2 1 (by decide)) (o28 _ E h i (by omega) hI _ (fun E2 h2 hE hI2 => step E2 h2 1 (by decide) hE hI2))
      by_cases w29 : w = 29
      · refine r_tswI (x := w) (v := 29) (off := 1432) (tgt := 1472) dL_law_40 w29 (by decide) (by decide) (by decide) (by decide) ?_
        exact law_c29 hX s1 rfl hcs (hc2 1 (by decide)) (o29 _ E h i (by omega) hI _ (fun E2 h2 hE hI2 => step E2 h2 1 (by decide) hE hI2))
      by_cases w30 : w = 30
      · refine r_tswI (x := w) (v := 30) (off := 1487) (tgt := 1527) dL_law_40 w30 (by decide) (by decide) (by decide) (by decide) ?_
        exact law_c30 hX s1 rfl s2 rfl hcs (hc2 1 (by decide)) (o30 _ _ E h i (by omega) hI _ (fun E2 h2 hE hI2 => step E2 h2 1 (by decide) hE hI2))
      by_cases w31 : w = 31
      · refine r_tswI (x := w) (v := 31) (off := 1555) (tgt := 1595) dL_law_40 w31 (by decide) (by decide) (by decide) (by decide) ?_
        exact law_c31 hX s1 rfl hcs (hc2 1 (by decide)) (o31 _ E h i (by omega) hI _ (fun E2 h2 hE hI2 => step E2 h2 1 (by decide) hE hI2))
      by_cases w32 : w = 32
      · refine r_tswI (x := w) (v := 32) (off := 1611) (tgt := 1651) dL_law_40 w32 (by decide) (by decide) (by decide) (by decide) ?_
        exact law_c32 hX s1 rfl hcs (hc2 2 (by decide)) (o32 _ E h i (by omega) hI _ (fun E2 h2 hE hI2 => step E2 h2 2 (by decide) hE hI2))
      by_cases w33 : w = 33
      · refine r_tswI (x := w) (v := 33) (off := 1667) (tgt := 1707) dL_law_40 w33 (by decide) (by decide) (by decide) (by decide) ?_
        exact law_c33 hX s1 rfl s2 rfl hcs (hc2 2 (by decide)) (o33 _ _ E h i (by omega) hI _ (fun E2 h2 hE hI2 => step E2 h2 2 (by decide) hE hI2))
      by_cases w34 : w = 34
      · refine r_tswI (x := w) (v := 34) (off := 1735) (tgt := 1775) dL_law_40 w34 (by decide) (by decide) (by decide) (by decide) ?_
        exact law_c34 hX hcs (hc2 1 (by decide)) (o34 E h i (by omega) hI _ (fun E2 h2 hE hI2 => step E2 h2 1 (by decide) hE hI2))
      by_cases w35 : w = 35
      · refine r_tswI (x := w) (v := 35) (off := 1779) (tgt := 1819) dL_law_40 w35 (by decide) (by decide) (by decide) (by decide) ?_
        exact law_c35 hX hcs (o35 E h i (by omega) hI _ (fun E2 h2 hE hI2 => step E2 h2 0 (by decide) hE hI2))
      by_cases w36 : w = 36
      · refine r_tswI (x := w) (v := 36) (off := 1792) (tgt := 1832) dL_law_40 w36 (by decide) (by decide) (by decide) (by decide) ?_
        exact law_c36 hX s1 rfl hcs (hc2 1 (by decide)) (o36 _ E h i (by omega) hI _ (fun E2 h2 hE hI2 => step E2 h2 1 (by decide) hE hI2))
      refine r_tswO (x := w) (tgt := 1895) dL_law_40 (sw_out 36 (by decide) (fun k hk => ?_)) (by decide) ?_
      · rcases (show k = 0 ∨ k = 1 ∨ k = 2 ∨ k = 3 ∨ k = 4 ∨ k = 5 ∨ k = 6 ∨ k = 7 ∨ k = 8 ∨ k = 9 ∨ k = 10 ∨ k = 11 ∨ k = 12 ∨ k = 13 ∨ k = 14 ∨ k = 15 ∨ k = 16 ∨ k = 17 ∨ k = 18 ∨ k = 19 ∨ k = 20 ∨ k = 21 ∨ k = 22 ∨ k = 23 ∨ k = 24 ∨ k = 25 ∨ k = 26 ∨ k = 27 ∨ k = 28 ∨ k = 29 ∨ k = 30 ∨ k = 31 ∨ k = 32 ∨ k = 33 ∨ k = 34 ∨ k = 35 ∨ k = 36 by omega) with rfl | rfl | rfl | rfl | rfl | rfl | rfl | rfl | rfl | rfl | rfl | rfl | rfl | rfl | rfl | rfl | rfl | rfl | rfl | rfl | rfl | rfl | rfl | rfl | rfl | rfl | rfl | rfl | rfl | rfl | rfl | rfl | rfl | rfl | rfl | rfl | rfl <;> assumption
      · exact step E h 0 (by decide) rfl (omono i h hI)
