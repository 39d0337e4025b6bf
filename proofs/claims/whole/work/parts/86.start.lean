/-! the law from its entry: two objects and a row are made, then its loop -/
def h0 : Hp := (fun c => if c = 58 then (fun j => if j = 1 then -1 else 0) else if c = 63 then (fun j => if j = 38 then -1 else 0) else (fun _ => 0), fun _ _ => 0)
def setA (E : En) (ad : Nat → Nat) : En := (E.1, E.2.1, E.2.2.1, ad, E.2.2.2.2)
theorem h0_58 : h0.1 58 = (fun j => if j = 1 then -1 else 0) := rfl
section START
variable {E : En} {A : Nat → Prop} {M : Mt} {R : Room} {g : Ga} {Q : State → Prop} {cells slots : Nat} {ws : va_W} {pc : Nat} {lv lv' : List (Nat × Value)} {st : List Value}
theorem p_astore_n {k : Fin 4} {i x : Nat} (hd : decode M.2.1 pc = .ok (.astore_n k, 1)) (hi : (k : Nat) = i) (hn : i < M.2.2.1) (he : (i, Value.ref x) :: lv.filter (fun q => !(q.1 == i) && !(q.1 + 1 == i && q.2.category == 2)) = lv') (t : VP E A M R g Q cells slots ws (pc + 1) lv' st) : VP E A M R g Q cells slots ws pc lv (.ref x :: st) := by
  obtain ⟨p, e, s, m, args, below, meth, c0⟩ := g
  intro C hA H locs ls hP hD hS hl
  exact lv_astore_n C.1 C.2.1 hd hi hl hn he (fun ls2 hl2 => t C hA H locs ls2 hP hD hS hl2)
theorem p_istore {i : Nat} {x : Int32} (hd : decode M.2.1 pc = .ok (.istore i, 2)) (hn : i < M.2.2.1) (he : (i, Value.int x) :: lv.filter (fun q => !(q.1 == i) && !(q.1 + 1 == i && q.2.category == 2)) = lv') (t : VP E A M R g Q cells slots ws (pc + 2) lv' st) : VP E A M R g Q cells slots ws pc lv (.int x :: st) := by
  obtain ⟨p, e, s, m, args, below, meth, c0⟩ := g
  intro C hA H locs ls hP hD hS hl
  exact lv_istore C.1 C.2.1 hd hl hn he (fun ls2 hl2 => t C hA H locs ls2 hP hD hS hl2)
def KstG (E : En) (g : Ga) : Prop := match g with
  | (_, _, s, _, _, _, _, _) => Kst E s
theorem Kst_setA {ad : Nat → Nat} {s : State} (h : Kst E s) : Kst (setA E ad) s := by
  obtain ⟨e1, e2, e3, e4, e5, e6, e7, e8, e9⟩ := E
  obtain ⟨⟨h1, h2, h3, h4, h5, h6, h7, h8, h9, h11⟩, g1, g2, g3, g4, g5⟩ := h
  exact ⟨⟨h1, h2, h3, h4, h5, h6, h7, h8, h9, h11⟩, g1, g2, g3, g4, g5⟩
theorem adr_of {E' : En} {A : Nat → Prop} {h : Hp} (hA0 : A = A0 E') (hD : va_D A (wl E' h)) : AdrOK E' := by
  subst hA0
  have at' : ∀ i, i < lay.length → ∃ x, (wl E' h)[i]? = some (eA E' i, x) := fun i hi => ⟨_, wl_at (List.getElem?_eq_getElem hi)⟩
  refine ⟨fun i j hi hj e => ?_, fun i hi => ?_⟩
  · obtain ⟨x, hx⟩ := at' i hi
    obtain ⟨y, hy⟩ := at' j hj
    exact hD.1 i j _ _ hx hy e
  · obtain ⟨x, hx⟩ := at' i hi
    exact hD.2 i _ hx
theorem cx_of {ad : Nat → Nat} (hk : KstG E g) (C : CxK E M g) (ha : AdrOK (setA E ad)) : Cx (setA E ad) M g := by
  obtain ⟨p, e, s, m, args, below, meth, c0⟩ := g
  exact ⟨C.1, C.2.1, C.2.2.1, C.2.2.2.1, C.2.2.2.2.1, C.2.2.2.2.2.1, C.2.2.2.2.2.2.1, ha, Kst_setA hk⟩
theorem vp_v {ad : Nat → Nat} {h : Hp} (hk : KstG E g) (hA0 : A = A0 E) (hws : ws = wl (setA E ad) h) (t : V (setA E ad) M R g Q cells slots h pc lv st) : VP E A M R g Q cells slots ws pc lv st := by
  obtain ⟨p, e, s, m, args, below, meth, c0⟩ := g
  intro C hA H locs ls hP hD hS hl
  rw [hws] at hP hD
  rw [hA0] at hS
  exact t (cx_of (g := (p, e, s, m, args, below, meth, c0)) hk C (adr_of (h := h) hA0 hD)) H locs ls hP hS hl
end START
def AD (q0 q1 q2 : Nat) (w1 w2 : Nat → Nat) (c : Nat) : Nat := if c = 0 then q0 else if c < 63 then w1 c else if c = 63 then q1 else if c < 98 then w2 (c - 63) else q2
section WS
variable (E : En) (q0 q1 q2 : Nat) (w1 w2 : Nat → Nat)
theorem st_0 : (eA (setA E (AD q0 q1 q2 w1 w2)) 0, cE (setA E (AD q0 q1 q2 w1 w2)) h0 0 (.inl (9, [(2, 1), (2, 3), (2, 5), (2, 17), (2, 29), (2, 32), (2, 40), (2, 46), (2, 51), (2, 58), (0, 0)]))) = ((q0, .inr (9, [.ref (w1 1), .ref (w1 3), .ref (w1 5), .ref (w1 17), .ref (w1 29), .ref (w1 32), .ref (w1 40), .ref (w1 46), .ref (w1 51), .ref (w1 58), .int (0 : Int32)])) : Nat × va_E) := by
  simp [eA, setA, AD, cE, fv, h0]
theorem st_1 : (eA (setA E (AD q0 q1 q2 w1 w2)) 1, cE (setA E (AD q0 q1 q2 w1 w2)) h0 1 (.inl (2, [(0, 0), (2, 2), (0, 0), (0, 0), (0, 0), (1, 0), (0, 0), (0, 0)]))) = ((w1 1, .inr (2, [.int (0 : Int32), .ref (w1 2), .int (0 : Int32), .int (0 : Int32), .int (0 : Int32), .long (0 : Int64), .int (0 : Int32), .int (0 : Int32)])) : Nat × va_E) := by
  simp [eA, setA, AD, cE, fv, h0]
theorem st_2 : (eA (setA E (AD q0 q1 q2 w1 w2)) 2, cE (setA E (AD q0 q1 q2 w1 w2)) h0 2 (.inr (1, 1200))) = ((w1 2, .inl (eC E 1, 1200, .inl (fun _ => 0))) : Nat × va_E) := by
  simp [eA, setA, AD, cE, fv, h0]
theorem st_3 : (eA (setA E (AD q0 q1 q2 w1 w2)) 3, cE (setA E (AD q0 q1 q2 w1 w2)) h0 3 (.inl (3, [(2, 4), (0, 0)]))) = ((w1 3, .inr (3, [.ref (w1 4), .int (0 : Int32)])) : Nat × va_E) := by
  simp [eA, setA, AD, cE, fv, h0]
theorem st_4 : (eA (setA E (AD q0 q1 q2 w1 w2)) 4, cE (setA E (AD q0 q1 q2 w1 w2)) h0 4 (.inr (1, 2232))) = ((w1 4, .inl (eC E 1, 2232, .inl (fun _ => 0))) : Nat × va_E) := by
  simp [eA, setA, AD, cE, fv, h0]
theorem st_5 : (eA (setA E (AD q0 q1 q2 w1 w2)) 5, cE (setA E (AD q0 q1 q2 w1 w2)) h0 5 (.inl (6, [(0, 0), (2, 6), (2, 7), (2, 8), (2, 9), (2, 10), (2, 11), (2, 12), (0, 0), (2, 13), (2, 14), (2, 15), (2, 16)]))) = ((w1 5, .inr (6, [.int (0 : Int32), .ref (w1 6), .ref (w1 7), .ref (w1 8), .ref (w1 9), .ref (w1 10), .ref (w1 11), .ref (w1 12), .int (0 : Int32), .ref (w1 13), .ref (w1 14), .ref (w1 15), .ref (w1 16)])) : Nat × va_E) := by
  simp [eA, setA, AD, cE, fv, h0]
theorem st_6 : (eA (setA E (AD q0 q1 q2 w1 w2)) 6, cE (setA E (AD q0 q1 q2 w1 w2)) h0 6 (.inr (3, 12))) = ((w1 6, .inl (eC E 3, 12, .inr (.inl (fun _ => 0)))) : Nat × va_E) := by
  simp [eA, setA, AD, cE, fv, h0]
theorem st_7 : (eA (setA E (AD q0 q1 q2 w1 w2)) 7, cE (setA E (AD q0 q1 q2 w1 w2)) h0 7 (.inr (0, 12))) = ((w1 7, .inl (eC E 0, 12, .inl (fun _ => 0))) : Nat × va_E) := by
  simp [eA, setA, AD, cE, fv, h0]
theorem st_8 : (eA (setA E (AD q0 q1 q2 w1 w2)) 8, cE (setA E (AD q0 q1 q2 w1 w2)) h0 8 (.inr (0, 12))) = ((w1 8, .inl (eC E 0, 12, .inl (fun _ => 0))) : Nat × va_E) := by
  simp [eA, setA, AD, cE, fv, h0]
theorem st_9 : (eA (setA E (AD q0 q1 q2 w1 w2)) 9, cE (setA E (AD q0 q1 q2 w1 w2)) h0 9 (.inr (0, 12))) = ((w1 9, .inl (eC E 0, 12, .inl (fun _ => 0))) : Nat × va_E) := by
  simp [eA, setA, AD, cE, fv, h0]
theorem st_10 : (eA (setA E (AD q0 q1 q2 w1 w2)) 10, cE (setA E (AD q0 q1 q2 w1 w2)) h0 10 (.inr (0, 12))) = ((w1 10, .inl (eC E 0, 12, .inl (fun _ => 0))) : Nat × va_E) := by
  simp [eA, setA, AD, cE, fv, h0]
theorem st_11 : (eA (setA E (AD q0 q1 q2 w1 w2)) 11, cE (setA E (AD q0 q1 q2 w1 w2)) h0 11 (.inr (0, 12))) = ((w1 11, .inl (eC E 0, 12, .inl (fun _ => 0))) : Nat × va_E) := by
  simp [eA, setA, AD, cE, fv, h0]
theorem st_12 : (eA (setA E (AD q0 q1 q2 w1 w2)) 12, cE (setA E (AD q0 q1 q2 w1 w2)) h0 12 (.inr (0, 12))) = ((w1 12, .inl (eC E 0, 12, .inl (fun _ => 0))) : Nat × va_E) := by
  simp [eA, setA, AD, cE, fv, h0]
theorem st_13 : (eA (setA E (AD q0 q1 q2 w1 w2)) 13, cE (setA E (AD q0 q1 q2 w1 w2)) h0 13 (.inr (3, 8))) = ((w1 13, .inl (eC E 3, 8, .inr (.inl (fun _ => 0)))) : Nat × va_E) := by
  simp [eA, setA, AD, cE, fv, h0]
theorem st_14 : (eA (setA E (AD q0 q1 q2 w1 w2)) 14, cE (setA E (AD q0 q1 q2 w1 w2)) h0 14 (.inr (0, 8))) = ((w1 14, .inl (eC E 0, 8, .inl (fun _ => 0))) : Nat × va_E) := by
  simp [eA, setA, AD, cE, fv, h0]
theorem st_15 : (eA (setA E (AD q0 q1 q2 w1 w2)) 15, cE (setA E (AD q0 q1 q2 w1 w2)) h0 15 (.inr (0, 192))) = ((w1 15, .inl (eC E 0, 192, .inl (fun _ => 0))) : Nat × va_E) := by
  simp [eA, setA, AD, cE, fv, h0]
theorem st_16 : (eA (setA E (AD q0 q1 q2 w1 w2)) 16, cE (setA E (AD q0 q1 q2 w1 w2)) h0 16 (.inr (2, 192))) = ((w1 16, .inl (eC E 2, 192, .inl (fun _ => 0))) : Nat × va_E) := by
  simp [eA, setA, AD, cE, fv, h0]
theorem st_17 : (eA (setA E (AD q0 q1 q2 w1 w2)) 17, cE (setA E (AD q0 q1 q2 w1 w2)) h0 17 (.inl (6, [(0, 0), (2, 18), (2, 19), (2, 20), (2, 21), (2, 22), (2, 23), (2, 24), (0, 0), (2, 25), (2, 26), (2, 27), (2, 28)]))) = ((w1 17, .inr (6, [.int (0 : Int32), .ref (w1 18), .ref (w1 19), .ref (w1 20), .ref (w1 21), .ref (w1 22), .ref (w1 23), .ref (w1 24), .int (0 : Int32), .ref (w1 25), .ref (w1 26), .ref (w1 27), .ref (w1 28)])) : Nat × va_E) := by
  simp [eA, setA, AD, cE, fv, h0]
theorem st_18 : (eA (setA E (AD q0 q1 q2 w1 w2)) 18, cE (setA E (AD q0 q1 q2 w1 w2)) h0 18 (.inr (3, 12))) = ((w1 18, .inl (eC E 3, 12, .inr (.inl (fun _ => 0)))) : Nat × va_E) := by
  simp [eA, setA, AD, cE, fv, h0]
theorem st_19 : (eA (setA E (AD q0 q1 q2 w1 w2)) 19, cE (setA E (AD q0 q1 q2 w1 w2)) h0 19 (.inr (0, 12))) = ((w1 19, .inl (eC E 0, 12, .inl (fun _ => 0))) : Nat × va_E) := by
  simp [eA, setA, AD, cE, fv, h0]
theorem st_20 : (eA (setA E (AD q0 q1 q2 w1 w2)) 20, cE (setA E (AD q0 q1 q2 w1 w2)) h0 20 (.inr (0, 12))) = ((w1 20, .inl (eC E 0, 12, .inl (fun _ => 0))) : Nat × va_E) := by
  simp [eA, setA, AD, cE, fv, h0]
theorem st_21 : (eA (setA E (AD q0 q1 q2 w1 w2)) 21, cE (setA E (AD q0 q1 q2 w1 w2)) h0 21 (.inr (0, 12))) = ((w1 21, .inl (eC E 0, 12, .inl (fun _ => 0))) : Nat × va_E) := by
  simp [eA, setA, AD, cE, fv, h0]
theorem st_22 : (eA (setA E (AD q0 q1 q2 w1 w2)) 22, cE (setA E (AD q0 q1 q2 w1 w2)) h0 22 (.inr (0, 12))) = ((w1 22, .inl (eC E 0, 12, .inl (fun _ => 0))) : Nat × va_E) := by
  simp [eA, setA, AD, cE, fv, h0]
theorem st_23 : (eA (setA E (AD q0 q1 q2 w1 w2)) 23, cE (setA E (AD q0 q1 q2 w1 w2)) h0 23 (.inr (0, 12))) = ((w1 23, .inl (eC E 0, 12, .inl (fun _ => 0))) : Nat × va_E) := by
  simp [eA, setA, AD, cE, fv, h0]
theorem st_24 : (eA (setA E (AD q0 q1 q2 w1 w2)) 24, cE (setA E (AD q0 q1 q2 w1 w2)) h0 24 (.inr (0, 12))) = ((w1 24, .inl (eC E 0, 12, .inl (fun _ => 0))) : Nat × va_E) := by
  simp [eA, setA, AD, cE, fv, h0]
theorem st_25 : (eA (setA E (AD q0 q1 q2 w1 w2)) 25, cE (setA E (AD q0 q1 q2 w1 w2)) h0 25 (.inr (3, 8))) = ((w1 25, .inl (eC E 3, 8, .inr (.inl (fun _ => 0)))) : Nat × va_E) := by
  simp [eA, setA, AD, cE, fv, h0]
theorem st_26 : (eA (setA E (AD q0 q1 q2 w1 w2)) 26, cE (setA E (AD q0 q1 q2 w1 w2)) h0 26 (.inr (0, 8))) = ((w1 26, .inl (eC E 0, 8, .inl (fun _ => 0))) : Nat × va_E) := by
  simp [eA, setA, AD, cE, fv, h0]
theorem st_27 : (eA (setA E (AD q0 q1 q2 w1 w2)) 27, cE (setA E (AD q0 q1 q2 w1 w2)) h0 27 (.inr (0, 192))) = ((w1 27, .inl (eC E 0, 192, .inl (fun _ => 0))) : Nat × va_E) := by
  simp [eA, setA, AD, cE, fv, h0]
theorem st_28 : (eA (setA E (AD q0 q1 q2 w1 w2)) 28, cE (setA E (AD q0 q1 q2 w1 w2)) h0 28 (.inr (2, 192))) = ((w1 28, .inl (eC E 2, 192, .inl (fun _ => 0))) : Nat × va_E) := by
  simp [eA, setA, AD, cE, fv, h0]
theorem st_29 : (eA (setA E (AD q0 q1 q2 w1 w2)) 29, cE (setA E (AD q0 q1 q2 w1 w2)) h0 29 (.inl (1, [(2, 30), (2, 31), (0, 0)]))) = ((w1 29, .inr (1, [.ref (w1 30), .ref (w1 31), .int (0 : Int32)])) : Nat × va_E) := by
  simp [eA, setA, AD, cE, fv, h0]
theorem st_30 : (eA (setA E (AD q0 q1 q2 w1 w2)) 30, cE (setA E (AD q0 q1 q2 w1 w2)) h0 30 (.inr (0, 8))) = ((w1 30, .inl (eC E 0, 8, .inl (fun _ => 0))) : Nat × va_E) := by
  simp [eA, setA, AD, cE, fv, h0]
theorem st_31 : (eA (setA E (AD q0 q1 q2 w1 w2)) 31, cE (setA E (AD q0 q1 q2 w1 w2)) h0 31 (.inr (0, 8))) = ((w1 31, .inl (eC E 0, 8, .inl (fun _ => 0))) : Nat × va_E) := by
  simp [eA, setA, AD, cE, fv, h0]
theorem st_32 : (eA (setA E (AD q0 q1 q2 w1 w2)) 32, cE (setA E (AD q0 q1 q2 w1 w2)) h0 32 (.inl (4, [(2, 33), (0, 0), (0, 0), (0, 0), (2, 34), (2, 35), (2, 36), (2, 37), (2, 38), (2, 39), (0, 0), (0, 0)]))) = ((w1 32, .inr (4, [.ref (w1 33), .int (0 : Int32), .int (0 : Int32), .int (0 : Int32), .ref (w1 34), .ref (w1 35), .ref (w1 36), .ref (w1 37), .ref (w1 38), .ref (w1 39), .int (0 : Int32), .int (0 : Int32)])) : Nat × va_E) := by
  simp [eA, setA, AD, cE, fv, h0]
theorem st_33 : (eA (setA E (AD q0 q1 q2 w1 w2)) 33, cE (setA E (AD q0 q1 q2 w1 w2)) h0 33 (.inr (0, 10))) = ((w1 33, .inl (eC E 0, 10, .inl (fun _ => 0))) : Nat × va_E) := by
  simp [eA, setA, AD, cE, fv, h0]
theorem st_34 : (eA (setA E (AD q0 q1 q2 w1 w2)) 34, cE (setA E (AD q0 q1 q2 w1 w2)) h0 34 (.inr (0, 10))) = ((w1 34, .inl (eC E 0, 10, .inl (fun _ => 0))) : Nat × va_E) := by
  simp [eA, setA, AD, cE, fv, h0]
theorem st_35 : (eA (setA E (AD q0 q1 q2 w1 w2)) 35, cE (setA E (AD q0 q1 q2 w1 w2)) h0 35 (.inr (0, 10))) = ((w1 35, .inl (eC E 0, 10, .inl (fun _ => 0))) : Nat × va_E) := by
  simp [eA, setA, AD, cE, fv, h0]
theorem st_36 : (eA (setA E (AD q0 q1 q2 w1 w2)) 36, cE (setA E (AD q0 q1 q2 w1 w2)) h0 36 (.inr (0, 10))) = ((w1 36, .inl (eC E 0, 10, .inl (fun _ => 0))) : Nat × va_E) := by
  simp [eA, setA, AD, cE, fv, h0]
theorem st_37 : (eA (setA E (AD q0 q1 q2 w1 w2)) 37, cE (setA E (AD q0 q1 q2 w1 w2)) h0 37 (.inr (0, 10))) = ((w1 37, .inl (eC E 0, 10, .inl (fun _ => 0))) : Nat × va_E) := by
  simp [eA, setA, AD, cE, fv, h0]
theorem st_38 : (eA (setA E (AD q0 q1 q2 w1 w2)) 38, cE (setA E (AD q0 q1 q2 w1 w2)) h0 38 (.inr (0, 6))) = ((w1 38, .inl (eC E 0, 6, .inl (fun _ => 0))) : Nat × va_E) := by
  simp [eA, setA, AD, cE, fv, h0]
theorem st_39 : (eA (setA E (AD q0 q1 q2 w1 w2)) 39, cE (setA E (AD q0 q1 q2 w1 w2)) h0 39 (.inr (0, 1024))) = ((w1 39, .inl (eC E 0, 1024, .inl (fun _ => 0))) : Nat × va_E) := by
  simp [eA, setA, AD, cE, fv, h0]
theorem st_40 : (eA (setA E (AD q0 q1 q2 w1 w2)) 40, cE (setA E (AD q0 q1 q2 w1 w2)) h0 40 (.inl (8, [(2, 41), (2, 42), (2, 43), (2, 44), (2, 45)]))) = ((w1 40, .inr (8, [.ref (w1 41), .ref (w1 42), .ref (w1 43), .ref (w1 44), .ref (w1 45)])) : Nat × va_E) := by
  simp [eA, setA, AD, cE, fv, h0]
theorem st_41 : (eA (setA E (AD q0 q1 q2 w1 w2)) 41, cE (setA E (AD q0 q1 q2 w1 w2)) h0 41 (.inr (0, 8))) = ((w1 41, .inl (eC E 0, 8, .inl (fun _ => 0))) : Nat × va_E) := by
  simp [eA, setA, AD, cE, fv, h0]
theorem st_42 : (eA (setA E (AD q0 q1 q2 w1 w2)) 42, cE (setA E (AD q0 q1 q2 w1 w2)) h0 42 (.inr (0, 8))) = ((w1 42, .inl (eC E 0, 8, .inl (fun _ => 0))) : Nat × va_E) := by
  simp [eA, setA, AD, cE, fv, h0]
theorem st_43 : (eA (setA E (AD q0 q1 q2 w1 w2)) 43, cE (setA E (AD q0 q1 q2 w1 w2)) h0 43 (.inr (0, 8))) = ((w1 43, .inl (eC E 0, 8, .inl (fun _ => 0))) : Nat × va_E) := by
  simp [eA, setA, AD, cE, fv, h0]
theorem st_44 : (eA (setA E (AD q0 q1 q2 w1 w2)) 44, cE (setA E (AD q0 q1 q2 w1 w2)) h0 44 (.inr (0, 192))) = ((w1 44, .inl (eC E 0, 192, .inl (fun _ => 0))) : Nat × va_E) := by
  simp [eA, setA, AD, cE, fv, h0]
theorem st_45 : (eA (setA E (AD q0 q1 q2 w1 w2)) 45, cE (setA E (AD q0 q1 q2 w1 w2)) h0 45 (.inr (2, 192))) = ((w1 45, .inl (eC E 2, 192, .inl (fun _ => 0))) : Nat × va_E) := by
  simp [eA, setA, AD, cE, fv, h0]
theorem st_46 : (eA (setA E (AD q0 q1 q2 w1 w2)) 46, cE (setA E (AD q0 q1 q2 w1 w2)) h0 46 (.inl (7, [(2, 47), (2, 48), (2, 49), (2, 50), (0, 0)]))) = ((w1 46, .inr (7, [.ref (w1 47), .ref (w1 48), .ref (w1 49), .ref (w1 50), .int (0 : Int32)])) : Nat × va_E) := by
  simp [eA, setA, AD, cE, fv, h0]
theorem st_47 : (eA (setA E (AD q0 q1 q2 w1 w2)) 47, cE (setA E (AD q0 q1 q2 w1 w2)) h0 47 (.inr (0, 192))) = ((w1 47, .inl (eC E 0, 192, .inl (fun _ => 0))) : Nat × va_E) := by
  simp [eA, setA, AD, cE, fv, h0]
theorem st_48 : (eA (setA E (AD q0 q1 q2 w1 w2)) 48, cE (setA E (AD q0 q1 q2 w1 w2)) h0 48 (.inr (2, 192))) = ((w1 48, .inl (eC E 2, 192, .inl (fun _ => 0))) : Nat × va_E) := by
  simp [eA, setA, AD, cE, fv, h0]
theorem st_49 : (eA (setA E (AD q0 q1 q2 w1 w2)) 49, cE (setA E (AD q0 q1 q2 w1 w2)) h0 49 (.inr (0, 192))) = ((w1 49, .inl (eC E 0, 192, .inl (fun _ => 0))) : Nat × va_E) := by
  simp [eA, setA, AD, cE, fv, h0]
theorem st_50 : (eA (setA E (AD q0 q1 q2 w1 w2)) 50, cE (setA E (AD q0 q1 q2 w1 w2)) h0 50 (.inr (0, 8))) = ((w1 50, .inl (eC E 0, 8, .inl (fun _ => 0))) : Nat × va_E) := by
  simp [eA, setA, AD, cE, fv, h0]
theorem st_51 : (eA (setA E (AD q0 q1 q2 w1 w2)) 51, cE (setA E (AD q0 q1 q2 w1 w2)) h0 51 (.inl (0, [(0, 0), (0, 0), (0, 0), (2, 52), (2, 53), (2, 54), (2, 55), (2, 56), (2, 57)]))) = ((w1 51, .inr (0, [.int (0 : Int32), .int (0 : Int32), .int (0 : Int32), .ref (w1 52), .ref (w1 53), .ref (w1 54), .ref (w1 55), .ref (w1 56), .ref (w1 57)])) : Nat × va_E) := by
  simp [eA, setA, AD, cE, fv, h0]
theorem st_52 : (eA (setA E (AD q0 q1 q2 w1 w2)) 52, cE (setA E (AD q0 q1 q2 w1 w2)) h0 52 (.inr (0, 12))) = ((w1 52, .inl (eC E 0, 12, .inl (fun _ => 0))) : Nat × va_E) := by
  simp [eA, setA, AD, cE, fv, h0]
theorem st_53 : (eA (setA E (AD q0 q1 q2 w1 w2)) 53, cE (setA E (AD q0 q1 q2 w1 w2)) h0 53 (.inr (0, 12))) = ((w1 53, .inl (eC E 0, 12, .inl (fun _ => 0))) : Nat × va_E) := by
  simp [eA, setA, AD, cE, fv, h0]
theorem st_54 : (eA (setA E (AD q0 q1 q2 w1 w2)) 54, cE (setA E (AD q0 q1 q2 w1 w2)) h0 54 (.inr (0, 12))) = ((w1 54, .inl (eC E 0, 12, .inl (fun _ => 0))) : Nat × va_E) := by
  simp [eA, setA, AD, cE, fv, h0]
theorem st_55 : (eA (setA E (AD q0 q1 q2 w1 w2)) 55, cE (setA E (AD q0 q1 q2 w1 w2)) h0 55 (.inr (0, 12))) = ((w1 55, .inl (eC E 0, 12, .inl (fun _ => 0))) : Nat × va_E) := by
  simp [eA, setA, AD, cE, fv, h0]
theorem st_56 : (eA (setA E (AD q0 q1 q2 w1 w2)) 56, cE (setA E (AD q0 q1 q2 w1 w2)) h0 56 (.inr (0, 4096))) = ((w1 56, .inl (eC E 0, 4096, .inl (fun _ => 0))) : Nat × va_E) := by
  simp [eA, setA, AD, cE, fv, h0]
theorem st_57 : (eA (setA E (AD q0 q1 q2 w1 w2)) 57, cE (setA E (AD q0 q1 q2 w1 w2)) h0 57 (.inr (0, 4096))) = ((w1 57, .inl (eC E 0, 4096, .inl (fun _ => 0))) : Nat × va_E) := by
  simp [eA, setA, AD, cE, fv, h0]
theorem st_58 : (eA (setA E (AD q0 q1 q2 w1 w2)) 58, cE (setA E (AD q0 q1 q2 w1 w2)) h0 58 (.inl (5, [(2, 59), (0, 0), (2, 60), (2, 61), (2, 62)]))) = ((w1 58, .inr (5, [.ref (w1 59), .int (-1 : Int32), .ref (w1 60), .ref (w1 61), .ref (w1 62)])) : Nat × va_E) := by
  simp [eA, setA, AD, cE, fv, h0]
theorem st_59 : (eA (setA E (AD q0 q1 q2 w1 w2)) 59, cE (setA E (AD q0 q1 q2 w1 w2)) h0 59 (.inr (0, 8))) = ((w1 59, .inl (eC E 0, 8, .inl (fun _ => 0))) : Nat × va_E) := by
  simp [eA, setA, AD, cE, fv, h0]
theorem st_60 : (eA (setA E (AD q0 q1 q2 w1 w2)) 60, cE (setA E (AD q0 q1 q2 w1 w2)) h0 60 (.inr (0, 12))) = ((w1 60, .inl (eC E 0, 12, .inl (fun _ => 0))) : Nat × va_E) := by
  simp [eA, setA, AD, cE, fv, h0]
theorem st_61 : (eA (setA E (AD q0 q1 q2 w1 w2)) 61, cE (setA E (AD q0 q1 q2 w1 w2)) h0 61 (.inr (0, 8))) = ((w1 61, .inl (eC E 0, 8, .inl (fun _ => 0))) : Nat × va_E) := by
  simp [eA, setA, AD, cE, fv, h0]
theorem st_62 : (eA (setA E (AD q0 q1 q2 w1 w2)) 62, cE (setA E (AD q0 q1 q2 w1 w2)) h0 62 (.inr (0, 8))) = ((w1 62, .inl (eC E 0, 8, .inl (fun _ => 0))) : Nat × va_E) := by
  simp [eA, setA, AD, cE, fv, h0]
theorem st_63 : (eA (setA E (AD q0 q1 q2 w1 w2)) 63, cE (setA E (AD q0 q1 q2 w1 w2)) h0 63 (.inl (10, [(0, 0), (0, 0), (0, 0), (2, 64), (2, 65), (2, 66), (2, 67), (2, 68), (0, 0), (0, 0), (0, 0), (2, 69), (2, 70), (2, 71), (2, 72), (2, 73), (2, 74), (2, 75), (2, 76), (2, 77), (2, 78), (0, 0), (2, 79), (2, 80), (2, 81), (2, 82), (0, 0), (2, 83), (2, 84), (2, 85), (0, 0), (0, 0), (2, 86), (0, 0), (2, 87), (2, 88), (2, 89), (2, 90), (0, 0), (2, 91), (2, 92), (0, 0), (0, 0), (0, 0), (0, 0), (0, 0), (0, 0), (0, 0), (0, 0), (0, 0), (2, 93), (2, 94), (2, 95), (2, 96), (2, 97)]))) = ((q1, .inr (10, [.int 0, .int 0, .int 0, .ref (w2 1), .ref (w2 2), .ref (w2 3), .ref (w2 4), .ref (w2 5), .int 0, .int 0, .int 0, .ref (w2 6), .ref (w2 7), .ref (w2 8), .ref (w2 9), .ref (w2 10), .ref (w2 11), .ref (w2 12), .ref (w2 13), .ref (w2 14), .ref (w2 15), .int 0, .ref (w2 16), .ref (w2 17), .ref (w2 18), .ref (w2 19), .int 0, .ref (w2 20), .ref (w2 21), .ref (w2 22), .int 0, .int 0, .ref (w2 23), .int 0, .ref (w2 24), .ref (w2 25), .ref (w2 26), .ref (w2 27), .int (-1 : Int32), .ref (w2 28), .ref (w2 29), .int 0, .int 0, .int 0, .int 0, .int 0, .int 0, .int 0, .int 0, .int 0, .ref (w2 30), .ref (w2 31), .ref (w2 32), .ref (w2 33), .ref (w2 34)])) : Nat × va_E) := by
  simp [eA, setA, AD, cE, fv, h0]
theorem st_64 : (eA (setA E (AD q0 q1 q2 w1 w2)) 64, cE (setA E (AD q0 q1 q2 w1 w2)) h0 64 (.inr (0, 60))) = ((w2 1, .inl (eC E 0, 60, .inl (fun _ => 0))) : Nat × va_E) := by
  simp [eA, setA, AD, cE, fv, h0]
theorem st_65 : (eA (setA E (AD q0 q1 q2 w1 w2)) 65, cE (setA E (AD q0 q1 q2 w1 w2)) h0 65 (.inr (0, 160))) = ((w2 2, .inl (eC E 0, 160, .inl (fun _ => 0))) : Nat × va_E) := by
  simp [eA, setA, AD, cE, fv, h0]
theorem st_66 : (eA (setA E (AD q0 q1 q2 w1 w2)) 66, cE (setA E (AD q0 q1 q2 w1 w2)) h0 66 (.inr (0, 8))) = ((w2 3, .inl (eC E 0, 8, .inl (fun _ => 0))) : Nat × va_E) := by
  simp [eA, setA, AD, cE, fv, h0]
theorem st_67 : (eA (setA E (AD q0 q1 q2 w1 w2)) 67, cE (setA E (AD q0 q1 q2 w1 w2)) h0 67 (.inr (0, 192))) = ((w2 4, .inl (eC E 0, 192, .inl (fun _ => 0))) : Nat × va_E) := by
  simp [eA, setA, AD, cE, fv, h0]
theorem st_68 : (eA (setA E (AD q0 q1 q2 w1 w2)) 68, cE (setA E (AD q0 q1 q2 w1 w2)) h0 68 (.inr (0, 9))) = ((w2 5, .inl (eC E 0, 9, .inl (fun _ => 0))) : Nat × va_E) := by
  simp [eA, setA, AD, cE, fv, h0]
theorem st_69 : (eA (setA E (AD q0 q1 q2 w1 w2)) 69, cE (setA E (AD q0 q1 q2 w1 w2)) h0 69 (.inr (0, 10))) = ((w2 6, .inl (eC E 0, 10, .inl (fun _ => 0))) : Nat × va_E) := by
  simp [eA, setA, AD, cE, fv, h0]
theorem st_70 : (eA (setA E (AD q0 q1 q2 w1 w2)) 70, cE (setA E (AD q0 q1 q2 w1 w2)) h0 70 (.inr (0, 10))) = ((w2 7, .inl (eC E 0, 10, .inl (fun _ => 0))) : Nat × va_E) := by
  simp [eA, setA, AD, cE, fv, h0]
theorem st_71 : (eA (setA E (AD q0 q1 q2 w1 w2)) 71, cE (setA E (AD q0 q1 q2 w1 w2)) h0 71 (.inr (0, 10))) = ((w2 8, .inl (eC E 0, 10, .inl (fun _ => 0))) : Nat × va_E) := by
  simp [eA, setA, AD, cE, fv, h0]
theorem st_72 : (eA (setA E (AD q0 q1 q2 w1 w2)) 72, cE (setA E (AD q0 q1 q2 w1 w2)) h0 72 (.inr (0, 1024))) = ((w2 9, .inl (eC E 0, 1024, .inl (fun _ => 0))) : Nat × va_E) := by
  simp [eA, setA, AD, cE, fv, h0]
theorem st_73 : (eA (setA E (AD q0 q1 q2 w1 w2)) 73, cE (setA E (AD q0 q1 q2 w1 w2)) h0 73 (.inr (0, 1024))) = ((w2 10, .inl (eC E 0, 1024, .inl (fun _ => 0))) : Nat × va_E) := by
  simp [eA, setA, AD, cE, fv, h0]
theorem st_74 : (eA (setA E (AD q0 q1 q2 w1 w2)) 74, cE (setA E (AD q0 q1 q2 w1 w2)) h0 74 (.inr (0, 192))) = ((w2 11, .inl (eC E 0, 192, .inl (fun _ => 0))) : Nat × va_E) := by
  simp [eA, setA, AD, cE, fv, h0]
theorem st_75 : (eA (setA E (AD q0 q1 q2 w1 w2)) 75, cE (setA E (AD q0 q1 q2 w1 w2)) h0 75 (.inr (0, 192))) = ((w2 12, .inl (eC E 0, 192, .inl (fun _ => 0))) : Nat × va_E) := by
  simp [eA, setA, AD, cE, fv, h0]
theorem st_76 : (eA (setA E (AD q0 q1 q2 w1 w2)) 76, cE (setA E (AD q0 q1 q2 w1 w2)) h0 76 (.inr (0, 9))) = ((w2 13, .inl (eC E 0, 9, .inl (fun _ => 0))) : Nat × va_E) := by
  simp [eA, setA, AD, cE, fv, h0]
theorem st_77 : (eA (setA E (AD q0 q1 q2 w1 w2)) 77, cE (setA E (AD q0 q1 q2 w1 w2)) h0 77 (.inr (0, 8))) = ((w2 14, .inl (eC E 0, 8, .inl (fun _ => 0))) : Nat × va_E) := by
  simp [eA, setA, AD, cE, fv, h0]
theorem st_78 : (eA (setA E (AD q0 q1 q2 w1 w2)) 78, cE (setA E (AD q0 q1 q2 w1 w2)) h0 78 (.inr (0, 8))) = ((w2 15, .inl (eC E 0, 8, .inl (fun _ => 0))) : Nat × va_E) := by
  simp [eA, setA, AD, cE, fv, h0]
theorem st_79 : (eA (setA E (AD q0 q1 q2 w1 w2)) 79, cE (setA E (AD q0 q1 q2 w1 w2)) h0 79 (.inr (0, 192))) = ((w2 16, .inl (eC E 0, 192, .inl (fun _ => 0))) : Nat × va_E) := by
  simp [eA, setA, AD, cE, fv, h0]
theorem st_80 : (eA (setA E (AD q0 q1 q2 w1 w2)) 80, cE (setA E (AD q0 q1 q2 w1 w2)) h0 80 (.inr (0, 192))) = ((w2 17, .inl (eC E 0, 192, .inl (fun _ => 0))) : Nat × va_E) := by
  simp [eA, setA, AD, cE, fv, h0]
theorem st_81 : (eA (setA E (AD q0 q1 q2 w1 w2)) 81, cE (setA E (AD q0 q1 q2 w1 w2)) h0 81 (.inr (0, 192))) = ((w2 18, .inl (eC E 0, 192, .inl (fun _ => 0))) : Nat × va_E) := by
  simp [eA, setA, AD, cE, fv, h0]
theorem st_82 : (eA (setA E (AD q0 q1 q2 w1 w2)) 82, cE (setA E (AD q0 q1 q2 w1 w2)) h0 82 (.inr (0, 8))) = ((w2 19, .inl (eC E 0, 8, .inl (fun _ => 0))) : Nat × va_E) := by
  simp [eA, setA, AD, cE, fv, h0]
theorem st_83 : (eA (setA E (AD q0 q1 q2 w1 w2)) 83, cE (setA E (AD q0 q1 q2 w1 w2)) h0 83 (.inr (2, 4096))) = ((w2 20, .inl (eC E 2, 4096, .inl (fun _ => 0))) : Nat × va_E) := by
  simp [eA, setA, AD, cE, fv, h0]
theorem st_84 : (eA (setA E (AD q0 q1 q2 w1 w2)) 84, cE (setA E (AD q0 q1 q2 w1 w2)) h0 84 (.inr (0, 4096))) = ((w2 21, .inl (eC E 0, 4096, .inl (fun _ => 0))) : Nat × va_E) := by
  simp [eA, setA, AD, cE, fv, h0]
theorem st_85 : (eA (setA E (AD q0 q1 q2 w1 w2)) 85, cE (setA E (AD q0 q1 q2 w1 w2)) h0 85 (.inr (0, 12))) = ((w2 22, .inl (eC E 0, 12, .inl (fun _ => 0))) : Nat × va_E) := by
  simp [eA, setA, AD, cE, fv, h0]
theorem st_86 : (eA (setA E (AD q0 q1 q2 w1 w2)) 86, cE (setA E (AD q0 q1 q2 w1 w2)) h0 86 (.inr (0, 72))) = ((w2 23, .inl (eC E 0, 72, .inl (fun _ => 0))) : Nat × va_E) := by
  simp [eA, setA, AD, cE, fv, h0]
theorem st_87 : (eA (setA E (AD q0 q1 q2 w1 w2)) 87, cE (setA E (AD q0 q1 q2 w1 w2)) h0 87 (.inr (0, 8))) = ((w2 24, .inl (eC E 0, 8, .inl (fun _ => 0))) : Nat × va_E) := by
  simp [eA, setA, AD, cE, fv, h0]
theorem st_88 : (eA (setA E (AD q0 q1 q2 w1 w2)) 88, cE (setA E (AD q0 q1 q2 w1 w2)) h0 88 (.inr (0, 8))) = ((w2 25, .inl (eC E 0, 8, .inl (fun _ => 0))) : Nat × va_E) := by
  simp [eA, setA, AD, cE, fv, h0]
theorem st_89 : (eA (setA E (AD q0 q1 q2 w1 w2)) 89, cE (setA E (AD q0 q1 q2 w1 w2)) h0 89 (.inr (0, 8))) = ((w2 26, .inl (eC E 0, 8, .inl (fun _ => 0))) : Nat × va_E) := by
  simp [eA, setA, AD, cE, fv, h0]
theorem st_90 : (eA (setA E (AD q0 q1 q2 w1 w2)) 90, cE (setA E (AD q0 q1 q2 w1 w2)) h0 90 (.inr (0, 8))) = ((w2 27, .inl (eC E 0, 8, .inl (fun _ => 0))) : Nat × va_E) := by
  simp [eA, setA, AD, cE, fv, h0]
theorem st_91 : (eA (setA E (AD q0 q1 q2 w1 w2)) 91, cE (setA E (AD q0 q1 q2 w1 w2)) h0 91 (.inr (1, 1200))) = ((w2 28, .inl (eC E 1, 1200, .inl (fun _ => 0))) : Nat × va_E) := by
  simp [eA, setA, AD, cE, fv, h0]
theorem st_92 : (eA (setA E (AD q0 q1 q2 w1 w2)) 92, cE (setA E (AD q0 q1 q2 w1 w2)) h0 92 (.inr (1, 3000))) = ((w2 29, .inl (eC E 1, 3000, .inl (fun _ => 0))) : Nat × va_E) := by
  simp [eA, setA, AD, cE, fv, h0]
theorem st_93 : (eA (setA E (AD q0 q1 q2 w1 w2)) 93, cE (setA E (AD q0 q1 q2 w1 w2)) h0 93 (.inr (0, 60))) = ((w2 30, .inl (eC E 0, 60, .inl (fun _ => 0))) : Nat × va_E) := by
  simp [eA, setA, AD, cE, fv, h0]
theorem st_94 : (eA (setA E (AD q0 q1 q2 w1 w2)) 94, cE (setA E (AD q0 q1 q2 w1 w2)) h0 94 (.inr (0, 160))) = ((w2 31, .inl (eC E 0, 160, .inl (fun _ => 0))) : Nat × va_E) := by
  simp [eA, setA, AD, cE, fv, h0]
theorem st_95 : (eA (setA E (AD q0 q1 q2 w1 w2)) 95, cE (setA E (AD q0 q1 q2 w1 w2)) h0 95 (.inr (0, 8))) = ((w2 32, .inl (eC E 0, 8, .inl (fun _ => 0))) : Nat × va_E) := by
  simp [eA, setA, AD, cE, fv, h0]
theorem st_96 : (eA (setA E (AD q0 q1 q2 w1 w2)) 96, cE (setA E (AD q0 q1 q2 w1 w2)) h0 96 (.inr (0, 192))) = ((w2 33, .inl (eC E 0, 192, .inl (fun _ => 0))) : Nat × va_E) := by
  simp [eA, setA, AD, cE, fv, h0]
theorem st_97 : (eA (setA E (AD q0 q1 q2 w1 w2)) 97, cE (setA E (AD q0 q1 q2 w1 w2)) h0 97 (.inr (0, 9))) = ((w2 34, .inl (eC E 0, 9, .inl (fun _ => 0))) : Nat × va_E) := by
  simp [eA, setA, AD, cE, fv, h0]
theorem st_98 : (eA (setA E (AD q0 q1 q2 w1 w2)) 98, cE (setA E (AD q0 q1 q2 w1 w2)) h0 98 (.inr (3, 1))) = ((q2, .inl (eC E 3, 1, .inr (.inl (fun _ => 0)))) : Nat × va_E) := by
  simp [eA, setA, AD, cE, fv, h0]
end WS
theorem wl_start (E : En) (q0 q1 q2 : Nat) (w1 w2 : Nat → Nat) : tg_X9 E q0 w1 ++ tg_X10 E q1 w2 ++ [(q2, .inl (eC E 3, 1, .inr (.inl (fun _ => 0))))] = wl (setA E (AD q0 q1 q2 w1 w2)) h0 := by
  apply List.ext_getElem?
  intro i
  by_cases hi : i < 99
  · rcases (show i = 0 ∨ i = 1 ∨ i = 2 ∨ i = 3 ∨ i = 4 ∨ i = 5 ∨ i = 6 ∨ i = 7 ∨ i = 8 ∨ i = 9 ∨ i = 10 ∨ i = 11 ∨ i = 12 ∨ i = 13 ∨ i = 14 ∨ i = 15 ∨ i = 16 ∨ i = 17 ∨ i = 18 ∨ i = 19 ∨ i = 20 ∨ i = 21 ∨ i = 22 ∨ i = 23 ∨ i = 24 ∨ i = 25 ∨ i = 26 ∨ i = 27 ∨ i = 28 ∨ i = 29 ∨ i = 30 ∨ i = 31 ∨ i = 32 ∨ i = 33 ∨ i = 34 ∨ i = 35 ∨ i = 36 ∨ i = 37 ∨ i = 38 ∨ i = 39 ∨ i = 40 ∨ i = 41 ∨ i = 42 ∨ i = 43 ∨ i = 44 ∨ i = 45 ∨ i = 46 ∨ i = 47 ∨ i = 48 ∨ i = 49 ∨ i = 50 ∨ i = 51 ∨ i = 52 ∨ i = 53 ∨ i = 54 ∨ i = 55 ∨ i = 56 ∨ i = 57 ∨ i = 58 ∨ i = 59 ∨ i = 60 ∨ i = 61 ∨ i = 62 ∨ i = 63 ∨ i = 64 ∨ i = 65 ∨ i = 66 ∨ i = 67 ∨ i = 68 ∨ i = 69 ∨ i = 70 ∨ i = 71 ∨ i = 72 ∨ i = 73 ∨ i = 74 ∨ i = 75 ∨ i = 76 ∨ i = 77 ∨ i = 78 ∨ i = 79 ∨ i = 80 ∨ i = 81 ∨ i = 82 ∨ i = 83 ∨ i = 84 ∨ i = 85 ∨ i = 86 ∨ i = 87 ∨ i = 88 ∨ i = 89 ∨ i = 90 ∨ i = 91 ∨ i = 92 ∨ i = 93 ∨ i = 94 ∨ i = 95 ∨ i = 96 ∨ i = 97 ∨ i = 98 by omega) with rfl | rfl | rfl | rfl | rfl | rfl | rfl | rfl | rfl | rfl | rfl | rfl | rfl | rfl | rfl | rfl | rfl | rfl | rfl | rfl | rfl | rfl | rfl | rfl | rfl | rfl | rfl | rfl | rfl | rfl | rfl | rfl | rfl | rfl | rfl | rfl | rfl | rfl | rfl | rfl | rfl | rfl | rfl | rfl | rfl | rfl | rfl | rfl | rfl | rfl | rfl | rfl | rfl | rfl | rfl | rfl | rfl | rfl | rfl | rfl | rfl | rfl | rfl | rfl | rfl | rfl | rfl | rfl | rfl | rfl | rfl | rfl | rfl | rfl | rfl | rfl | rfl | rfl | rfl | rfl | rfl | rfl | rfl | rfl | rfl | rfl | rfl | rfl | rfl | rfl | rfl | rfl | rfl | rfl | rfl | rfl | rfl | rfl | rfl
    · rw [wl_at lay_0, st_0]; rfl
    · rw [wl_at lay_1, st_1]; rfl
    · rw [wl_at lay_2, st_2]; rfl
    · rw [wl_at lay_3, st_3]; rfl
    · rw [wl_at lay_4, st_4]; rfl
    · rw [wl_at lay_5, st_5]; rfl
    · rw [wl_at lay_6, st_6]; rfl
    · rw [wl_at lay_7, st_7]; rfl
    · rw [wl_at lay_8, st_8]; rfl
    · rw [wl_at lay_9, st_9]; rfl
    · rw [wl_at lay_10, st_10]; rfl
    · rw [wl_at lay_11, st_11]; rfl
    · rw [wl_at lay_12, st_12]; rfl
    · rw [wl_at lay_13, st_13]; rfl
    · rw [wl_at lay_14, st_14]; rfl
    · rw [wl_at lay_15, st_15]; rfl
    · rw [wl_at lay_16, st_16]; rfl
    · rw [wl_at lay_17, st_17]; rfl
    · rw [wl_at lay_18, st_18]; rfl
    · rw [wl_at lay_19, st_19]; rfl
    · rw [wl_at lay_20, st_20]; rfl
    · rw [wl_at lay_21, st_21]; rfl
    · rw [wl_at lay_22, st_22]; rfl
    · rw [wl_at lay_23, st_23]; rfl
    · rw [wl_at lay_24, st_24]; rfl
    · rw [wl_at lay_25, st_25]; rfl
    · rw [wl_at lay_26, st_26]; rfl
    · rw [wl_at lay_27, st_27]; rfl
    · rw [wl_at lay_28, st_28]; rfl
    · rw [wl_at lay_29, st_29]; rfl
    · rw [wl_at lay_30, st_30]; rfl
    · rw [wl_at lay_31, st_31]; rfl
    · rw [wl_at lay_32, st_32]; rfl
    · rw [wl_at lay_33, st_33]; rfl
    · rw [wl_at lay_34, st_34]; rfl
    · rw [wl_at lay_35, st_35]; rfl
    · rw [wl_at lay_36, st_36]; rfl
    · rw [wl_at lay_37, st_37]; rfl
    · rw [wl_at lay_38, st_38]; rfl
    · rw [wl_at lay_39, st_39]; rfl
    · rw [wl_at lay_40, st_40]; rfl
    · rw [wl_at lay_41, st_41]; rfl
    · rw [wl_at lay_42, st_42]; rfl
    · rw [wl_at lay_43, st_43]; rfl
    · rw [wl_at lay_44, st_44]; rfl
    · rw [wl_at lay_45, st_45]; rfl
    · rw [wl_at lay_46, st_46]; rfl
    · rw [wl_at lay_47, st_47]; rfl
    · rw [wl_at lay_48, st_48]; rfl
    · rw [wl_at lay_49, st_49]; rfl
    · rw [wl_at lay_50, st_50]; rfl
    · rw [wl_at lay_51, st_51]; rfl
    · rw [wl_at lay_52, st_52]; rfl
    · rw [wl_at lay_53, st_53]; rfl
    · rw [wl_at lay_54, st_54]; rfl
    · rw [wl_at lay_55, st_55]; rfl
    · rw [wl_at lay_56, st_56]; rfl
    · rw [wl_at lay_57, st_57]; rfl
    · rw [wl_at lay_58, st_58]; rfl
    · rw [wl_at lay_59, st_59]; rfl
    · rw [wl_at lay_60, st_60]; rfl
    · rw [wl_at lay_61, st_61]; rfl
    · rw [wl_at lay_62, st_62]; rfl
    · rw [wl_at lay_63, st_63]; rfl
    · rw [wl_at lay_64, st_64]; rfl
    · rw [wl_at lay_65, st_65]; rfl
    · rw [wl_at lay_66, st_66]; rfl
    · rw [wl_at lay_67, st_67]; rfl
    · rw [wl_at lay_68, st_68]; rfl
    · rw [wl_at lay_69, st_69]; rfl
    · rw [wl_at lay_70, st_70]; rfl
    · rw [wl_at lay_71, st_71]; rfl
    · rw [wl_at lay_72, st_72]; rfl
    · rw [wl_at lay_73, st_73]; rfl
    · rw [wl_at lay_74, st_74]; rfl
    · rw [wl_at lay_75, st_75]; rfl
    · rw [wl_at lay_76, st_76]; rfl
    · rw [wl_at lay_77, st_77]; rfl
    · rw [wl_at lay_78, st_78]; rfl
    · rw [wl_at lay_79, st_79]; rfl
    · rw [wl_at lay_80, st_80]; rfl
    · rw [wl_at lay_81, st_81]; rfl
    · rw [wl_at lay_82, st_82]; rfl
    · rw [wl_at lay_83, st_83]; rfl
    · rw [wl_at lay_84, st_84]; rfl
    · rw [wl_at lay_85, st_85]; rfl
    · rw [wl_at lay_86, st_86]; rfl
    · rw [wl_at lay_87, st_87]; rfl
    · rw [wl_at lay_88, st_88]; rfl
    · rw [wl_at lay_89, st_89]; rfl
    · rw [wl_at lay_90, st_90]; rfl
    · rw [wl_at lay_91, st_91]; rfl
    · rw [wl_at lay_92, st_92]; rfl
    · rw [wl_at lay_93, st_93]; rfl
    · rw [wl_at lay_94, st_94]; rfl
    · rw [wl_at lay_95, st_95]; rfl
    · rw [wl_at lay_96, st_96]; rfl
    · rw [wl_at lay_97, st_97]; rfl
    · rw [wl_at lay_98, st_98]; rfl
  · rw [List.getElem?_eq_none (by show 99 ≤ i; omega), List.getElem?_eq_none (by unfold wl; rw [List.length_mapIdx]; show 99 ≤ i; omega)]
set_option maxRecDepth 100000 in
set_option maxHeartbeats 4000000 in
theorem whole_of {I : Nat → Hp → Prop} (ob : Obs I) (hI : I 0 h0) {p : Program} {e : Env} {s : State} {m : MethodId} {below : List Frame} {meth : Method} {c : Code} (l : Launch) (hflags : l.flags = flags0) {b L : Nat} {xs : Nat → Int32} (hL : L ≤ 3072) (C0 : lw_At p s m meth c b L xs) (hnm : meth.name = ML.1.name) : W p l e room_1 s m #[Value.ref b] below meth c s.heap [] 0 0 (lw_Z below #[Value.ref b] s) (entryFrame m ([Value.ref b] : List Value).toArray 8) := by
  obtain ⟨hx, hb, hr, hml, hown, hts, hX, hbl, hlocks, hgv⟩ := id C0
  obtain ⟨E, hEl, hEb, hK⟩ := kst_start hflags hts hgv
  subst hEl
  have hl := lv_entry ([.ref b]) (n := 8) (Nat.le_of_ble_eq_true rfl)
  rw [lg_entry_eq]
  suffices key : VP E (fun q => s.heap.size ≤ q) ML room_1 (p, e, s, m, #[Value.ref b], below, meth, c) (LQ (p, e, s, m, #[Value.ref b], below, meth, c)) 0 0 [] 0 [(0, .ref b)] [] by
    exact key ⟨hx, hb, hml, hown, fun w hw => hts w (List.mem_filter.mp hw).1, hlocks, hr, hnm, hK.1.1⟩ (fun q h => h) s.heap [] _ (fun k q h => by simp at h) ⟨fun i j p q h => by simp at h, fun k q h => by simp at h⟩ va_S.rf hl
  refine p_new (ci := 9) (fs := [.null, .null, .null, .null, .null, .null, .null, .null, .null, .null, .int 0]) dL_law_0 kc9 (tb1 28 rfl rfl) (tb1 29 rfl rfl) (tb1 1 rfl rfl) (fun j hj => by rcases (show j = 0 ∨ j = 1 ∨ j = 2 ∨ j = 3 ∨ j = 4 ∨ j = 5 ∨ j = 6 ∨ j = 7 ∨ j = 8 ∨ j = 9 ∨ j = 10 by omega) with rfl | rfl | rfl | rfl | rfl | rfl | rfl | rfl | rfl | rfl | rfl <;> rfl) (by decide) (by decide) (fun q0 => ?_)
  refine p_dup dL_law_3 rfl ?_
  refine p_call (wr := []) (M' := MX9_init) dL_law_4 (c_X9 E) (tb1 30 rfl rfl) (tb1 31 rfl rfl) (tb1 1 rfl rfl) (tb1 32 rfl rfl) rfl rfl (by decide +kernel) (by decide) (by decide) rfl (Nat.le_of_ble_eq_true rfl) (by decide) (by decide) (fun w1 => ?_)
  refine p_astore_n (lv' := [(1, .ref q0), (0, .ref b)]) dL_law_7 rfl (by decide) rfl ?_
  refine p_new (ci := 10) (fs := [.int 0, .int 0, .int 0, .null, .null, .null, .null, .null, .int 0, .int 0, .int 0, .null, .null, .null, .null, .null, .null, .null, .null, .null, .null, .int 0, .null, .null, .null, .null, .int 0, .null, .null, .null, .int 0, .int 0, .null, .int 0, .null, .null, .null, .null, .int 0, .null, .null, .int 0, .int 0, .int 0, .int 0, .int 0, .int 0, .int 0, .int 0, .int 0, .null, .null, .null, .null, .null]) dL_law_8 kc10 (tb6 11 rfl rfl) (tb6 12 rfl rfl) (tb1 11 rfl rfl) (fun j hj => by rcases (show j = 0 ∨ j = 1 ∨ j = 2 ∨ j = 3 ∨ j = 4 ∨ j = 5 ∨ j = 6 ∨ j = 7 ∨ j = 8 ∨ j = 9 ∨ j = 10 ∨ j = 11 ∨ j = 12 ∨ j = 13 ∨ j = 14 ∨ j = 15 ∨ j = 16 ∨ j = 17 ∨ j = 18 ∨ j = 19 ∨ j = 20 ∨ j = 21 ∨ j = 22 ∨ j = 23 ∨ j = 24 ∨ j = 25 ∨ j = 26 ∨ j = 27 ∨ j = 28 ∨ j = 29 ∨ j = 30 ∨ j = 31 ∨ j = 32 ∨ j = 33 ∨ j = 34 ∨ j = 35 ∨ j = 36 ∨ j = 37 ∨ j = 38 ∨ j = 39 ∨ j = 40 ∨ j = 41 ∨ j = 42 ∨ j = 43 ∨ j = 44 ∨ j = 45 ∨ j = 46 ∨ j = 47 ∨ j = 48 ∨ j = 49 ∨ j = 50 ∨ j = 51 ∨ j = 52 ∨ j = 53 ∨ j = 54 by omega) with rfl | rfl | rfl | rfl | rfl | rfl | rfl | rfl | rfl | rfl | rfl | rfl | rfl | rfl | rfl | rfl | rfl | rfl | rfl | rfl | rfl | rfl | rfl | rfl | rfl | rfl | rfl | rfl | rfl | rfl | rfl | rfl | rfl | rfl | rfl | rfl | rfl | rfl | rfl | rfl | rfl | rfl | rfl | rfl | rfl | rfl | rfl | rfl | rfl | rfl | rfl | rfl | rfl | rfl | rfl <;> rfl) (by decide) (by decide) (fun q1 => ?_)
  refine p_dup dL_law_11 rfl ?_
  refine p_call (wr := tg_X9 E q0 w1) (M' := MX10_init) dL_law_12 (c_X10 E) (tb6 13 rfl rfl) (tb6 14 rfl rfl) (tb1 11 rfl rfl) (tb6 15 rfl rfl) rfl rfl (by decide +kernel) (by decide) (by decide) rfl (Nat.le_of_ble_eq_true rfl) (by decide) (by decide) (fun w2 => ?_)
  refine p_astore_n (lv' := [(2, .ref q1), (1, .ref q0), (0, .ref b)]) dL_law_15 rfl (by decide) rfl ?_
  refine p_iconst (v := (1 : Int32)) dL_law_16 rfl ?_
  refine p_new_l (N := 1) dL_law_17 ar_long (by decide) rfl (by decide) (by decide) (by decide) (fun q2 => ?_)
  refine p_astore_n (lv' := [(3, .ref q2), (2, .ref q1), (1, .ref q0), (0, .ref b)]) dL_law_19 rfl (by decide) rfl ?_
  refine p_iconst (v := (0 : Int32)) dL_law_20 rfl ?_
  refine p_istore (lv' := [(4, .int 0), (3, .ref q2), (2, .ref q1), (1, .ref q0), (0, .ref b)]) dL_law_21 (by decide) rfl ?_
  refine vp_v hK (by unfold A0; rw [hEb]) (wl_start E q0 q1 q2 w1 w2) ?_
  refine r_sub (lv' := [(0, .ref b), (1, .ref q0), (2, .ref q1), (3, .ref q2), (4, .int 0)]) [4, 3, 2, 1, 0] rfl ?_
  refine q_widen (k := 99) (n := 31343) (by decide) (by decide) ?_
  exact law_loop ob hL 99 31343 (by decide) (by decide) (L + 6) 0 _ h0 0 ⟨rfl, hX, hbl, hEb⟩ hI nI_0.symm (by omega) (by omega)
