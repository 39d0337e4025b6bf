/-! the law from its entry: two objects and a row are made, then its loop -/
def h0 : Hp := (fun c => if c = 58 then (fun j => if j = 1 then -1 else 0) else if c = 63 then (fun j => if j = 38 then -1 else 0) else (fun _ => 0), fun _ _ => 0)
def setA (E : En) (ad : Nat → Nat) : En := (E.1, E.2.1, E.2.2.1, ad, E.2.2.2.2)
theorem h0_58 : h0.1 58 = (fun j => if j = 1 then -1 else 0) := rfl
section START
variable {E : En} {A : Nat → Prop} {M : Mt} {R : Room} {g : Ga} {Q : State → Prop} {cells slots : Nat} {ws : va_W} {pc : Nat} {lv lv' : List (Nat × Value)} {st : List Value}
theorem p_astore_n {k : Fin 4} {i x : Nat} (hd : decode M.2.1 pc = .ok (.astore_n k, 1)) (hi : (k : Nat) = i) (hn : i < M.2.2.1) (he : (i, Value.ref x) :: lv.filter (fun q => !(q.1 == i) && !(q.1 + 1 == i && q.2.category == 2)) = lv') (t : VP E A M R g Q cells slots ws (pc + 1) lv' st) : VP E A M R g Q cells slots ws pc lv (.ref x :: st) := by
  obtain ⟨p, e, s, m, args, below, meth, c0⟩ := g
  intro C hA H locs ls hP hD hS hl
  exact lv_astore_n C.1 C.2.1 hd hi hl hn he (fun ls2 hl2 => t C hA H locs ls2 hP hD hS hl2)
theorem p_istore {i : Nat} {x : Int32} (hd : decode M.2.1 pc = .ok (.istore i, 2)) (hn : i < M.2.2.1) (he : (i, Value.int x) :: lv.filter (fun q => !(q.1 == i) && !(q.1 + 1 == i && q.2.category == 2)) = lv') (t : VP E A M R g Q cells slots ws (pc + 2) lv' st) : VP E A M R g Q cells slots ws pc lv (.int x :: st) := by
  obtain ⟨p, e, s, m, args, below, meth, c0⟩ := g
  intro C hA H locs ls hP hD hS hl
  exact lv_istore C.1 C.2.1 hd hl hn he (fun ls2 hl2 => t C hA H locs ls2 hP hD hS hl2)
def KstG (E : En) (g : Ga) : Prop := match g with
  | (_, _, s, _, _, _, _, _) => Kst E s
theorem vp_v {ad : Nat → Nat} {h : Hp} (hk : KstG E g) (hA0 : A = A0 E) (hws : ws = wl (setA E ad) h) (t : V (setA E ad) M R g Q cells slots h pc lv st) : VP E A M R g Q cells slots ws pc lv st := by
  obtain ⟨p, e, s, m, args, below, meth, c0⟩ := g
  intro C hA H locs ls hP hD hS hl
  subst hws
  subst hA0
  have hadr : AdrOK (setA E ad) := by
    have at' : ∀ i, i < lay.length → ∃ x, (wl (setA E ad) h)[i]? = some (eA (setA E ad) i, x) := fun i hi => ⟨_, wl_at (List.getElem?_eq_getElem hi)⟩
    refine ⟨fun i j hi hj e => ?_, fun i hi => ?_⟩
    · obtain ⟨x, hx⟩ := at' i hi
      obtain ⟨y, hy⟩ := at' j hj
      exact hD.1 i j _ _ hx hy e
    · obtain ⟨x, hx⟩ := at' i hi
      exact hD.2 i _ hx
  exact t ⟨C.1, C.2.1, C.2.2.1, C.2.2.2.1, C.2.2.2.2.1, C.2.2.2.2.2.1, C.2.2.2.2.2.2.1, hadr, hk⟩ H locs ls hP hS hl
end START
theorem wl_start (E : En) (q0 q1 q2 : Nat) (w1 w2 : Nat → Nat) : tg_X9 E q0 w1 ++ tg_X10 E q1 w2 ++ [(q2, .inl (eC E 3, 1, .inr (.inl (fun _ => 0))))] = wl (setA E (fun c => ([q0, w1 1, w1 2, w1 3, w1 4, w1 5, w1 6, w1 7, w1 8, w1 9, w1 10, w1 11, w1 12, w1 13, w1 14, w1 15, w1 16, w1 17, w1 18, w1 19, w1 20, w1 21, w1 22, w1 23, w1 24, w1 25, w1 26, w1 27, w1 28, w1 29, w1 30, w1 31, w1 32, w1 33, w1 34, w1 35, w1 36, w1 37, w1 38, w1 39, w1 40, w1 41, w1 42, w1 43, w1 44, w1 45, w1 46, w1 47, w1 48, w1 49, w1 50, w1 51, w1 52, w1 53, w1 54, w1 55, w1 56, w1 57, w1 58, w1 59, w1 60, w1 61, w1 62, q1, w2 1, w2 2, w2 3, w2 4, w2 5, w2 6, w2 7, w2 8, w2 9, w2 10, w2 11, w2 12, w2 13, w2 14, w2 15, w2 16, w2 17, w2 18, w2 19, w2 20, w2 21, w2 22, w2 23, w2 24, w2 25, w2 26, w2 27, w2 28, w2 29, w2 30, w2 31, w2 32, w2 33, w2 34, q2] : List Nat).getD c 0)) h0 := by
  rfl
set_option maxRecDepth 100000 in
set_option maxHeartbeats 4000000 in
theorem whole_of {I : Hp → Prop} (ob : Obs I) (hI : I h0) {p : Program} {e : Env} {s : State} {m : MethodId} {below : List Frame} {meth : Method} {c : Code} (l : Launch) (hflags : l.flags = flags0) {b L : Nat} {xs : Nat → Int32} (hL : L ≤ 3072) (C0 : lw_At p s m meth c b L xs) (hnm : meth.name = ML.1.name) : W p l e room_1 s m #[Value.ref b] below meth c s.heap [] 0 0 (lw_Z below #[Value.ref b] s) (entryFrame m ([Value.ref b] : List Value).toArray 8) := by
  obtain ⟨hx, hb, hr, hml, hown, hts, hX, hbl, hlocks, hgv⟩ := id C0
  obtain ⟨E, hEl, hEb, hK⟩ := kst_start hflags hts hgv
  subst hEl
  have hl := lv_entry ([.ref b]) (n := 8) (Nat.le_of_ble_eq_true rfl)
  rw [lg_entry_eq]
  suffices key : VP E (fun q => s.heap.size ≤ q) ML room_1 (p, e, s, m, #[Value.ref b], below, meth, c) (LQ (p, e, s, m, #[Value.ref b], below, meth, c)) 0 0 [] 0 [(0, .ref b)] [] by
    exact key ⟨hx, hb, hml, hown, fun w hw => hts w (List.mem_filter.mp hw).1, hlocks, hr, hnm, hK.1.1⟩ (fun q h => h) s.heap [] _ (fun k q h => by simp at h) ⟨fun i j p q h => by simp at h, fun k q h => by simp at h⟩ va_S.rf hl
  refine p_new (ci := 9) (fs := [.null, .null, .null, .null, .null, .null, .null, .null, .null, .null, .int 0]) dL_law_0 kc9 (tb1 28 rfl rfl) (tb1 29 rfl rfl) (tb1 1 rfl rfl) (fun j hj => by rcases (show j = 0 ∨ j = 1 ∨ j = 2 ∨ j = 3 ∨ j = 4 ∨ j = 5 ∨ j = 6 ∨ j = 7 ∨ j = 8 ∨ j = 9 ∨ j = 10 by omega) with rfl | rfl | rfl | rfl | rfl | rfl | rfl | rfl | rfl | rfl | rfl <;> rfl) (by decide) (by decide) (fun q0 => ?_)
  refine p_dup dL_law_3 rfl ?_
  refine p_call (wr := []) (M' := MX9_init) dL_law_4 (c_X9 E) (tb1 30 rfl rfl) (tb1 31 rfl rfl) (tb1 1 rfl rfl) (tb1 32 rfl rfl) rfl rfl (by decide +kernel) (by decide) (by decide) rfl (Nat.le_of_ble_eq_true rfl) (by decide) (by decide) (fun w1 => ?_)
  refine p_astore_n (lv' := [(1, .ref q0), (0, .ref b)]) dL_law_7 rfl (by decide) rfl ?_
  refine p_new (ci := 10) (fs := [.int 0, .int 0, .int 0, .null, .null, .null, .null, .null, .int 0, .int 0, .int 0, .null, .null, .null, .null, .null, .null, .null, .null, .null, .null, .int 0, .null, .null, .null, .null, .int 0, .null, .null, .null, .int 0, .int 0, .null, .int 0, .null, .null, .null, .null, .int 0, .null, .null, .int 0, .int 0, .int 0, .int 0, .int 0, .int 0, .int 0, .int 0, .int 0, .null, .null, .null, .null, .null]) dL_law_8 kc10 (tb6 11 rfl rfl) (tb6 12 rfl rfl) (tb1 11 rfl rfl) (fun j hj => by rcases (show j = 0 ∨ j = 1 ∨ j = 2 ∨ j = 3 ∨ j = 4 ∨ j = 5 ∨ j = 6 ∨ j = 7 ∨ j = 8 ∨ j = 9 ∨ j = 10 ∨ j = 11 ∨ j = 12 ∨ j = 13 ∨ j = 14 ∨ j = 15 ∨ j = 16 ∨ j = 17 ∨ j = 18 ∨ j = 19 ∨ j = 20 ∨ j = 21 ∨ j = 22 ∨ j = 23 ∨ j = 24 ∨ j = 25 ∨ j = 26 ∨ j = 27 ∨ j = 28 ∨ j = 29 ∨ j = 30 ∨ j = 31 ∨ j = 32 ∨ j = 33 ∨ j = 34 ∨ j = 35 ∨ j = 36 ∨ j = 37 ∨ j = 38 ∨ j = 39 ∨ j = 40 ∨ j = 41 ∨ j = 42 ∨ j = 43 ∨ j = 44 ∨ j = 45 ∨ j = 46 ∨ j = 47 ∨ j = 48 ∨ j = 49 ∨ j = 50 ∨ j = 51 ∨ j = 52 ∨ j = 53 ∨ j = 54 by omega) with rfl | rfl | rfl | rfl | rfl | rfl | rfl | rfl | rfl | rfl | rfl | rfl | rfl | rfl | rfl | rfl | rfl | rfl | rfl | rfl | rfl | rfl | rfl | rfl | rfl | rfl | rfl | rfl | rfl | rfl | rfl | rfl | rfl | rfl | rfl | rfl | rfl | rfl | rfl | rfl | rfl | rfl | rfl | rfl | rfl | rfl | rfl | rfl | rfl | rfl | rfl | rfl | rfl | rfl | rfl <;> rfl) (by decide) (by decide) (fun q1 => ?_)
  refine p_dup dL_law_11 rfl ?_
  refine p_call (wr := tg_X9 E q0 w1) (M' := MX10_init) dL_law_12 (c_X10 E) (tb6 13 rfl rfl) (tb6 14 rfl rfl) (tb1 11 rfl rfl) (tb6 15 rfl rfl) rfl rfl (by decide +kernel) (by decide) (by decide) rfl (Nat.le_of_ble_eq_true rfl) (by decide) (by decide) (fun w2 => ?_)
  refine p_astore_n (lv' := [(2, .ref q1), (1, .ref q0), (0, .ref b)]) dL_law_15 rfl (by decide) rfl ?_
  refine p_iconst (v := (1 : Int32)) dL_law_16 rfl ?_
  refine p_new_l (N := 1) dL_law_17 ar_long (by decide) rfl (by decide) (by decide) (by decide) (fun q2 => ?_)
  refine p_astore_n (lv' := [(3, .ref q2), (2, .ref q1), (1, .ref q0), (0, .ref b)]) dL_law_19 rfl (by decide) rfl ?_
  refine p_iconst (v := (0 : Int32)) dL_law_20 rfl ?_
  refine p_istore (lv' := [(4, .int 0), (3, .ref q2), (2, .ref q1), (1, .ref q0), (0, .ref b)]) dL_law_21 (by decide) rfl ?_
  refine vp_v hK (by unfold A0; rw [hEb]) (wl_start E q0 q1 q2 w1 w2) ?_
  refine r_sub (lv' := [(0, .ref b), (1, .ref q0), (2, .ref q1), (3, .ref q2), (4, .int 0)]) [4, 3, 2, 1, 0] rfl ?_
  refine q_widen (k := 99) (n := 31343) (by decide) (by decide) ?_
  exact law_loop ob hL 99 31343 (by decide) (by decide) (L + 6) 0 _ h0 0 ⟨rfl, hX, hbl, hEb⟩ hI nI_0.symm (by omega) (by omega)
