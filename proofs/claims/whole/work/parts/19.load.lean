/-! load(): the two sources change places: the same cells under other numbers -/
def sw (c : Nat) : Nat := if 5 ≤ c ∧ c ≤ 16 then c + 12 else if 17 ≤ c ∧ c ≤ 28 then c - 12 else c
def swE (E : En) : En := (E.1, E.2.1, E.2.2.1, fun c => eA E (sw c), E.2.2.2.2)
def swH (h : Hp) : Hp := (fun c => h.1 (sw c), fun c => h.2 (sw c))
theorem sw_sw (c : Nat) : sw (sw c) = c := by
  unfold sw
  split
  · rename_i h
    rw [if_neg (by omega), if_pos (by omega)]
    omega
  · split
    · rename_i h1 h2
      rw [if_pos (by omega)]
      omega
    · rfl
theorem sw_lt {c : Nat} (h : c < lay.length) : sw c < lay.length := by
  rw [lay_len] at h ⊢
  unfold sw
  split
  · omega
  · split <;> omega
theorem AdrOK_sw {E : En} (h : AdrOK E) : AdrOK (swE E) := by
  refine ⟨fun i j hi hj e => ?_, fun i hi => h.2 _ (sw_lt hi)⟩
  have h1 := h.1 (sw i) (sw j) (sw_lt hi) (sw_lt hj) e
  rw [← sw_sw i, h1, sw_sw]
theorem Cx_sw {E : En} {M : Mt} {g : Ga} (C : Cx E M g) : Cx (swE E) M g := by
  obtain ⟨p, e, s, m, args, below, meth, c0⟩ := g
  exact ⟨C.1, C.2.1, C.2.2.1, C.2.2.2.1, C.2.2.2.2.1, C.2.2.2.2.2.1, C.2.2.2.2.2.2.1, AdrOK_sw C.2.2.2.2.2.2.2.1, C.2.2.2.2.2.2.2.2⟩
abbrev x0s (E : En) (h : Hp) : List Value := [.ref (eA E 1), .ref (eA E 3), .ref (eA E 17), .ref (eA E 5), .ref (eA E 29), .ref (eA E 32), .ref (eA E 40), .ref (eA E 46), .ref (eA E 51), .ref (eA E 58), .int (h.1 0 10)]
def swF (f : Nat × Nat) : Nat × Nat := if f.1 = 2 then (2, sw f.2) else f
def swL : Lt → Lt
  | .inl q => .inl (q.1, q.2.map swF)
  | .inr q => .inr q
def encL : Lt → Nat × Nat × List (Nat × Nat) × Nat
  | .inl q => (0, q.1, q.2, 0)
  | .inr q => (1, q.1, [], q.2)
theorem encL_inj : ∀ a b : Lt, encL a = encL b → a = b := by
  intro a b h
  cases a with
  | inl p =>
    cases b with
    | inl q =>
      obtain ⟨p1, p2⟩ := p
      obtain ⟨q1, q2⟩ := q
      simp only [encL, Prod.mk.injEq, true_and, and_true] at h
      rw [h.1, h.2]
    | inr q => simp [encL] at h
  | inr p =>
    cases b with
    | inl q => simp [encL] at h
    | inr q =>
      obtain ⟨p1, p2⟩ := p
      obtain ⟨q1, q2⟩ := q
      simp only [encL, Prod.mk.injEq, true_and] at h
      rw [h.1, h.2]
theorem lay_sw : ∀ k, k < 99 → k ≠ 0 → lay[sw k]? = (lay[k]?).map swL := by
  have h : (List.range 99).all (fun k => decide (k = 0) || decide ((lay[sw k]?).map encL = ((lay[k]?).map swL).map encL)) = true := by decide +kernel
  intro k hk h0
  have h2 := List.all_eq_true.mp h k (List.mem_range.mpr hk)
  rw [Bool.or_eq_true, decide_eq_true_eq, decide_eq_true_eq] at h2
  have h1 := h2.resolve_left h0
  cases ha : lay[sw k]? with
  | none =>
    rw [ha] at h1
    cases hb : (lay[k]?).map swL with
    | none => rfl
    | some y => rw [hb] at h1; cases h1
  | some x =>
    rw [ha] at h1
    cases hb : (lay[k]?).map swL with
    | none => rw [hb] at h1; cases h1
    | some y =>
      rw [hb] at h1
      rw [encL_inj x y (Option.some.inj h1)]
theorem fv_sw (E : En) (h : Hp) (k j : Nat) (f : Nat × Nat) (hf : f.1 = 0 ∨ f.1 = 1 ∨ f.1 = 2) : fv (swE E) (swH h) k j f = fv E h (sw k) j (swF f) := by
  obtain ⟨a, b⟩ := f
  rcases hf with h1 | h1 | h1
  · cases h1; rfl
  · cases h1; rfl
  · cases h1; rfl
def kindL : Lt → Bool
  | .inl q => q.2.all (fun f => f.1 == 0 || (f.1 == 1 || f.1 == 2))
  | .inr _ => true
theorem lay_kindL : lay.all kindL = true := by decide +kernel
theorem lay_kinds : ∀ (k : Nat) (q : Nat × List (Nat × Nat)), lay[k]? = some (.inl q) → ∀ f ∈ q.2, f.1 = 0 ∨ f.1 = 1 ∨ f.1 = 2 := by
  intro k q hq f hf
  have h1 : kindL (.inl q) = true := List.all_eq_true.mp lay_kindL _ (List.mem_of_getElem? hq)
  have h2 := List.all_eq_true.mp h1 f hf
  simpa [Bool.or_eq_true] using h2
theorem cE_sw (E : En) (h : Hp) {k : Nat} {e : Lt} (he : lay[k]? = some e) : cE (swE E) (swH h) k e = cE E h (sw k) (swL e) := by
  cases e with
  | inl q =>
    show Sum.inr (q.1, q.2.mapIdx _) = Sum.inr (q.1, (q.2.map swF).mapIdx _)
    congr 2
    apply List.ext_getElem?
    intro j
    rw [List.getElem?_mapIdx, List.getElem?_mapIdx, List.getElem?_map]
    cases hj : q.2[j]? with
    | none => rfl
    | some f =>
      show some (fv (swE E) (swH h) k j f) = some (fv E h (sw k) j (swF f))
      rw [fv_sw E h k j f (lay_kinds k q he f (List.mem_of_getElem? hj))]
  | inr q => rfl
theorem sw_P {E : En} {h : Hp} {H : Heap} (hP : va_P (eD E) vwCl ((wl E h).set 0 (eA E 0, .inr (9, x0s E h))) H) : va_P (eD (swE E)) vwCl (wl (swE E) (swH h)) H := by
  refine hP.by sw ?_
  intro k q hk
  have hl : k < lay.length := by
    have := (List.getElem?_eq_some_iff.mp hk).1
    unfold wl at this
    rwa [List.length_mapIdx] at this
  rw [lay_len] at hl
  by_cases h0 : k = 0
  · subst h0
    rw [wl_at lay_0] at hk
    rw [show sw 0 = 0 from rfl, List.getElem?_set_self (by unfold wl; rw [List.length_mapIdx, lay_len]; decide)]
    exact hk
  · obtain ⟨e, he⟩ : ∃ e, lay[k]? = some e := ⟨_, List.getElem?_eq_getElem (by rw [lay_len]; exact hl)⟩
    rw [wl_at he] at hk
    have hs0 : sw k ≠ 0 := fun z => h0 (by rw [← sw_sw k, z]; rfl)
    have h2 := lay_sw k hl h0
    rw [he] at h2
    rw [List.getElem?_set_ne (fun z => hs0 z.symm), wl_at h2, ← cE_sw E h he]
    exact hk
def QS (E : En) (P : Int32 → En → Hp → Prop) : Array Value → State → Outcome → State → Prop := va_Qi (fun (r : Int32) (u : En × Hp) => P r u.1 u.2 ∧ (u.1 = E ∨ u.1 = swE E)) (fun u t => va_P (eD E) vwCl (wl u.1 u.2) t.heap) (A0 E)
/-- load's contract: the world's numbers may have changed -/
def SpS (E : En) (d : Nat) (M : Mt) (av : List Value) (h : Hp) (P : Int32 → En → Hp → Prop) : Prop := Met (eL E) M.1 (wsM M) (RM d 0) (va_Pc av (Pre E h)) (QS E P) 0 0 (A0 E)
section LOAD
variable {E : En} {M : Mt} {g : Ga} {Q : State → Prop} {cells slots d : Nat} {R : Room} {h : Hp} {pc : Nat} {lv : List (Nat × Value)} {st : List Value}
theorem r_iretS0 {v : Int32} {P : Int32 → En → Hp → Prop} (hd : decode M.2.1 pc = .ok (.ireturn, 1)) (hr : M.2.2.2 = some .int) (hp : P v E h) : V E M R g (QQ E g (QS E P) cells slots) cells slots h pc lv [.int v] := by
  obtain ⟨p, e, s, m, args, below, meth, c0⟩ := g
  intro C H locs ls hP hS hl
  exact W.iret C.1 C.2.1 (C.2.2.2.2.2.2.1.trans hr) (fun t ht hW => ⟨⟨v, (E, h), rfl, ⟨hp, Or.inl rfl⟩, (show va_P (eD E) vwCl (wl E h) t.heap by rw [ht]; exact hP)⟩, hS.F ht⟩) hS.2.2 hd C.2.2.2.2.2.1
theorem r_iretS1 {v : Int32} {P : Int32 → En → Hp → Prop} (hd : decode M.2.1 pc = .ok (.ireturn, 1)) (hr : M.2.2.2 = some .int) (hp : P v (swE E) h) : V (swE E) M R g (QQ E g (QS E P) cells slots) cells slots h pc lv [.int v] := by
  obtain ⟨p, e, s, m, args, below, meth, c0⟩ := g
  intro C H locs ls hP hS hl
  exact W.iret C.1 C.2.1 (C.2.2.2.2.2.2.1.trans hr) (fun t ht hW => ⟨⟨v, (swE E, h), rfl, ⟨hp, Or.inr rfl⟩, (show va_P (eD E) vwCl (wl (swE E) h) t.heap by rw [ht]; exact hP)⟩, hS.F ht⟩) hS.2.2 hd C.2.2.2.2.2.1
theorem r_swap (ho : M.1.cls = RX9) (hd37 : decode M.2.1 pc = .ok (.putfield 26, 3)) (hd40 : decode M.2.1 (pc + 3) = .ok (.aload_n 0, 1)) (hd41 : decode M.2.1 (pc + 4) = .ok (.aload_n 2, 1)) (hd42 : decode M.2.1 (pc + 5) = .ok (.putfield 30, 3)) {k0 k2 : Nat} (hk0 : lv[k0]? = some (0, .ref (eA E 0))) (hk2 : lv[k2]? = some (2, .ref (eA E 5))) (t : V (swE E) M R g Q cells slots (swH h) (pc + 8) lv st) : V E M R g Q cells slots h pc lv (.ref (eA E 17) :: .ref (eA E 0) :: st) := by
  obtain ⟨p, e, s, m, args, below, meth, c0⟩ := g
  intro C H locs ls hP hS hl
  have hown : s.vm.findClass RX9 = some m.cls := ho ▸ C.2.2.2.1
  obtain ⟨C1, T1, N1, ty1, ⟨a1, a2, a3, a4⟩, aN, alk, aty, afin⟩ := flX9_26
  obtain ⟨C2, T2, N2, ty2, ⟨b1, b2, b3, b4⟩, bN, blk, bty, bfin⟩ := flX9_30
  have hD := C.2.2.2.2.2.2.2.1.D h
  refine va_put (D := eD E) (ci := 9) (C := C1) (T := T1) (N := N1) (ty := .object "MicrocodeOptimizer$Source") C.1 C.2.1 C.2.2.2.2.1 a2 ty1 a3 a4 hown C.2.2.2.2.2.2.2.2.1.1 hP hD hS 0 (wl_at lay_0) a1 2 aN (C.2.2.2.2.1 _ alk) (fun _ h9 => h9) afin (by rw [a3 2 aN, aty]) rfl rfl (by rw [List.length_mapIdx]; decide) hd37 (fun H1 locs1 hP1 hD1 hS1 => ?_)
  refine lv_aload_n C.1 C.2.1 hd40 rfl (lv_at hl k0 hk0) ?_
  refine lv_aload_n C.1 C.2.1 hd41 rfl (lv_at hl k2 hk2) ?_
  refine va_put (D := eD E) (ci := 9) (C := C2) (T := T2) (N := N2) (ty := .object "MicrocodeOptimizer$Source") C.1 C.2.1 C.2.2.2.2.1 b2 ty2 b3 b4 hown C.2.2.2.2.2.2.2.2.1.1 hP1 hD1 hS1 0 (List.getElem?_set_self (by unfold wl; rw [List.length_mapIdx, lay_len]; decide)) b1 3 bN (C.2.2.2.2.1 _ blk) (fun _ h9 => h9) bfin (by rw [b3 3 bN, bty]) rfl rfl (by rw [List.length_set, List.length_mapIdx]; decide) hd42 (fun H2 locs2 hP2 hD2 hS2 => ?_)
  rw [List.set_set] at hP2
  exact t (Cx_sw C) H2 locs2 ls (sw_P hP2) hS2 hl
theorem SpS.of {av : List Value} {P : Int32 → En → Hp → Prop} {lv0 : List (Nat × Value)} (hy : plainName M.1.cls = true) (hn : (lg_sl av).length ≤ M.2.2.1) (he : lv_args 0 av = lv0) (t : ∀ g : Ga, V E M (RM d 0) g (QQ E g (QS E P) 0 0) 0 0 h 0 lv0 []) : SpS E d M av h P := Sp_body hy hn he t
end LOAD
theorem dX9_load_0 : decode cX9_load 0 = .ok (.aload_n 0, 1) := by decide +kernel
theorem dX9_load_1 : decode cX9_load 1 = .ok (.getfield 12, 3) := by decide +kernel
theorem dX9_load_4 : decode cX9_load 4 = .ok (.aload_n 0, 1) := by decide +kernel
theorem dX9_load_5 : decode cX9_load 5 = .ok (.getfield 30, 3) := by decide +kernel
theorem dX9_load_8 : decode cX9_load 8 = .ok (.invokevirtual 86, 3) := by decide +kernel
theorem dX9_load_11 : decode cX9_load 11 = .ok (.istore_n 1, 1) := by decide +kernel
theorem dX9_load_12 : decode cX9_load 12 = .ok (.aload_n 0, 1) := by decide +kernel
theorem dX9_load_13 : decode cX9_load 13 = .ok (.getfield 12, 3) := by decide +kernel
theorem dX9_load_16 : decode cX9_load 16 = .ok (.iconst 0, 1) := by decide +kernel
theorem dX9_load_17 : decode cX9_load 17 = .ok (.putfield 79, 3) := by decide +kernel
theorem dX9_load_20 : decode cX9_load 20 = .ok (.iload_n 1, 1) := by decide +kernel
theorem dX9_load_21 : decode cX9_load 21 = .ok (.ifCond .eq 6, 3) := by decide +kernel
theorem dX9_load_24 : decode cX9_load 24 = .ok (.iload_n 1, 1) := by decide +kernel
theorem dX9_load_25 : decode cX9_load 25 = .ok (.ineg, 1) := by decide +kernel
theorem dX9_load_26 : decode cX9_load 26 = .ok (.ireturn, 1) := by decide +kernel
theorem dX9_load_27 : decode cX9_load 27 = .ok (.aload_n 0, 1) := by decide +kernel
theorem dX9_load_28 : decode cX9_load 28 = .ok (.getfield 26, 3) := by decide +kernel
theorem dX9_load_31 : decode cX9_load 31 = .ok (.astore_n 2, 1) := by decide +kernel
theorem dX9_load_32 : decode cX9_load 32 = .ok (.aload_n 0, 1) := by decide +kernel
theorem dX9_load_33 : decode cX9_load 33 = .ok (.aload_n 0, 1) := by decide +kernel
theorem dX9_load_34 : decode cX9_load 34 = .ok (.getfield 30, 3) := by decide +kernel
theorem dX9_load_37 : decode cX9_load 37 = .ok (.putfield 26, 3) := by decide +kernel
theorem dX9_load_40 : decode cX9_load 40 = .ok (.aload_n 0, 1) := by decide +kernel
theorem dX9_load_41 : decode cX9_load 41 = .ok (.aload_n 2, 1) := by decide +kernel
theorem dX9_load_42 : decode cX9_load 42 = .ok (.putfield 30, 3) := by decide +kernel
theorem dX9_load_45 : decode cX9_load 45 = .ok (.aload_n 0, 1) := by decide +kernel
theorem dX9_load_46 : decode cX9_load 46 = .ok (.getfield 36, 3) := by decide +kernel
theorem dX9_load_49 : decode cX9_load 49 = .ok (.invokevirtual 90, 3) := by decide +kernel
theorem dX9_load_52 : decode cX9_load 52 = .ok (.aload_n 0, 1) := by decide +kernel
theorem dX9_load_53 : decode cX9_load 53 = .ok (.invokevirtual 93, 3) := by decide +kernel
theorem dX9_load_56 : decode cX9_load 56 = .ok (.aload_n 0, 1) := by decide +kernel
theorem dX9_load_57 : decode cX9_load 57 = .ok (.getfield 26, 3) := by decide +kernel
theorem dX9_load_60 : decode cX9_load 60 = .ok (.getfield 96, 3) := by decide +kernel
theorem dX9_load_63 : decode cX9_load 63 = .ok (.ireturn, 1) := by decide +kernel
set_option maxRecDepth 20000 in
theorem wp_X9_load (E : En) (d : Nat) (h : Hp) (P : Int32 → En → Hp → Prop) (t : SpI E d MX2_read [.ref (eA E 1), .ref (eA E 17)] h (fun v h1 => (v = 0 → SpV (swE E) d MX1_forget [.ref (eA E 29)] (swH (sI h1 1 0 (0 : Int32))) (fun h2 => SpV (swE E) d MX9_packAll [.ref (eA E 0)] h2 (fun h3 => P (h3.1 5 8) (swE E) h3))) ∧ (¬ v = 0 → P (-v) E (sI h1 1 0 (0 : Int32))))) : SpS E (d + 1) MX9_load [.ref (eA E 0)] h P := by
  refine SpS.of (lv0 := [(0, .ref (eA E 0))]) (by decide) (Nat.le_of_ble_eq_true rfl) rfl (fun g => ?_)
  refine r_aload_n (q := 0) dX9_load_0 rfl rfl ?_
  refine r_getR (c := 0) (c2 := 1) dX9_load_1 flX9_12 lay_0 rfl ?_
  refine r_aload_n (q := 0) dX9_load_4 rfl rfl ?_
  refine r_getR (c := 0) (c2 := 17) dX9_load_5 flX9_30 lay_0 rfl ?_
  refine r_cVI (c := 1) (As := [.ref (eA E 17)]) dX9_load_8 mkX2_read lkX9_86 lay_1 rfl rfl rfl (by decide) rfl (Nat.le_of_ble_eq_true rfl) z00 t ?_
  intro v h1 t
  refine r_istore_n (lv' := [(1, .int v), (0, .ref (eA E 0))]) dX9_load_11 rfl (by decide) rfl ?_
  refine r_aload_n (q := 1) dX9_load_12 rfl rfl ?_
  refine r_getR (c := 0) (c2 := 1) dX9_load_13 flX9_12 lay_0 rfl ?_
  refine r_iconst (v := (0 : Int32)) dX9_load_16 rfl ?_
  refine r_putI (c := 1) dX9_load_17 flX9_79 lay_1 rfl ?_
  refine r_iload_n (q := 0) dX9_load_20 rfl rfl ?_
  refine r_if_eq (tgt := 27) dX9_load_21 (by decide) (fun q1 => ?_) (fun q1 => ?_)
  · have t := t.1 q1
    refine r_aload_n (q := 1) dX9_load_27 rfl rfl ?_
    refine r_getR (c := 0) (c2 := 5) dX9_load_28 flX9_26 lay_0 rfl ?_
    refine r_astore_n (lv' := [(2, .ref (eA E 5)), (1, .int v), (0, .ref (eA E 0))]) dX9_load_31 rfl (by decide) rfl ?_
    refine r_aload_n (q := 2) dX9_load_32 rfl rfl ?_
    refine r_aload_n (q := 2) dX9_load_33 rfl rfl ?_
    refine r_getR (c := 0) (c2 := 17) dX9_load_34 flX9_30 lay_0 rfl ?_
    refine r_swap rfl dX9_load_37 dX9_load_40 dX9_load_41 dX9_load_42 (k0 := 2) (k2 := 0) rfl rfl ?_
    refine r_sub (lv' := [(0, .ref (eA (swE E) 0))]) [2] rfl ?_
    refine r_aload_n (q := 0) dX9_load_45 rfl rfl ?_
    refine r_getR (c := 0) (c2 := 29) dX9_load_46 flX9_36 lay_0 rfl ?_
    refine r_cVV (c := 29) (As := []) dX9_load_49 mkX1_forget lkX9_90 lay_29 rfl rfl rfl (by decide) rfl (Nat.le_of_ble_eq_true rfl) z00 t ?_
    intro h2 t
    refine r_aload_n (q := 0) dX9_load_52 rfl rfl ?_
    refine r_cVV (c := 0) (As := []) dX9_load_53 mkX9_packAll lkX9_93 lay_0 rfl rfl rfl (by decide) rfl (Nat.le_of_ble_eq_true rfl) z00 t ?_
    intro h3 t
    refine r_aload_n (q := 0) dX9_load_56 rfl rfl ?_
    refine r_getR (c := 0) (c2 := 5) dX9_load_57 flX9_26 lay_0 rfl ?_
    refine r_getI (c := 5) dX9_load_60 flX9_96 lay_5 rfl ?_
    exact r_iretS1 dX9_load_63 rfl t
  · have t := t.2 q1
    refine r_iload_n (q := 0) dX9_load_24 rfl rfl ?_
    refine r_ineg dX9_load_25 ?_
    exact r_iretS0 dX9_load_26 rfl t
