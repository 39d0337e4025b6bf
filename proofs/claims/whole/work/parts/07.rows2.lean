/-! rows with a named value; switches; calls on String constants -/
theorem sI_self (h : Hp) (c j : Nat) (v : Int32) : (sI h c j v).1 c j = v := by simp [sI, va_up_self, upd]
theorem sL_self (h : Hp) (c j : Nat) (v : Int64) : (sL h c j v).2 c j = v := by simp [sL, va_up_self, vp_updL]
section ROWS2
variable {E : En} {M M' : Mt} {R : Room} {g : Ga} {Q : State → Prop} {cells slots d k : Nat} {h : Hp} {pc : Nat} {lv lv' : List (Nat × Value)} {st st0 : List Value}
theorem r_getIv {idx ci k c z : Nat} {fk : List (Nat × Nat)} {ty : FieldType} {fin : Bool} {v : Int32} (hd : decode M.2.1 pc = .ok (.getfield idx, 3)) (hf : FL M.1.cls idx ci k ty fin) (hc : lay[c]? = some (.inl (ci, fk))) (hk : fk[k]? = some (0, z)) (hv : h.1 c k = v) (t : V E M R g Q cells slots h (pc + 3) lv (.int v :: st)) : V E M R g Q cells slots h pc lv (.ref (eA E c) :: st) := r_getI hd hf hc hk (hv ▸ t)
theorem r_getLv {idx ci k c z : Nat} {fk : List (Nat × Nat)} {ty : FieldType} {fin : Bool} {v : Int64} (hd : decode M.2.1 pc = .ok (.getfield idx, 3)) (hf : FL M.1.cls idx ci k ty fin) (hc : lay[c]? = some (.inl (ci, fk))) (hk : fk[k]? = some (1, z)) (hv : h.2 c k = v) (t : V E M R g Q cells slots h (pc + 3) lv (.long v :: st)) : V E M R g Q cells slots h pc lv (.ref (eA E c) :: st) := r_getL hd hf hc hk (hv ▸ t)
theorem r_ialdv {c n : Nat} {i : Int32} {v : Int32} (hd : decode M.2.1 pc = .ok (.iaload, 1)) (hc : lay[c]? = some (.inr (0, n))) (hi : vp_in i n) (hv : h.1 c i.toNatClampNeg = v) (t : V E M R g Q cells slots h (pc + 1) lv (.int v :: st)) : V E M R g Q cells slots h pc lv (.int i :: .ref (eA E c) :: st) := r_iald hd hc hi (hv ▸ t)
theorem r_baldv {c n : Nat} {i : Int32} {v : Int32} (hd : decode M.2.1 pc = .ok (.baload, 1)) (hc : lay[c]? = some (.inr (1, n))) (hi : vp_in i n) (hv : h.1 c i.toNatClampNeg = v) (t : V E M R g Q cells slots h (pc + 1) lv (.int v :: st)) : V E M R g Q cells slots h pc lv (.int i :: .ref (eA E c) :: st) := r_bald hd hc hi (hv ▸ t)
theorem r_zaldv {c n : Nat} {i : Int32} {v : Int32} (hd : decode M.2.1 pc = .ok (.baload, 1)) (hc : lay[c]? = some (.inr (2, n))) (hi : vp_in i n) (hv : h.1 c i.toNatClampNeg = v) (t : V E M R g Q cells slots h (pc + 1) lv (.int v :: st)) : V E M R g Q cells slots h pc lv (.int i :: .ref (eA E c) :: st) := r_zald hd hc hi (hv ▸ t)
theorem r_laldv {c n : Nat} {i : Int32} {v : Int64} (hd : decode M.2.1 pc = .ok (.laload, 1)) (hc : lay[c]? = some (.inr (3, n))) (hi : vp_in i n) (hv : h.2 c i.toNatClampNeg = v) (t : V E M R g Q cells slots h (pc + 1) lv (.long v :: st)) : V E M R g Q cells slots h pc lv (.int i :: .ref (eA E c) :: st) := r_lald hd hc hi (hv ▸ t)
theorem va_ldcSw {p : Program} {l : Launch} {e : Env} {R : Room} {s : State} {m : MethodId} {args : Array Value} {below : List Frame} {meth : Method} {c : Code} {H : Heap} {locs : List Loc} {cells slots : Nat} {Q : State → Prop} {cc : ByteArray} {pc : Nat} {ls : Array Slot} {rest : List Value} (hexec : p.tables.exec = Jvm.exec) (hb : c.code = cc) {own tx : String} {index q : Nat} (hown : s.vm.findClass own = some m.cls) (hZ : vk_R own index tx q s) (hdg : decode cc pc = .ok (.ldc_w index, 3))
    (k : W p l e R s m args below meth c H locs cells slots Q (F0 m (pc + 3) ls (.ref q :: rest))) : W p l e R s m args below meth c H locs cells slots Q (F0 m pc ls rest) := by
  intro T hT X
  obtain ⟨t, a1, b1⟩ := k T hT X
  exact ⟨t, X.ldcStringW hexec hown (text := tx) (a := q) hZ.1 hZ.2 (g := F0 m pc ls rest) rfl (by rw [hb]; exact hdg) t a1, b1⟩
theorem r_ldcSw {idx i : Nat} {tx : String} (hd : decode M.2.1 pc = .ok (.ldc_w idx, 3)) (hq : (M.1.cls, idx, tx, i) ∈ STRS) (t : V E M R g Q cells slots h (pc + 3) lv (.ref (eK E i) :: st)) : V E M R g Q cells slots h pc lv st := by
  obtain ⟨p, e, s, m, args, below, meth, c0⟩ := g
  intro C H locs ls hP hS hl
  exact va_ldcSw C.1 C.2.1 C.2.2.2.1 (C.2.2.2.2.2.2.2.2.1.2.2.2.1 _ hq) hd (t C H locs ls hP hS hl)
theorem r_tswI {dflt lo hi off : Int} {offs : Array Int} {len tgt : Nat} {x v : Int32} (hd : decode M.2.1 pc = .ok (.tableswitch dflt lo hi offs, len)) (hx : x = v) (h1 : ¬ v.toInt < lo) (h2 : ¬ hi < v.toInt) (ho : offs[(v.toInt - lo).toNat]? = some off) (ht : (pc : Int) + off = (tgt : Int)) (t : V E M R g Q cells slots h tgt lv st) : V E M R g Q cells slots h pc lv (.int x :: st) := by
  obtain ⟨p, e, s, m, args, below, meth, c0⟩ := g
  intro C H locs ls hP hS hl
  subst hx
  exact lv_tableIn C.1 C.2.1 hd h1 h2 ho ht (t C H locs ls hP hS hl)
theorem r_tswO {dflt lo hi : Int} {offs : Array Int} {len tgt : Nat} {x : Int32} (hd : decode M.2.1 pc = .ok (.tableswitch dflt lo hi offs, len)) (hx : x.toInt < lo ∨ hi < x.toInt) (ht : (pc : Int) + dflt = (tgt : Int)) (t : V E M R g Q cells slots h tgt lv st) : V E M R g Q cells slots h pc lv (.int x :: st) := by
  obtain ⟨p, e, s, m, args, below, meth, c0⟩ := g
  intro C H locs ls hP hS hl
  exact lv_tableOut C.1 C.2.1 hd hx ht (t C H locs ls hP hS hl)
theorem sw_out {x : Int32} (n : Nat) (hn : n < 2 ^ 31) (hk : ∀ k : Nat, k ≤ n → ¬ x = Int32.ofNat k) : x.toInt < 0 ∨ (n : Int) < x.toInt := by
  rcases Int.lt_or_le x.toInt 0 with h | h
  · exact Or.inl h
  · refine Or.inr (Int.not_le.mp fun q => hk x.toInt.toNat (by omega) ?_)
    apply Int32.toInt_inj.mp
    have e : ((x.toInt.toNat : Nat) : Int) = x.toInt := Int.toNat_of_nonneg h
    rw [show Int32.ofNat x.toInt.toNat = nI x.toInt.toNat from rfl, nI_toInt (by omega), e]
/-- a call on a String constant -/
theorem r_kVI {idx n i : Nat} {As : List Value} {P : Int32 → Hp → Prop} (hd : decode M.2.1 pc = .ok (.invokevirtual idx, 3)) (hk : MKV M' n) (hlk : Cond.methodLink M.1.cls idx M'.1 ∈ TBL) (hi : i < 8) (hn : As.length = n) (hmx : M'.2.2.1 ≤ 21) (hst : st0 = As.reverse ++ .ref (eK E i) :: st) (hw : (st.map fun v => v.category).sum ≤ 8) (hcs : cells ≤ k ∧ slots ≤ 6 * k) (hcl : M'.1.cls = "java/lang/String")
    (sp : SpI E d M' (.ref (eK E i) :: As) h P) (t : ∀ (v : Int32) (h' : Hp), P v h' → V E M (RM (d + 1) k) g Q cells slots h' (pc + 3) lv (.int v :: st)) : V E M (RM (d + 1) k) g Q cells slots h pc lv st0 := by
  obtain ⟨p, e, s, m, args, below, meth, c0⟩ := g
  intro C H locs ls hP hS hl
  subst hst
  have hrecv := vk_recv C.2.2.2.2.2.2.2.2.1.2.2.2.2.2.1 hi hS
  rw [← hcl] at hrecv
  refine va_calli (va_runV (As := As) (rest := st) (mc := 0) (ms := 0) ⟨C.1, C.2.1, C.2.2.1, C.2.2.2.1, C.2.2.2.2.1⟩ sp (cwV n C.2.2.2.2.1 (gin_V hk hlk) rfl rfl rfl ⟨rfl, hk.2.2.2.2.1⟩ ⟨Nat.le_refl _, by show 8 + (M'.2.2.1 + 11) + 40 * d ≤ 40 * (d + 1); omega⟩) ⟨Pre_blind, hrecv, pre_at C hP hS⟩ rfl hn hl.1 rfl (lv_room hw) hd hcs) hS (fun _ _ q => q) (fun _ q => q) (fun r u t1 H1 locs1 ht hvm hw1 hB hz1 hk1 hS1 => ?_)
  exact t r u hw1 C H1 locs1 ls (by rw [← ht]; exact hB) hS1 hl
end ROWS2
-- extra words
theorem fsX0_69 : Cond.fieldLink RX0 69 RX0 "BITS" "[I" ∈ TBL := tb4 95 rfl rfl
theorem fsX0_103 : Cond.fieldLink RX0 103 RX0 "PARTED_BITS" "[I" ∈ TBL := tb4 98 rfl rfl
theorem lksX5_59 : Cond.methodLink RX5 59 arraycopyName ∈ TBL := tb6 7 rfl rfl
theorem ac_nat : Cond.native arraycopyName ∈ TBL := tb6 9 rfl rfl
theorem ac_stat : Cond.static arraycopyName ∈ TBL := tb6 8 rfl rfl
theorem ac_ini : Cond.initialized "java/lang/System" ∈ TBL := tb1 27 rfl rfl
