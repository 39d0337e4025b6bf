/-! rows: one an instruction, over the judgement V -/
theorem z00 : (0 : Nat) ≤ 0 ∧ (0 : Nat) ≤ 6 * 0 := by decide
section ROWS
variable {E : En} {M : Mt} {R : Room} {g : Ga} {Q : State → Prop} {cells slots : Nat} {h : Hp} {pc : Nat} {lv lv' : List (Nat × Value)} {st st0 : List Value}
theorem r_iconst {n : Int} {v : Int32} (hd : decode M.2.1 pc = .ok (.iconst n, 1)) (hv : Int32.ofInt n = v) (t : V E M R g Q cells slots h (pc + 1) lv (.int v :: st)) : V E M R g Q cells slots h pc lv st := by
  obtain ⟨p, e, s, m, args, below, meth, c0⟩ := g
  intro C H locs ls hP hS hl
  exact lv_iconst C.1 C.2.1 hd hv (t C H locs ls hP hS hl)
theorem r_bipush {n : Int} {v : Int32} (hd : decode M.2.1 pc = .ok (.bipush n, 2)) (hv : (Int8.ofInt n).toInt32 = v) (t : V E M R g Q cells slots h (pc + 2) lv (.int v :: st)) : V E M R g Q cells slots h pc lv st := by
  obtain ⟨p, e, s, m, args, below, meth, c0⟩ := g
  intro C H locs ls hP hS hl
  exact lv_bipush C.1 C.2.1 hd hv (t C H locs ls hP hS hl)
theorem r_sipush {n : Int} {v : Int32} (hd : decode M.2.1 pc = .ok (.sipush n, 3)) (hv : (Int16.ofInt n).toInt32 = v) (t : V E M R g Q cells slots h (pc + 3) lv (.int v :: st)) : V E M R g Q cells slots h pc lv st := by
  obtain ⟨p, e, s, m, args, below, meth, c0⟩ := g
  intro C H locs ls hP hS hl
  exact lv_sipush C.1 C.2.1 hd hv (t C H locs ls hP hS hl)
theorem r_lconst {n : Fin 2} {v : Int64} (hd : decode M.2.1 pc = .ok (.lconst n, 1)) (hv : Int64.ofNat (n : Nat) = v) (t : V E M R g Q cells slots h (pc + 1) lv (.long v :: st)) : V E M R g Q cells slots h pc lv st := by
  obtain ⟨p, e, s, m, args, below, meth, c0⟩ := g
  intro C H locs ls hP hS hl
  exact lv_lconst C.1 C.2.1 hd hv (t C H locs ls hP hS hl)
theorem r_ldc {idx : Nat} {v : Int32} (hd : decode M.2.1 pc = .ok (.ldc idx, 2)) (hc : Cond.constant M.1.cls idx v ∈ TBL) (t : V E M R g Q cells slots h (pc + 2) lv (.int v :: st)) : V E M R g Q cells slots h pc lv st := by
  obtain ⟨p, e, s, m, args, below, meth, c0⟩ := g
  intro C H locs ls hP hS hl
  exact lv_ldc C.1 C.2.1 C.2.2.2.1 (C.2.2.2.2.1 _ hc) hd (t C H locs ls hP hS hl)
theorem r_ldcw {idx : Nat} {v : Int32} (hd : decode M.2.1 pc = .ok (.ldc_w idx, 3)) (hc : Cond.constant M.1.cls idx v ∈ TBL) (t : V E M R g Q cells slots h (pc + 3) lv (.int v :: st)) : V E M R g Q cells slots h pc lv st := by
  obtain ⟨p, e, s, m, args, below, meth, c0⟩ := g
  intro C H locs ls hP hS hl
  exact lv_ldcw C.1 C.2.1 C.2.2.2.1 (C.2.2.2.2.1 _ hc) hd (t C H locs ls hP hS hl)
theorem r_ldc2 {idx : Nat} {v : Int64} (hd : decode M.2.1 pc = .ok (.ldc2_w idx, 3)) (hc : Cond.constantLong M.1.cls idx v ∈ TBL) (t : V E M R g Q cells slots h (pc + 3) lv (.long v :: st)) : V E M R g Q cells slots h pc lv st := by
  obtain ⟨p, e, s, m, args, below, meth, c0⟩ := g
  intro C H locs ls hP hS hl
  exact lv_ldc2 C.1 C.2.1 C.2.2.2.1 (C.2.2.2.2.1 _ hc) hd (t C H locs ls hP hS hl)
theorem r_ldcS {idx i : Nat} {tx : String} (hd : decode M.2.1 pc = .ok (.ldc idx, 2)) (hq : (M.1.cls, idx, tx, i) ∈ STRS) (t : V E M R g Q cells slots h (pc + 2) lv (.ref (eK E i) :: st)) : V E M R g Q cells slots h pc lv st := by
  obtain ⟨p, e, s, m, args, below, meth, c0⟩ := g
  intro C H locs ls hP hS hl
  exact va_ldcS C.1 C.2.1 C.2.2.2.1 (C.2.2.2.2.2.2.2.2.1.2.2.2.1 _ hq) hd (t C H locs ls hP hS hl)
theorem r_iload_n {k : Fin 4} {i q : Nat} {x : Int32} (hd : decode M.2.1 pc = .ok (.iload_n k, 1)) (hi : (k : Nat) = i) (hk : lv[q]? = some (i, .int x)) (t : V E M R g Q cells slots h (pc + 1) lv (.int x :: st)) : V E M R g Q cells slots h pc lv st := by
  obtain ⟨p, e, s, m, args, below, meth, c0⟩ := g
  intro C H locs ls hP hS hl
  exact lv_iload_n C.1 C.2.1 hd hi (lv_at hl q hk) (t C H locs ls hP hS hl)
theorem r_iload {i q : Nat} {x : Int32} (hd : decode M.2.1 pc = .ok (.iload i, 2)) (hk : lv[q]? = some (i, .int x)) (t : V E M R g Q cells slots h (pc + 2) lv (.int x :: st)) : V E M R g Q cells slots h pc lv st := by
  obtain ⟨p, e, s, m, args, below, meth, c0⟩ := g
  intro C H locs ls hP hS hl
  exact lv_iload C.1 C.2.1 hd (lv_at hl q hk) (t C H locs ls hP hS hl)
theorem r_istore_n {k : Fin 4} {i : Nat} {x : Int32} (hd : decode M.2.1 pc = .ok (.istore_n k, 1)) (hi : (k : Nat) = i) (hn : i < M.2.2.1) (he : (i, Value.int x) :: lv.filter (fun q => !(q.1 == i) && !(q.1 + 1 == i && q.2.category == 2)) = lv') (t : V E M R g Q cells slots h (pc + 1) lv' st) : V E M R g Q cells slots h pc lv (.int x :: st) := by
  obtain ⟨p, e, s, m, args, below, meth, c0⟩ := g
  intro C H locs ls hP hS hl
  exact lv_istore_n C.1 C.2.1 hd hi hl hn he (fun ls2 hl2 => t C H locs ls2 hP hS hl2)
theorem r_istore {i : Nat} {x : Int32} (hd : decode M.2.1 pc = .ok (.istore i, 2)) (hn : i < M.2.2.1) (he : (i, Value.int x) :: lv.filter (fun q => !(q.1 == i) && !(q.1 + 1 == i && q.2.category == 2)) = lv') (t : V E M R g Q cells slots h (pc + 2) lv' st) : V E M R g Q cells slots h pc lv (.int x :: st) := by
  obtain ⟨p, e, s, m, args, below, meth, c0⟩ := g
  intro C H locs ls hP hS hl
  exact lv_istore C.1 C.2.1 hd hl hn he (fun ls2 hl2 => t C H locs ls2 hP hS hl2)
theorem r_lload_n {k : Fin 4} {i q : Nat} {x : Int64} (hd : decode M.2.1 pc = .ok (.lload_n k, 1)) (hi : (k : Nat) = i) (hk : lv[q]? = some (i, .long x)) (t : V E M R g Q cells slots h (pc + 1) lv (.long x :: st)) : V E M R g Q cells slots h pc lv st := by
  obtain ⟨p, e, s, m, args, below, meth, c0⟩ := g
  intro C H locs ls hP hS hl
  exact lv_lload_n C.1 C.2.1 hd hi (lv_at hl q hk) (t C H locs ls hP hS hl)
theorem r_lload {i q : Nat} {x : Int64} (hd : decode M.2.1 pc = .ok (.lload i, 2)) (hk : lv[q]? = some (i, .long x)) (t : V E M R g Q cells slots h (pc + 2) lv (.long x :: st)) : V E M R g Q cells slots h pc lv st := by
  obtain ⟨p, e, s, m, args, below, meth, c0⟩ := g
  intro C H locs ls hP hS hl
  exact lv_lload C.1 C.2.1 hd (lv_at hl q hk) (t C H locs ls hP hS hl)
theorem r_lstore_n {k : Fin 4} {i : Nat} {x : Int64} (hd : decode M.2.1 pc = .ok (.lstore_n k, 1)) (hi : (k : Nat) = i) (hn : i + 1 < M.2.2.1) (he : (i, Value.long x) :: lv.filter (fun q => !(q.1 == i) && (!(q.1 == i + 1) && !(q.1 + 1 == i && q.2.category == 2))) = lv') (t : V E M R g Q cells slots h (pc + 1) lv' st) : V E M R g Q cells slots h pc lv (.long x :: st) := by
  obtain ⟨p, e, s, m, args, below, meth, c0⟩ := g
  intro C H locs ls hP hS hl
  exact lv_lstore_n C.1 C.2.1 hd hi hl hn he (fun ls2 hl2 => t C H locs ls2 hP hS hl2)
theorem r_lstore {i : Nat} {x : Int64} (hd : decode M.2.1 pc = .ok (.lstore i, 2)) (hn : i + 1 < M.2.2.1) (he : (i, Value.long x) :: lv.filter (fun q => !(q.1 == i) && (!(q.1 == i + 1) && !(q.1 + 1 == i && q.2.category == 2))) = lv') (t : V E M R g Q cells slots h (pc + 2) lv' st) : V E M R g Q cells slots h pc lv (.long x :: st) := by
  obtain ⟨p, e, s, m, args, below, meth, c0⟩ := g
  intro C H locs ls hP hS hl
  exact lv_lstore C.1 C.2.1 hd hl hn he (fun ls2 hl2 => t C H locs ls2 hP hS hl2)
theorem r_aload_n {k : Fin 4} {i q : Nat} {x : Nat} (hd : decode M.2.1 pc = .ok (.aload_n k, 1)) (hi : (k : Nat) = i) (hk : lv[q]? = some (i, .ref x)) (t : V E M R g Q cells slots h (pc + 1) lv (.ref x :: st)) : V E M R g Q cells slots h pc lv st := by
  obtain ⟨p, e, s, m, args, below, meth, c0⟩ := g
  intro C H locs ls hP hS hl
  exact lv_aload_n C.1 C.2.1 hd hi (lv_at hl q hk) (t C H locs ls hP hS hl)
theorem r_aload {i q : Nat} {x : Nat} (hd : decode M.2.1 pc = .ok (.aload i, 2)) (hk : lv[q]? = some (i, .ref x)) (t : V E M R g Q cells slots h (pc + 2) lv (.ref x :: st)) : V E M R g Q cells slots h pc lv st := by
  obtain ⟨p, e, s, m, args, below, meth, c0⟩ := g
  intro C H locs ls hP hS hl
  exact lv_aload C.1 C.2.1 hd (lv_at hl q hk) (t C H locs ls hP hS hl)
theorem r_astore_n {k : Fin 4} {i : Nat} {x : Nat} (hd : decode M.2.1 pc = .ok (.astore_n k, 1)) (hi : (k : Nat) = i) (hn : i < M.2.2.1) (he : (i, Value.ref x) :: lv.filter (fun q => !(q.1 == i) && !(q.1 + 1 == i && q.2.category == 2)) = lv') (t : V E M R g Q cells slots h (pc + 1) lv' st) : V E M R g Q cells slots h pc lv (.ref x :: st) := by
  obtain ⟨p, e, s, m, args, below, meth, c0⟩ := g
  intro C H locs ls hP hS hl
  exact lv_astore_n C.1 C.2.1 hd hi hl hn he (fun ls2 hl2 => t C H locs ls2 hP hS hl2)
theorem r_astore {i : Nat} {x : Nat} (hd : decode M.2.1 pc = .ok (.astore i, 2)) (hn : i < M.2.2.1) (he : (i, Value.ref x) :: lv.filter (fun q => !(q.1 == i) && !(q.1 + 1 == i && q.2.category == 2)) = lv') (t : V E M R g Q cells slots h (pc + 2) lv' st) : V E M R g Q cells slots h pc lv (.ref x :: st) := by
  obtain ⟨p, e, s, m, args, below, meth, c0⟩ := g
  intro C H locs ls hP hS hl
  exact lv_astore C.1 C.2.1 hd hl hn he (fun ls2 hl2 => t C H locs ls2 hP hS hl2)
theorem r_iinc {i k : Nat} {n : Int} {x v : Int32} (hd : decode M.2.1 pc = .ok (.iinc i n, 3)) (hk : lv[k]? = some (i, .int x)) (hv : x + Int32.ofInt n = v) (hn : i < M.2.2.1) (he : (i, Value.int v) :: lv.filter (fun q => !(q.1 == i) && !(q.1 + 1 == i && q.2.category == 2)) = lv') (t : V E M R g Q cells slots h (pc + 3) lv' st) : V E M R g Q cells slots h pc lv st := by
  obtain ⟨p, e, s, m, args, below, meth, c0⟩ := g
  intro C H locs ls hP hS hl
  exact lv_iinc C.1 C.2.1 hd hl hk hv hn he (fun ls2 hl2 => t C H locs ls2 hP hS hl2)
theorem r_iadd {x y : Int32} (hd : decode M.2.1 pc = .ok (.iadd, 1)) (t : V E M R g Q cells slots h (pc + 1) lv (.int (x + y) :: st)) : V E M R g Q cells slots h pc lv (.int y :: .int x :: st) := by
  obtain ⟨p, e, s, m, args, below, meth, c0⟩ := g
  intro C H locs ls hP hS hl
  exact lv_iadd C.1 C.2.1 hd (t C H locs ls hP hS hl)
theorem r_isub {x y : Int32} (hd : decode M.2.1 pc = .ok (.isub, 1)) (t : V E M R g Q cells slots h (pc + 1) lv (.int (x - y) :: st)) : V E M R g Q cells slots h pc lv (.int y :: .int x :: st) := by
  obtain ⟨p, e, s, m, args, below, meth, c0⟩ := g
  intro C H locs ls hP hS hl
  exact lv_isub C.1 C.2.1 hd (t C H locs ls hP hS hl)
theorem r_imul {x y : Int32} (hd : decode M.2.1 pc = .ok (.imul, 1)) (t : V E M R g Q cells slots h (pc + 1) lv (.int (x * y) :: st)) : V E M R g Q cells slots h pc lv (.int y :: .int x :: st) := by
  obtain ⟨p, e, s, m, args, below, meth, c0⟩ := g
  intro C H locs ls hP hS hl
  exact lv_imul C.1 C.2.1 hd (t C H locs ls hP hS hl)
theorem r_iand {x y : Int32} (hd : decode M.2.1 pc = .ok (.iand, 1)) (t : V E M R g Q cells slots h (pc + 1) lv (.int (x &&& y) :: st)) : V E M R g Q cells slots h pc lv (.int y :: .int x :: st) := by
  obtain ⟨p, e, s, m, args, below, meth, c0⟩ := g
  intro C H locs ls hP hS hl
  exact lv_iand C.1 C.2.1 hd (t C H locs ls hP hS hl)
theorem r_ior {x y : Int32} (hd : decode M.2.1 pc = .ok (.ior, 1)) (t : V E M R g Q cells slots h (pc + 1) lv (.int (x ||| y) :: st)) : V E M R g Q cells slots h pc lv (.int y :: .int x :: st) := by
  obtain ⟨p, e, s, m, args, below, meth, c0⟩ := g
  intro C H locs ls hP hS hl
  exact lv_ior C.1 C.2.1 hd (t C H locs ls hP hS hl)
theorem r_ixor {x y : Int32} (hd : decode M.2.1 pc = .ok (.ixor, 1)) (t : V E M R g Q cells slots h (pc + 1) lv (.int (x ^^^ y) :: st)) : V E M R g Q cells slots h pc lv (.int y :: .int x :: st) := by
  obtain ⟨p, e, s, m, args, below, meth, c0⟩ := g
  intro C H locs ls hP hS hl
  exact lv_ixor C.1 C.2.1 hd (t C H locs ls hP hS hl)
theorem r_ishl {x y : Int32} (hd : decode M.2.1 pc = .ok (.ishl, 1)) (t : V E M R g Q cells slots h (pc + 1) lv (.int (x <<< (y &&& 31)) :: st)) : V E M R g Q cells slots h pc lv (.int y :: .int x :: st) := by
  obtain ⟨p, e, s, m, args, below, meth, c0⟩ := g
  intro C H locs ls hP hS hl
  exact lv_ishl C.1 C.2.1 hd (t C H locs ls hP hS hl)
theorem r_ishr {x y : Int32} (hd : decode M.2.1 pc = .ok (.ishr, 1)) (t : V E M R g Q cells slots h (pc + 1) lv (.int (x >>> (y &&& 31)) :: st)) : V E M R g Q cells slots h pc lv (.int y :: .int x :: st) := by
  obtain ⟨p, e, s, m, args, below, meth, c0⟩ := g
  intro C H locs ls hP hS hl
  exact lv_ishr C.1 C.2.1 hd (t C H locs ls hP hS hl)
theorem r_iushr {x y : Int32} (hd : decode M.2.1 pc = .ok (.iushr, 1)) (t : V E M R g Q cells slots h (pc + 1) lv (.int ((x.toUInt32 >>> (y.toUInt32 &&& Int32.toUInt32 31)).toInt32) :: st)) : V E M R g Q cells slots h pc lv (.int y :: .int x :: st) := by
  obtain ⟨p, e, s, m, args, below, meth, c0⟩ := g
  intro C H locs ls hP hS hl
  exact lv_iushr C.1 C.2.1 hd rfl (t C H locs ls hP hS hl)
theorem r_lsub {x y : Int64} (hd : decode M.2.1 pc = .ok (.lsub, 1)) (t : V E M R g Q cells slots h (pc + 1) lv (.long (x - y) :: st)) : V E M R g Q cells slots h pc lv (.long y :: .long x :: st) := by
  obtain ⟨p, e, s, m, args, below, meth, c0⟩ := g
  intro C H locs ls hP hS hl
  exact lv_lsub C.1 C.2.1 hd (t C H locs ls hP hS hl)
theorem r_lor {x y : Int64} (hd : decode M.2.1 pc = .ok (.lor, 1)) (t : V E M R g Q cells slots h (pc + 1) lv (.long (x ||| y) :: st)) : V E M R g Q cells slots h pc lv (.long y :: .long x :: st) := by
  obtain ⟨p, e, s, m, args, below, meth, c0⟩ := g
  intro C H locs ls hP hS hl
  exact lv_lor C.1 C.2.1 hd (t C H locs ls hP hS hl)
theorem r_ladd {x y : Int64} (hd : decode M.2.1 pc = .ok (.ladd, 1)) (t : V E M R g Q cells slots h (pc + 1) lv (.long (x + y) :: st)) : V E M R g Q cells slots h pc lv (.long y :: .long x :: st) := by
  obtain ⟨p, e, s, m, args, below, meth, c0⟩ := g
  intro C H locs ls hP hS hl
  exact lv_ladd C.1 C.2.1 hd (t C H locs ls hP hS hl)
theorem r_land {x y : Int64} (hd : decode M.2.1 pc = .ok (.land, 1)) (t : V E M R g Q cells slots h (pc + 1) lv (.long (x &&& y) :: st)) : V E M R g Q cells slots h pc lv (.long y :: .long x :: st) := by
  obtain ⟨p, e, s, m, args, below, meth, c0⟩ := g
  intro C H locs ls hP hS hl
  exact lv_land C.1 C.2.1 hd (t C H locs ls hP hS hl)
theorem r_lxor {x y : Int64} (hd : decode M.2.1 pc = .ok (.lxor, 1)) (t : V E M R g Q cells slots h (pc + 1) lv (.long (x ^^^ y) :: st)) : V E M R g Q cells slots h pc lv (.long y :: .long x :: st) := by
  obtain ⟨p, e, s, m, args, below, meth, c0⟩ := g
  intro C H locs ls hP hS hl
  exact lv_lxor C.1 C.2.1 hd (t C H locs ls hP hS hl)
theorem r_lshl {x : Int64} {y : Int32} (hd : decode M.2.1 pc = .ok (.lshl, 1)) (t : V E M R g Q cells slots h (pc + 1) lv (.long (x <<< (y.toInt64 &&& 63)) :: st)) : V E M R g Q cells slots h pc lv (.int y :: .long x :: st) := by
  obtain ⟨p, e, s, m, args, below, meth, c0⟩ := g
  intro C H locs ls hP hS hl
  exact lv_lshl C.1 C.2.1 hd rfl (t C H locs ls hP hS hl)
theorem r_lushr {x : Int64} {y : Int32} (hd : decode M.2.1 pc = .ok (.lushr, 1)) (t : V E M R g Q cells slots h (pc + 1) lv (.long ((x.toUInt64 >>> (y.toInt64.toUInt64 &&& Int64.toUInt64 63)).toInt64) :: st)) : V E M R g Q cells slots h pc lv (.int y :: .long x :: st) := by
  obtain ⟨p, e, s, m, args, below, meth, c0⟩ := g
  intro C H locs ls hP hS hl
  exact lv_lushr C.1 C.2.1 hd rfl (t C H locs ls hP hS hl)
theorem r_ineg {x : Int32} (hd : decode M.2.1 pc = .ok (.ineg, 1)) (t : V E M R g Q cells slots h (pc + 1) lv (.int (-x) :: st)) : V E M R g Q cells slots h pc lv (.int x :: st) := by
  obtain ⟨p, e, s, m, args, below, meth, c0⟩ := g
  intro C H locs ls hP hS hl
  exact lv_ineg C.1 C.2.1 hd (t C H locs ls hP hS hl)
theorem r_i2l {x : Int32} (hd : decode M.2.1 pc = .ok (.i2l, 1)) (t : V E M R g Q cells slots h (pc + 1) lv (.long x.toInt64 :: st)) : V E M R g Q cells slots h pc lv (.int x :: st) := by
  obtain ⟨p, e, s, m, args, below, meth, c0⟩ := g
  intro C H locs ls hP hS hl
  exact lv_i2l C.1 C.2.1 hd rfl (t C H locs ls hP hS hl)
theorem r_l2i {x : Int64} (hd : decode M.2.1 pc = .ok (.l2i, 1)) (t : V E M R g Q cells slots h (pc + 1) lv (.int x.toInt32 :: st)) : V E M R g Q cells slots h pc lv (.long x :: st) := by
  obtain ⟨p, e, s, m, args, below, meth, c0⟩ := g
  intro C H locs ls hP hS hl
  exact lv_l2i C.1 C.2.1 hd rfl (t C H locs ls hP hS hl)
theorem r_i2b {x : Int32} (hd : decode M.2.1 pc = .ok (.i2b, 1)) (t : V E M R g Q cells slots h (pc + 1) lv (.int x.toInt8.toInt32 :: st)) : V E M R g Q cells slots h pc lv (.int x :: st) := by
  obtain ⟨p, e, s, m, args, below, meth, c0⟩ := g
  intro C H locs ls hP hS hl
  exact lv_i2b C.1 C.2.1 hd rfl (t C H locs ls hP hS hl)
theorem r_i2c {x : Int32} (hd : decode M.2.1 pc = .ok (.i2c, 1)) (t : V E M R g Q cells slots h (pc + 1) lv (.int (x.toUInt32 % 65536).toInt32 :: st)) : V E M R g Q cells slots h pc lv (.int x :: st) := by
  obtain ⟨p, e, s, m, args, below, meth, c0⟩ := g
  intro C H locs ls hP hS hl
  exact lv_i2c C.1 C.2.1 hd rfl (t C H locs ls hP hS hl)
theorem r_lcmp {x y : Int64} (hd : decode M.2.1 pc = .ok (.lcmp, 1)) (t : V E M R g Q cells slots h (pc + 1) lv (.int (lg_cmp x y) :: st)) : V E M R g Q cells slots h pc lv (.long y :: .long x :: st) := by
  obtain ⟨p, e, s, m, args, below, meth, c0⟩ := g
  intro C H locs ls hP hS hl
  exact W.lcmp C.1 C.2.1 hd (t C H locs ls hP hS hl)
theorem r_idiv {x y : Int32} (hd : decode M.2.1 pc = .ok (.idiv, 1)) (h0 : ¬ y = 0) (t : V E M R g Q cells slots h (pc + 1) lv (.int (x / y) :: st)) : V E M R g Q cells slots h pc lv (.int y :: .int x :: st) := by
  obtain ⟨p, e, s, m, args, below, meth, c0⟩ := g
  intro C H locs ls hP hS hl
  exact lv_idiv C.1 C.2.1 hd h0 (t C H locs ls hP hS hl)
theorem r_irem {x y : Int32} (hd : decode M.2.1 pc = .ok (.irem, 1)) (h0 : ¬ y = 0) (t : V E M R g Q cells slots h (pc + 1) lv (.int (x - x / y * y) :: st)) : V E M R g Q cells slots h pc lv (.int y :: .int x :: st) := by
  obtain ⟨p, e, s, m, args, below, meth, c0⟩ := g
  intro C H locs ls hP hS hl
  exact lv_irem C.1 C.2.1 hd h0 (t C H locs ls hP hS hl)
theorem r_dup {va : Value} (hd : decode M.2.1 pc = .ok (.dup, 1)) (hc : va.category = 1) (t : V E M R g Q cells slots h (pc + 1) lv (va :: va :: st)) : V E M R g Q cells slots h pc lv (va :: st) := by
  obtain ⟨p, e, s, m, args, below, meth, c0⟩ := g
  intro C H locs ls hP hS hl
  exact lv_dup C.1 C.2.1 hd hc (t C H locs ls hP hS hl)
theorem r_pop {va : Value} (hd : decode M.2.1 pc = .ok (.pop, 1)) (hc : va.category = 1) (t : V E M R g Q cells slots h (pc + 1) lv st) : V E M R g Q cells slots h pc lv (va :: st) := by
  obtain ⟨p, e, s, m, args, below, meth, c0⟩ := g
  intro C H locs ls hP hS hl
  exact lv_pop C.1 C.2.1 hd hc (t C H locs ls hP hS hl)
theorem r_dup2 {va vb : Value} (hd : decode M.2.1 pc = .ok (.dup2, 1)) (hc : va.category = 1) (hc2 : vb.category = 1) (t : V E M R g Q cells slots h (pc + 1) lv (va :: vb :: va :: vb :: st)) : V E M R g Q cells slots h pc lv (va :: vb :: st) := by
  obtain ⟨p, e, s, m, args, below, meth, c0⟩ := g
  intro C H locs ls hP hS hl
  exact lv_dup2_11 C.1 C.2.1 hd hc hc2 (t C H locs ls hP hS hl)
theorem r_dup_x1 {va vb : Value} (hd : decode M.2.1 pc = .ok (.dup_x1, 1)) (hc : va.category = 1) (hc2 : vb.category = 1) (t : V E M R g Q cells slots h (pc + 1) lv (va :: vb :: va :: st)) : V E M R g Q cells slots h pc lv (va :: vb :: st) := by
  obtain ⟨p, e, s, m, args, below, meth, c0⟩ := g
  intro C H locs ls hP hS hl
  exact lv_dup_x1 C.1 C.2.1 hd hc hc2 (t C H locs ls hP hS hl)
theorem r_if_ne {x : Int32} {off : Int} {tgt : Nat} (hd : decode M.2.1 pc = .ok (.ifCond .ne off, 3)) (ht : (pc : Int) + off = (tgt : Int)) (t1 : ¬ x = 0 → V E M R g Q cells slots h (tgt) lv st) (t2 : x = 0 → V E M R g Q cells slots h (pc + 3) lv st) : V E M R g Q cells slots h pc lv (.int x :: st) := by
  obtain ⟨p, e, s, m, args, below, meth, c0⟩ := g
  intro C H locs ls hP hS hl
  exact lv_if_ne C.1 C.2.1 hd ht (fun q => t1 q C H locs ls hP hS hl) (fun q => t2 q C H locs ls hP hS hl)
theorem r_icmp_ne {x y : Int32} {off : Int} {tgt : Nat} (hd : decode M.2.1 pc = .ok (.if_icmp .ne off, 3)) (ht : (pc : Int) + off = (tgt : Int)) (t1 : ¬ x = y → V E M R g Q cells slots h (tgt) lv st) (t2 : x = y → V E M R g Q cells slots h (pc + 3) lv st) : V E M R g Q cells slots h pc lv (.int y :: .int x :: st) := by
  obtain ⟨p, e, s, m, args, below, meth, c0⟩ := g
  intro C H locs ls hP hS hl
  exact lv_icmp_ne C.1 C.2.1 hd ht (fun q => t1 q C H locs ls hP hS hl) (fun q => t2 q C H locs ls hP hS hl)
theorem r_if_eq {x : Int32} {off : Int} {tgt : Nat} (hd : decode M.2.1 pc = .ok (.ifCond .eq off, 3)) (ht : (pc : Int) + off = (tgt : Int)) (t1 : x = 0 → V E M R g Q cells slots h (tgt) lv st) (t2 : ¬ x = 0 → V E M R g Q cells slots h (pc + 3) lv st) : V E M R g Q cells slots h pc lv (.int x :: st) := by
  obtain ⟨p, e, s, m, args, below, meth, c0⟩ := g
  intro C H locs ls hP hS hl
  exact lv_if_eq C.1 C.2.1 hd ht (fun q => t1 q C H locs ls hP hS hl) (fun q => t2 q C H locs ls hP hS hl)
theorem r_icmp_eq {x y : Int32} {off : Int} {tgt : Nat} (hd : decode M.2.1 pc = .ok (.if_icmp .eq off, 3)) (ht : (pc : Int) + off = (tgt : Int)) (t1 : x = y → V E M R g Q cells slots h (tgt) lv st) (t2 : ¬ x = y → V E M R g Q cells slots h (pc + 3) lv st) : V E M R g Q cells slots h pc lv (.int y :: .int x :: st) := by
  obtain ⟨p, e, s, m, args, below, meth, c0⟩ := g
  intro C H locs ls hP hS hl
  exact lv_icmp_eq C.1 C.2.1 hd ht (fun q => t1 q C H locs ls hP hS hl) (fun q => t2 q C H locs ls hP hS hl)
theorem r_if_lt {x : Int32} {off : Int} {tgt : Nat} (hd : decode M.2.1 pc = .ok (.ifCond .lt off, 3)) (ht : (pc : Int) + off = (tgt : Int)) (t1 : x < 0 → V E M R g Q cells slots h (tgt) lv st) (t2 : ¬ x < 0 → V E M R g Q cells slots h (pc + 3) lv st) : V E M R g Q cells slots h pc lv (.int x :: st) := by
  obtain ⟨p, e, s, m, args, below, meth, c0⟩ := g
  intro C H locs ls hP hS hl
  exact lv_if_lt C.1 C.2.1 hd ht (fun q => t1 q C H locs ls hP hS hl) (fun q => t2 q C H locs ls hP hS hl)
theorem r_icmp_lt {x y : Int32} {off : Int} {tgt : Nat} (hd : decode M.2.1 pc = .ok (.if_icmp .lt off, 3)) (ht : (pc : Int) + off = (tgt : Int)) (t1 : x < y → V E M R g Q cells slots h (tgt) lv st) (t2 : ¬ x < y → V E M R g Q cells slots h (pc + 3) lv st) : V E M R g Q cells slots h pc lv (.int y :: .int x :: st) := by
  obtain ⟨p, e, s, m, args, below, meth, c0⟩ := g
  intro C H locs ls hP hS hl
  exact lv_icmp_lt C.1 C.2.1 hd ht (fun q => t1 q C H locs ls hP hS hl) (fun q => t2 q C H locs ls hP hS hl)
theorem r_if_ge {x : Int32} {off : Int} {tgt : Nat} (hd : decode M.2.1 pc = .ok (.ifCond .ge off, 3)) (ht : (pc : Int) + off = (tgt : Int)) (t1 : 0 ≤ x → V E M R g Q cells slots h (tgt) lv st) (t2 : ¬ 0 ≤ x → V E M R g Q cells slots h (pc + 3) lv st) : V E M R g Q cells slots h pc lv (.int x :: st) := by
  obtain ⟨p, e, s, m, args, below, meth, c0⟩ := g
  intro C H locs ls hP hS hl
  exact lv_if_ge C.1 C.2.1 hd ht (fun q => t1 q C H locs ls hP hS hl) (fun q => t2 q C H locs ls hP hS hl)
theorem r_icmp_ge {x y : Int32} {off : Int} {tgt : Nat} (hd : decode M.2.1 pc = .ok (.if_icmp .ge off, 3)) (ht : (pc : Int) + off = (tgt : Int)) (t1 : y ≤ x → V E M R g Q cells slots h (tgt) lv st) (t2 : ¬ y ≤ x → V E M R g Q cells slots h (pc + 3) lv st) : V E M R g Q cells slots h pc lv (.int y :: .int x :: st) := by
  obtain ⟨p, e, s, m, args, below, meth, c0⟩ := g
  intro C H locs ls hP hS hl
  exact lv_icmp_ge C.1 C.2.1 hd ht (fun q => t1 q C H locs ls hP hS hl) (fun q => t2 q C H locs ls hP hS hl)
theorem r_if_gt {x : Int32} {off : Int} {tgt : Nat} (hd : decode M.2.1 pc = .ok (.ifCond .gt off, 3)) (ht : (pc : Int) + off = (tgt : Int)) (t1 : 0 < x → V E M R g Q cells slots h (tgt) lv st) (t2 : ¬ 0 < x → V E M R g Q cells slots h (pc + 3) lv st) : V E M R g Q cells slots h pc lv (.int x :: st) := by
  obtain ⟨p, e, s, m, args, below, meth, c0⟩ := g
  intro C H locs ls hP hS hl
  exact lv_if_gt C.1 C.2.1 hd ht (fun q => t1 q C H locs ls hP hS hl) (fun q => t2 q C H locs ls hP hS hl)
theorem r_icmp_gt {x y : Int32} {off : Int} {tgt : Nat} (hd : decode M.2.1 pc = .ok (.if_icmp .gt off, 3)) (ht : (pc : Int) + off = (tgt : Int)) (t1 : y < x → V E M R g Q cells slots h (tgt) lv st) (t2 : ¬ y < x → V E M R g Q cells slots h (pc + 3) lv st) : V E M R g Q cells slots h pc lv (.int y :: .int x :: st) := by
  obtain ⟨p, e, s, m, args, below, meth, c0⟩ := g
  intro C H locs ls hP hS hl
  exact lv_icmp_gt C.1 C.2.1 hd ht (fun q => t1 q C H locs ls hP hS hl) (fun q => t2 q C H locs ls hP hS hl)
theorem r_if_le {x : Int32} {off : Int} {tgt : Nat} (hd : decode M.2.1 pc = .ok (.ifCond .le off, 3)) (ht : (pc : Int) + off = (tgt : Int)) (t1 : x ≤ 0 → V E M R g Q cells slots h (tgt) lv st) (t2 : ¬ x ≤ 0 → V E M R g Q cells slots h (pc + 3) lv st) : V E M R g Q cells slots h pc lv (.int x :: st) := by
  obtain ⟨p, e, s, m, args, below, meth, c0⟩ := g
  intro C H locs ls hP hS hl
  exact lv_if_le C.1 C.2.1 hd ht (fun q => t1 q C H locs ls hP hS hl) (fun q => t2 q C H locs ls hP hS hl)
theorem r_icmp_le {x y : Int32} {off : Int} {tgt : Nat} (hd : decode M.2.1 pc = .ok (.if_icmp .le off, 3)) (ht : (pc : Int) + off = (tgt : Int)) (t1 : x ≤ y → V E M R g Q cells slots h (tgt) lv st) (t2 : ¬ x ≤ y → V E M R g Q cells slots h (pc + 3) lv st) : V E M R g Q cells slots h pc lv (.int y :: .int x :: st) := by
  obtain ⟨p, e, s, m, args, below, meth, c0⟩ := g
  intro C H locs ls hP hS hl
  exact lv_icmp_le C.1 C.2.1 hd ht (fun q => t1 q C H locs ls hP hS hl) (fun q => t2 q C H locs ls hP hS hl)
theorem r_goto {off : Int} {tgt : Nat} (hd : decode M.2.1 pc = .ok (.goto off, 3)) (ht : (pc : Int) + off = (tgt : Int)) (t : V E M R g Q cells slots h (tgt) lv st) : V E M R g Q cells slots h pc lv st := by
  obtain ⟨p, e, s, m, args, below, meth, c0⟩ := g
  intro C H locs ls hP hS hl
  exact lv_goto C.1 C.2.1 hd ht (t C H locs ls hP hS hl)
theorem r_getI {idx ci k c z : Nat} {fk : List (Nat × Nat)} {ty : FieldType} {fin : Bool} (hd : decode M.2.1 pc = .ok (.getfield idx, 3)) (hf : FL M.1.cls idx ci k ty fin) (hc : lay[c]? = some (.inl (ci, fk))) (hk : fk[k]? = some (0, z)) (t : V E M R g Q cells slots h (pc + 3) lv (.int (h.1 c k) :: st)) : V E M R g Q cells slots h pc lv (.ref (eA E c) :: st) := by
  obtain ⟨p, e, s, m, args, below, meth, c0⟩ := g
  intro C H locs ls hP hS hl
  obtain ⟨C1, T, N, tyf, ⟨k1, k2, k3, k4⟩, hkN, hlk, -, -⟩ := hf
  exact va_get (D := eD E) (ci := ci) (C := C1) (T := T) (N := N) (v := .int (h.1 c k)) C.1 C.2.1 C.2.2.2.2.1 k2 C.2.2.2.1 C.2.2.2.2.2.2.2.2.1.1 hP c (wl_at hc) k1 k hkN (C.2.2.2.2.1 _ hlk) (fun _ h9 => h9) (by rw [List.getElem?_mapIdx, hk]; rfl) hd (t C H locs ls hP hS hl)
theorem r_getL {idx ci k c z : Nat} {fk : List (Nat × Nat)} {ty : FieldType} {fin : Bool} (hd : decode M.2.1 pc = .ok (.getfield idx, 3)) (hf : FL M.1.cls idx ci k ty fin) (hc : lay[c]? = some (.inl (ci, fk))) (hk : fk[k]? = some (1, z)) (t : V E M R g Q cells slots h (pc + 3) lv (.long (h.2 c k) :: st)) : V E M R g Q cells slots h pc lv (.ref (eA E c) :: st) := by
  obtain ⟨p, e, s, m, args, below, meth, c0⟩ := g
  intro C H locs ls hP hS hl
  obtain ⟨C1, T, N, tyf, ⟨k1, k2, k3, k4⟩, hkN, hlk, -, -⟩ := hf
  exact va_get (D := eD E) (ci := ci) (C := C1) (T := T) (N := N) (v := .long (h.2 c k)) C.1 C.2.1 C.2.2.2.2.1 k2 C.2.2.2.1 C.2.2.2.2.2.2.2.2.1.1 hP c (wl_at hc) k1 k hkN (C.2.2.2.2.1 _ hlk) (fun _ h9 => h9) (by rw [List.getElem?_mapIdx, hk]; rfl) hd (t C H locs ls hP hS hl)
theorem r_getR {idx ci k c c2 : Nat} {fk : List (Nat × Nat)} {ty : FieldType} {fin : Bool} (hd : decode M.2.1 pc = .ok (.getfield idx, 3)) (hf : FL M.1.cls idx ci k ty fin) (hc : lay[c]? = some (.inl (ci, fk))) (hk : fk[k]? = some (2, c2)) (t : V E M R g Q cells slots h (pc + 3) lv (.ref (eA E c2) :: st)) : V E M R g Q cells slots h pc lv (.ref (eA E c) :: st) := by
  obtain ⟨p, e, s, m, args, below, meth, c0⟩ := g
  intro C H locs ls hP hS hl
  obtain ⟨C1, T, N, tyf, ⟨k1, k2, k3, k4⟩, hkN, hlk, -, -⟩ := hf
  exact va_get (D := eD E) (ci := ci) (C := C1) (T := T) (N := N) (v := .ref (eA E c2)) C.1 C.2.1 C.2.2.2.2.1 k2 C.2.2.2.1 C.2.2.2.2.2.2.2.2.1.1 hP c (wl_at hc) k1 k hkN (C.2.2.2.2.1 _ hlk) (fun _ h9 => h9) (by rw [List.getElem?_mapIdx, hk]; rfl) hd (t C H locs ls hP hS hl)
theorem r_putX {idx ci k c z : Nat} {fk : List (Nat × Nat)} {ty : FieldType} {v : Int32} (hd : decode M.2.1 pc = .ok (.putfield idx, 3)) (hf : FL M.1.cls idx ci k ty false) (hc : lay[c]? = some (.inl (ci, fk))) (hk : fk[k]? = some (0, z)) (hn : narrow ty (.int v) = .int v) (hfit : fits ty (.int v) = true) (t : V E M R g Q cells slots (sI h c k v) (pc + 3) lv st) : V E M R g Q cells slots h pc lv (.int v :: .ref (eA E c) :: st) := by
  obtain ⟨p, e, s, m, args, below, meth, c0⟩ := g
  intro C H locs ls hP hS hl
  obtain ⟨C1, T, N, tyf, ⟨k1, k2, k3, k4⟩, hkN, hlk, hty, hfin⟩ := hf
  refine va_put (D := eD E) (ci := ci) (C := C1) (T := T) (N := N) (ty := ty) C.1 C.2.1 C.2.2.2.2.1 k2 tyf k3 k4 C.2.2.2.1 C.2.2.2.2.2.2.2.2.1.1 hP (C.2.2.2.2.2.2.2.1.D h) hS c (wl_at hc) k1 k hkN (C.2.2.2.2.1 _ hlk) (fun _ h9 => h9) hfin (by rw [k3 k hkN, hty]) hn hfit (by rw [List.length_mapIdx]; exact (List.getElem?_eq_some_iff.mp hk).1) hd (fun H1 locs1 hP1 hD1 hS1 => ?_)
  rw [wl_set (h' := sI h c k v) hc _ (by rw [fields_sI hk]; rfl) cE_sI] at hP1
  exact t C H1 locs1 ls hP1 hS1 hl
theorem r_putI {idx ci k c z : Nat} {fk : List (Nat × Nat)} {v : Int32} (hd : decode M.2.1 pc = .ok (.putfield idx, 3)) (hf : FL M.1.cls idx ci k .int false) (hc : lay[c]? = some (.inl (ci, fk))) (hk : fk[k]? = some (0, z)) (t : V E M R g Q cells slots (sI h c k v) (pc + 3) lv st) : V E M R g Q cells slots h pc lv (.int v :: .ref (eA E c) :: st) := r_putX hd hf hc hk rfl rfl t
theorem r_putZ {idx ci k c z : Nat} {fk : List (Nat × Nat)} {v : Int32} (hd : decode M.2.1 pc = .ok (.putfield idx, 3)) (hf : FL M.1.cls idx ci k .boolean false) (hc : lay[c]? = some (.inl (ci, fk))) (hk : fk[k]? = some (0, z)) (hz : v = 0 ∨ v = 1) (t : V E M R g Q cells slots (sI h c k v) (pc + 3) lv st) : V E M R g Q cells slots h pc lv (.int v :: .ref (eA E c) :: st) := r_putX hd hf hc hk (by rcases hz with rfl | rfl <;> decide) (by rcases hz with rfl | rfl <;> decide) t
theorem r_putL {idx ci k c z : Nat} {fk : List (Nat × Nat)} {v : Int64} (hd : decode M.2.1 pc = .ok (.putfield idx, 3)) (hf : FL M.1.cls idx ci k .long false) (hc : lay[c]? = some (.inl (ci, fk))) (hk : fk[k]? = some (1, z)) (t : V E M R g Q cells slots (sL h c k v) (pc + 3) lv st) : V E M R g Q cells slots h pc lv (.long v :: .ref (eA E c) :: st) := by
  obtain ⟨p, e, s, m, args, below, meth, c0⟩ := g
  intro C H locs ls hP hS hl
  obtain ⟨C1, T, N, tyf, ⟨k1, k2, k3, k4⟩, hkN, hlk, hty, hfin⟩ := hf
  refine va_put (D := eD E) (ci := ci) (C := C1) (T := T) (N := N) (ty := .long) C.1 C.2.1 C.2.2.2.2.1 k2 tyf k3 k4 C.2.2.2.1 C.2.2.2.2.2.2.2.2.1.1 hP (C.2.2.2.2.2.2.2.1.D h) hS c (wl_at hc) k1 k hkN (C.2.2.2.2.1 _ hlk) (fun _ h9 => h9) hfin (by rw [k3 k hkN, hty]) rfl rfl (by rw [List.length_mapIdx]; exact (List.getElem?_eq_some_iff.mp hk).1) hd (fun H1 locs1 hP1 hD1 hS1 => ?_)
  rw [wl_set (h' := sL h c k v) hc _ (by rw [fields_sL hk]; rfl) cE_sL] at hP1
  exact t C H1 locs1 ls hP1 hS1 hl
theorem r_iald {c n : Nat} {i : Int32} (hd : decode M.2.1 pc = .ok (.iaload, 1)) (hc : lay[c]? = some (.inr (0, n))) (hi : vp_in i n) (t : V E M R g Q cells slots h (pc + 1) lv (.int (h.1 c i.toNatClampNeg) :: st)) : V E M R g Q cells slots h pc lv (.int i :: .ref (eA E c) :: st) := by
  obtain ⟨p, e, s, m, args, below, meth, c0⟩ := g
  intro C H locs ls hP hS hl
  have ha : (wl E h)[c]? = some (eA E c, .inl (eC E 0, n, .inl (h.1 c))) := wl_at hc
  exact va_iald C.1 C.2.1 C.2.2.2.2.2.2.2.2.1.1 hP c 0 ha rfl hi hd (t C H locs ls hP hS hl)
theorem r_bald {c n : Nat} {i : Int32} (hd : decode M.2.1 pc = .ok (.baload, 1)) (hc : lay[c]? = some (.inr (1, n))) (hi : vp_in i n) (t : V E M R g Q cells slots h (pc + 1) lv (.int (h.1 c i.toNatClampNeg) :: st)) : V E M R g Q cells slots h pc lv (.int i :: .ref (eA E c) :: st) := by
  obtain ⟨p, e, s, m, args, below, meth, c0⟩ := g
  intro C H locs ls hP hS hl
  have ha : (wl E h)[c]? = some (eA E c, .inl (eC E 1, n, .inl (h.1 c))) := wl_at hc
  exact va_bald C.1 C.2.1 C.2.2.2.2.2.2.2.2.1.1 hP c 1 ha rfl hi hd (t C H locs ls hP hS hl)
theorem r_zald {c n : Nat} {i : Int32} (hd : decode M.2.1 pc = .ok (.baload, 1)) (hc : lay[c]? = some (.inr (2, n))) (hi : vp_in i n) (t : V E M R g Q cells slots h (pc + 1) lv (.int (h.1 c i.toNatClampNeg) :: st)) : V E M R g Q cells slots h pc lv (.int i :: .ref (eA E c) :: st) := by
  obtain ⟨p, e, s, m, args, below, meth, c0⟩ := g
  intro C H locs ls hP hS hl
  have ha : (wl E h)[c]? = some (eA E c, .inl (eC E 2, n, .inl (h.1 c))) := wl_at hc
  exact va_zald C.1 C.2.1 C.2.2.2.2.2.2.2.2.1.1 hP c 2 ha rfl hi hd (t C H locs ls hP hS hl)
theorem r_iast {c n : Nat} {i x : Int32} (hd : decode M.2.1 pc = .ok (.iastore, 1)) (hc : lay[c]? = some (.inr (0, n))) (hi : vp_in i n) (t : V E M R g Q cells slots (sI h c i.toNatClampNeg x) (pc + 1) lv st) : V E M R g Q cells slots h pc lv (.int x :: .int i :: .ref (eA E c) :: st) := by
  obtain ⟨p, e, s, m, args, below, meth, c0⟩ := g
  intro C H locs ls hP hS hl
  have ha : (wl E h)[c]? = some (eA E c, .inl (eC E 0, n, .inl (h.1 c))) := wl_at hc
  refine va_iast C.1 C.2.1 C.2.2.2.2.2.2.2.2.1.1 hP (C.2.2.2.2.2.2.2.1.D h) hS c 0 ha rfl hi hd (fun H1 locs1 hP1 hD1 hS1 => ?_)
  rw [wl_set (h' := sI h c i.toNatClampNeg x) hc _ (by simp [cE, sI, va_up_self]) cE_sI] at hP1
  exact t C H1 locs1 ls hP1 hS1 hl
theorem r_bast {c n : Nat} {i x : Int32} (hd : decode M.2.1 pc = .ok (.bastore, 1)) (hc : lay[c]? = some (.inr (1, n))) (hi : vp_in i n) (t : V E M R g Q cells slots (sI h c i.toNatClampNeg (vp_nar .byte x)) (pc + 1) lv st) : V E M R g Q cells slots h pc lv (.int x :: .int i :: .ref (eA E c) :: st) := by
  obtain ⟨p, e, s, m, args, below, meth, c0⟩ := g
  intro C H locs ls hP hS hl
  have ha : (wl E h)[c]? = some (eA E c, .inl (eC E 1, n, .inl (h.1 c))) := wl_at hc
  refine va_bast C.1 C.2.1 C.2.2.2.2.2.2.2.2.1.1 hP (C.2.2.2.2.2.2.2.1.D h) hS c 1 ha rfl hi hd (fun H1 locs1 hP1 hD1 hS1 => ?_)
  rw [wl_set (h' := sI h c i.toNatClampNeg (vp_nar .byte x)) hc _ (by simp [cE, sI, va_up_self]) cE_sI] at hP1
  exact t C H1 locs1 ls hP1 hS1 hl
theorem r_zast {c n : Nat} {i x : Int32} (hd : decode M.2.1 pc = .ok (.bastore, 1)) (hc : lay[c]? = some (.inr (2, n))) (hi : vp_in i n) (t : V E M R g Q cells slots (sI h c i.toNatClampNeg (vp_nar .boolean x)) (pc + 1) lv st) : V E M R g Q cells slots h pc lv (.int x :: .int i :: .ref (eA E c) :: st) := by
  obtain ⟨p, e, s, m, args, below, meth, c0⟩ := g
  intro C H locs ls hP hS hl
  have ha : (wl E h)[c]? = some (eA E c, .inl (eC E 2, n, .inl (h.1 c))) := wl_at hc
  refine va_zast C.1 C.2.1 C.2.2.2.2.2.2.2.2.1.1 hP (C.2.2.2.2.2.2.2.1.D h) hS c 2 ha rfl hi hd (fun H1 locs1 hP1 hD1 hS1 => ?_)
  rw [wl_set (h' := sI h c i.toNatClampNeg (vp_nar .boolean x)) hc _ (by simp [cE, sI, va_up_self]) cE_sI] at hP1
  exact t C H1 locs1 ls hP1 hS1 hl
theorem r_lald {c n : Nat} {i : Int32} (hd : decode M.2.1 pc = .ok (.laload, 1)) (hc : lay[c]? = some (.inr (3, n))) (hi : vp_in i n) (t : V E M R g Q cells slots h (pc + 1) lv (.long (h.2 c i.toNatClampNeg) :: st)) : V E M R g Q cells slots h pc lv (.int i :: .ref (eA E c) :: st) := by
  obtain ⟨p, e, s, m, args, below, meth, c0⟩ := g
  intro C H locs ls hP hS hl
  have ha : (wl E h)[c]? = some (eA E c, .inl (eC E 3, n, .inr (.inl (h.2 c)))) := wl_at hc
  exact va_lald C.1 C.2.1 C.2.2.2.2.2.2.2.2.1.1 hP c 3 ha rfl hi hd (t C H locs ls hP hS hl)
theorem r_last {c n : Nat} {i : Int32} {x : Int64} (hd : decode M.2.1 pc = .ok (.lastore, 1)) (hc : lay[c]? = some (.inr (3, n))) (hi : vp_in i n) (t : V E M R g Q cells slots (sL h c i.toNatClampNeg x) (pc + 1) lv st) : V E M R g Q cells slots h pc lv (.long x :: .int i :: .ref (eA E c) :: st) := by
  obtain ⟨p, e, s, m, args, below, meth, c0⟩ := g
  intro C H locs ls hP hS hl
  have ha : (wl E h)[c]? = some (eA E c, .inl (eC E 3, n, .inr (.inl (h.2 c)))) := wl_at hc
  refine va_last C.1 C.2.1 C.2.2.2.2.2.2.2.2.1.1 hP (C.2.2.2.2.2.2.2.1.D h) hS c 3 ha rfl hi hd (fun H1 locs1 hP1 hD1 hS1 => ?_)
  rw [wl_set (h' := sL h c i.toNatClampNeg x) hc _ (by simp [cE, sL, va_up_self]) cE_sL] at hP1
  exact t C H1 locs1 ls hP1 hS1 hl
theorem r_alen {c n a : Nat} (hd : decode M.2.1 pc = .ok (.arraylength, 1)) (hc : lay[c]? = some (.inr (a, n))) (ha : a < 4) {v : Int32} (hv : Int32.ofNat n = v) (t : V E M R g Q cells slots h (pc + 1) lv (.int v :: st)) : V E M R g Q cells slots h pc lv (.ref (eA E c) :: st) := by
  obtain ⟨p, e, s, m, args, below, meth, c0⟩ := g
  intro C H locs ls hP hS hl
  have hq : ∃ ty, (tysE E)[a]? = some (eC E a, ty) := by
    rcases (show a = 0 ∨ a = 1 ∨ a = 2 ∨ a = 3 by omega) with rfl | rfl | rfl | rfl
    · exact ⟨.int, rfl⟩
    · exact ⟨.byte, rfl⟩
    · exact ⟨.boolean, rfl⟩
    · exact ⟨.long, rfl⟩
  obtain ⟨ty, hty⟩ := hq
  exact va_alen C.1 C.2.1 C.2.2.2.2.2.2.2.2.1.1 hP c a (wl_at hc) hty hv hd (t C H locs ls hP hS hl)
theorem vwl {ls : Array Slot} {n : Nat} {l : List (Nat × Value)} (h : lv_has ls n l) : n = ls.size := h.1.symm
end ROWS
