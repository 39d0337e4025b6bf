/-! String constants and the JDK's own methods on them: rows -/
theorem fjJ0_38 : Cond.fieldLink RJ0 38 "java/lang/String" "COMPACT_STRINGS" "Z" ∈ TBL := tb2 221 rfl rfl
theorem fjJ0_1053 : Cond.fieldLink RJ0 1053 "jdk/internal/util/Preconditions" "SIOOBE_FORMATTER" "Ljava/util/function/BiFunction;" ∈ TBL := tb3 24 rfl rfl
theorem fjJ0_15 : Cond.fieldLink RJ0 15 "java/lang/String" "coder" "B" ∈ TBL := tb8 144 rfl rfl
theorem fjJ0_9 : Cond.fieldLink RJ0 9 "java/lang/String" "value" "[B" ∈ TBL := tb8 145 rfl rfl
section STRROWS
variable {E : En} {M M' : Mt} {R : Room} {g : Ga} {Q : State → Prop} {cells slots d k : Nat} {h : Hp} {pc : Nat} {lv lv' : List (Nat × Value)} {st st0 : List Value}
theorem r_kval {idx i : Nat} (hd : decode M.2.1 pc = .ok (.getfield idx, 3)) (hlk : Cond.fieldLink M.1.cls idx "java/lang/String" "value" "[B" ∈ TBL) (hi : i < 8) (t : V E M R g Q cells slots h (pc + 3) lv (.ref (eV E i) :: st)) : V E M R g Q cells slots h pc lv (.ref (eK E i) :: st) := by
  obtain ⟨p, e, s, m, args, below, meth, c0⟩ := g
  intro C H locs ls hP hS hl
  exact vk_getf C.1 C.2.1 (C.2.2.2.2.2.2.2.2.1.2.2.2.2.2.1.1 i hi).2.2.1 hS C.2.2.2.1 (C.2.2.2.2.1 _ hlk) (fun _ q => q) hd (t C H locs ls hP hS hl)
theorem r_kcod {idx i : Nat} (hd : decode M.2.1 pc = .ok (.getfield idx, 3)) (hlk : Cond.fieldLink M.1.cls idx "java/lang/String" "coder" "B" ∈ TBL) (hi : i < 8) (t : V E M R g Q cells slots h (pc + 3) lv (.int 0 :: st)) : V E M R g Q cells slots h pc lv (.ref (eK E i) :: st) := by
  obtain ⟨p, e, s, m, args, below, meth, c0⟩ := g
  intro C H locs ls hP hS hl
  exact vk_getf C.1 C.2.1 (C.2.2.2.2.2.2.2.2.1.2.2.2.2.2.1.1 i hi).2.1 hS C.2.2.2.1 (C.2.2.2.2.1 _ hlk) (fun _ q => q) hd (t C H locs ls hP hS hl)
theorem r_cs {idx : Nat} (hd : decode M.2.1 pc = .ok (.getstatic idx, 3)) (hlk : Cond.fieldLink M.1.cls idx "java/lang/String" "COMPACT_STRINGS" "Z" ∈ TBL) (t : V E M R g Q cells slots h (pc + 3) lv (.int 1 :: st)) : V E M R g Q cells slots h pc lv st := by
  obtain ⟨p, e, s, m, args, below, meth, c0⟩ := g
  intro C H locs ls hP hS hl
  exact va_gets C.1 C.2.1 C.2.2.2.2.2.2.2.2.2.2.2.2.1 hS C.2.2.2.1 (C.2.2.2.2.1 _ hlk) (fun _ q => q) hd (t C H locs ls hP hS hl)
theorem r_sio {idx : Nat} (hd : decode M.2.1 pc = .ok (.getstatic idx, 3)) (hlk : Cond.fieldLink M.1.cls idx "jdk/internal/util/Preconditions" "SIOOBE_FORMATTER" "Ljava/util/function/BiFunction;" ∈ TBL) (t : ∀ v : Value, (v = .null ∨ ∃ a, v = .ref a) → V E M R g Q cells slots h (pc + 3) lv (v :: st)) : V E M R g Q cells slots h pc lv st := by
  obtain ⟨p, e, s, m, args, below, meth, c0⟩ := g
  intro C H locs ls hP hS hl
  rcases C.2.2.2.2.2.2.2.2.2.2.2.2.2 with hz | ⟨a, hz⟩
  · exact va_gets C.1 C.2.1 hz hS C.2.2.2.1 (C.2.2.2.2.1 _ hlk) (fun _ q => q) hd (t .null (Or.inl rfl) C H locs ls hP hS hl)
  · exact va_gets C.1 C.2.1 hz hS C.2.2.2.1 (C.2.2.2.2.1 _ hlk) (fun _ q => q) hd (t (.ref a) (Or.inr ⟨a, rfl⟩) C H locs ls hP hS hl)
theorem r_vlen {i : Nat} (hd : decode M.2.1 pc = .ok (.arraylength, 1)) (hi : i < 8) (t : V E M R g Q cells slots h (pc + 1) lv (.int (Int32.ofNat (slen.getD i 0)) :: st)) : V E M R g Q cells slots h pc lv (.ref (eV E i) :: st) := by
  obtain ⟨p, e, s, m, args, below, meth, c0⟩ := g
  intro C H locs ls hP hS hl
  exact va_tlen C.1 C.2.1 (C.2.2.2.2.2.2.2.2.1.2.2.2.2.2.1.1 i hi).2.2.2 hS rfl hd (t C H locs ls hP hS hl)
theorem r_vald {i : Nat} {j : Int32} (hd : decode M.2.1 pc = .ok (.baload, 1)) (hi : i < 8) (hj : vp_in j (slen.getD i 0)) (t : V E M R g Q cells slots h (pc + 1) lv (.int ((sbyt.getD i []).getD j.toNatClampNeg 0) :: st)) : V E M R g Q cells slots h pc lv (.int j :: .ref (eV E i) :: st) := by
  obtain ⟨p, e, s, m, args, below, meth, c0⟩ := g
  intro C H locs ls hP hS hl
  exact va_tb C.1 C.2.1 (C.2.2.2.2.2.2.2.2.1.2.2.2.2.2.1.1 i hi).2.2.2 hS hj rfl hd (t C H locs ls hP hS hl)
theorem r_nret {v : Int32} {ty : FieldType} {P : Int32 → Hp → Prop} (hd : decode M.2.1 pc = .ok (.ireturn, 1)) (hr : M.2.2.2 = some ty) (hn : narrow ty (.int v) = .int v) (hp : P v h) : V E M R g (QQ E g (QI E P) cells slots) cells slots h pc lv [.int v] := by
  obtain ⟨p, e, s, m, args, below, meth, c0⟩ := g
  intro C H locs ls hP hS hl
  exact W.zret C.1 C.2.1 (C.2.2.2.2.2.2.1.trans hr) hn (fun t ht hW => ⟨⟨v, h, rfl, hp, (show va_P (eD E) vwCl (wl E h) t.heap by rw [ht]; exact hP)⟩, hS.F ht⟩) hS.2.2 hd C.2.2.2.2.2.1
end STRROWS
