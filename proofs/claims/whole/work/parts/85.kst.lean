theorem tl1 {w : Cond} (i : Nat) (h : tables_1_1[i]? = some w) : w ∈ lw_tbl := List.mem_append_right _ (show w ∈ tables_1 from List.mem_append_left _ (List.mem_of_getElem? h))
theorem tl2 {w : Cond} (i : Nat) (h : tables_1_2[i]? = some w) : w ∈ lw_tbl := List.mem_append_right _ (show w ∈ tables_1 from List.mem_append_right _ (List.mem_append_left _ (List.mem_of_getElem? h)))
theorem tl3 {w : Cond} (i : Nat) (h : tables_1_3[i]? = some w) : w ∈ lw_tbl := List.mem_append_right _ (show w ∈ tables_1 from List.mem_append_right _ (List.mem_append_right _ (List.mem_append_left _ (List.mem_of_getElem? h))))
theorem tl4 {w : Cond} (i : Nat) (h : tables_1_4[i]? = some w) : w ∈ lw_tbl := List.mem_append_right _ (show w ∈ tables_1 from List.mem_append_right _ (List.mem_append_right _ (List.mem_append_right _ (List.mem_append_left _ (List.mem_of_getElem? h)))))
theorem tl5 {w : Cond} (i : Nat) (h : tables_1_5[i]? = some w) : w ∈ lw_tbl := List.mem_append_right _ (show w ∈ tables_1 from List.mem_append_right _ (List.mem_append_right _ (List.mem_append_right _ (List.mem_append_right _ (List.mem_append_left _ (List.mem_of_getElem? h))))))
theorem tl6 {w : Cond} (i : Nat) (h : tables_1_6[i]? = some w) : w ∈ lw_tbl := List.mem_append_right _ (show w ∈ tables_1 from List.mem_append_right _ (List.mem_append_right _ (List.mem_append_right _ (List.mem_append_right _ (List.mem_append_right _ (List.mem_append_left _ (List.mem_of_getElem? h)))))))
theorem tl7 {w : Cond} (i : Nat) (h : tables_1_7[i]? = some w) : w ∈ lw_tbl := List.mem_append_right _ (show w ∈ tables_1 from List.mem_append_right _ (List.mem_append_right _ (List.mem_append_right _ (List.mem_append_right _ (List.mem_append_right _ (List.mem_append_right _ (List.mem_append_left _ (List.mem_of_getElem? h))))))))
theorem tl8 {w : Cond} (i : Nat) (h : tables_1_8[i]? = some w) : w ∈ lw_tbl := List.mem_append_right _ (show w ∈ tables_1 from List.mem_append_right _ (List.mem_append_right _ (List.mem_append_right _ (List.mem_append_right _ (List.mem_append_right _ (List.mem_append_right _ (List.mem_append_right _ (List.mem_of_getElem? h))))))))
def nd0 : List Cond := [.exactly (.string "MicrocodeOptimizer$Input" 152) "java/lang/String", .eq (.field (.string "MicrocodeOptimizer$Input" 152) "java/lang/String" "coder" "B") (.int 0), .arrayOf (.field (.string "MicrocodeOptimizer$Input" 152) "java/lang/String" "value" "[B") .byte, .eq (.length (.field (.string "MicrocodeOptimizer$Input" 152) "java/lang/String" "value" "[B")) (.int 11), .eq (.elem (.field (.string "MicrocodeOptimizer$Input" 152) "java/lang/String" "value" "[B") (.int 0)) (.int 61), .eq (.elem (.field (.string "MicrocodeOptimizer$Input" 152) "java/lang/String" "value" "[B") (.int 1)) (.int 59), .eq (.elem (.field (.string "MicrocodeOptimizer$Input" 152) "java/lang/String" "value" "[B") (.int 2)) (.int 58), .eq (.elem (.field (.string "MicrocodeOptimizer$Input" 152) "java/lang/String" "value" "[B") (.int 3)) (.int 44), .eq (.elem (.field (.string "MicrocodeOptimizer$Input" 152) "java/lang/String" "value" "[B") (.int 4)) (.int 33), .eq (.elem (.field (.string "MicrocodeOptimizer$Input" 152) "java/lang/String" "value" "[B") (.int 5)) (.int 43), .eq (.elem (.field (.string "MicrocodeOptimizer$Input" 152) "java/lang/String" "value" "[B") (.int 6)) (.int 45), .eq (.elem (.field (.string "MicrocodeOptimizer$Input" 152) "java/lang/String" "value" "[B") (.int 7)) (.int 42), .eq (.elem (.field (.string "MicrocodeOptimizer$Input" 152) "java/lang/String" "value" "[B") (.int 8)) (.int 38), .eq (.elem (.field (.string "MicrocodeOptimizer$Input" 152) "java/lang/String" "value" "[B") (.int 9)) (.int 124), .eq (.elem (.field (.string "MicrocodeOptimizer$Input" 152) "java/lang/String" "value" "[B") (.int 10)) (.int 94)]
set_option maxRecDepth 100000 in
theorem nd0_in : ∀ w ∈ nd0, w ∈ flatC (Jvm.Cond.and given_1 narrow_1) := by decide +kernel
def nd1 : List Cond := [.exactly (.string "MicrocodeOptimizer$Input" 119) "java/lang/String", .eq (.field (.string "MicrocodeOptimizer$Input" 119) "java/lang/String" "coder" "B") (.int 0), .arrayOf (.field (.string "MicrocodeOptimizer$Input" 119) "java/lang/String" "value" "[B") .byte, .eq (.length (.field (.string "MicrocodeOptimizer$Input" 119) "java/lang/String" "value" "[B")) (.int 6), .eq (.elem (.field (.string "MicrocodeOptimizer$Input" 119) "java/lang/String" "value" "[B") (.int 0)) (.int 43), .eq (.elem (.field (.string "MicrocodeOptimizer$Input" 119) "java/lang/String" "value" "[B") (.int 1)) (.int 45), .eq (.elem (.field (.string "MicrocodeOptimizer$Input" 119) "java/lang/String" "value" "[B") (.int 2)) (.int 42), .eq (.elem (.field (.string "MicrocodeOptimizer$Input" 119) "java/lang/String" "value" "[B") (.int 3)) (.int 38), .eq (.elem (.field (.string "MicrocodeOptimizer$Input" 119) "java/lang/String" "value" "[B") (.int 4)) (.int 124), .eq (.elem (.field (.string "MicrocodeOptimizer$Input" 119) "java/lang/String" "value" "[B") (.int 5)) (.int 94)]
set_option maxRecDepth 100000 in
theorem nd1_in : ∀ w ∈ nd1, w ∈ flatC (Jvm.Cond.and given_1 narrow_1) := by decide +kernel
def nd2 : List Cond := [.exactly (.string "MicrocodeOptimizer$Output" 34) "java/lang/String", .eq (.field (.string "MicrocodeOptimizer$Output" 34) "java/lang/String" "coder" "B") (.int 0), .arrayOf (.field (.string "MicrocodeOptimizer$Output" 34) "java/lang/String" "value" "[B") .byte, .eq (.length (.field (.string "MicrocodeOptimizer$Output" 34) "java/lang/String" "value" "[B")) (.int 3), .eq (.elem (.field (.string "MicrocodeOptimizer$Output" 34) "java/lang/String" "value" "[B") (.int 0)) (.int 111), .eq (.elem (.field (.string "MicrocodeOptimizer$Output" 34) "java/lang/String" "value" "[B") (.int 1)) (.int 112), .eq (.elem (.field (.string "MicrocodeOptimizer$Output" 34) "java/lang/String" "value" "[B") (.int 2)) (.int 32)]
set_option maxRecDepth 100000 in
theorem nd2_in : ∀ w ∈ nd2, w ∈ flatC (Jvm.Cond.and given_1 narrow_1) := by decide +kernel
def nd3 : List Cond := [.exactly (.string "MicrocodeOptimizer$Output" 48) "java/lang/String", .eq (.field (.string "MicrocodeOptimizer$Output" 48) "java/lang/String" "coder" "B") (.int 0), .arrayOf (.field (.string "MicrocodeOptimizer$Output" 48) "java/lang/String" "value" "[B") .byte, .eq (.length (.field (.string "MicrocodeOptimizer$Output" 48) "java/lang/String" "value" "[B")) (.int 6), .eq (.elem (.field (.string "MicrocodeOptimizer$Output" 48) "java/lang/String" "value" "[B") (.int 0)) (.int 32), .eq (.elem (.field (.string "MicrocodeOptimizer$Output" 48) "java/lang/String" "value" "[B") (.int 1)) (.int 117), .eq (.elem (.field (.string "MicrocodeOptimizer$Output" 48) "java/lang/String" "value" "[B") (.int 2)) (.int 110), .eq (.elem (.field (.string "MicrocodeOptimizer$Output" 48) "java/lang/String" "value" "[B") (.int 3)) (.int 105), .eq (.elem (.field (.string "MicrocodeOptimizer$Output" 48) "java/lang/String" "value" "[B") (.int 4)) (.int 116), .eq (.elem (.field (.string "MicrocodeOptimizer$Output" 48) "java/lang/String" "value" "[B") (.int 5)) (.int 32)]
set_option maxRecDepth 100000 in
theorem nd3_in : ∀ w ∈ nd3, w ∈ flatC (Jvm.Cond.and given_1 narrow_1) := by decide +kernel
def nd4 : List Cond := [.exactly (.string "MicrocodeOptimizer$Output" 84) "java/lang/String", .eq (.field (.string "MicrocodeOptimizer$Output" 84) "java/lang/String" "coder" "B") (.int 0), .arrayOf (.field (.string "MicrocodeOptimizer$Output" 84) "java/lang/String" "value" "[B") .byte, .eq (.length (.field (.string "MicrocodeOptimizer$Output" 84) "java/lang/String" "value" "[B")) (.int 6), .eq (.elem (.field (.string "MicrocodeOptimizer$Output" 84) "java/lang/String" "value" "[B") (.int 0)) (.int 105), .eq (.elem (.field (.string "MicrocodeOptimizer$Output" 84) "java/lang/String" "value" "[B") (.int 1)) (.int 110), .eq (.elem (.field (.string "MicrocodeOptimizer$Output" 84) "java/lang/String" "value" "[B") (.int 2)) (.int 115), .eq (.elem (.field (.string "MicrocodeOptimizer$Output" 84) "java/lang/String" "value" "[B") (.int 3)) (.int 116), .eq (.elem (.field (.string "MicrocodeOptimizer$Output" 84) "java/lang/String" "value" "[B") (.int 4)) (.int 114), .eq (.elem (.field (.string "MicrocodeOptimizer$Output" 84) "java/lang/String" "value" "[B") (.int 5)) (.int 32)]
set_option maxRecDepth 100000 in
theorem nd4_in : ∀ w ∈ nd4, w ∈ flatC (Jvm.Cond.and given_1 narrow_1) := by decide +kernel
def nd5 : List Cond := [.exactly (.string "MicrocodeOptimizerModel" 353) "java/lang/String", .eq (.field (.string "MicrocodeOptimizerModel" 353) "java/lang/String" "coder" "B") (.int 0), .arrayOf (.field (.string "MicrocodeOptimizerModel" 353) "java/lang/String" "value" "[B") .byte, .eq (.length (.field (.string "MicrocodeOptimizerModel" 353) "java/lang/String" "value" "[B")) (.int 2), .eq (.elem (.field (.string "MicrocodeOptimizerModel" 353) "java/lang/String" "value" "[B") (.int 0)) (.int 111), .eq (.elem (.field (.string "MicrocodeOptimizerModel" 353) "java/lang/String" "value" "[B") (.int 1)) (.int 112)]
set_option maxRecDepth 100000 in
theorem nd5_in : ∀ w ∈ nd5, w ∈ flatC (Jvm.Cond.and given_1 narrow_1) := by decide +kernel
def nd6 : List Cond := [.exactly (.string "MicrocodeOptimizerModel" 359) "java/lang/String", .eq (.field (.string "MicrocodeOptimizerModel" 359) "java/lang/String" "coder" "B") (.int 0), .arrayOf (.field (.string "MicrocodeOptimizerModel" 359) "java/lang/String" "value" "[B") .byte, .eq (.length (.field (.string "MicrocodeOptimizerModel" 359) "java/lang/String" "value" "[B")) (.int 4), .eq (.elem (.field (.string "MicrocodeOptimizerModel" 359) "java/lang/String" "value" "[B") (.int 0)) (.int 117), .eq (.elem (.field (.string "MicrocodeOptimizerModel" 359) "java/lang/String" "value" "[B") (.int 1)) (.int 110), .eq (.elem (.field (.string "MicrocodeOptimizerModel" 359) "java/lang/String" "value" "[B") (.int 2)) (.int 105), .eq (.elem (.field (.string "MicrocodeOptimizerModel" 359) "java/lang/String" "value" "[B") (.int 3)) (.int 116)]
set_option maxRecDepth 100000 in
theorem nd6_in : ∀ w ∈ nd6, w ∈ flatC (Jvm.Cond.and given_1 narrow_1) := by decide +kernel
def nd7 : List Cond := [.exactly (.string "MicrocodeOptimizerModel" 360) "java/lang/String", .eq (.field (.string "MicrocodeOptimizerModel" 360) "java/lang/String" "coder" "B") (.int 0), .arrayOf (.field (.string "MicrocodeOptimizerModel" 360) "java/lang/String" "value" "[B") .byte, .eq (.length (.field (.string "MicrocodeOptimizerModel" 360) "java/lang/String" "value" "[B")) (.int 5), .eq (.elem (.field (.string "MicrocodeOptimizerModel" 360) "java/lang/String" "value" "[B") (.int 0)) (.int 105), .eq (.elem (.field (.string "MicrocodeOptimizerModel" 360) "java/lang/String" "value" "[B") (.int 1)) (.int 110), .eq (.elem (.field (.string "MicrocodeOptimizerModel" 360) "java/lang/String" "value" "[B") (.int 2)) (.int 115), .eq (.elem (.field (.string "MicrocodeOptimizerModel" 360) "java/lang/String" "value" "[B") (.int 3)) (.int 116), .eq (.elem (.field (.string "MicrocodeOptimizerModel" 360) "java/lang/String" "value" "[B") (.int 4)) (.int 114)]
set_option maxRecDepth 100000 in
theorem nd7_in : ∀ w ∈ nd7, w ∈ flatC (Jvm.Cond.and given_1 narrow_1) := by decide +kernel
def ndB : List Cond := [.arrayOf (.static "MicrocodeOptimizer$Fields" "BITS" "[I") .int, .eq (.length (.static "MicrocodeOptimizer$Fields" "BITS" "[I")) (.int 13), .eq (.elem (.static "MicrocodeOptimizer$Fields" "BITS" "[I") (.int 0)) (.int 0), .eq (.elem (.static "MicrocodeOptimizer$Fields" "BITS" "[I") (.int 1)) (.int 1), .eq (.elem (.static "MicrocodeOptimizer$Fields" "BITS" "[I") (.int 2)) (.int 2), .eq (.elem (.static "MicrocodeOptimizer$Fields" "BITS" "[I") (.int 3)) (.int 2), .eq (.elem (.static "MicrocodeOptimizer$Fields" "BITS" "[I") (.int 4)) (.int 3), .eq (.elem (.static "MicrocodeOptimizer$Fields" "BITS" "[I") (.int 5)) (.int 3), .eq (.elem (.static "MicrocodeOptimizer$Fields" "BITS" "[I") (.int 6)) (.int 3), .eq (.elem (.static "MicrocodeOptimizer$Fields" "BITS" "[I") (.int 7)) (.int 3), .eq (.elem (.static "MicrocodeOptimizer$Fields" "BITS" "[I") (.int 8)) (.int 4), .eq (.elem (.static "MicrocodeOptimizer$Fields" "BITS" "[I") (.int 9)) (.int 4), .eq (.elem (.static "MicrocodeOptimizer$Fields" "BITS" "[I") (.int 10)) (.int 4), .eq (.elem (.static "MicrocodeOptimizer$Fields" "BITS" "[I") (.int 11)) (.int 4), .eq (.elem (.static "MicrocodeOptimizer$Fields" "BITS" "[I") (.int 12)) (.int 4)]
set_option maxRecDepth 100000 in
theorem ndB_in : ∀ w ∈ ndB, w ∈ flatC (Jvm.Cond.and given_1 narrow_1) := by decide +kernel
def ndP : List Cond := [.arrayOf (.static "MicrocodeOptimizer$Fields" "PARTED_BITS" "[I") .int, .eq (.length (.static "MicrocodeOptimizer$Fields" "PARTED_BITS" "[I")) (.int 13), .eq (.elem (.static "MicrocodeOptimizer$Fields" "PARTED_BITS" "[I") (.int 0)) (.int 0), .eq (.elem (.static "MicrocodeOptimizer$Fields" "PARTED_BITS" "[I") (.int 1)) (.int 0), .eq (.elem (.static "MicrocodeOptimizer$Fields" "PARTED_BITS" "[I") (.int 2)) (.int 2), .eq (.elem (.static "MicrocodeOptimizer$Fields" "PARTED_BITS" "[I") (.int 3)) (.int 3), .eq (.elem (.static "MicrocodeOptimizer$Fields" "PARTED_BITS" "[I") (.int 4)) (.int 3), .eq (.elem (.static "MicrocodeOptimizer$Fields" "PARTED_BITS" "[I") (.int 5)) (.int 4), .eq (.elem (.static "MicrocodeOptimizer$Fields" "PARTED_BITS" "[I") (.int 6)) (.int 4), .eq (.elem (.static "MicrocodeOptimizer$Fields" "PARTED_BITS" "[I") (.int 7)) (.int 4), .eq (.elem (.static "MicrocodeOptimizer$Fields" "PARTED_BITS" "[I") (.int 8)) (.int 4), .eq (.elem (.static "MicrocodeOptimizer$Fields" "PARTED_BITS" "[I") (.int 9)) (.int 5), .eq (.elem (.static "MicrocodeOptimizer$Fields" "PARTED_BITS" "[I") (.int 10)) (.int 5), .eq (.elem (.static "MicrocodeOptimizer$Fields" "PARTED_BITS" "[I") (.int 11)) (.int 5), .eq (.elem (.static "MicrocodeOptimizer$Fields" "PARTED_BITS" "[I") (.int 12)) (.int 5)]
set_option maxRecDepth 100000 in
theorem ndP_in : ∀ w ∈ ndP, w ∈ flatC (Jvm.Cond.and given_1 narrow_1) := by decide +kernel
def ndR : List Cond := [.eq (.string "MicrocodeOptimizer$Input" 119) (.string "MicrocodeOptimizer$Output" 73), .eq (.string "MicrocodeOptimizer$Output" 34) (.string "MicrocodeOptimizerModel" 403), .eq (.string "MicrocodeOptimizer$Output" 48) (.string "MicrocodeOptimizerModel" 412), .eq (.string "MicrocodeOptimizer$Input" 119) (.string "MicrocodeOptimizerModel" 417), .eq (.string "MicrocodeOptimizer$Output" 84) (.string "MicrocodeOptimizerModel" 419), .exactly (.string "MicrocodeOptimizer" 117) "java/lang/String", .exactly (.string "MicrocodeOptimizer" 180) "java/lang/String", .exactly (.string "MicrocodeOptimizer" 151) "java/lang/String", .exactly (.string "MicrocodeOptimizer" 183) "java/lang/String", .exactly (.string "MicrocodeOptimizer" 185) "java/lang/String", .exactly (.string "MicrocodeOptimizer" 187) "java/lang/String", .exactly (.string "MicrocodeOptimizer" 193) "java/lang/String", .exactly (.string "MicrocodeOptimizer" 200) "java/lang/String", .exactly (.string "MicrocodeOptimizer" 235) "java/lang/String", .exactly (.string "MicrocodeOptimizer" 264) "java/lang/String", .exactly (.string "MicrocodeOptimizer" 262) "java/lang/String", .exactly (.string "MicrocodeOptimizer" 292) "java/lang/String", .exactly (.string "MicrocodeOptimizer" 309) "java/lang/String", .exactly (.string "MicrocodeOptimizer" 301) "java/lang/String", .exactly (.string "MicrocodeOptimizer" 307) "java/lang/String", .not (.castable "java/lang/IllegalArgumentException" "java/lang/IndexOutOfBoundsException"), .not (.castable "java/lang/IllegalStateException" "java/lang/IndexOutOfBoundsException"), .not (.castable "java/lang/IllegalStateException" "java/lang/IllegalArgumentException"), .eq (.static "java/lang/String" "COMPACT_STRINGS" "Z") (.int 1), .isRef (.static "jdk/internal/util/Preconditions" "SIOOBE_FORMATTER" "Ljava/util/function/BiFunction;"), .isRef (.static "java/lang/Throwable" "UNASSIGNED_STACK" "[Ljava/lang/StackTraceElement;"), .isRef (.static "java/lang/Throwable" "SUPPRESSED_SENTINEL" "Ljava/util/List;")]
set_option maxRecDepth 100000 in
theorem ndR_in : ∀ w ∈ ndR, w ∈ flatC (Jvm.Cond.and given_1 narrow_1) := by decide +kernel
theorem eq_ref {args : Array Value} {s : State} {t u : Term} {a : Nat} (h : (Cond.eq t u).before args s = true) (ht : t.eval args s none [] s = some (.ref a)) : u.eval args s none [] s = some (.ref a) := by
  cases hv : u.eval args s none [] s with
  | none => simp [Cond.before, Cond.holds, Cond.value, ht, hv] at h
  | some w =>
    simp only [Cond.before, Cond.holds, Cond.value, ht, hv] at h
    cases w <;> simp_all
theorem ex_ref {args : Array Value} {s : State} {t : Term} {C : String} (h : (Cond.exactly t C).before args s = true) : ∃ a : Nat, t.eval args s none [] s = some (.ref a) := by
  obtain ⟨a, c, cell, k, h1, -⟩ := Cond.exactly_spec h
  exact ⟨a, h1⟩
theorem arr_K {args : Array Value} {s : State} {ty : FieldType} (hty : ∀ C, ty ≠ .object C) (h : (Cond.arrayClass ty).before args s = true) : ∃ c : ClassId, ArrOfT s c ty ∧ va_RA s c ty := by
  obtain ⟨c, k, comp, h1, h2, h3⟩ := Cond.arrayClass_spec h
  refine ⟨c, fun n z => ⟨fun k h => (by cases h), k, h2, comp, h3⟩, ?_⟩
  cases ty with
  | object C => exact absurd rfl (hty C)
  | _ => exact h1
theorem str0 {args : Array Value} {s : State} (hn : ∀ w ∈ flatC (Jvm.Cond.and given_1 narrow_1), w.before args s = true) {A : Nat → Prop} (hA : ∀ a : Nat, a < s.heap.size → ¬ A a) : ∃ a v : Nat, vk_S 1 [11] [[61, 59, 58, 44, 33, 43, 45, 42, 38, 124, 94]] (fun _ => a) (fun _ => v) A s s.heap ∧ (Term.string "MicrocodeOptimizer$Input" 152).eval args s none [] s = some (.ref a) := by
  have hq : ∀ w ∈ nd0, w.before args s = true := fun w hw => hn w (nd0_in w hw)
  obtain ⟨adK, adV, h1, h2⟩ := vk_Sof (args := args) (s := s) (N := 1) (tm := fun _ => .string "MicrocodeOptimizer$Input" 152) (len := [11]) (byt := [[61, 59, 58, 44, 33, 43, 45, 42, 38, 124, 94]]) (A := A) (fun i hi => by rcases (show i = 0 by omega) with rfl; decide) (fun i hi => hq _ (List.mem_of_getElem? (i := 0) rfl)) (fun i hi => hq _ (List.mem_of_getElem? (i := 1) rfl)) (fun i hi => hq _ (List.mem_of_getElem? (i := 2) rfl)) (fun i hi => by rcases (show i = 0 by omega) with rfl; exact hq _ (List.mem_of_getElem? (i := 3) rfl)) (fun i hi j hj => by
    rcases (show i = 0 by omega) with rfl
    have hj2 : j < 11 := hj
    rcases (show j = 0 ∨ j = 1 ∨ j = 2 ∨ j = 3 ∨ j = 4 ∨ j = 5 ∨ j = 6 ∨ j = 7 ∨ j = 8 ∨ j = 9 ∨ j = 10 by omega) with rfl | rfl | rfl | rfl | rfl | rfl | rfl | rfl | rfl | rfl | rfl
    · exact hq _ (List.mem_of_getElem? (i := 4) rfl)
    · exact hq _ (List.mem_of_getElem? (i := 5) rfl)
    · exact hq _ (List.mem_of_getElem? (i := 6) rfl)
    · exact hq _ (List.mem_of_getElem? (i := 7) rfl)
    · exact hq _ (List.mem_of_getElem? (i := 8) rfl)
    · exact hq _ (List.mem_of_getElem? (i := 9) rfl)
    · exact hq _ (List.mem_of_getElem? (i := 10) rfl)
    · exact hq _ (List.mem_of_getElem? (i := 11) rfl)
    · exact hq _ (List.mem_of_getElem? (i := 12) rfl)
    · exact hq _ (List.mem_of_getElem? (i := 13) rfl)
    · exact hq _ (List.mem_of_getElem? (i := 14) rfl)) (fun i j hi hj hij => absurd (show i = j by omega) hij) hA
  refine ⟨adK 0, adV 0, ⟨fun i hi => ?_, fun i j hi hj _ => by omega⟩, h2 0 (by decide)⟩
  rcases (show i = 0 by omega) with rfl
  exact h1.1 0 (by decide)
theorem str1 {args : Array Value} {s : State} (hn : ∀ w ∈ flatC (Jvm.Cond.and given_1 narrow_1), w.before args s = true) {A : Nat → Prop} (hA : ∀ a : Nat, a < s.heap.size → ¬ A a) : ∃ a v : Nat, vk_S 1 [6] [[43, 45, 42, 38, 124, 94]] (fun _ => a) (fun _ => v) A s s.heap ∧ (Term.string "MicrocodeOptimizer$Input" 119).eval args s none [] s = some (.ref a) := by
  have hq : ∀ w ∈ nd1, w.before args s = true := fun w hw => hn w (nd1_in w hw)
  obtain ⟨adK, adV, h1, h2⟩ := vk_Sof (args := args) (s := s) (N := 1) (tm := fun _ => .string "MicrocodeOptimizer$Input" 119) (len := [6]) (byt := [[43, 45, 42, 38, 124, 94]]) (A := A) (fun i hi => by rcases (show i = 0 by omega) with rfl; decide) (fun i hi => hq _ (List.mem_of_getElem? (i := 0) rfl)) (fun i hi => hq _ (List.mem_of_getElem? (i := 1) rfl)) (fun i hi => hq _ (List.mem_of_getElem? (i := 2) rfl)) (fun i hi => by rcases (show i = 0 by omega) with rfl; exact hq _ (List.mem_of_getElem? (i := 3) rfl)) (fun i hi j hj => by
    rcases (show i = 0 by omega) with rfl
    have hj2 : j < 6 := hj
    rcases (show j = 0 ∨ j = 1 ∨ j = 2 ∨ j = 3 ∨ j = 4 ∨ j = 5 by omega) with rfl | rfl | rfl | rfl | rfl | rfl
    · exact hq _ (List.mem_of_getElem? (i := 4) rfl)
    · exact hq _ (List.mem_of_getElem? (i := 5) rfl)
    · exact hq _ (List.mem_of_getElem? (i := 6) rfl)
    · exact hq _ (List.mem_of_getElem? (i := 7) rfl)
    · exact hq _ (List.mem_of_getElem? (i := 8) rfl)
    · exact hq _ (List.mem_of_getElem? (i := 9) rfl)) (fun i j hi hj hij => absurd (show i = j by omega) hij) hA
  refine ⟨adK 0, adV 0, ⟨fun i hi => ?_, fun i j hi hj _ => by omega⟩, h2 0 (by decide)⟩
  rcases (show i = 0 by omega) with rfl
  exact h1.1 0 (by decide)
theorem str2 {args : Array Value} {s : State} (hn : ∀ w ∈ flatC (Jvm.Cond.and given_1 narrow_1), w.before args s = true) {A : Nat → Prop} (hA : ∀ a : Nat, a < s.heap.size → ¬ A a) : ∃ a v : Nat, vk_S 1 [3] [[111, 112, 32]] (fun _ => a) (fun _ => v) A s s.heap ∧ (Term.string "MicrocodeOptimizer$Output" 34).eval args s none [] s = some (.ref a) := by
  have hq : ∀ w ∈ nd2, w.before args s = true := fun w hw => hn w (nd2_in w hw)
  obtain ⟨adK, adV, h1, h2⟩ := vk_Sof (args := args) (s := s) (N := 1) (tm := fun _ => .string "MicrocodeOptimizer$Output" 34) (len := [3]) (byt := [[111, 112, 32]]) (A := A) (fun i hi => by rcases (show i = 0 by omega) with rfl; decide) (fun i hi => hq _ (List.mem_of_getElem? (i := 0) rfl)) (fun i hi => hq _ (List.mem_of_getElem? (i := 1) rfl)) (fun i hi => hq _ (List.mem_of_getElem? (i := 2) rfl)) (fun i hi => by rcases (show i = 0 by omega) with rfl; exact hq _ (List.mem_of_getElem? (i := 3) rfl)) (fun i hi j hj => by
    rcases (show i = 0 by omega) with rfl
    have hj2 : j < 3 := hj
    rcases (show j = 0 ∨ j = 1 ∨ j = 2 by omega) with rfl | rfl | rfl
    · exact hq _ (List.mem_of_getElem? (i := 4) rfl)
    · exact hq _ (List.mem_of_getElem? (i := 5) rfl)
    · exact hq _ (List.mem_of_getElem? (i := 6) rfl)) (fun i j hi hj hij => absurd (show i = j by omega) hij) hA
  refine ⟨adK 0, adV 0, ⟨fun i hi => ?_, fun i j hi hj _ => by omega⟩, h2 0 (by decide)⟩
  rcases (show i = 0 by omega) with rfl
  exact h1.1 0 (by decide)
theorem str3 {args : Array Value} {s : State} (hn : ∀ w ∈ flatC (Jvm.Cond.and given_1 narrow_1), w.before args s = true) {A : Nat → Prop} (hA : ∀ a : Nat, a < s.heap.size → ¬ A a) : ∃ a v : Nat, vk_S 1 [6] [[32, 117, 110, 105, 116, 32]] (fun _ => a) (fun _ => v) A s s.heap ∧ (Term.string "MicrocodeOptimizer$Output" 48).eval args s none [] s = some (.ref a) := by
  have hq : ∀ w ∈ nd3, w.before args s = true := fun w hw => hn w (nd3_in w hw)
  obtain ⟨adK, adV, h1, h2⟩ := vk_Sof (args := args) (s := s) (N := 1) (tm := fun _ => .string "MicrocodeOptimizer$Output" 48) (len := [6]) (byt := [[32, 117, 110, 105, 116, 32]]) (A := A) (fun i hi => by rcases (show i = 0 by omega) with rfl; decide) (fun i hi => hq _ (List.mem_of_getElem? (i := 0) rfl)) (fun i hi => hq _ (List.mem_of_getElem? (i := 1) rfl)) (fun i hi => hq _ (List.mem_of_getElem? (i := 2) rfl)) (fun i hi => by rcases (show i = 0 by omega) with rfl; exact hq _ (List.mem_of_getElem? (i := 3) rfl)) (fun i hi j hj => by
    rcases (show i = 0 by omega) with rfl
    have hj2 : j < 6 := hj
    rcases (show j = 0 ∨ j = 1 ∨ j = 2 ∨ j = 3 ∨ j = 4 ∨ j = 5 by omega) with rfl | rfl | rfl | rfl | rfl | rfl
    · exact hq _ (List.mem_of_getElem? (i := 4) rfl)
    · exact hq _ (List.mem_of_getElem? (i := 5) rfl)
    · exact hq _ (List.mem_of_getElem? (i := 6) rfl)
    · exact hq _ (List.mem_of_getElem? (i := 7) rfl)
    · exact hq _ (List.mem_of_getElem? (i := 8) rfl)
    · exact hq _ (List.mem_of_getElem? (i := 9) rfl)) (fun i j hi hj hij => absurd (show i = j by omega) hij) hA
  refine ⟨adK 0, adV 0, ⟨fun i hi => ?_, fun i j hi hj _ => by omega⟩, h2 0 (by decide)⟩
  rcases (show i = 0 by omega) with rfl
  exact h1.1 0 (by decide)
theorem str4 {args : Array Value} {s : State} (hn : ∀ w ∈ flatC (Jvm.Cond.and given_1 narrow_1), w.before args s = true) {A : Nat → Prop} (hA : ∀ a : Nat, a < s.heap.size → ¬ A a) : ∃ a v : Nat, vk_S 1 [6] [[105, 110, 115, 116, 114, 32]] (fun _ => a) (fun _ => v) A s s.heap ∧ (Term.string "MicrocodeOptimizer$Output" 84).eval args s none [] s = some (.ref a) := by
  have hq : ∀ w ∈ nd4, w.before args s = true := fun w hw => hn w (nd4_in w hw)
  obtain ⟨adK, adV, h1, h2⟩ := vk_Sof (args := args) (s := s) (N := 1) (tm := fun _ => .string "MicrocodeOptimizer$Output" 84) (len := [6]) (byt := [[105, 110, 115, 116, 114, 32]]) (A := A) (fun i hi => by rcases (show i = 0 by omega) with rfl; decide) (fun i hi => hq _ (List.mem_of_getElem? (i := 0) rfl)) (fun i hi => hq _ (List.mem_of_getElem? (i := 1) rfl)) (fun i hi => hq _ (List.mem_of_getElem? (i := 2) rfl)) (fun i hi => by rcases (show i = 0 by omega) with rfl; exact hq _ (List.mem_of_getElem? (i := 3) rfl)) (fun i hi j hj => by
    rcases (show i = 0 by omega) with rfl
    have hj2 : j < 6 := hj
    rcases (show j = 0 ∨ j = 1 ∨ j = 2 ∨ j = 3 ∨ j = 4 ∨ j = 5 by omega) with rfl | rfl | rfl | rfl | rfl | rfl
    · exact hq _ (List.mem_of_getElem? (i := 4) rfl)
    · exact hq _ (List.mem_of_getElem? (i := 5) rfl)
    · exact hq _ (List.mem_of_getElem? (i := 6) rfl)
    · exact hq _ (List.mem_of_getElem? (i := 7) rfl)
    · exact hq _ (List.mem_of_getElem? (i := 8) rfl)
    · exact hq _ (List.mem_of_getElem? (i := 9) rfl)) (fun i j hi hj hij => absurd (show i = j by omega) hij) hA
  refine ⟨adK 0, adV 0, ⟨fun i hi => ?_, fun i j hi hj _ => by omega⟩, h2 0 (by decide)⟩
  rcases (show i = 0 by omega) with rfl
  exact h1.1 0 (by decide)
theorem str5 {args : Array Value} {s : State} (hn : ∀ w ∈ flatC (Jvm.Cond.and given_1 narrow_1), w.before args s = true) {A : Nat → Prop} (hA : ∀ a : Nat, a < s.heap.size → ¬ A a) : ∃ a v : Nat, vk_S 1 [2] [[111, 112]] (fun _ => a) (fun _ => v) A s s.heap ∧ (Term.string "MicrocodeOptimizerModel" 353).eval args s none [] s = some (.ref a) := by
  have hq : ∀ w ∈ nd5, w.before args s = true := fun w hw => hn w (nd5_in w hw)
  obtain ⟨adK, adV, h1, h2⟩ := vk_Sof (args := args) (s := s) (N := 1) (tm := fun _ => .string "MicrocodeOptimizerModel" 353) (len := [2]) (byt := [[111, 112]]) (A := A) (fun i hi => by rcases (show i = 0 by omega) with rfl; decide) (fun i hi => hq _ (List.mem_of_getElem? (i := 0) rfl)) (fun i hi => hq _ (List.mem_of_getElem? (i := 1) rfl)) (fun i hi => hq _ (List.mem_of_getElem? (i := 2) rfl)) (fun i hi => by rcases (show i = 0 by omega) with rfl; exact hq _ (List.mem_of_getElem? (i := 3) rfl)) (fun i hi j hj => by
    rcases (show i = 0 by omega) with rfl
    have hj2 : j < 2 := hj
    rcases (show j = 0 ∨ j = 1 by omega) with rfl | rfl
    · exact hq _ (List.mem_of_getElem? (i := 4) rfl)
    · exact hq _ (List.mem_of_getElem? (i := 5) rfl)) (fun i j hi hj hij => absurd (show i = j by omega) hij) hA
  refine ⟨adK 0, adV 0, ⟨fun i hi => ?_, fun i j hi hj _ => by omega⟩, h2 0 (by decide)⟩
  rcases (show i = 0 by omega) with rfl
  exact h1.1 0 (by decide)
theorem str6 {args : Array Value} {s : State} (hn : ∀ w ∈ flatC (Jvm.Cond.and given_1 narrow_1), w.before args s = true) {A : Nat → Prop} (hA : ∀ a : Nat, a < s.heap.size → ¬ A a) : ∃ a v : Nat, vk_S 1 [4] [[117, 110, 105, 116]] (fun _ => a) (fun _ => v) A s s.heap ∧ (Term.string "MicrocodeOptimizerModel" 359).eval args s none [] s = some (.ref a) := by
  have hq : ∀ w ∈ nd6, w.before args s = true := fun w hw => hn w (nd6_in w hw)
  obtain ⟨adK, adV, h1, h2⟩ := vk_Sof (args := args) (s := s) (N := 1) (tm := fun _ => .string "MicrocodeOptimizerModel" 359) (len := [4]) (byt := [[117, 110, 105, 116]]) (A := A) (fun i hi => by rcases (show i = 0 by omega) with rfl; decide) (fun i hi => hq _ (List.mem_of_getElem? (i := 0) rfl)) (fun i hi => hq _ (List.mem_of_getElem? (i := 1) rfl)) (fun i hi => hq _ (List.mem_of_getElem? (i := 2) rfl)) (fun i hi => by rcases (show i = 0 by omega) with rfl; exact hq _ (List.mem_of_getElem? (i := 3) rfl)) (fun i hi j hj => by
    rcases (show i = 0 by omega) with rfl
    have hj2 : j < 4 := hj
    rcases (show j = 0 ∨ j = 1 ∨ j = 2 ∨ j = 3 by omega) with rfl | rfl | rfl | rfl
    · exact hq _ (List.mem_of_getElem? (i := 4) rfl)
    · exact hq _ (List.mem_of_getElem? (i := 5) rfl)
    · exact hq _ (List.mem_of_getElem? (i := 6) rfl)
    · exact hq _ (List.mem_of_getElem? (i := 7) rfl)) (fun i j hi hj hij => absurd (show i = j by omega) hij) hA
  refine ⟨adK 0, adV 0, ⟨fun i hi => ?_, fun i j hi hj _ => by omega⟩, h2 0 (by decide)⟩
  rcases (show i = 0 by omega) with rfl
  exact h1.1 0 (by decide)
theorem str7 {args : Array Value} {s : State} (hn : ∀ w ∈ flatC (Jvm.Cond.and given_1 narrow_1), w.before args s = true) {A : Nat → Prop} (hA : ∀ a : Nat, a < s.heap.size → ¬ A a) : ∃ a v : Nat, vk_S 1 [5] [[105, 110, 115, 116, 114]] (fun _ => a) (fun _ => v) A s s.heap ∧ (Term.string "MicrocodeOptimizerModel" 360).eval args s none [] s = some (.ref a) := by
  have hq : ∀ w ∈ nd7, w.before args s = true := fun w hw => hn w (nd7_in w hw)
  obtain ⟨adK, adV, h1, h2⟩ := vk_Sof (args := args) (s := s) (N := 1) (tm := fun _ => .string "MicrocodeOptimizerModel" 360) (len := [5]) (byt := [[105, 110, 115, 116, 114]]) (A := A) (fun i hi => by rcases (show i = 0 by omega) with rfl; decide) (fun i hi => hq _ (List.mem_of_getElem? (i := 0) rfl)) (fun i hi => hq _ (List.mem_of_getElem? (i := 1) rfl)) (fun i hi => hq _ (List.mem_of_getElem? (i := 2) rfl)) (fun i hi => by rcases (show i = 0 by omega) with rfl; exact hq _ (List.mem_of_getElem? (i := 3) rfl)) (fun i hi j hj => by
    rcases (show i = 0 by omega) with rfl
    have hj2 : j < 5 := hj
    rcases (show j = 0 ∨ j = 1 ∨ j = 2 ∨ j = 3 ∨ j = 4 by omega) with rfl | rfl | rfl | rfl | rfl
    · exact hq _ (List.mem_of_getElem? (i := 4) rfl)
    · exact hq _ (List.mem_of_getElem? (i := 5) rfl)
    · exact hq _ (List.mem_of_getElem? (i := 6) rfl)
    · exact hq _ (List.mem_of_getElem? (i := 7) rfl)
    · exact hq _ (List.mem_of_getElem? (i := 8) rfl)) (fun i j hi hj hij => absurd (show i = j by omega) hij) hA
  refine ⟨adK 0, adV 0, ⟨fun i hi => ?_, fun i j hi hj _ => by omega⟩, h2 0 (by decide)⟩
  rcases (show i = 0 by omega) with rfl
  exact h1.1 0 (by decide)
theorem OF_one {o n d : String} {v w : Value} {t : Nat} {A : Nat → Prop} {U : State} {H : Heap} (h1 : va_OF o n d v t A U H) (h2 : va_OF o n d w t A U H) : v = w := by
  obtain ⟨cf, k, i, f, cell, a1, a2, a3, a4, a5, a6⟩ := h1
  obtain ⟨cf', k', i', f', cell', b1, b2, b3, b4, b5, b6⟩ := h2
  cases Option.some.inj (a1.symm.trans b1)
  cases Option.some.inj (a3.symm.trans b3)
  exact Option.some.inj (a5.symm.trans b5)
theorem T_one {t n n' : Nat} {f f' : Nat → Value} {A : Nat → Prop} {U : State} {H : Heap} (h1 : va_T .byte t n f A U H) (h2 : va_T .byte t n' f' A U H) (hn : 0 < n) (hn2 : 0 < n') (h31 : n < 2 ^ 31) (h32 : n' < 2 ^ 31) : n = n' ∧ f 0 = f' 0 := by
  obtain ⟨cell, a1, a2, a3, a4, a5, a6, a7⟩ := h1
  obtain ⟨cell', b1, b2, b3, b4, b5, b6, b7⟩ := h2
  cases Option.some.inj (a1.symm.trans b1)
  refine ⟨?_, Option.some.inj ((a6 0 hn).symm.trans (b6 0 hn2))⟩
  have e : nI n = nI n' := a5.symm.trans b5
  exact (nI_eq h31 h32).mp e
theorem sdist : ∀ i, i < 8 → ∀ j, j < 8 → slen.getD i 0 = slen.getD j 0 → (sbyt.getD i []).getD 0 0 = (sbyt.getD j []).getD 0 0 → i = j := by decide +kernel
theorem spos : ∀ i, i < 8 → 0 < slen.getD i 0 ∧ slen.getD i 0 < 20 := by decide +kernel
set_option maxRecDepth 100000 in
set_option maxHeartbeats 4000000 in
theorem kst_start {l : Launch} (hflags : l.flags = flags0) {b : Nat} {s : State} (hts : ∀ w ∈ lw_tbl, w.before #[Value.ref b] s = true) (hgv : (Jvm.Cond.and given_1 narrow_1).before #[Value.ref b] s = true) : ∃ E : En, eL E = l ∧ eB E = s.heap.size ∧ Kst E s := by
  have hn := flat_of_before _ hgv
  have hT : ∀ w ∈ TBL, w.before #[Value.ref b] s = true := fun w hw => hts w (List.mem_filter.mp hw).1
  have hA : ∀ a : Nat, a < s.heap.size → ¬ (fun q => s.heap.size ≤ q) a := fun a h1 h2 => absurd h1 (Nat.not_lt.mpr h2)
  have hR : ∀ w ∈ ndR, w.before #[Value.ref b] s = true := fun w hw => hn w (ndR_in w hw)
  obtain ⟨c0, k0⟩ := arr_K (ty := .int) (fun C h => by cases h) (hT _ ar_int)
  obtain ⟨c1, k1⟩ := arr_K (ty := .byte) (fun C h => by cases h) (hT _ ar_byte)
  obtain ⟨c2, k2⟩ := arr_K (ty := .boolean) (fun C h => by cases h) (hT _ ar_boolean)
  obtain ⟨c3, k3⟩ := arr_K (ty := .long) (fun C h => by cases h) (hT _ ar_long)
  obtain ⟨d0, i0, u0⟩ := u_known (C := RX0) (T := TX0) (N := 9) (n := 9) hT kc0.2.1 (hts (.instantiable RX0 9) (tl2 65 rfl))
  obtain ⟨d1, i1, u1⟩ := u_known (C := RX1) (T := TX1) (N := 3) (n := 3) hT kc1.2.1 (hts (.instantiable RX1 3) (tl1 178 rfl))
  obtain ⟨d2, i2, u2⟩ := u_known (C := RX2) (T := TX2) (N := 8) (n := 8) hT kc2.2.1 (hts (.instantiable RX2 8) (tl1 37 rfl))
  obtain ⟨d3, i3, u3⟩ := u_known (C := RX3) (T := TX3) (N := 2) (n := 2) hT kc3.2.1 (hts (.instantiable RX3 2) (tl1 70 rfl))
  obtain ⟨d4, i4, u4⟩ := u_known (C := RX4) (T := TX4) (N := 12) (n := 12) hT kc4.2.1 (hts (.instantiable RX4 12) (tl1 197 rfl))
  obtain ⟨d5, i5, u5⟩ := u_known (C := RX5) (T := TX5) (N := 5) (n := 5) hT kc5.2.1 (hts (.instantiable RX5 5) (tl2 104 rfl))
  obtain ⟨d6, i6, u6⟩ := u_known (C := RX6) (T := TX6) (N := 13) (n := 13) hT kc6.2.1 (hts (.instantiable RX6 13) (tl1 85 rfl))
  obtain ⟨d7, i7, u7⟩ := u_known (C := RX7) (T := TX7) (N := 5) (n := 5) hT kc7.2.1 (hts (.instantiable RX7 5) (tl2 32 rfl))
  obtain ⟨d8, i8, u8⟩ := u_known (C := RX8) (T := TX8) (N := 5) (n := 5) hT kc8.2.1 (hts (.instantiable RX8 5) (tl2 3 rfl))
  obtain ⟨d9, i9, u9⟩ := u_known (C := RX9) (T := TX9) (N := 11) (n := 11) hT kc9.2.1 (hts (.instantiable RX9 11) (tl1 29 rfl))
  obtain ⟨d10, i10, u10⟩ := u_known (C := RX10) (T := TX10) (N := 55) (n := 55) hT kc10.2.1 (hts (.instantiable RX10 55) (tl6 12 rfl))
  obtain ⟨sa0, sv0, hs0, he0⟩ := str0 hn (A := fun q => s.heap.size ≤ q) hA
  obtain ⟨sa1, sv1, hs1, he1⟩ := str1 hn (A := fun q => s.heap.size ≤ q) hA
  obtain ⟨sa2, sv2, hs2, he2⟩ := str2 hn (A := fun q => s.heap.size ≤ q) hA
  obtain ⟨sa3, sv3, hs3, he3⟩ := str3 hn (A := fun q => s.heap.size ≤ q) hA
  obtain ⟨sa4, sv4, hs4, he4⟩ := str4 hn (A := fun q => s.heap.size ≤ q) hA
  obtain ⟨sa5, sv5, hs5, he5⟩ := str5 hn (A := fun q => s.heap.size ≤ q) hA
  obtain ⟨sa6, sv6, hs6, he6⟩ := str6 hn (A := fun q => s.heap.size ≤ q) hA
  obtain ⟨sa7, sv7, hs7, he7⟩ := str7 hn (A := fun q => s.heap.size ≤ q) hA
  have hqB : ∀ w ∈ ndB, w.before #[Value.ref b] s = true := fun w hw => hn w (ndB_in w hw)
  obtain ⟨tB, eB, fB⟩ := va_Tof (args := #[Value.ref b]) (s := s) (tm := .static "MicrocodeOptimizer$Fields" "BITS" "[I") (ty := .int) (N := 13) (f := fun j => .int (BITS.getD j 0)) (A := fun q => s.heap.size ≤ q) (by decide) (hqB _ (List.mem_of_getElem? (i := 0) rfl)) (va_eqt (hqB _ (List.mem_of_getElem? (i := 1) rfl))) (fun j hj => by
    rcases (show j = 0 ∨ j = 1 ∨ j = 2 ∨ j = 3 ∨ j = 4 ∨ j = 5 ∨ j = 6 ∨ j = 7 ∨ j = 8 ∨ j = 9 ∨ j = 10 ∨ j = 11 ∨ j = 12 by omega) with rfl | rfl | rfl | rfl | rfl | rfl | rfl | rfl | rfl | rfl | rfl | rfl | rfl
    · exact va_eqt (hqB _ (List.mem_of_getElem? (i := 2) rfl))
    · exact va_eqt (hqB _ (List.mem_of_getElem? (i := 3) rfl))
    · exact va_eqt (hqB _ (List.mem_of_getElem? (i := 4) rfl))
    · exact va_eqt (hqB _ (List.mem_of_getElem? (i := 5) rfl))
    · exact va_eqt (hqB _ (List.mem_of_getElem? (i := 6) rfl))
    · exact va_eqt (hqB _ (List.mem_of_getElem? (i := 7) rfl))
    · exact va_eqt (hqB _ (List.mem_of_getElem? (i := 8) rfl))
    · exact va_eqt (hqB _ (List.mem_of_getElem? (i := 9) rfl))
    · exact va_eqt (hqB _ (List.mem_of_getElem? (i := 10) rfl))
    · exact va_eqt (hqB _ (List.mem_of_getElem? (i := 11) rfl))
    · exact va_eqt (hqB _ (List.mem_of_getElem? (i := 12) rfl))
    · exact va_eqt (hqB _ (List.mem_of_getElem? (i := 13) rfl))
    · exact va_eqt (hqB _ (List.mem_of_getElem? (i := 14) rfl))) hA
  have hqP : ∀ w ∈ ndP, w.before #[Value.ref b] s = true := fun w hw => hn w (ndP_in w hw)
  obtain ⟨tP, eP, fP⟩ := va_Tof (args := #[Value.ref b]) (s := s) (tm := .static "MicrocodeOptimizer$Fields" "PARTED_BITS" "[I") (ty := .int) (N := 13) (f := fun j => .int (PBITS.getD j 0)) (A := fun q => s.heap.size ≤ q) (by decide) (hqP _ (List.mem_of_getElem? (i := 0) rfl)) (va_eqt (hqP _ (List.mem_of_getElem? (i := 1) rfl))) (fun j hj => by
    rcases (show j = 0 ∨ j = 1 ∨ j = 2 ∨ j = 3 ∨ j = 4 ∨ j = 5 ∨ j = 6 ∨ j = 7 ∨ j = 8 ∨ j = 9 ∨ j = 10 ∨ j = 11 ∨ j = 12 by omega) with rfl | rfl | rfl | rfl | rfl | rfl | rfl | rfl | rfl | rfl | rfl | rfl | rfl
    · exact va_eqt (hqP _ (List.mem_of_getElem? (i := 2) rfl))
    · exact va_eqt (hqP _ (List.mem_of_getElem? (i := 3) rfl))
    · exact va_eqt (hqP _ (List.mem_of_getElem? (i := 4) rfl))
    · exact va_eqt (hqP _ (List.mem_of_getElem? (i := 5) rfl))
    · exact va_eqt (hqP _ (List.mem_of_getElem? (i := 6) rfl))
    · exact va_eqt (hqP _ (List.mem_of_getElem? (i := 7) rfl))
    · exact va_eqt (hqP _ (List.mem_of_getElem? (i := 8) rfl))
    · exact va_eqt (hqP _ (List.mem_of_getElem? (i := 9) rfl))
    · exact va_eqt (hqP _ (List.mem_of_getElem? (i := 10) rfl))
    · exact va_eqt (hqP _ (List.mem_of_getElem? (i := 11) rfl))
    · exact va_eqt (hqP _ (List.mem_of_getElem? (i := 12) rfl))
    · exact va_eqt (hqP _ (List.mem_of_getElem? (i := 13) rfl))
    · exact va_eqt (hqP _ (List.mem_of_getElem? (i := 14) rfl))) hA
  refine ⟨(l, (fun k => ([d0, d1, d2, d3, d4, d5, d6, d7, d8, d9, d10] : List ClassId).getD k d0, fun k => ([i0, i1, i2, i3, i4, i5, i6, i7, i8, i9, i10] : List (Nat → Nat)).getD k i0), fun k => ([c0, c1, c2, c3] : List ClassId).getD k c0, fun _ => 0, s.heap.size, fun k => ([sa0, sa1, sa2, sa3, sa4, sa5, sa6, sa7] : List Nat).getD k 0, fun k => ([sv0, sv1, sv2, sv3, sv4, sv5, sv6, sv7] : List Nat).getD k 0, tB, tP), rfl, rfl, ⟨⟨?_, ?_⟩, Nat.le_refl _, ?_, ?_, ?_, ⟨?_, ?_⟩, ?_, ?_, ⟨?_, ?_⟩, ?_, ?_⟩, ?_, ?_, ?_, ?_, ?_⟩
  · intro k q hq
    match k, hq with
    | 0, hq => cases hq; exact u0
    | 1, hq => cases hq; exact u1
    | 2, hq => cases hq; exact u2
    | 3, hq => cases hq; exact u3
    | 4, hq => cases hq; exact u4
    | 5, hq => cases hq; exact u5
    | 6, hq => cases hq; exact u6
    | 7, hq => cases hq; exact u7
    | 8, hq => cases hq; exact u8
    | 9, hq => cases hq; exact u9
    | 10, hq => cases hq; exact u10
    | k + 11, hq => simp [vwCl] at hq
  · intro k q hq
    match k, hq with
    | 0, hq => cases hq; exact k0
    | 1, hq => cases hq; exact k1
    | 2, hq => cases hq; exact k2
    | 3, hq => cases hq; exact k3
    | k + 4, hq => simp [tysE] at hq
  · show l.stackTraces = false
    unfold Launch.stackTraces
    rw [hflags]
    decide +kernel
  · intro q hq
    simp only [STRS, List.mem_cons, List.not_mem_nil, or_false] at hq
    rcases hq with rfl | rfl | rfl | rfl | rfl | rfl | rfl | rfl | rfl | rfl | rfl | rfl | rfl
    · exact vk_R.of (A := #[Value.ref b]) (hts _ (tl2 208 rfl)) he0
    · exact vk_R.of (A := #[Value.ref b]) (hts _ (tl3 106 rfl)) he1
    · exact vk_R.of (A := #[Value.ref b]) (hts _ (tl3 232 rfl)) he2
    · exact vk_R.of (A := #[Value.ref b]) (hts _ (tl4 26 rfl)) he3
    · exact vk_R.of (A := #[Value.ref b]) (hts _ (tl4 35 rfl)) (eq_ref (hR _ (List.mem_of_getElem? (i := 0) rfl)) he1)
    · exact vk_R.of (A := #[Value.ref b]) (hts _ (tl4 40 rfl)) he4
    · exact vk_R.of (A := #[Value.ref b]) (hts _ (tl8 37 rfl)) he5
    · exact vk_R.of (A := #[Value.ref b]) (hts _ (tl8 64 rfl)) he6
    · exact vk_R.of (A := #[Value.ref b]) (hts _ (tl8 65 rfl)) he7
    · exact vk_R.of (A := #[Value.ref b]) (hts _ (tl8 98 rfl)) (eq_ref (hR _ (List.mem_of_getElem? (i := 1) rfl)) he2)
    · exact vk_R.of (A := #[Value.ref b]) (hts _ (tl8 111 rfl)) (eq_ref (hR _ (List.mem_of_getElem? (i := 2) rfl)) he3)
    · exact vk_R.of (A := #[Value.ref b]) (hts _ (tl8 120 rfl)) (eq_ref (hR _ (List.mem_of_getElem? (i := 3) rfl)) he1)
    · exact vk_R.of (A := #[Value.ref b]) (hts _ (tl8 121 rfl)) (eq_ref (hR _ (List.mem_of_getElem? (i := 4) rfl)) he4)
  · intro q hq
    simp only [THRS, List.mem_cons, List.not_mem_nil, or_false] at hq
    rcases hq with rfl | rfl | rfl | rfl | rfl | rfl | rfl | rfl | rfl | rfl | rfl | rfl | rfl | rfl | rfl
    · obtain ⟨a, ha⟩ := ex_ref (hR _ (List.mem_of_getElem? (i := 5) rfl))
      exact ⟨a, vk_R.of (A := #[Value.ref b]) (hts _ (tl4 176 rfl)) ha⟩
    · obtain ⟨a, ha⟩ := ex_ref (hR _ (List.mem_of_getElem? (i := 6) rfl))
      exact ⟨a, vk_R.of (A := #[Value.ref b]) (hts _ (tl4 224 rfl)) ha⟩
    · obtain ⟨a, ha⟩ := ex_ref (hR _ (List.mem_of_getElem? (i := 7) rfl))
      exact ⟨a, vk_R.of (A := #[Value.ref b]) (hts _ (tl5 4 rfl)) ha⟩
    · obtain ⟨a, ha⟩ := ex_ref (hR _ (List.mem_of_getElem? (i := 8) rfl))
      exact ⟨a, vk_R.of (A := #[Value.ref b]) (hts _ (tl5 22 rfl)) ha⟩
    · obtain ⟨a, ha⟩ := ex_ref (hR _ (List.mem_of_getElem? (i := 9) rfl))
      exact ⟨a, vk_R.of (A := #[Value.ref b]) (hts _ (tl5 34 rfl)) ha⟩
    · obtain ⟨a, ha⟩ := ex_ref (hR _ (List.mem_of_getElem? (i := 10) rfl))
      exact ⟨a, vk_R.of (A := #[Value.ref b]) (hts _ (tl5 58 rfl)) ha⟩
    · obtain ⟨a, ha⟩ := ex_ref (hR _ (List.mem_of_getElem? (i := 11) rfl))
      exact ⟨a, vk_R.of (A := #[Value.ref b]) (hts _ (tl5 71 rfl)) ha⟩
    · obtain ⟨a, ha⟩ := ex_ref (hR _ (List.mem_of_getElem? (i := 12) rfl))
      exact ⟨a, vk_R.of (A := #[Value.ref b]) (hts _ (tl5 86 rfl)) ha⟩
    · obtain ⟨a, ha⟩ := ex_ref (hR _ (List.mem_of_getElem? (i := 13) rfl))
      exact ⟨a, vk_R.of (A := #[Value.ref b]) (hts _ (tl5 107 rfl)) ha⟩
    · obtain ⟨a, ha⟩ := ex_ref (hR _ (List.mem_of_getElem? (i := 14) rfl))
      exact ⟨a, vk_R.of (A := #[Value.ref b]) (hts _ (tl5 140 rfl)) ha⟩
    · obtain ⟨a, ha⟩ := ex_ref (hR _ (List.mem_of_getElem? (i := 15) rfl))
      exact ⟨a, vk_R.of (A := #[Value.ref b]) (hts _ (tl5 145 rfl)) ha⟩
    · obtain ⟨a, ha⟩ := ex_ref (hR _ (List.mem_of_getElem? (i := 16) rfl))
      exact ⟨a, vk_R.of (A := #[Value.ref b]) (hts _ (tl5 182 rfl)) ha⟩
    · obtain ⟨a, ha⟩ := ex_ref (hR _ (List.mem_of_getElem? (i := 17) rfl))
      exact ⟨a, vk_R.of (A := #[Value.ref b]) (hts _ (tl5 201 rfl)) ha⟩
    · obtain ⟨a, ha⟩ := ex_ref (hR _ (List.mem_of_getElem? (i := 18) rfl))
      exact ⟨a, vk_R.of (A := #[Value.ref b]) (hts _ (tl5 219 rfl)) ha⟩
    · obtain ⟨a, ha⟩ := ex_ref (hR _ (List.mem_of_getElem? (i := 19) rfl))
      exact ⟨a, vk_R.of (A := #[Value.ref b]) (hts _ (tl5 235 rfl)) ha⟩
  · intro i hi
    rcases (show i = 0 ∨ i = 1 ∨ i = 2 ∨ i = 3 ∨ i = 4 ∨ i = 5 ∨ i = 6 ∨ i = 7 by omega) with rfl | rfl | rfl | rfl | rfl | rfl | rfl | rfl
    · exact hs0.1 0 (by decide)
    · exact hs1.1 0 (by decide)
    · exact hs2.1 0 (by decide)
    · exact hs3.1 0 (by decide)
    · exact hs4.1 0 (by decide)
    · exact hs5.1 0 (by decide)
    · exact hs6.1 0 (by decide)
    · exact hs7.1 0 (by decide)
  · have key : ∀ i, i < 8 → va_OF "java/lang/String" "value" "[B" (.ref (([sv0, sv1, sv2, sv3, sv4, sv5, sv6, sv7] : List Nat).getD i 0)) (([sa0, sa1, sa2, sa3, sa4, sa5, sa6, sa7] : List Nat).getD i 0) (fun q => s.heap.size ≤ q) s s.heap ∧ va_T .byte (([sv0, sv1, sv2, sv3, sv4, sv5, sv6, sv7] : List Nat).getD i 0) (slen.getD i 0) (fun j => .int ((sbyt.getD i []).getD j 0)) (fun q => s.heap.size ≤ q) s s.heap := by
      intro i hi
      rcases (show i = 0 ∨ i = 1 ∨ i = 2 ∨ i = 3 ∨ i = 4 ∨ i = 5 ∨ i = 6 ∨ i = 7 by omega) with rfl | rfl | rfl | rfl | rfl | rfl | rfl | rfl
      · exact ⟨(hs0.1 0 (by decide)).2.2.1, (hs0.1 0 (by decide)).2.2.2⟩
      · exact ⟨(hs1.1 0 (by decide)).2.2.1, (hs1.1 0 (by decide)).2.2.2⟩
      · exact ⟨(hs2.1 0 (by decide)).2.2.1, (hs2.1 0 (by decide)).2.2.2⟩
      · exact ⟨(hs3.1 0 (by decide)).2.2.1, (hs3.1 0 (by decide)).2.2.2⟩
      · exact ⟨(hs4.1 0 (by decide)).2.2.1, (hs4.1 0 (by decide)).2.2.2⟩
      · exact ⟨(hs5.1 0 (by decide)).2.2.1, (hs5.1 0 (by decide)).2.2.2⟩
      · exact ⟨(hs6.1 0 (by decide)).2.2.1, (hs6.1 0 (by decide)).2.2.2⟩
      · exact ⟨(hs7.1 0 (by decide)).2.2.1, (hs7.1 0 (by decide)).2.2.2⟩
    intro i j hi hj e
    have h1 := key i hi
    have h2 := key j hj
    have e' : ([sa0, sa1, sa2, sa3, sa4, sa5, sa6, sa7] : List Nat).getD i 0 = ([sa0, sa1, sa2, sa3, sa4, sa5, sa6, sa7] : List Nat).getD j 0 := e
    rw [e'] at h1
    have e2 : (Value.ref (([sv0, sv1, sv2, sv3, sv4, sv5, sv6, sv7] : List Nat).getD i 0)) = .ref (([sv0, sv1, sv2, sv3, sv4, sv5, sv6, sv7] : List Nat).getD j 0) := OF_one h1.1 h2.1
    have e3 : ([sv0, sv1, sv2, sv3, sv4, sv5, sv6, sv7] : List Nat).getD i 0 = ([sv0, sv1, sv2, sv3, sv4, sv5, sv6, sv7] : List Nat).getD j 0 := by injection e2
    have h3 := h1.2
    rw [e3] at h3
    obtain ⟨e4, e5⟩ := T_one h3 h2.2 (spos i hi).1 (spos j hj).1 (Nat.lt_trans (spos i hi).2 (by decide)) (Nat.lt_trans (spos j hj).2 (by decide))
    have e6 : (sbyt.getD i []).getD 0 0 = (sbyt.getD j []).getD 0 0 := by injection e5
    exact sdist i hi j hj e4 e6
  · exact vx_Zqof (hts _ (tl4 161 rfl)) (hT _ (List.mem_filter.mpr ⟨(tl1 19 rfl), rfl⟩)) (hR _ (List.mem_of_getElem? (i := 25) rfl)) hA
  · exact vx_Zqof (hts _ (tl4 163 rfl)) (hT _ (List.mem_filter.mpr ⟨(tl1 19 rfl), rfl⟩)) (hR _ (List.mem_of_getElem? (i := 26) rfl)) hA
  · exact va_Zref (hts _ (tl4 96 rfl)) (hts _ (tl1 9 rfl)) eB hA
  · exact fB
  · exact va_Zref (hts _ (tl4 99 rfl)) (hts _ (tl1 9 rfl)) eP hA
  · exact fP
  · intro x hx
    simp only [DECL, List.mem_cons, List.not_mem_nil, or_false] at hx
    rcases hx with rfl | rfl | rfl | rfl | rfl | rfl
    · exact va_Nw.of rfl (hts _ (tl4 138 rfl))
    · exact va_Nw.of rfl (hts _ (tl4 140 rfl))
    · exact va_Nw.of rfl (hts _ (tl4 142 rfl))
    · exact va_Nw.of rfl (hts _ (tl4 137 rfl))
    · exact va_Nw.of rfl (hts _ (tl4 139 rfl))
    · exact va_Nw.of rfl (hts _ (tl4 141 rfl))
  · intro x hx
    simp only [CASTS, List.mem_cons, List.not_mem_nil, or_false] at hx
    rcases hx with rfl | rfl | rfl | rfl
    · exact va_Nw.of rfl (hts _ (tl4 136 rfl))
    · exact va_Nw.of rfl (hts _ (tl4 217 rfl))
    · exact va_Nw.of rfl (hts _ (tl4 237 rfl))
    · exact va_Nw.of rfl (hts _ (tl5 79 rfl))
  · intro x hx
    simp only [NCASTS, List.mem_cons, List.not_mem_nil, or_false] at hx
    rcases hx with rfl | rfl | rfl
    · exact va_Nc.of (hR _ (List.mem_of_getElem? (i := 20) rfl))
    · exact va_Nc.of (hR _ (List.mem_of_getElem? (i := 21) rfl))
    · exact va_Nc.of (hR _ (List.mem_of_getElem? (i := 22) rfl))
  · exact va_Zof (hts _ (tl2 222 rfl)) (hts _ (tl1 12 rfl)) (va_eqi (hR _ (List.mem_of_getElem? (i := 23) rfl))) hA
  · exact va_Zqof (hts _ (tl3 25 rfl)) (hts _ (tl1 16 rfl)) (hR _ (List.mem_of_getElem? (i := 24) rfl)) hA
