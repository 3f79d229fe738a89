/-! ===== the start: constants ===== -/
def skL : List (String × Nat × List Nat) := [("StepPrograms$Tape", 143, [43, 45, 42, 47, 37, 38, 124, 94, 60, 61]), ("StepPrograms$Tape", 149, [60, 61, 62]), ("StepPrograms$Tape", 151, [103, 111]), ("StepPrograms$Form", 85, [108, 101, 116]), ("StepPrograms$Form", 87, [82, 88]), ("StepPrograms$Form", 93, [82, 88, 79, 89]), ("StepPrograms$Form", 96, [103, 101, 116]), ("StepPrograms$Form", 99, [112, 117, 116]), ("StepPrograms$Form", 101, [88, 89]), ("StepPrograms$Form", 104, [115, 105, 122, 101]), ("StepPrograms$Form", 107, [114, 101, 97, 100]), ("StepPrograms$Form", 109, [82, 88, 89]), ("StepPrograms$Form", 112, [119, 114, 105, 116, 101]), ("StepPrograms$Form", 115, [100, 114, 111, 112]), ("StepPrograms$Form", 117, [88]), ("StepPrograms$Form", 120, [99, 111, 112, 121]), ("StepPrograms$Form", 123, [111, 117, 116]), ("StepPrograms$Form", 126, [101, 114, 114]), ("StepPrograms$Form", 129, [103, 111]), ("StepPrograms$Form", 131, [76]), ("StepPrograms$Form", 134, [105, 102]), ("StepPrograms$Form", 136, [88, 67, 89, 103, 76]), ("StepPrograms$Form", 139, [99, 97, 108, 108]), ("StepPrograms$Form", 142, [98, 97, 99, 107]), ("StepPrograms$Form", 144, []), ("StepPrograms$Form", 147, [114, 117, 110]), ("StepPrograms$Form", 150, [97, 115, 107]), ("StepPrograms$Form", 153, [101, 120, 105, 116])]
def skT (i : Nat) : Term := .string (skL.getD i ("", 0, [])).1 (skL.getD i ("", 0, [])).2.1
def skW (i : Nat) : List Nat := (skL.getD i ("", 0, [])).2.2
def wpL : List Nat := [3, 3, 6, 7, 9, 10, 12, 13, 15, 16, 17, 18, 20, 22, 23, 25, 26, 27]
def kpL : List Nat := [4, 5, 4, 8, 4, 11, 8, 14, 8, 14, 14, 19, 21, 19, 24, 11, 4, 14]
def fnL : List String := ["LET", "CALCULATE", "GET", "PUT", "SIZE", "READ", "WRITE", "DROP", "COPY", "OUT", "ERR", "GO", "IF", "CALL", "BACK", "RUN", "ASK", "EXIT"]
def fmT (i : Nat) : Term := .static "StepPrograms$Form" (fnL.getD i "") "LStepPrograms$Form;"
theorem wp_ok : ∀ i, i < 18 → wpL.getD i 0 < 28 ∧ skW (wpL.getD i 0) = kwL.getD i [] := by decide
theorem kp_ok : ∀ i, i < 18 → kpL.getD i 0 < 28 ∧ skW (kpL.getD i 0) = kdL.getD i [] := by decide
theorem sk_ok : ∀ i, i < 28 → (skW i).length < 100 ∧ ∀ d ∈ skW i, d < 128 := by decide
abbrev nC : List Cond := flatC (Jvm.Cond.and given_1 narrow_1)
set_option maxRecDepth 100000 in
theorem n_ex : ∀ i, i < 28 → Cond.exactly (skT i) "java/lang/String" ∈ nC := by decide +kernel
set_option maxRecDepth 100000 in
theorem n_co : ∀ i, i < 28 → Cond.eq (.field (skT i) "java/lang/String" "coder" "B") (.int 0) ∈ nC := by decide +kernel
set_option maxRecDepth 100000 in
theorem n_ar : ∀ i, i < 28 → Cond.arrayOf (.field (skT i) "java/lang/String" "value" "[B") .byte ∈ nC := by decide +kernel
set_option maxRecDepth 100000 in
theorem n_le : ∀ i, i < 28 → Cond.eq (.length (.field (skT i) "java/lang/String" "value" "[B")) (.int (Int32.ofNat (skW i).length)) ∈ nC := by decide +kernel
set_option maxRecDepth 100000 in
theorem n_el0 : ∀ j, j < (skW 0).length → Cond.eq (.elem (.field (skT 0) "java/lang/String" "value" "[B") (.int (Int32.ofNat j))) (.int (Int32.ofNat ((skW 0).getD j 0))) ∈ nC := by decide +kernel
set_option maxRecDepth 100000 in
theorem n_el1 : ∀ j, j < (skW 1).length → Cond.eq (.elem (.field (skT 1) "java/lang/String" "value" "[B") (.int (Int32.ofNat j))) (.int (Int32.ofNat ((skW 1).getD j 0))) ∈ nC := by decide +kernel
set_option maxRecDepth 100000 in
theorem n_el2 : ∀ j, j < (skW 2).length → Cond.eq (.elem (.field (skT 2) "java/lang/String" "value" "[B") (.int (Int32.ofNat j))) (.int (Int32.ofNat ((skW 2).getD j 0))) ∈ nC := by decide +kernel
set_option maxRecDepth 100000 in
theorem n_el3 : ∀ j, j < (skW 3).length → Cond.eq (.elem (.field (skT 3) "java/lang/String" "value" "[B") (.int (Int32.ofNat j))) (.int (Int32.ofNat ((skW 3).getD j 0))) ∈ nC := by decide +kernel
set_option maxRecDepth 100000 in
theorem n_el4 : ∀ j, j < (skW 4).length → Cond.eq (.elem (.field (skT 4) "java/lang/String" "value" "[B") (.int (Int32.ofNat j))) (.int (Int32.ofNat ((skW 4).getD j 0))) ∈ nC := by decide +kernel
set_option maxRecDepth 100000 in
theorem n_el5 : ∀ j, j < (skW 5).length → Cond.eq (.elem (.field (skT 5) "java/lang/String" "value" "[B") (.int (Int32.ofNat j))) (.int (Int32.ofNat ((skW 5).getD j 0))) ∈ nC := by decide +kernel
set_option maxRecDepth 100000 in
theorem n_el6 : ∀ j, j < (skW 6).length → Cond.eq (.elem (.field (skT 6) "java/lang/String" "value" "[B") (.int (Int32.ofNat j))) (.int (Int32.ofNat ((skW 6).getD j 0))) ∈ nC := by decide +kernel
set_option maxRecDepth 100000 in
theorem n_el7 : ∀ j, j < (skW 7).length → Cond.eq (.elem (.field (skT 7) "java/lang/String" "value" "[B") (.int (Int32.ofNat j))) (.int (Int32.ofNat ((skW 7).getD j 0))) ∈ nC := by decide +kernel
set_option maxRecDepth 100000 in
theorem n_el8 : ∀ j, j < (skW 8).length → Cond.eq (.elem (.field (skT 8) "java/lang/String" "value" "[B") (.int (Int32.ofNat j))) (.int (Int32.ofNat ((skW 8).getD j 0))) ∈ nC := by decide +kernel
set_option maxRecDepth 100000 in
theorem n_el9 : ∀ j, j < (skW 9).length → Cond.eq (.elem (.field (skT 9) "java/lang/String" "value" "[B") (.int (Int32.ofNat j))) (.int (Int32.ofNat ((skW 9).getD j 0))) ∈ nC := by decide +kernel
set_option maxRecDepth 100000 in
theorem n_el10 : ∀ j, j < (skW 10).length → Cond.eq (.elem (.field (skT 10) "java/lang/String" "value" "[B") (.int (Int32.ofNat j))) (.int (Int32.ofNat ((skW 10).getD j 0))) ∈ nC := by decide +kernel
set_option maxRecDepth 100000 in
theorem n_el11 : ∀ j, j < (skW 11).length → Cond.eq (.elem (.field (skT 11) "java/lang/String" "value" "[B") (.int (Int32.ofNat j))) (.int (Int32.ofNat ((skW 11).getD j 0))) ∈ nC := by decide +kernel
set_option maxRecDepth 100000 in
theorem n_el12 : ∀ j, j < (skW 12).length → Cond.eq (.elem (.field (skT 12) "java/lang/String" "value" "[B") (.int (Int32.ofNat j))) (.int (Int32.ofNat ((skW 12).getD j 0))) ∈ nC := by decide +kernel
set_option maxRecDepth 100000 in
theorem n_el13 : ∀ j, j < (skW 13).length → Cond.eq (.elem (.field (skT 13) "java/lang/String" "value" "[B") (.int (Int32.ofNat j))) (.int (Int32.ofNat ((skW 13).getD j 0))) ∈ nC := by decide +kernel
set_option maxRecDepth 100000 in
theorem n_el14 : ∀ j, j < (skW 14).length → Cond.eq (.elem (.field (skT 14) "java/lang/String" "value" "[B") (.int (Int32.ofNat j))) (.int (Int32.ofNat ((skW 14).getD j 0))) ∈ nC := by decide +kernel
set_option maxRecDepth 100000 in
theorem n_el15 : ∀ j, j < (skW 15).length → Cond.eq (.elem (.field (skT 15) "java/lang/String" "value" "[B") (.int (Int32.ofNat j))) (.int (Int32.ofNat ((skW 15).getD j 0))) ∈ nC := by decide +kernel
set_option maxRecDepth 100000 in
theorem n_el16 : ∀ j, j < (skW 16).length → Cond.eq (.elem (.field (skT 16) "java/lang/String" "value" "[B") (.int (Int32.ofNat j))) (.int (Int32.ofNat ((skW 16).getD j 0))) ∈ nC := by decide +kernel
set_option maxRecDepth 100000 in
theorem n_el17 : ∀ j, j < (skW 17).length → Cond.eq (.elem (.field (skT 17) "java/lang/String" "value" "[B") (.int (Int32.ofNat j))) (.int (Int32.ofNat ((skW 17).getD j 0))) ∈ nC := by decide +kernel
set_option maxRecDepth 100000 in
theorem n_el18 : ∀ j, j < (skW 18).length → Cond.eq (.elem (.field (skT 18) "java/lang/String" "value" "[B") (.int (Int32.ofNat j))) (.int (Int32.ofNat ((skW 18).getD j 0))) ∈ nC := by decide +kernel
set_option maxRecDepth 100000 in
theorem n_el19 : ∀ j, j < (skW 19).length → Cond.eq (.elem (.field (skT 19) "java/lang/String" "value" "[B") (.int (Int32.ofNat j))) (.int (Int32.ofNat ((skW 19).getD j 0))) ∈ nC := by decide +kernel
set_option maxRecDepth 100000 in
theorem n_el20 : ∀ j, j < (skW 20).length → Cond.eq (.elem (.field (skT 20) "java/lang/String" "value" "[B") (.int (Int32.ofNat j))) (.int (Int32.ofNat ((skW 20).getD j 0))) ∈ nC := by decide +kernel
set_option maxRecDepth 100000 in
theorem n_el21 : ∀ j, j < (skW 21).length → Cond.eq (.elem (.field (skT 21) "java/lang/String" "value" "[B") (.int (Int32.ofNat j))) (.int (Int32.ofNat ((skW 21).getD j 0))) ∈ nC := by decide +kernel
set_option maxRecDepth 100000 in
theorem n_el22 : ∀ j, j < (skW 22).length → Cond.eq (.elem (.field (skT 22) "java/lang/String" "value" "[B") (.int (Int32.ofNat j))) (.int (Int32.ofNat ((skW 22).getD j 0))) ∈ nC := by decide +kernel
set_option maxRecDepth 100000 in
theorem n_el23 : ∀ j, j < (skW 23).length → Cond.eq (.elem (.field (skT 23) "java/lang/String" "value" "[B") (.int (Int32.ofNat j))) (.int (Int32.ofNat ((skW 23).getD j 0))) ∈ nC := by decide +kernel
set_option maxRecDepth 100000 in
theorem n_el24 : ∀ j, j < (skW 24).length → Cond.eq (.elem (.field (skT 24) "java/lang/String" "value" "[B") (.int (Int32.ofNat j))) (.int (Int32.ofNat ((skW 24).getD j 0))) ∈ nC := by decide +kernel
set_option maxRecDepth 100000 in
theorem n_el25 : ∀ j, j < (skW 25).length → Cond.eq (.elem (.field (skT 25) "java/lang/String" "value" "[B") (.int (Int32.ofNat j))) (.int (Int32.ofNat ((skW 25).getD j 0))) ∈ nC := by decide +kernel
set_option maxRecDepth 100000 in
theorem n_el26 : ∀ j, j < (skW 26).length → Cond.eq (.elem (.field (skT 26) "java/lang/String" "value" "[B") (.int (Int32.ofNat j))) (.int (Int32.ofNat ((skW 26).getD j 0))) ∈ nC := by decide +kernel
set_option maxRecDepth 100000 in
theorem n_el27 : ∀ j, j < (skW 27).length → Cond.eq (.elem (.field (skT 27) "java/lang/String" "value" "[B") (.int (Int32.ofNat j))) (.int (Int32.ofNat ((skW 27).getD j 0))) ∈ nC := by decide +kernel
theorem n_el : ∀ i, i < 28 → ∀ j, j < (skW i).length → Cond.eq (.elem (.field (skT i) "java/lang/String" "value" "[B") (.int (Int32.ofNat j))) (.int (Int32.ofNat ((skW i).getD j 0))) ∈ nC := by
  intro i hi
  rcases (show i = 0 ∨ i = 1 ∨ i = 2 ∨ i = 3 ∨ i = 4 ∨ i = 5 ∨ i = 6 ∨ i = 7 ∨ i = 8 ∨ i = 9 ∨ i = 10 ∨ i = 11 ∨ i = 12 ∨ i = 13 ∨ i = 14 ∨ i = 15 ∨ i = 16 ∨ i = 17 ∨ i = 18 ∨ i = 19 ∨ i = 20 ∨ i = 21 ∨ i = 22 ∨ i = 23 ∨ i = 24 ∨ i = 25 ∨ i = 26 ∨ i = 27 by omega) with rfl | rfl | rfl | rfl | rfl | rfl | rfl | rfl | rfl | rfl | rfl | rfl | rfl | rfl | rfl | rfl | rfl | rfl | rfl | rfl | rfl | rfl | rfl | rfl | rfl | rfl | rfl | rfl
  · exact n_el0
  · exact n_el1
  · exact n_el2
  · exact n_el3
  · exact n_el4
  · exact n_el5
  · exact n_el6
  · exact n_el7
  · exact n_el8
  · exact n_el9
  · exact n_el10
  · exact n_el11
  · exact n_el12
  · exact n_el13
  · exact n_el14
  · exact n_el15
  · exact n_el16
  · exact n_el17
  · exact n_el18
  · exact n_el19
  · exact n_el20
  · exact n_el21
  · exact n_el22
  · exact n_el23
  · exact n_el24
  · exact n_el25
  · exact n_el26
  · exact n_el27
set_option maxRecDepth 100000 in
theorem n_fx : ∀ i, i < 18 → Cond.exactly (fmT i) "StepPrograms$Form" ∈ nC := by decide +kernel
set_option maxRecDepth 100000 in
theorem n_fo : ∀ i, i < 18 → Cond.eq (.field (fmT i) "java/lang/Enum" "ordinal" "I") (.int (Int32.ofNat i)) ∈ nC := by decide +kernel
set_option maxRecDepth 100000 in
theorem n_fw : ∀ i, i < 18 → Cond.eq (.field (fmT i) "StepPrograms$Form" "word" "Ljava/lang/String;") (skT (wpL.getD i 0)) ∈ nC := by decide +kernel
set_option maxRecDepth 100000 in
theorem n_fk : ∀ i, i < 18 → Cond.eq (.field (fmT i) "StepPrograms$Form" "kinds" "Ljava/lang/String;") (skT (kpL.getD i 0)) ∈ nC := by decide +kernel
set_option maxRecDepth 100000 in
theorem n_fe : ∀ i, i < 18 → Cond.eq (.elem (.static "StepPrograms$Tape" "FORMS" "[LStepPrograms$Form;") (.int (Int32.ofNat i))) (fmT i) ∈ nC := by decide +kernel
set_option maxRecDepth 100000 in
theorem n_se : ∀ i, i < 18 → Cond.eq (.elem (.static "StepPrograms$1" "$SwitchMap$StepPrograms$Form" "[I") (.int (Int32.ofNat i))) (.int (Int32.ofNat (i + 1))) ∈ nC := by decide +kernel
set_option maxRecDepth 100000 in
theorem n_1 : ∀ w ∈ [Cond.arrayOf (.static "StepPrograms$Tape" "FORMS" "[LStepPrograms$Form;") (.object "StepPrograms$Form"), .eq (.length (.static "StepPrograms$Tape" "FORMS" "[LStepPrograms$Form;")) (.int (Int32.ofNat 18)), .arrayOf (.static "StepPrograms$1" "$SwitchMap$StepPrograms$Form" "[I") .int, .eq (.length (.static "StepPrograms$1" "$SwitchMap$StepPrograms$Form" "[I")) (.int (Int32.ofNat 18)), .arrayOf (.static "java/util/ArrayList" "DEFAULTCAPACITY_EMPTY_ELEMENTDATA" "[Ljava/lang/Object;") (.object "java/lang/Object"), .eq (.length (.static "java/util/ArrayList" "DEFAULTCAPACITY_EMPTY_ELEMENTDATA" "[Ljava/lang/Object;")) (.int (Int32.ofNat 0)), .eq (.static "java/lang/String" "COMPACT_STRINGS" "Z") (.int 1), .isRef (.static "jdk/internal/util/Preconditions" "SIOOBE_FORMATTER" "Ljava/util/function/BiFunction;"), .isRef (.mirror "[Ljava/lang/Object;")], w ∈ nC := by decide +kernel
/-! one cell says one thing -/
section ONE
variable {s : State} {A : Nat → Prop} {a : Nat}
theorem OF_one {o n d : String} {v v' : Value} {H : Heap} (h : va_OF o n d v a A s H) (h' : va_OF o n d v' a A s H) : v = v' := by
  obtain ⟨cf, k, i, f, cell, h1, -, h3, -, h5, -⟩ := h
  obtain ⟨cf', k', i', f', cell', g1, -, g3, -, g5, -⟩ := h'
  rw [h1] at g1
  cases g1
  rw [h3] at g3
  cases g3
  rw [h5] at g5
  exact Option.some.inj g5
theorem O_ne {n n' : String} {H : Heap} (hn : n ≠ n') (h : va_O n a A s H) (h' : va_O n' a A s H) : False := by
  obtain ⟨cell, h1, -, h3, -⟩ := h
  obtain ⟨cell', g1, -, g3, -⟩ := h'
  rw [h1] at g1
  cases g1
  obtain ⟨k, e1, e2⟩ := Vm.findClass_spec h3
  obtain ⟨k', e3, e4⟩ := Vm.findClass_spec g3
  rw [e1] at e3
  cases e3
  exact hn (e2.symm.trans e4)
theorem T_ty {ty ty' : FieldType} {n n' : Nat} {f f' : Nat → Value} {H : Heap} (h : va_T ty a n f A s H) (h' : va_T ty' a n' f' A s H) : ty = ty' := by
  obtain ⟨cell, h1, ⟨-, k, h3, comp, h4⟩, -⟩ := h
  obtain ⟨cell', g1, ⟨-, k', g3, comp', g4⟩, -⟩ := h'
  rw [h1] at g1
  cases g1
  rw [h3] at g3
  cases g3
  rw [h4] at g4
  cases g4
  rfl
theorem T_n {ty ty' : FieldType} {n n' : Nat} {f f' : Nat → Value} {H : Heap} (hn : n < 2 ^ 31) (hn' : n' < 2 ^ 31) (h : va_T ty a n f A s H) (h' : va_T ty' a n' f' A s H) : n = n' ∧ ∀ j, j < n → f j = f' j := by
  obtain ⟨cell, h1, -, -, -, h5, h6, -⟩ := h
  obtain ⟨cell', g1, -, -, -, g5, g6, -⟩ := h'
  rw [h1] at g1
  cases g1
  have e : n = n' := (nI_eq hn hn').mp (h5.symm.trans g5)
  refine ⟨e, fun j hj => ?_⟩
  have := g6 j (by omega)
  rw [h6 j hj] at this
  exact Option.some.inj this
def pO (A : Nat → Prop) (s : State) (a : Nat) (e : va_E) : Prop := (∃ v0 v1 : Value, e = .inr (100, [v0, v1]) ∧ va_O "java/lang/String" a A s s.heap ∧ va_OF "java/lang/String" "value" "[B" v0 a A s s.heap ∧ va_OF "java/lang/String" "coder" "B" v1 a A s s.heap) ∨ ∃ v0 v1 v2 : Value, e = .inr (101, [v0, v1, v2]) ∧ va_O "StepPrograms$Form" a A s s.heap ∧ va_OF "java/lang/Enum" "ordinal" "I" v0 a A s s.heap ∧ va_OF "StepPrograms$Form" "word" "Ljava/lang/String;" v1 a A s s.heap ∧ va_OF "StepPrograms$Form" "kinds" "Ljava/lang/String;" v2 a A s s.heap
def pA (A : Nat → Prop) (s : State) (a : Nat) (e : va_E) : Prop := (∃ (t n : Nat) (f : Nat → Int32), (t = 100 ∨ t = 102) ∧ e = .inl (t, n, .inl f) ∧ n < 2 ^ 31 ∧ va_T (sA t) a n (fun j => .int (f j)) A s s.heap ∧ ∀ j, n ≤ j → f j = 0) ∨ ∃ (t n : Nat) (f : Nat → Option Nat), (t = 101 ∨ t = 103) ∧ e = .inl (t, n, .inr (.inr (.inr (.inr f)))) ∧ n < 2 ^ 31 ∧ va_T (sA t) a n (fun j => va_rf (f j)) A s s.heap ∧ ∀ j, n ≤ j → f j = none
theorem pO_one {e e' : va_E} (h : pO A s a e) (h' : pO A s a e') : e = e' := by
  rcases h with ⟨v0, v1, rfl, h1, h2, h3⟩ | ⟨v0, v1, v2, rfl, h1, h2, h3, h4⟩ <;> rcases h' with ⟨u0, u1, rfl, g1, g2, g3⟩ | ⟨u0, u1, u2, rfl, g1, g2, g3, g4⟩
  · rw [OF_one h2 g2, OF_one h3 g3]
  · exact absurd (O_ne (by decide) h1 g1) id
  · exact absurd (O_ne (by decide) h1 g1) id
  · rw [OF_one h2 g2, OF_one h3 g3, OF_one h4 g4]
theorem rf_inj {x y : Option Nat} (h : va_rf x = va_rf y) : x = y := by
  cases x <;> cases y
  · rfl
  · cases h
  · cases h
  · cases h
    rfl
theorem pA_one {e e' : va_E} (h : pA A s a e) (h' : pA A s a e') : e = e' := by
  rcases h with ⟨t, n, f, ht, rfl, hn, h1, h2⟩ | ⟨t, n, f, ht, rfl, hn, h1, h2⟩ <;> rcases h' with ⟨t', n', f', ht', rfl, hn', g1, g2⟩ | ⟨t', n', f', ht', rfl, hn', g1, g2⟩
  · have et : t = t' := by
      have e := T_ty h1 g1
      rcases ht with rfl | rfl <;> rcases ht' with rfl | rfl
      · rfl
      · exact absurd e (by decide)
      · exact absurd e (by decide)
      · rfl
    obtain ⟨en, ef⟩ := T_n hn hn' h1 g1
    subst en
    subst et
    have : f = f' := by
      funext j
      by_cases hj : j < n
      · have := ef j hj
        injection this
      · rw [h2 j (by omega), g2 j (by omega)]
    rw [this]
  · exfalso
    have e := T_ty h1 g1
    rcases ht with rfl | rfl <;> rcases ht' with rfl | rfl <;> exact absurd e (by decide)
  · exfalso
    have e := T_ty h1 g1
    rcases ht with rfl | rfl <;> rcases ht' with rfl | rfl <;> exact absurd e (by decide)
  · have et : t = t' := by
      have e := T_ty h1 g1
      rcases ht with rfl | rfl <;> rcases ht' with rfl | rfl
      · rfl
      · exact absurd e (by decide)
      · exact absurd e (by decide)
      · rfl
    obtain ⟨en, ef⟩ := T_n hn hn' h1 g1
    subst en
    subst et
    have : f = f' := by
      funext j
      by_cases hj : j < n
      · exact rf_inj (ef j hj)
      · rw [h2 j (by omega), g2 j (by omega)]
    rw [this]
theorem S_ex (A : Nat → Prop) (s : State) : ∃ S : hE, (∀ a e, So S a = some e ↔ pO A s a e) ∧ ∀ a e, Sa S a = some e ↔ pA A s a e := by
  have key : ∀ (P : va_E → Prop), (∀ e e', P e → P e' → e = e') → ∃ r : Option va_E, ∀ e, r = some e ↔ P e := by
    intro P hP
    rcases Classical.em (∃ e, P e) with ⟨e, he⟩ | hn
    · exact ⟨some e, fun e' => ⟨fun h => (by cases h; exact he), fun h => by rw [hP e e' he h]⟩⟩
    · exact ⟨none, fun e' => ⟨fun h => (by cases h), fun h => absurd ⟨e', h⟩ hn⟩⟩
  have h0 : ∀ k : Nat, ∃ r : Option va_E, (k % 2 = 0 → ∀ e, r = some e ↔ pO A s (k / 2) e) ∧ (k % 2 = 1 → ∀ e, r = some e ↔ pA A s (k / 2) e) := by
    intro k
    rcases Nat.mod_two_eq_zero_or_one k with hk | hk
    · obtain ⟨r, hr⟩ := key (pO A s (k / 2)) (fun e e' h h' => pO_one h h')
      exact ⟨r, fun _ => hr, fun h => by omega⟩
    · obtain ⟨r, hr⟩ := key (pA A s (k / 2)) (fun e e' h h' => pA_one h h')
      exact ⟨r, fun h => by omega, fun _ => hr⟩
  obtain ⟨S, hS⟩ := Classical.axiomOfChoice h0
  refine ⟨S, fun a e => ?_, fun a e => ?_⟩
  · have := (hS (2 * a)).1 (by omega) e
    rw [show 2 * a / 2 = a by omega] at this
    exact this
  · have := (hS (2 * a + 1)).2 (by omega) e
    rw [show (2 * a + 1) / 2 = a by omega] at this
    exact this
end ONE
/-! strings, forms -/
section CON
variable {s : State} {args : Array Value} {A : Nat → Prop}
theorem str_ad (hs : ∀ w ∈ nC, w.before args s = true) (hA : ∀ a : Nat, a < s.heap.size → ¬ A a) {i : Nat} (hi : i < 28) : ∃ q : Nat × Nat, (skT i).eval args s none [] s = some (.ref q.1) ∧ va_O "java/lang/String" q.1 A s s.heap ∧ va_OF "java/lang/String" "value" "[B" (.ref q.2) q.1 A s s.heap ∧ va_OF "java/lang/String" "coder" "B" (.int 0) q.1 A s s.heap ∧ va_T .byte q.2 (skW i).length (fun j => .int (nI ((skW i).getD j 0))) A s s.heap := by
  obtain ⟨a, c, cA, kA, q1, q2, q3, q4, q5, q6, -⟩ := Cond.exactly_spec (args := args) (first := s) (o := none) (s := s) (idx := []) (t := skT i) (cls := "java/lang/String") (hs _ (n_ex i hi))
  obtain ⟨t, ht, hT⟩ := va_Tof (f := fun j => .int (nI ((skW i).getD j 0))) (A := A) (N := (skW i).length) (by have := (sk_ok i hi).1; omega) (hs _ (n_ar i hi)) (va_eqt (hs _ (n_le i hi))) (fun j hj => va_eqt (hs _ (n_el i hi j hj))) hA
  exact ⟨(a, t), q1, ⟨cA, q3, q5, by rw [q6]; exact q2, hA a (Array.getElem?_eq_some_iff.mp q3).1⟩, vk_OFof q1 ht hA, vk_OFof q1 (va_eqt (hs _ (n_co i hi))) hA, hT⟩
theorem frm_ad (hs : ∀ w ∈ nC, w.before args s = true) (hA : ∀ a : Nat, a < s.heap.size → ¬ A a) {i : Nat} (hi : i < 18) {u v : Nat} (hu : (skT (wpL.getD i 0)).eval args s none [] s = some (.ref u)) (hv : (skT (kpL.getD i 0)).eval args s none [] s = some (.ref v)) : ∃ a : Nat, (fmT i).eval args s none [] s = some (.ref a) ∧ pO A s a (.inr (101, [.int (nI i), .ref u, .ref v])) := by
  obtain ⟨a, c, cA, kA, q1, q2, q3, q4, q5, q6, -⟩ := Cond.exactly_spec (args := args) (first := s) (o := none) (s := s) (idx := []) (t := fmT i) (cls := "StepPrograms$Form") (hs _ (n_fx i hi))
  exact ⟨a, q1, Or.inr ⟨_, _, _, rfl, ⟨cA, q3, q5, by rw [q6]; exact q2, hA a (Array.getElem?_eq_some_iff.mp q3).1⟩, vk_OFof q1 (va_eqt (hs _ (n_fo i hi))) hA, vk_OFof q1 (va_eqv (hs _ (n_fw i hi)) hu) hA, vk_OFof q1 (va_eqv (hs _ (n_fk i hi)) hv) hA⟩⟩
/-- a table of ints as the map has it -/
theorem pA_int {a t n : Nat} {f : Nat → Int32} (ht : t = 100 ∨ t = 102) (hn : n < 2 ^ 31) (h : va_T (sA t) a n (fun j => .int (f j)) A s s.heap) : pA A s a (.inl (t, n, .inl (fun j => if j < n then f j else 0))) := by
  refine Or.inl ⟨t, n, _, ht, rfl, hn, ?_, fun j hj => if_neg (by omega)⟩
  obtain ⟨cell, h1, h2, h3, h4, h5, h6, h7⟩ := h
  exact ⟨cell, h1, h2, h3, h4, h5, fun j hj => by rw [h6 j hj]; show some (Value.int (f j)) = some (Value.int (if j < n then f j else 0)); rw [if_pos hj], h7⟩
theorem pA_ref {a t n : Nat} {f : Nat → Option Nat} (ht : t = 101 ∨ t = 103) (hn : n < 2 ^ 31) (h : va_T (sA t) a n (fun j => va_rf (f j)) A s s.heap) : pA A s a (.inl (t, n, .inr (.inr (.inr (.inr (fun j => if j < n then f j else none)))))) := by
  refine Or.inr ⟨t, n, _, ht, rfl, hn, ?_, fun j hj => if_neg (by omega)⟩
  obtain ⟨cell, h1, h2, h3, h4, h5, h6, h7⟩ := h
  exact ⟨cell, h1, h2, h3, h4, h5, fun j hj => by rw [h6 j hj]; show some (va_rf (f j)) = some (va_rf (if j < n then f j else none)); rw [if_pos hj], h7⟩
theorem str_S {S : hE} (hO : ∀ a e, So S a = some e ↔ pO A s a e) (hR : ∀ a e, Sa S a = some e ↔ pA A s a e) {a v : Nat} {kw : List Nat} (h1 : kw.length < 100) (h2 : ∀ d ∈ kw, d < 128) (ha : va_O "java/lang/String" a A s s.heap) (hv : va_OF "java/lang/String" "value" "[B" (.ref v) a A s s.heap) (hc : va_OF "java/lang/String" "coder" "B" (.int 0) a A s s.heap) (hT : va_T .byte v kw.length (fun j => .int (nI (kw.getD j 0))) A s s.heap) : strS S a kw := by
  refine ⟨v, _, (hO _ _).mpr (Or.inl ⟨_, _, rfl, ha, hv, hc⟩), (hR _ _).mpr (pA_int (t := 100) (Or.inl rfl) (by omega) hT), fun i hi => if_pos hi, h1, h2⟩
end CON

/-! ===== the start of the law ===== -/
theorem zS_at {S : hE} {g : Nat → Nat} {s : State} (hO : ∀ a e, So S a = some e ↔ pO (fun q => s.heap.size ≤ q) s a e) (hR : ∀ a e, Sa S a = some e ↔ pA (fun q => s.heap.size ≤ q) s a e)
    (h4 : ∀ i : Nat, i < 3 → va_Z (sF1 i).1 (sF1 i).2.1 (sF1 i).2.2 (va_rf (some (g i))) (fun q => s.heap.size ≤ q) s s.heap) (h5 : va_Z "java/lang/String" "COMPACT_STRINGS" "Z" (.int 1) (fun q => s.heap.size ≤ q) s s.heap) (h6 : va_Z "jdk/internal/util/Preconditions" "SIOOBE_FORMATTER" "Ljava/util/function/BiFunction;" (va_rf (gq g)) (fun q => s.heap.size ≤ q) s s.heap)
    (h7 : ∀ i : Nat, 10 ≤ i → i < 13 → vk_R "StepPrograms$Tape" (sL i).1 (sL i).2 (g i) s) (h8 : va_Mi "[Ljava/lang/Object;" (g 3) s) (h9 : va_Dc s) : zS S g s.heap.size s := by
  refine ⟨fun a ci fs h => ?_, fun a t n f h => ?_, fun a t n f h => ?_, h4, h5, h6, h7, h8, h9⟩
  · rcases (hO _ _).mp h with ⟨v0, v1, e, q1, q2, q3⟩ | ⟨v0, v1, v2, e, q1, q2, q3, q4⟩
    · cases e
      refine ⟨q1, fun k v hv => ?_⟩
      match k, hv with
      | 0, hv => cases hv; exact q2
      | 1, hv => cases hv; exact q3
      | k + 2, hv => simp at hv
    · cases e
      refine ⟨q1, fun k v hv => ?_⟩
      match k, hv with
      | 0, hv => cases hv; exact q2
      | 1, hv => cases hv; exact q3
      | 2, hv => cases hv; exact q4
      | k + 3, hv => simp at hv
  · rcases (hR _ _).mp h with ⟨t', n', f', ht, e, hn, q1, -⟩ | ⟨t', n', f', ht, e, hn, q1, -⟩
    · cases e
      exact q1
    · cases e
  · rcases (hR _ _).mp h with ⟨t', n', f', ht, e, hn, q1, -⟩ | ⟨t', n', f', ht, e, hn, q1, -⟩
    · cases e
    · cases e
      exact q1
theorem ar_O {s : State} {args : Array Value} {C : String} (h : (Cond.arrayOver (.object C)).before args s = true) : ∃ cA : ClassId, ArrOfT s cA (.object C) ∧ va_RA s cA (.object C) := by
  obtain ⟨comp, c, k, h1, h2, h3, h4, h5⟩ := Cond.arrayOver_spec h
  exact ⟨c, fun n z => ⟨(fun k h => by cases h), k, h3, comp, h4⟩, k, comp, h3, h4, h1, h5⟩
set_option maxHeartbeats 4000000 in
set_option maxRecDepth 100000 in
theorem con_start {s : State} {args : Array Value} (hs : ∀ w ∈ nC, w.before args s = true) (hts : ∀ w ∈ lw_tbl, w.before args s = true) : ∃ (S : hE) (g fa wa ka : Nat → Nat), conS S g fa wa ka ∧ zS S g s.heap.size s ∧ g 0 < s.heap.size := by
  have hA : ∀ a : Nat, a < s.heap.size → ¬ (fun q : Nat => s.heap.size ≤ q) a := fun a h => Nat.not_le.mpr h
  obtain ⟨S, hO, hR⟩ := S_ex (fun q : Nat => s.heap.size ≤ q) s
  have h0 : ∀ i : Nat, ∃ q : Nat × Nat, i < 28 → (skT i).eval args s none [] s = some (.ref q.1) ∧ strS S q.1 (skW i) := by
    intro i
    by_cases hi : i < 28
    · obtain ⟨q, q1, q2, q3, q4, q5⟩ := str_ad hs hA hi
      exact ⟨q, fun _ => ⟨q1, str_S hO hR (sk_ok i hi).1 (sk_ok i hi).2 q2 q3 q4 q5⟩⟩
    · exact ⟨(0, 0), fun h => absurd h hi⟩
  obtain ⟨ad, had⟩ := Classical.axiomOfChoice h0
  have h1 : ∀ i : Nat, ∃ a : Nat, i < 18 → (fmT i).eval args s none [] s = some (.ref a) ∧ So S a = some (.inr (101, [.int (nI i), .ref (ad (wpL.getD i 0)).1, .ref (ad (kpL.getD i 0)).1])) := by
    intro i
    by_cases hi : i < 18
    · obtain ⟨a, q1, q2⟩ := frm_ad hs hA hi (had _ (wp_ok i hi).1).1 (had _ (kp_ok i hi).1).1
      exact ⟨a, fun _ => ⟨q1, (hO _ _).mpr q2⟩⟩
    · exact ⟨0, fun h => absurd h hi⟩
  obtain ⟨fa, hfa⟩ := Classical.axiomOfChoice h1
  obtain ⟨g1, e1, T1⟩ := va_Tof (tm := .static "StepPrograms$Tape" "FORMS" "[LStepPrograms$Form;") (ty := .object "StepPrograms$Form") (N := 18) (f := fun j => va_rf (some (fa j))) (A := fun q : Nat => s.heap.size ≤ q) (by decide) (hs _ (n_1 _ (by simp))) (va_eqt (hs _ (n_1 _ (by simp)))) (fun j hj => va_eqv (hs _ (n_fe j hj)) (hfa j hj).1) hA
  obtain ⟨g2, e2, T2⟩ := va_Tof (tm := .static "StepPrograms$1" "$SwitchMap$StepPrograms$Form" "[I") (ty := .int) (N := 18) (f := fun j => .int (nI (j + 1))) (A := fun q : Nat => s.heap.size ≤ q) (by decide) (hs _ (n_1 _ (by simp))) (va_eqt (hs _ (n_1 _ (by simp)))) (fun j hj => va_eqt (hs _ (n_se j hj))) hA
  obtain ⟨g0, e0, T0⟩ := va_Tof (tm := .static "java/util/ArrayList" "DEFAULTCAPACITY_EMPTY_ELEMENTDATA" "[Ljava/lang/Object;") (ty := .object "java/lang/Object") (N := 0) (f := fun j => va_rf ((fun _ => none) j)) (A := fun q : Nat => s.heap.size ≤ q) (by decide) (hs _ (n_1 _ (by simp))) (va_eqt (hs _ (n_1 _ (by simp)))) (fun j hj => absurd hj (Nat.not_lt_zero j)) hA
  obtain ⟨mi, hmi⟩ := va_Mi.of (s := s) (args := args) (C := "[Ljava/lang/Object;") (hs _ (n_1 _ (by simp)))
  obtain ⟨g4, g5, hfm⟩ : ∃ g4 g5 : Nat, va_Z "jdk/internal/util/Preconditions" "SIOOBE_FORMATTER" "Ljava/util/function/BiFunction;" (va_rf (if g5 = 0 then none else some g4)) (fun q => s.heap.size ≤ q) s s.heap := by
    rcases va_Zqof (C := "jdk/internal/util/Preconditions") (n := "SIOOBE_FORMATTER") (d := "Ljava/util/function/BiFunction;") (hts _ (by decide +kernel)) (hts _ (by decide +kernel)) (hs _ (n_1 _ (by simp))) hA with h | ⟨t, h⟩
    · exact ⟨0, 0, h⟩
    · exact ⟨t, 1, h⟩
  obtain ⟨g, hg⟩ : ∃ g : Nat → Nat, g = fun i => if i = 0 then g0 else if i = 1 then g1 else if i = 2 then g2 else if i = 3 then mi else if i = 4 then g4 else if i = 5 then g5 else (ad (i - 10)).1 := ⟨_, rfl⟩
  have q0 : g 0 = g0 := by rw [hg]; rfl
  have q1 : g 1 = g1 := by rw [hg]; rfl
  have q2 : g 2 = g2 := by rw [hg]; rfl
  have q3 : g 3 = mi := by rw [hg]; rfl
  have q4 : g 4 = g4 := by rw [hg]; rfl
  have q5 : g 5 = g5 := by rw [hg]; rfl
  have q10 : g 10 = (ad 0).1 := by rw [hg]; rfl
  have q11 : g 11 = (ad 1).1 := by rw [hg]; rfl
  have q12 : g 12 = (ad 2).1 := by rw [hg]; rfl
  refine ⟨S, g, fa, fun i => (ad (wpL.getD i 0)).1, fun i => (ad (kpL.getD i 0)).1, ⟨?_, ?_, ?_, ⟨_, by rw [q1]; exact (hR _ _).mpr (pA_ref (t := 101) (f := fun j => some (fa j)) (Or.inl rfl) (by decide) T1), fun i hi => if_pos hi⟩, fun i hi => ⟨(hfa i hi).2, ?_, ?_⟩, ⟨_, by rw [q2]; exact (hR _ _).mpr (pA_int (t := 102) (f := fun j => nI (j + 1)) (Or.inr rfl) (by decide) T2), fun i hi => if_pos hi⟩, ⟨_, by rw [q0]; exact (hR _ _).mpr (pA_ref (t := 103) (f := fun _ => none) (Or.inr rfl) (by decide) T0)⟩⟩, zS_at hO hR ?_ ?_ ?_ ?_ ?_ ?_, ?_⟩
  · rw [q10]; exact (had 0 (by decide)).2
  · rw [q11]; exact (had 1 (by decide)).2
  · rw [q12]; exact (had 2 (by decide)).2
  · have := (had _ (wp_ok i hi).1).2
    rw [(wp_ok i hi).2] at this
    exact this
  · have := (had _ (kp_ok i hi).1).2
    rw [(kp_ok i hi).2] at this
    exact this
  · intro i hi
    rcases (show i = 0 ∨ i = 1 ∨ i = 2 by omega) with rfl | rfl | rfl
    · rw [q0]; exact va_Zof (hts _ (by decide +kernel)) (hts _ (by decide +kernel)) e0 hA
    · rw [q1]; exact va_Zof (hts _ (by decide +kernel)) (hts _ (by decide +kernel)) e1 hA
    · rw [q2]; exact va_Zof (hts _ (by decide +kernel)) (hts _ (by decide +kernel)) e2 hA
  · exact va_Zof (hts _ (by decide +kernel)) (hts _ (by decide +kernel)) (va_eqt (hs _ (n_1 _ (by simp)))) hA
  · unfold gq
    rw [q4, q5]
    exact hfm
  · intro i h9 hi
    rcases (show i = 10 ∨ i = 11 ∨ i = 12 by omega) with rfl | rfl | rfl
    · rw [q10]; exact vk_R.of (hts _ (by decide +kernel)) (had 0 (by decide)).1
    · rw [q11]; exact vk_R.of (hts _ (by decide +kernel)) (had 1 (by decide)).1
    · rw [q12]; exact vk_R.of (hts _ (by decide +kernel)) (had 2 (by decide)).1
  · rw [q3]; exact hmi
  · exact va_Dc.of (hts _ (by decide +kernel))
  · rw [q0]
    obtain ⟨cell, h1, -⟩ := T0
    exact (Array.getElem?_eq_some_iff.mp h1).1
set_option maxHeartbeats 4000000 in
set_option maxRecDepth 100000 in
/-- THE LAW, from its entry -/
theorem whole_start {p : Program} {e : Env} {s : State} {m : MethodId} {below : List Frame} {meth : Method} {c : Code} (l : Launch) {b L : Nat} {xs : Nat → Int32} (hL : L ≤ 2560) (C0 : lw_At p s m meth c b L xs) : W p l e room_1 s m #[Value.ref b] below meth c s.heap [] 0 0 (lw_Z below #[Value.ref b] s) (entryFrame m ([Value.ref b] : List Value).toArray 4) := by
  obtain ⟨hx, hb, hr, hml, hown, hts, hXa, hbl, hlocks, hgv⟩ := id C0
  have hs : ∀ w ∈ nC, w.before #[Value.ref b] s = true := flat_of_before _ hgv
  have htg : ∀ w ∈ lw_g, w.before #[Value.ref b] s = true := fun w h => hts w (List.mem_filter.mp h).1
  obtain ⟨S, g, fa, wa, ka, hcon, hzS, hg0⟩ := con_start hs hts
  obtain ⟨c0, i0, k0⟩ := u_known (C := R_Row) (T := T_Row) (N := 3) (n := 3) htg in_Row (hts (.instantiable R_Row 3) (by decide +kernel))
  obtain ⟨c1, i1, k1⟩ := u_known (C := R_Frame) (T := T_Frame) (N := 7) (n := 7) htg in_Frame (hts (.instantiable R_Frame 7) (by decide +kernel))
  obtain ⟨c2, i2, k2⟩ := u_known (C := R_Mach) (T := T_Mach) (N := 13) (n := 13) htg in_Mach (hts (.instantiable R_Mach 13) (by decide +kernel))
  obtain ⟨c3, i3, k3⟩ := u_known (C := R_Script) (T := T_Script) (N := 3) (n := 3) htg in_Script (hts (.instantiable R_Script 3) (by decide +kernel))
  obtain ⟨c4, i4, k4⟩ := u_known (C := R_Stat) (T := T_Stat) (N := 7) (n := 7) htg in_Stat (hts (.instantiable R_Stat 7) (by decide +kernel))
  obtain ⟨c5, i5, k5⟩ := u_known (C := R_Tape) (T := T_Tape) (N := 9) (n := 9) htg in_Tape (hts (.instantiable R_Tape 9) (by decide +kernel))
  obtain ⟨c6, i6, k6⟩ := u_known (C := R_S) (T := T_S) (N := 2) (n := 2) htg in_S (hts (.instantiable R_S 2) (by decide +kernel))
  obtain ⟨c7, i7, k7⟩ := u_known (C := R_M) (T := T_M) (N := 33) (n := 33) htg in_M (hts (.instantiable R_M 33) (by decide +kernel))
  obtain ⟨c8, i8, k8⟩ := u_known (C := R_AL) (T := T_AL) (N := 3) (n := 3) htg in_AL (hts (.instantiable R_AL 3) (by decide +kernel))
  obtain ⟨D, hD⟩ : ∃ D : va_G, ∀ (k : Nat) (q : vw_C), hCl[k]? = some q → u_Kn s q.1 q.2.1 q.2.2 (D.1 k) (D.2 k) := by
    refine ⟨(fun k => if k = 0 then c0 else if k = 1 then c1 else if k = 2 then c2 else if k = 3 then c3 else if k = 4 then c4 else if k = 5 then c5 else if k = 6 then c6 else if k = 7 then c7 else c8, fun k => if k = 0 then i0 else if k = 1 then i1 else if k = 2 then i2 else if k = 3 then i3 else if k = 4 then i4 else if k = 5 then i5 else if k = 6 then i6 else if k = 7 then i7 else i8), ?_⟩
    intro k q hq
    match k, hq with
    | 0, hq => cases hq; exact k0
    | 1, hq => cases hq; exact k1
    | 2, hq => cases hq; exact k2
    | 3, hq => cases hq; exact k3
    | 4, hq => cases hq; exact k4
    | 5, hq => cases hq; exact k5
    | 6, hq => cases hq; exact k6
    | 7, hq => cases hq; exact k7
    | 8, hq => cases hq; exact k8
    | k + 9, hq => simp [hCl] at hq
  obtain ⟨a0, x0, y0, w0, u0, v0⟩ := Cond.arrayClass_spec (hts (.arrayClass .int) (by decide +kernel))
  obtain ⟨a1, x1, y1, w1, u1, v1⟩ := Cond.arrayClass_spec (hts (.arrayClass .boolean) (by decide +kernel))
  obtain ⟨a2, x2, y2, w2, u2', v2⟩ := Cond.arrayClass_spec (hts (.arrayClass .long) (by decide +kernel))
  obtain ⟨a3, r3⟩ := ar_O (hts (.arrayOver (.object "StepPrograms$Row")) (by decide +kernel))
  obtain ⟨a4, r4⟩ := ar_O (hts (.arrayOver (.object "StepPrograms$Frame")) (by decide +kernel))
  obtain ⟨a5, r5⟩ := ar_O (hts (.arrayOver (.object "StepPrograms$Script")) (by decide +kernel))
  obtain ⟨a6, r6⟩ := ar_O (hts (.arrayOver (.object "java/lang/Object")) (by decide +kernel))
  obtain ⟨kA, hkA⟩ : ∃ kA : Nat → ClassId, ∀ (k : Nat) (q : ClassId × FieldType), (hTys kA)[k]? = some q → ArrOfT s q.1 q.2 ∧ va_RA s q.1 q.2 := by
    refine ⟨fun k => if k = 0 then a0 else if k = 1 then a1 else if k = 2 then a2 else if k = 3 then a3 else if k = 4 then a4 else if k = 5 then a5 else a6, ?_⟩
    intro k q hq
    match k, hq with
    | 0, hq => cases hq; exact ⟨fun n z => ⟨(fun k h => by cases h), x0, u0, y0, v0⟩, w0⟩
    | 1, hq => cases hq; exact ⟨fun n z => ⟨(fun k h => by cases h), x1, u1, y1, v1⟩, w1⟩
    | 2, hq => cases hq; exact ⟨fun n z => ⟨(fun k h => by cases h), x2, u2', y2, v2⟩, w2⟩
    | 3, hq => cases hq; exact r3
    | 4, hq => cases hq; exact r4
    | 5, hq => cases hq; exact r5
    | 6, hq => cases hq; exact r6
    | k + 7, hq => simp [hTys] at hq
  have hz : zZ S g s.heap.size s := ⟨va_AO.of (hts (.arrayOver (.object "StepPrograms$Script")) (by decide +kernel)), va_AO.of (hts (.arrayOver (.object "StepPrograms$Row")) (by decide +kernel)), va_AO.of (hts (.arrayOver (.object "StepPrograms$Frame")) (by decide +kernel)), va_AO.of (hts (.arrayOver (.object "java/lang/Object")) (by decide +kernel)), va_Nw.of rfl (hts nestW (by decide +kernel)), va_Nw.of rfl (hts castA (by decide +kernel)), va_Nw.of rfl (hts castB (by decide +kernel)), hzS⟩
  have hCc : hX p s m #[Value.ref b] c code 4 R_law lw_ts D kA S g s.heap.size := ⟨hx, hb, hml, hown, fun w hw => (List.mem_cons.mp hw).elim (fun e => by rw [e]; exact hts (.initialized "StepPrograms") (by decide +kernel)) (fun h => htg w h), ⟨hD, hkA⟩, Nat.le_refl _, hz, zZ_k⟩
  have hMm : hY D kA s.heap.size s (fun _ => none) s.heap.size s.heap [] := ⟨fun a e h => (by cases h), va_S.rf, rfl⟩
  obtain ⟨bq, hbq⟩ := law_ok (N := 5000) (x := s.heap.size) (b := b) (xs := xs) (by decide) hcon hg0 hL
  have hl := lv_entry ([.ref b]) (n := 4) (Nat.le_of_ble_eq_true rfl)
  rw [lg_entry_eq]
  generalize (lg_sl ([.ref b]) ++ List.replicate (4 - (lg_sl ([.ref b])).length) Slot.unset).toArray = ls at hl ⊢
  have hl : lv_has ls 4 [(0, va_rf (some b))] := hl
  exact law_start hCc hr hlocks ⟨rfl, hXa, hbl⟩ (fun h => c_fol4 h) hMm hl hbq

