/-! names, by wip/whole/gen.py -/
def lw_g : List Cond := lw_tbl.filter goodWord
def R_S : String := "StepPrograms"
def R_Frame : String := "StepPrograms$Frame"
def R_Mach : String := "StepPrograms$Machine"
def R_Row : String := "StepPrograms$Row"
def R_Script : String := "StepPrograms$Script"
def R_Stat : String := "StepPrograms$Statement"
def R_Tape : String := "StepPrograms$Tape"
def R_M : String := "StepProgramsModel"
def R_Char : String := "java/lang/Character"
def R_Math : String := "java/lang/Math"
def R_Obj : String := "java/lang/Object"
def R_Str : String := "java/lang/String"
def R_SL1 : String := "java/lang/StringLatin1"
def R_U16 : String := "java/lang/StringUTF16"
def R_ABC : String := "java/util/AbstractCollection"
def R_ABL : String := "java/util/AbstractList"
def R_AL : String := "java/util/ArrayList"
def R_Arrs : String := "java/util/Arrays"
def R_Objs : String := "java/util/Objects"
def R_AS : String := "jdk/internal/util/ArraysSupport"
def R_Pre : String := "jdk/internal/util/Preconditions"
def T_Row : u_T := fun k => match k with
  | 0 => ("StepPrograms$Row", "bytes", "[I", true)
  | 1 => ("StepPrograms$Row", "count", "I", false)
  | _ => ("StepPrograms$Row", "there", "Z", false)
def ty_Row : Nat → FieldType := fun k => match k with
  | 0 => (.array .int)
  | 1 => .int
  | _ => .boolean
theorem nm_Row : ∀ a, a < 3 → ∀ b, b < 3 → a ≠ b → (T_Row a).2.1 ≠ (T_Row b).2.1 := by decide +kernel
theorem tyok_Row : ∀ k, k < 3 → parseFieldDescriptor (T_Row k).2.2.1 = some (ty_Row k) := by decide +kernel
theorem in_Row : ∀ w ∈ u_ws R_Row T_Row 3, w ∈ lw_g := by decide +kernel
def T_Frame : u_T := fun k => match k with
  | 0 => ("StepPrograms$Frame", "depth", "I", true)
  | 1 => ("StepPrograms$Frame", "registers", "[I", true)
  | 2 => ("StepPrograms$Frame", "cells", "[I", true)
  | 3 => ("StepPrograms$Frame", "calls", "[I", true)
  | 4 => ("StepPrograms$Frame", "open", "I", false)
  | 5 => ("StepPrograms$Frame", "next", "I", false)
  | _ => ("StepPrograms$Frame", "line", "I", false)
def ty_Frame : Nat → FieldType := fun k => match k with
  | 0 => .int
  | 1 => (.array .int)
  | 2 => (.array .int)
  | 3 => (.array .int)
  | 4 => .int
  | 5 => .int
  | _ => .int
theorem nm_Frame : ∀ a, a < 7 → ∀ b, b < 7 → a ≠ b → (T_Frame a).2.1 ≠ (T_Frame b).2.1 := by decide +kernel
theorem tyok_Frame : ∀ k, k < 7 → parseFieldDescriptor (T_Frame k).2.2.1 = some (ty_Frame k) := by decide +kernel
theorem in_Frame : ∀ w ∈ u_ws R_Frame T_Frame 7, w ∈ lw_g := by decide +kernel
def T_Mach : u_T := fun k => match k with
  | 0 => ("StepPrograms$Machine", "scripts", "[LStepPrograms$Script;", true)
  | 1 => ("StepPrograms$Machine", "planted", "[Z", true)
  | 2 => ("StepPrograms$Machine", "out", "LStepPrograms$Row;", true)
  | 3 => ("StepPrograms$Machine", "err", "LStepPrograms$Row;", true)
  | 4 => ("StepPrograms$Machine", "first", "LStepPrograms$Frame;", true)
  | 5 => ("StepPrograms$Machine", "files", "[LStepPrograms$Row;", true)
  | 6 => ("StepPrograms$Machine", "children", "[LStepPrograms$Frame;", true)
  | 7 => ("StepPrograms$Machine", "hasRun", "Z", false)
  | 8 => ("StepPrograms$Machine", "steps", "I", false)
  | 9 => ("StepPrograms$Machine", "deepest", "I", false)
  | 10 => ("StepPrograms$Machine", "begun", "I", false)
  | 11 => ("StepPrograms$Machine", "bound", "I", false)
  | _ => ("StepPrograms$Machine", "beyondBound", "Z", false)
def ty_Mach : Nat → FieldType := fun k => match k with
  | 0 => (.array (.object "StepPrograms$Script"))
  | 1 => (.array .boolean)
  | 2 => (.object "StepPrograms$Row")
  | 3 => (.object "StepPrograms$Row")
  | 4 => (.object "StepPrograms$Frame")
  | 5 => (.array (.object "StepPrograms$Row"))
  | 6 => (.array (.object "StepPrograms$Frame"))
  | 7 => .boolean
  | 8 => .int
  | 9 => .int
  | 10 => .int
  | 11 => .int
  | _ => .boolean
theorem nm_Mach : ∀ a, a < 13 → ∀ b, b < 13 → a ≠ b → (T_Mach a).2.1 ≠ (T_Mach b).2.1 := by decide +kernel
theorem tyok_Mach : ∀ k, k < 13 → parseFieldDescriptor (T_Mach k).2.2.1 = some (ty_Mach k) := by decide +kernel
theorem in_Mach : ∀ w ∈ u_ws R_Mach T_Mach 13, w ∈ lw_g := by decide +kernel
def T_Script : u_T := fun k => match k with
  | 0 => ("StepPrograms$Script", "statements", "Ljava/util/ArrayList;", true)
  | 1 => ("StepPrograms$Script", "places", "[I", true)
  | _ => ("StepPrograms$Script", "lines", "I", false)
def ty_Script : Nat → FieldType := fun k => match k with
  | 0 => (.object "java/util/ArrayList")
  | 1 => (.array .int)
  | _ => .int
theorem nm_Script : ∀ a, a < 3 → ∀ b, b < 3 → a ≠ b → (T_Script a).2.1 ≠ (T_Script b).2.1 := by decide +kernel
theorem tyok_Script : ∀ k, k < 3 → parseFieldDescriptor (T_Script k).2.2.1 = some (ty_Script k) := by decide +kernel
theorem in_Script : ∀ w ∈ u_ws R_Script T_Script 3, w ∈ lw_g := by decide +kernel
def T_Stat : u_T := fun k => match k with
  | 0 => ("StepPrograms$Statement", "line", "I", true)
  | 1 => ("StepPrograms$Statement", "form", "LStepPrograms$Form;", true)
  | 2 => ("StepPrograms$Statement", "into", "I", true)
  | 3 => ("StepPrograms$Statement", "left", "I", true)
  | 4 => ("StepPrograms$Statement", "sign", "I", true)
  | 5 => ("StepPrograms$Statement", "right", "I", true)
  | _ => ("StepPrograms$Statement", "label", "I", true)
def ty_Stat : Nat → FieldType := fun k => match k with
  | 0 => .int
  | 1 => (.object "StepPrograms$Form")
  | 2 => .int
  | 3 => .int
  | 4 => .int
  | 5 => .int
  | _ => .int
theorem nm_Stat : ∀ a, a < 7 → ∀ b, b < 7 → a ≠ b → (T_Stat a).2.1 ≠ (T_Stat b).2.1 := by decide +kernel
theorem tyok_Stat : ∀ k, k < 7 → parseFieldDescriptor (T_Stat k).2.2.1 = some (ty_Stat k) := by decide +kernel
theorem in_Stat : ∀ w ∈ u_ws R_Stat T_Stat 7, w ∈ lw_g := by decide +kernel
def T_Tape : u_T := fun k => match k with
  | 0 => ("StepPrograms$Tape", "row", "LStepPrograms$Row;", true)
  | 1 => ("StepPrograms$Tape", "from", "[I", true)
  | 2 => ("StepPrograms$Tape", "to", "[I", true)
  | 3 => ("StepPrograms$Tape", "words", "I", false)
  | 4 => ("StepPrograms$Tape", "into", "I", false)
  | 5 => ("StepPrograms$Tape", "left", "I", false)
  | 6 => ("StepPrograms$Tape", "sign", "I", false)
  | 7 => ("StepPrograms$Tape", "right", "I", false)
  | _ => ("StepPrograms$Tape", "label", "I", false)
def ty_Tape : Nat → FieldType := fun k => match k with
  | 0 => (.object "StepPrograms$Row")
  | 1 => (.array .int)
  | 2 => (.array .int)
  | 3 => .int
  | 4 => .int
  | 5 => .int
  | 6 => .int
  | 7 => .int
  | _ => .int
theorem nm_Tape : ∀ a, a < 9 → ∀ b, b < 9 → a ≠ b → (T_Tape a).2.1 ≠ (T_Tape b).2.1 := by decide +kernel
theorem tyok_Tape : ∀ k, k < 9 → parseFieldDescriptor (T_Tape k).2.2.1 = some (ty_Tape k) := by decide +kernel
theorem in_Tape : ∀ w ∈ u_ws R_Tape T_Tape 9, w ∈ lw_g := by decide +kernel
def T_S : u_T := fun k => match k with
  | 0 => ("StepPrograms", "tape", "LStepPrograms$Tape;", true)
  | _ => ("StepPrograms", "machine", "LStepPrograms$Machine;", true)
def ty_S : Nat → FieldType := fun k => match k with
  | 0 => (.object "StepPrograms$Tape")
  | _ => (.object "StepPrograms$Machine")
theorem nm_S : ∀ a, a < 2 → ∀ b, b < 2 → a ≠ b → (T_S a).2.1 ≠ (T_S b).2.1 := by decide +kernel
theorem tyok_S : ∀ k, k < 2 → parseFieldDescriptor (T_S k).2.2.1 = some (ty_S k) := by decide +kernel
theorem in_S : ∀ w ∈ u_ws R_S T_S 2, w ∈ lw_g := by decide +kernel
def T_M : u_T := fun k => match k with
  | 0 => ("StepProgramsModel", "taped", "I", false)
  | 1 => ("StepProgramsModel", "tape", "[I", true)
  | 2 => ("StepProgramsModel", "text", "[I", true)
  | 3 => ("StepProgramsModel", "lineFrom", "[I", true)
  | 4 => ("StepProgramsModel", "lineTo", "[I", true)
  | 5 => ("StepProgramsModel", "lines", "[I", true)
  | 6 => ("StepProgramsModel", "isThere", "[Z", true)
  | 7 => ("StepProgramsModel", "labelAt", "[I", true)
  | 8 => ("StepProgramsModel", "words", "I", false)
  | 9 => ("StepProgramsModel", "word", "[J", true)
  | 10 => ("StepProgramsModel", "wordFrom", "[I", true)
  | 11 => ("StepProgramsModel", "wordTo", "[I", true)
  | 12 => ("StepProgramsModel", "isFileThere", "[Z", true)
  | 13 => ("StepProgramsModel", "fileSize", "[I", true)
  | 14 => ("StepProgramsModel", "bytes", "[I", true)
  | 15 => ("StepProgramsModel", "planted", "[Z", true)
  | 16 => ("StepProgramsModel", "ran", "Z", false)
  | 17 => ("StepProgramsModel", "steps", "I", false)
  | 18 => ("StepProgramsModel", "begun", "I", false)
  | 19 => ("StepProgramsModel", "deepest", "I", false)
  | 20 => ("StepProgramsModel", "endedAt", "I", false)
  | 21 => ("StepProgramsModel", "outs", "I", false)
  | 22 => ("StepProgramsModel", "errs", "I", false)
  | 23 => ("StepProgramsModel", "out", "[I", true)
  | 24 => ("StepProgramsModel", "err", "[I", true)
  | 25 => ("StepProgramsModel", "depth", "I", false)
  | 26 => ("StepProgramsModel", "program", "[I", true)
  | 27 => ("StepProgramsModel", "line", "[I", true)
  | 28 => ("StepProgramsModel", "takes", "[I", true)
  | 29 => ("StepProgramsModel", "registers", "[I", true)
  | 30 => ("StepProgramsModel", "cells", "[I", true)
  | 31 => ("StepProgramsModel", "calls", "[I", true)
  | _ => ("StepProgramsModel", "backTo", "[I", true)
def ty_M : Nat → FieldType := fun k => match k with
  | 0 => .int
  | 1 => (.array .int)
  | 2 => (.array .int)
  | 3 => (.array .int)
  | 4 => (.array .int)
  | 5 => (.array .int)
  | 6 => (.array .boolean)
  | 7 => (.array .int)
  | 8 => .int
  | 9 => (.array .long)
  | 10 => (.array .int)
  | 11 => (.array .int)
  | 12 => (.array .boolean)
  | 13 => (.array .int)
  | 14 => (.array .int)
  | 15 => (.array .boolean)
  | 16 => .boolean
  | 17 => .int
  | 18 => .int
  | 19 => .int
  | 20 => .int
  | 21 => .int
  | 22 => .int
  | 23 => (.array .int)
  | 24 => (.array .int)
  | 25 => .int
  | 26 => (.array .int)
  | 27 => (.array .int)
  | 28 => (.array .int)
  | 29 => (.array .int)
  | 30 => (.array .int)
  | 31 => (.array .int)
  | _ => (.array .int)
theorem nm_M : ∀ a, a < 33 → ∀ b, b < 33 → a ≠ b → (T_M a).2.1 ≠ (T_M b).2.1 := by decide +kernel
theorem tyok_M : ∀ k, k < 33 → parseFieldDescriptor (T_M k).2.2.1 = some (ty_M k) := by decide +kernel
theorem in_M : ∀ w ∈ u_ws R_M T_M 33, w ∈ lw_g := by decide +kernel
def T_AL : u_T := fun k => match k with
  | 0 => ("java/util/ArrayList", "elementData", "[Ljava/lang/Object;", false)
  | 1 => ("java/util/ArrayList", "size", "I", false)
  | _ => ("java/util/AbstractList", "modCount", "I", false)
def ty_AL : Nat → FieldType := fun k => match k with
  | 0 => (.array (.object "java/lang/Object"))
  | 1 => .int
  | _ => .int
theorem nm_AL : ∀ a, a < 3 → ∀ b, b < 3 → a ≠ b → (T_AL a).2.1 ≠ (T_AL b).2.1 := by decide +kernel
theorem tyok_AL : ∀ k, k < 3 → parseFieldDescriptor (T_AL k).2.2.1 = some (ty_AL k) := by decide +kernel
theorem in_AL : ∀ w ∈ u_ws R_AL T_AL 3, w ∈ lw_g := by decide +kernel
abbrev hCl : List vw_C := [(R_Row, T_Row, 3), (R_Frame, T_Frame, 7), (R_Mach, T_Mach, 13), (R_Script, T_Script, 3), (R_Stat, T_Stat, 7), (R_Tape, T_Tape, 9), (R_S, T_S, 2), (R_M, T_M, 33), (R_AL, T_AL, 3)]
abbrev hTys (kA : Nat → ClassId) : List (ClassId × FieldType) := [(kA 0, .int), (kA 1, .boolean), (kA 2, .long), (kA 3, .object "StepPrograms$Row"), (kA 4, .object "StepPrograms$Frame"), (kA 5, .object "StepPrograms$Script"), (kA 6, .object "java/lang/Object")]
theorem hm_in {A : List Cond} {w0 : Cond} (h : ∀ w ∈ A, w ∈ lw_g) : ∀ w ∈ A, w ∈ w0 :: lw_g := fun w hw => List.mem_cons_of_mem _ (h w hw)
theorem hg1 {w0 w : Cond} (h : w ∈ lw_g) : w ∈ w0 :: lw_g ∧ ((w.onTables && w.keeps) = true ∨ ∃ ty, w = .arrayClass ty) := ⟨List.mem_cons_of_mem _ h, good_of_word (List.mem_filter.mp h).2⟩
theorem hgC {w0 : Cond} {y : MethodName} {cc : ByteArray} {n : Nat} {r : Option FieldType} (h : Cond.code y cc n r ∈ lw_g) : GoodIn (w0 :: lw_g) (.code y cc n r :: lw_g) := fun w hw => (List.mem_cons.mp hw).elim (fun e => by rw [e]; exact hg1 h) (fun h => hg1 h)
theorem hgL {w0 : Cond} {A B : List Cond} (ha : ∀ w ∈ A, w ∈ lw_g) (hb : GoodIn (w0 :: lw_g) B) : GoodIn (w0 :: lw_g) (A ++ B) := fun w hw => (List.mem_append.mp hw).elim (fun h => hg1 (ha w h)) (fun h => hb w h)
theorem hgV {w0 : Cond} {y : MethodName} {own C : String} {i : Nat} {cc : ByteArray} {n : Nat} {r : Option FieldType} (h1 : Cond.methodLink own i y ∈ lw_g) (h2 : Cond.instanceMethod y ∈ lw_g) (h3 : Cond.selects C y y ∈ lw_g) (h4 : Cond.initialized C ∈ lw_g) (h : Cond.code y cc n r ∈ lw_g) : GoodIn (w0 :: lw_g) (wsV own i C y (.code y cc n r :: lw_g)) :=
  hgL (fun w hw => by simp at hw; rcases hw with rfl | rfl | rfl | rfl <;> assumption) (hgC h)
theorem hgS {w0 : Cond} {y : MethodName} {own : String} {i : Nat} {cc : ByteArray} {n : Nat} {r : Option FieldType} (h1 : Cond.methodLink own i y ∈ lw_g) (h2 : Cond.static y ∈ lw_g) (h4 : Cond.initialized own ∈ lw_g) (h : Cond.code y cc n r ∈ lw_g) : GoodIn (w0 :: lw_g) (wsS own i y (.code y cc n r :: lw_g)) :=
  hgL (fun w hw => by simp at hw; rcases hw with rfl | rfl | rfl <;> assumption) (hgC h)
theorem hgT {w0 : Cond} {y : MethodName} {own : String} {i : Nat} {cc : ByteArray} {n : Nat} {r : Option FieldType} (h1 : Cond.methodLink own i y ∈ lw_g) (h2 : Cond.static y ∈ lw_g) (h4 : Cond.initialized y.cls ∈ lw_g) (h : Cond.code y cc n r ∈ lw_g) : GoodIn (w0 :: lw_g) (va_wsS own i y (.code y cc n r :: lw_g)) :=
  hgL (fun w hw => by simp at hw; rcases hw with rfl | rfl | rfl <;> assumption) (hgC h)
theorem wt {w : Cond} (h : w ∈ tables_1) (hg : goodWord w = true) : w ∈ lw_g := List.mem_filter.mpr ⟨List.mem_append_right _ h, hg⟩
theorem ws_sel {w : Cond} (h : w ∈ k2_sels lw_privs) (hg : goodWord w = true) : w ∈ lw_g := List.mem_filter.mpr ⟨List.mem_append_left _ h, hg⟩
/-! what holds of the constants that were there before: nothing yet -/
def zZ (S : hE) (g : Nat → Nat) (n0 : Nat) (U : State) : Prop := True
theorem zZ_k {S : hE} {g : Nat → Nat} {n0 : Nat} : hZk n0 (zZ S g n0) := fun _ _ _ _ h => h
abbrev hX (p : Program) (s : State) (m : MethodId) (args : Array Value) (c : Code) (cc : ByteArray) (nL : Nat) (own : String) (Ts : List Cond) (D : va_G) (kA : Nat → ClassId) (S : hE) (g : Nat → Nat) (n0 : Nat) : Prop := hC p s m args c cc nL own Ts D hCl (hTys kA) n0 (zZ S g n0)
abbrev hY (D : va_G) (kA : Nat → ClassId) (n0 : Nat) (s : State) (E : hE) (nx : Nat) (H : Heap) (locs : List Loc) : Prop := hM D hCl kA n0 s E nx H locs
abbrev hJ (D : va_G) (kA : Nat → ClassId) (S : hE) (g : Nat → Nat) (n0 : Nat) : hE × Nat → State → Prop := hI D hCl kA (hTys kA) n0 (zZ S g n0)
def y_Row_init : MethodName := ⟨R_Row, "<init>", "(I)V"⟩
abbrev ws_Row_init : List Cond := .code y_Row_init prog_6_method_1_code 2 none :: lw_g
def y_Row_hasRoomFor : MethodName := ⟨R_Row, "hasRoomFor", "(I)Z"⟩
abbrev ws_Row_hasRoomFor : List Cond := .code y_Row_hasRoomFor prog_6_method_2_code 2 (some .boolean) :: lw_g
def y_Row_add : MethodName := ⟨R_Row, "add", "(I)V"⟩
abbrev ws_Row_add : List Cond := .code y_Row_add prog_6_method_3_code 2 none :: lw_g
def y_Row_makeEmpty : MethodName := ⟨R_Row, "makeEmpty", "()V"⟩
abbrev ws_Row_makeEmpty : List Cond := .code y_Row_makeEmpty prog_6_method_4_code 1 none :: lw_g
def y_Row_remove : MethodName := ⟨R_Row, "remove", "()V"⟩
abbrev ws_Row_remove : List Cond := .code y_Row_remove prog_6_method_5_code 1 none :: lw_g
def y_Row_at : MethodName := ⟨R_Row, "at", "(I)I"⟩
abbrev ws_Row_at : List Cond := .code y_Row_at prog_6_method_7_code 2 (some .int) :: lw_g
def y_Row_countIfThere : MethodName := ⟨R_Row, "countIfThere", "()I"⟩
abbrev ws_Row_countIfThere : List Cond := .code y_Row_countIfThere prog_6_method_8_code 1 (some .int) :: lw_g
def y_Arrs_fill : MethodName := ⟨R_Arrs, "fill", "([II)V"⟩
abbrev ws_Arrs_fill : List Cond := .code y_Arrs_fill prog_25_method_103_code 4 none :: lw_g
theorem wm_29 : (Cond.instanceMethod ({ cls := "java/lang/Object", name := "<init>", desc := "()V" } : MethodName)) ∈ lw_g := wt (List.mem_of_getElem? (i := 29) (by decide +kernel)) rfl
theorem wm_30 : (Cond.code ({ cls := "java/lang/Object", name := "<init>", desc := "()V" } : MethodName) object_method_1_code (1 : Nat) (Option.none : Option FieldType)) ∈ lw_g := wt (List.mem_of_getElem? (i := 30) rfl) rfl
theorem wm_42 : (Cond.methodLink "StepPrograms$Row" (3 : Nat) ({ cls := "java/lang/Object", name := "<init>", desc := "()V" } : MethodName)) ∈ lw_g := wt (List.mem_of_getElem? (i := 42) (by decide +kernel)) rfl
theorem wm_43 : (Cond.fieldLink "StepPrograms$Row" (9 : Nat) "StepPrograms$Row" "bytes" "[I") ∈ lw_g := wt (List.mem_of_getElem? (i := 43) (by decide +kernel)) rfl
theorem wm_45 : (Cond.fieldLink "StepPrograms$Row" (15 : Nat) "StepPrograms$Row" "count" "I") ∈ lw_g := wt (List.mem_of_getElem? (i := 45) (by decide +kernel)) rfl
theorem wm_48 : (Cond.fieldLink "StepPrograms$Row" (19 : Nat) "StepPrograms$Row" "there" "Z") ∈ lw_g := wt (List.mem_of_getElem? (i := 48) (by decide +kernel)) rfl
theorem wm_57 : (Cond.arrayClass FieldType.int) ∈ lw_g := wt (List.mem_of_getElem? (i := 57) (by decide +kernel)) rfl
