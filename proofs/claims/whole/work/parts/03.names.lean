/-! names, by wip/whole/gen.py -/
def lw_g : List Cond := lw_tbl.filter goodWord
def R_S : String := "StepPrograms"
def R_Frame : String := "StepPrograms$Frame"
def R_Mach : String := "StepPrograms$Machine"
def R_Row : String := "StepPrograms$Row"
def R_Script : String := "StepPrograms$Script"
def R_Stat : String := "StepPrograms$Statement"
def R_Tape : String := "StepPrograms$Tape"
def R_M : String := "StepProgramsModel"
def R_Char : String := "java/lang/Character"
def R_Math : String := "java/lang/Math"
def R_Obj : String := "java/lang/Object"
def R_Str : String := "java/lang/String"
def R_SL1 : String := "java/lang/StringLatin1"
def R_U16 : String := "java/lang/StringUTF16"
def R_ABC : String := "java/util/AbstractCollection"
def R_ABL : String := "java/util/AbstractList"
def R_AL : String := "java/util/ArrayList"
def R_Arrs : String := "java/util/Arrays"
def R_Objs : String := "java/util/Objects"
def R_AS : String := "jdk/internal/util/ArraysSupport"
def R_Pre : String := "jdk/internal/util/Preconditions"
def T_Row : u_T := fun k => match k with
  | 0 => ("StepPrograms$Row", "bytes", "[I", true)
  | 1 => ("StepPrograms$Row", "count", "I", false)
  | _ => ("StepPrograms$Row", "there", "Z", false)
def ty_Row : Nat → FieldType := fun k => match k with
  | 0 => (.array .int)
  | 1 => .int
  | _ => .boolean
theorem nm_Row : ∀ a, a < 3 → ∀ b, b < 3 → a ≠ b → (T_Row a).2.1 ≠ (T_Row b).2.1 := by decide +kernel
theorem tyok_Row : ∀ k, k < 3 → parseFieldDescriptor (T_Row k).2.2.1 = some (ty_Row k) := by decide +kernel
theorem in_Row : ∀ w ∈ u_ws R_Row T_Row 3, w ∈ lw_g := by decide +kernel
def T_Frame : u_T := fun k => match k with
  | 0 => ("StepPrograms$Frame", "depth", "I", true)
  | 1 => ("StepPrograms$Frame", "registers", "[I", true)
  | 2 => ("StepPrograms$Frame", "cells", "[I", true)
  | 3 => ("StepPrograms$Frame", "calls", "[I", true)
  | 4 => ("StepPrograms$Frame", "open", "I", false)
  | 5 => ("StepPrograms$Frame", "next", "I", false)
  | _ => ("StepPrograms$Frame", "line", "I", false)
def ty_Frame : Nat → FieldType := fun k => match k with
  | 0 => .int
  | 1 => (.array .int)
  | 2 => (.array .int)
  | 3 => (.array .int)
  | 4 => .int
  | 5 => .int
  | _ => .int
theorem nm_Frame : ∀ a, a < 7 → ∀ b, b < 7 → a ≠ b → (T_Frame a).2.1 ≠ (T_Frame b).2.1 := by decide +kernel
theorem tyok_Frame : ∀ k, k < 7 → parseFieldDescriptor (T_Frame k).2.2.1 = some (ty_Frame k) := by decide +kernel
theorem in_Frame : ∀ w ∈ u_ws R_Frame T_Frame 7, w ∈ lw_g := by decide +kernel
def T_Mach : u_T := fun k => match k with
  | 0 => ("StepPrograms$Machine", "scripts", "[LStepPrograms$Script;", true)
  | 1 => ("StepPrograms$Machine", "planted", "[Z", true)
  | 2 => ("StepPrograms$Machine", "out", "LStepPrograms$Row;", true)
  | 3 => ("StepPrograms$Machine", "err", "LStepPrograms$Row;", true)
  | 4 => ("StepPrograms$Machine", "first", "LStepPrograms$Frame;", true)
  | 5 => ("StepPrograms$Machine", "files", "[LStepPrograms$Row;", true)
  | 6 => ("StepPrograms$Machine", "children", "[LStepPrograms$Frame;", true)
  | 7 => ("StepPrograms$Machine", "hasRun", "Z", false)
  | 8 => ("StepPrograms$Machine", "steps", "I", false)
  | 9 => ("StepPrograms$Machine", "deepest", "I", false)
  | 10 => ("StepPrograms$Machine", "begun", "I", false)
  | 11 => ("StepPrograms$Machine", "bound", "I", false)
  | _ => ("StepPrograms$Machine", "beyondBound", "Z", false)
def ty_Mach : Nat → FieldType := fun k => match k with
  | 0 => (.array (.object "StepPrograms$Script"))
  | 1 => (.array .boolean)
  | 2 => (.object "StepPrograms$Row")
  | 3 => (.object "StepPrograms$Row")
  | 4 => (.object "StepPrograms$Frame")
  | 5 => (.array (.object "StepPrograms$Row"))
  | 6 => (.array (.object "StepPrograms$Frame"))
  | 7 => .boolean
  | 8 => .int
  | 9 => .int
  | 10 => .int
  | 11 => .int
  | _ => .boolean
theorem nm_Mach : ∀ a, a < 13 → ∀ b, b < 13 → a ≠ b → (T_Mach a).2.1 ≠ (T_Mach b).2.1 := by decide +kernel
theorem tyok_Mach : ∀ k, k < 13 → parseFieldDescriptor (T_Mach k).2.2.1 = some (ty_Mach k) := by decide +kernel
theorem in_Mach : ∀ w ∈ u_ws R_Mach T_Mach 13, w ∈ lw_g := by decide +kernel
def T_Script : u_T := fun k => match k with
  | 0 => ("StepPrograms$Script", "statements", "Ljava/util/ArrayList;", true)
  | 1 => ("StepPrograms$Script", "places", "[I", true)
  | _ => ("StepPrograms$Script", "lines", "I", false)
def ty_Script : Nat → FieldType := fun k => match k with
  | 0 => (.object "java/util/ArrayList")
  | 1 => (.array .int)
  | _ => .int
theorem nm_Script : ∀ a, a < 3 → ∀ b, b < 3 → a ≠ b → (T_Script a).2.1 ≠ (T_Script b).2.1 := by decide +kernel
theorem tyok_Script : ∀ k, k < 3 → parseFieldDescriptor (T_Script k).2.2.1 = some (ty_Script k) := by decide +kernel
theorem in_Script : ∀ w ∈ u_ws R_Script T_Script 3, w ∈ lw_g := by decide +kernel
def T_Stat : u_T := fun k => match k with
  | 0 => ("StepPrograms$Statement", "line", "I", true)
  | 1 => ("StepPrograms$Statement", "form", "LStepPrograms$Form;", true)
  | 2 => ("StepPrograms$Statement", "into", "I", true)
  | 3 => ("StepPrograms$Statement", "left", "I", true)
  | 4 => ("StepPrograms$Statement", "sign", "I", true)
  | 5 => ("StepPrograms$Statement", "right", "I", true)
  | _ => ("StepPrograms$Statement", "label", "I", true)
def ty_Stat : Nat → FieldType := fun k => match k with
  | 0 => .int
  | 1 => (.object "StepPrograms$Form")
  | 2 => .int
  | 3 => .int
  | 4 => .int
  | 5 => .int
  | _ => .int
theorem nm_Stat : ∀ a, a < 7 → ∀ b, b < 7 → a ≠ b → (T_Stat a).2.1 ≠ (T_Stat b).2.1 := by decide +kernel
theorem tyok_Stat : ∀ k, k < 7 → parseFieldDescriptor (T_Stat k).2.2.1 = some (ty_Stat k) := by decide +kernel
theorem in_Stat : ∀ w ∈ u_ws R_Stat T_Stat 7, w ∈ lw_g := by decide +kernel
def T_Tape : u_T := fun k => match k with
  | 0 => ("StepPrograms$Tape", "row", "LStepPrograms$Row;", true)
  | 1 => ("StepPrograms$Tape", "from", "[I", true)
  | 2 => ("StepPrograms$Tape", "to", "[I", true)
  | 3 => ("StepPrograms$Tape", "words", "I", false)
  | 4 => ("StepPrograms$Tape", "into", "I", false)
  | 5 => ("StepPrograms$Tape", "left", "I", false)
  | 6 => ("StepPrograms$Tape", "sign", "I", false)
  | 7 => ("StepPrograms$Tape", "right", "I", false)
  | _ => ("StepPrograms$Tape", "label", "I", false)
def ty_Tape : Nat → FieldType := fun k => match k with
  | 0 => (.object "StepPrograms$Row")
  | 1 => (.array .int)
  | 2 => (.array .int)
  | 3 => .int
  | 4 => .int
  | 5 => .int
  | 6 => .int
  | 7 => .int
  | _ => .int
theorem nm_Tape : ∀ a, a < 9 → ∀ b, b < 9 → a ≠ b → (T_Tape a).2.1 ≠ (T_Tape b).2.1 := by decide +kernel
theorem tyok_Tape : ∀ k, k < 9 → parseFieldDescriptor (T_Tape k).2.2.1 = some (ty_Tape k) := by decide +kernel
theorem in_Tape : ∀ w ∈ u_ws R_Tape T_Tape 9, w ∈ lw_g := by decide +kernel
def T_S : u_T := fun k => match k with
  | 0 => ("StepPrograms", "tape", "LStepPrograms$Tape;", true)
  | _ => ("StepPrograms", "machine", "LStepPrograms$Machine;", true)
def ty_S : Nat → FieldType := fun k => match k with
  | 0 => (.object "StepPrograms$Tape")
  | _ => (.object "StepPrograms$Machine")
theorem nm_S : ∀ a, a < 2 → ∀ b, b < 2 → a ≠ b → (T_S a).2.1 ≠ (T_S b).2.1 := by decide +kernel
theorem tyok_S : ∀ k, k < 2 → parseFieldDescriptor (T_S k).2.2.1 = some (ty_S k) := by decide +kernel
theorem in_S : ∀ w ∈ u_ws R_S T_S 2, w ∈ lw_g := by decide +kernel
def T_M : u_T := fun k => match k with
  | 0 => ("StepProgramsModel", "taped", "I", false)
  | 1 => ("StepProgramsModel", "tape", "[I", true)
  | 2 => ("StepProgramsModel", "text", "[I", true)
  | 3 => ("StepProgramsModel", "lineFrom", "[I", true)
  | 4 => ("StepProgramsModel", "lineTo", "[I", true)
  | 5 => ("StepProgramsModel", "lines", "[I", true)
  | 6 => ("StepProgramsModel", "isThere", "[Z", true)
  | 7 => ("StepProgramsModel", "labelAt", "[I", true)
  | 8 => ("StepProgramsModel", "words", "I", false)
  | 9 => ("StepProgramsModel", "word", "[J", true)
  | 10 => ("StepProgramsModel", "wordFrom", "[I", true)
  | 11 => ("StepProgramsModel", "wordTo", "[I", true)
  | 12 => ("StepProgramsModel", "isFileThere", "[Z", true)
  | 13 => ("StepProgramsModel", "fileSize", "[I", true)
  | 14 => ("StepProgramsModel", "bytes", "[I", true)
  | 15 => ("StepProgramsModel", "planted", "[Z", true)
  | 16 => ("StepProgramsModel", "ran", "Z", false)
  | 17 => ("StepProgramsModel", "steps", "I", false)
  | 18 => ("StepProgramsModel", "begun", "I", false)
  | 19 => ("StepProgramsModel", "deepest", "I", false)
  | 20 => ("StepProgramsModel", "endedAt", "I", false)
  | 21 => ("StepProgramsModel", "outs", "I", false)
  | 22 => ("StepProgramsModel", "errs", "I", false)
  | 23 => ("StepProgramsModel", "out", "[I", true)
  | 24 => ("StepProgramsModel", "err", "[I", true)
  | 25 => ("StepProgramsModel", "depth", "I", false)
  | 26 => ("StepProgramsModel", "program", "[I", true)
  | 27 => ("StepProgramsModel", "line", "[I", true)
  | 28 => ("StepProgramsModel", "takes", "[I", true)
  | 29 => ("StepProgramsModel", "registers", "[I", true)
  | 30 => ("StepProgramsModel", "cells", "[I", true)
  | 31 => ("StepProgramsModel", "calls", "[I", true)
  | _ => ("StepProgramsModel", "backTo", "[I", true)
def ty_M : Nat → FieldType := fun k => match k with
  | 0 => .int
  | 1 => (.array .int)
  | 2 => (.array .int)
  | 3 => (.array .int)
  | 4 => (.array .int)
  | 5 => (.array .int)
  | 6 => (.array .boolean)
  | 7 => (.array .int)
  | 8 => .int
  | 9 => (.array .long)
  | 10 => (.array .int)
  | 11 => (.array .int)
  | 12 => (.array .boolean)
  | 13 => (.array .int)
  | 14 => (.array .int)
  | 15 => (.array .boolean)
  | 16 => .boolean
  | 17 => .int
  | 18 => .int
  | 19 => .int
  | 20 => .int
  | 21 => .int
  | 22 => .int
  | 23 => (.array .int)
  | 24 => (.array .int)
  | 25 => .int
  | 26 => (.array .int)
  | 27 => (.array .int)
  | 28 => (.array .int)
  | 29 => (.array .int)
  | 30 => (.array .int)
  | 31 => (.array .int)
  | _ => (.array .int)
theorem nm_M : ∀ a, a < 33 → ∀ b, b < 33 → a ≠ b → (T_M a).2.1 ≠ (T_M b).2.1 := by decide +kernel
theorem tyok_M : ∀ k, k < 33 → parseFieldDescriptor (T_M k).2.2.1 = some (ty_M k) := by decide +kernel
theorem in_M : ∀ w ∈ u_ws R_M T_M 33, w ∈ lw_g := by decide +kernel
def T_AL : u_T := fun k => match k with
  | 0 => ("java/util/ArrayList", "elementData", "[Ljava/lang/Object;", false)
  | 1 => ("java/util/ArrayList", "size", "I", false)
  | _ => ("java/util/AbstractList", "modCount", "I", false)
def ty_AL : Nat → FieldType := fun k => match k with
  | 0 => (.array (.object "java/lang/Object"))
  | 1 => .int
  | _ => .int
theorem nm_AL : ∀ a, a < 3 → ∀ b, b < 3 → a ≠ b → (T_AL a).2.1 ≠ (T_AL b).2.1 := by decide +kernel
theorem tyok_AL : ∀ k, k < 3 → parseFieldDescriptor (T_AL k).2.2.1 = some (ty_AL k) := by decide +kernel
theorem in_AL : ∀ w ∈ u_ws R_AL T_AL 3, w ∈ lw_g := by decide +kernel
abbrev hCl : List vw_C := [(R_Row, T_Row, 3), (R_Frame, T_Frame, 7), (R_Mach, T_Mach, 13), (R_Script, T_Script, 3), (R_Stat, T_Stat, 7), (R_Tape, T_Tape, 9), (R_S, T_S, 2), (R_M, T_M, 33), (R_AL, T_AL, 3)]
abbrev hTys (kA : Nat → ClassId) : List (ClassId × FieldType) := [(kA 0, .int), (kA 1, .boolean), (kA 2, .long), (kA 3, .object "StepPrograms$Row"), (kA 4, .object "StepPrograms$Frame"), (kA 5, .object "StepPrograms$Script"), (kA 6, .object "java/lang/Object")]
theorem hm_in {A : List Cond} {w0 : Cond} (h : ∀ w ∈ A, w ∈ lw_g) : ∀ w ∈ A, w ∈ w0 :: lw_g := fun w hw => List.mem_cons_of_mem _ (h w hw)
theorem hg1 {w0 w : Cond} (h : w ∈ lw_g) : w ∈ w0 :: lw_g ∧ ((w.onTables && w.keeps) = true ∨ ∃ ty, w = .arrayClass ty) := ⟨List.mem_cons_of_mem _ h, good_of_word (List.mem_filter.mp h).2⟩
theorem hgC {w0 : Cond} {y : MethodName} {cc : ByteArray} {n : Nat} {r : Option FieldType} (h : Cond.code y cc n r ∈ lw_g) : GoodIn (w0 :: lw_g) (.code y cc n r :: lw_g) := fun w hw => (List.mem_cons.mp hw).elim (fun e => by rw [e]; exact hg1 h) (fun h => hg1 h)
theorem hgL {w0 : Cond} {A B : List Cond} (ha : ∀ w ∈ A, w ∈ lw_g) (hb : GoodIn (w0 :: lw_g) B) : GoodIn (w0 :: lw_g) (A ++ B) := fun w hw => (List.mem_append.mp hw).elim (fun h => hg1 (ha w h)) (fun h => hb w h)
theorem hgV {w0 : Cond} {y : MethodName} {own C : String} {i : Nat} {cc : ByteArray} {n : Nat} {r : Option FieldType} (h1 : Cond.methodLink own i y ∈ lw_g) (h2 : Cond.instanceMethod y ∈ lw_g) (h3 : Cond.selects C y y ∈ lw_g) (h4 : Cond.initialized C ∈ lw_g) (h : Cond.code y cc n r ∈ lw_g) : GoodIn (w0 :: lw_g) (wsV own i C y (.code y cc n r :: lw_g)) :=
  hgL (fun w hw => by simp at hw; rcases hw with rfl | rfl | rfl | rfl <;> assumption) (hgC h)
theorem hgS {w0 : Cond} {y : MethodName} {own : String} {i : Nat} {cc : ByteArray} {n : Nat} {r : Option FieldType} (h1 : Cond.methodLink own i y ∈ lw_g) (h2 : Cond.static y ∈ lw_g) (h4 : Cond.initialized own ∈ lw_g) (h : Cond.code y cc n r ∈ lw_g) : GoodIn (w0 :: lw_g) (wsS own i y (.code y cc n r :: lw_g)) :=
  hgL (fun w hw => by simp at hw; rcases hw with rfl | rfl | rfl <;> assumption) (hgC h)
theorem hgT {w0 : Cond} {y : MethodName} {own : String} {i : Nat} {cc : ByteArray} {n : Nat} {r : Option FieldType} (h1 : Cond.methodLink own i y ∈ lw_g) (h2 : Cond.static y ∈ lw_g) (h4 : Cond.initialized y.cls ∈ lw_g) (h : Cond.code y cc n r ∈ lw_g) : GoodIn (w0 :: lw_g) (va_wsS own i y (.code y cc n r :: lw_g)) :=
  hgL (fun w hw => by simp at hw; rcases hw with rfl | rfl | rfl <;> assumption) (hgC h)
theorem wt {w : Cond} (h : w ∈ tables_1) (hg : goodWord w = true) : w ∈ lw_g := List.mem_filter.mpr ⟨List.mem_append_right _ h, hg⟩
theorem ws_sel {w : Cond} (h : w ∈ k2_sels lw_privs) (hg : goodWord w = true) : w ∈ lw_g := List.mem_filter.mpr ⟨List.mem_append_left _ h, hg⟩
/-! what holds of the constants that were there before -/
def zS (S : hE) (g : Nat → Nat) (n0 : Nat) (U : State) : Prop := True
theorem zS_k {S : hE} {g : Nat → Nat} {n0 : Nat} : hZk n0 (zS S g n0) := ⟨fun _ _ _ _ h => h, fun _ _ _ _ h => h⟩
abbrev nestW : Cond := .methodLinkNest "StepPrograms" 9 ⟨"StepPrograms$Tape", "<init>", "()V"⟩ "StepPrograms"
def zZ (S : hE) (g : Nat → Nat) (n0 : Nat) (U : State) : Prop := va_AO "StepPrograms$Script" U ∧ va_AO "StepPrograms$Row" U ∧ va_AO "StepPrograms$Frame" U ∧ va_AO "java/lang/Object" U ∧ va_Nw nestW U ∧ zS S g n0 U
theorem zZ_k {S : hE} {g : Nat → Nat} {n0 : Nat} : hZk n0 (zZ S g n0) :=
  ⟨fun u U hW hh h => ⟨va_AO.moved hW.alike h.1, va_AO.moved hW.alike h.2.1, va_AO.moved hW.alike h.2.2.1, va_AO.moved hW.alike h.2.2.2.1, va_Nw.warmM hW h.2.2.2.2.1, zS_k.1 u U hW hh h.2.2.2.2.2⟩,
   fun u U hv hh h => ⟨va_AO.moved (hv ▸ Vm.Alike.refl u.vm) h.1, va_AO.moved (hv ▸ Vm.Alike.refl u.vm) h.2.1, va_AO.moved (hv ▸ Vm.Alike.refl u.vm) h.2.2.1, va_AO.moved (hv ▸ Vm.Alike.refl u.vm) h.2.2.2.1, va_Nw.same rfl hv h.2.2.2.2.1, zS_k.2 u U hv hh h.2.2.2.2.2⟩⟩
theorem zZ_Script {S : hE} {g : Nat → Nat} {n0 : Nat} {U : State} (h : zZ S g n0 U) : va_AO "StepPrograms$Script" U := h.1
theorem zZ_Row {S : hE} {g : Nat → Nat} {n0 : Nat} {U : State} (h : zZ S g n0 U) : va_AO "StepPrograms$Row" U := h.2.1
theorem zZ_Frame {S : hE} {g : Nat → Nat} {n0 : Nat} {U : State} (h : zZ S g n0 U) : va_AO "StepPrograms$Frame" U := h.2.2.1
theorem zZ_Obj {S : hE} {g : Nat → Nat} {n0 : Nat} {U : State} (h : zZ S g n0 U) : va_AO "java/lang/Object" U := h.2.2.2.1
theorem zZ_nest {S : hE} {g : Nat → Nat} {n0 : Nat} {U : State} (h : zZ S g n0 U) : va_Nw nestW U := h.2.2.2.2.1
abbrev hX (p : Program) (s : State) (m : MethodId) (args : Array Value) (c : Code) (cc : ByteArray) (nL : Nat) (own : String) (Ts : List Cond) (D : va_G) (kA : Nat → ClassId) (S : hE) (g : Nat → Nat) (n0 : Nat) : Prop := hC p s m args c cc nL own Ts D hCl (hTys kA) n0 (zZ S g n0)
abbrev hY (D : va_G) (kA : Nat → ClassId) (n0 : Nat) (s : State) (E : hE) (nx : Nat) (H : Heap) (locs : List Loc) : Prop := hM D hCl kA n0 s E nx H locs
abbrev hJ (D : va_G) (kA : Nat → ClassId) (S : hE) (g : Nat → Nat) (n0 : Nat) : hE × Nat → State → Prop := hI D hCl kA (hTys kA) n0 (zZ S g n0)
def y_Row_init : MethodName := ⟨R_Row, "<init>", "(I)V"⟩
abbrev ws_Row_init : List Cond := .code y_Row_init prog_6_method_1_code 2 none :: lw_g
def y_Tape_init : MethodName := ⟨R_Tape, "<init>", "()V"⟩
abbrev ws_Tape_init : List Cond := .code y_Tape_init prog_9_method_1_code 1 none :: lw_g
def y_Frame_init : MethodName := ⟨R_Frame, "<init>", "(I)V"⟩
abbrev ws_Frame_init : List Cond := .code y_Frame_init prog_4_method_1_code 2 none :: lw_g
def y_Mach_init : MethodName := ⟨R_Mach, "<init>", "()V"⟩
abbrev ws_Mach_init : List Cond := .code y_Mach_init prog_5_method_1_code 2 none :: lw_g
def y_S_init : MethodName := ⟨R_S, "<init>", "()V"⟩
abbrev ws_S_init : List Cond := .code y_S_init prog_1_method_1_code 1 none :: lw_g
def y_S_byteAt : MethodName := ⟨R_S, "byteAt", "(JI)I"⟩
abbrev ws_S_byteAt : List Cond := .code y_S_byteAt prog_1_method_13_code 3 (some .int) :: lw_g
def y_S_isCharacter : MethodName := ⟨R_S, "isCharacter", "(I)Z"⟩
abbrev ws_S_isCharacter : List Cond := .code y_S_isCharacter prog_1_method_14_code 1 (some .boolean) :: lw_g
def y_Row_hasRoomFor : MethodName := ⟨R_Row, "hasRoomFor", "(I)Z"⟩
abbrev ws_Row_hasRoomFor : List Cond := .code y_Row_hasRoomFor prog_6_method_2_code 2 (some .boolean) :: lw_g
def y_Row_add : MethodName := ⟨R_Row, "add", "(I)V"⟩
abbrev ws_Row_add : List Cond := .code y_Row_add prog_6_method_3_code 2 none :: lw_g
def y_S_text : MethodName := ⟨R_S, "text", "(J)Z"⟩
abbrev ws_S_text : List Cond := .code y_S_text prog_1_method_2_code 6 (some .boolean) :: lw_g
def y_Mach_fileAt : MethodName := ⟨R_Mach, "fileAt", "(I)LStepPrograms$Row;"⟩
abbrev ws_Mach_fileAt : List Cond := .code y_Mach_fileAt prog_5_method_2_code 2 (some (.object "StepPrograms$Row")) :: lw_g
def y_S_file : MethodName := ⟨R_S, "file", "(IJI)Z"⟩
abbrev ws_S_file : List Cond := .code y_S_file prog_1_method_4_code 7 (some .boolean) :: lw_g
def y_Row_makeEmpty : MethodName := ⟨R_Row, "makeEmpty", "()V"⟩
abbrev ws_Row_makeEmpty : List Cond := .code y_Row_makeEmpty prog_6_method_4_code 1 none :: lw_g
def y_Row_remove : MethodName := ⟨R_Row, "remove", "()V"⟩
abbrev ws_Row_remove : List Cond := .code y_Row_remove prog_6_method_5_code 1 none :: lw_g
def y_S_clear : MethodName := ⟨R_S, "clear", "(IZ)Z"⟩
abbrev ws_S_clear : List Cond := .code y_S_clear prog_1_method_5_code 4 (some .boolean) :: lw_g
def y_S_plant : MethodName := ⟨R_S, "plant", "(IZ)Z"⟩
abbrev ws_S_plant : List Cond := .code y_S_plant prog_1_method_6_code 3 (some .boolean) :: lw_g
def y_S_about : MethodName := ⟨R_S, "about", "(I)I"⟩
abbrev ws_S_about : List Cond := .code y_S_about prog_1_method_8_code 2 (some .int) :: lw_g
def y_Row_at : MethodName := ⟨R_Row, "at", "(I)I"⟩
abbrev ws_Row_at : List Cond := .code y_Row_at prog_6_method_7_code 2 (some .int) :: lw_g
def y_S_said : MethodName := ⟨R_S, "said", "(II)I"⟩
abbrev ws_S_said : List Cond := .code y_S_said prog_1_method_9_code 3 (some .int) :: lw_g
def y_S_register : MethodName := ⟨R_S, "register", "(I)I"⟩
abbrev ws_S_register : List Cond := .code y_S_register prog_1_method_10_code 2 (some .int) :: lw_g
def y_Row_countIfThere : MethodName := ⟨R_Row, "countIfThere", "()I"⟩
abbrev ws_Row_countIfThere : List Cond := .code y_Row_countIfThere prog_6_method_8_code 1 (some .int) :: lw_g
def y_S_size : MethodName := ⟨R_S, "size", "(I)I"⟩
abbrev ws_S_size : List Cond := .code y_S_size prog_1_method_11_code 3 (some .int) :: lw_g
def y_S_byteOf : MethodName := ⟨R_S, "byteOf", "(II)I"⟩
abbrev ws_S_byteOf : List Cond := .code y_S_byteOf prog_1_method_12_code 4 (some .int) :: lw_g
def y_M_init : MethodName := ⟨R_M, "<init>", "()V"⟩
abbrev ws_M_init : List Cond := .code y_M_init prog_11_method_1_code 1 none :: lw_g
def y_M_in : MethodName := ⟨R_M, "in", "(III)Z"⟩
abbrev ws_M_in : List Cond := .code y_M_in prog_11_method_2_code 3 (some .boolean) :: lw_g
def y_M_text : MethodName := ⟨R_M, "text", "(J)Z"⟩
abbrev ws_M_text : List Cond := .code y_M_text prog_11_method_3_code 6 (some .boolean) :: lw_g
def y_M_layLines : MethodName := ⟨R_M, "layLines", "(I)V"⟩
abbrev ws_M_layLines : List Cond := .code y_M_layLines prog_11_method_5_code 6 none :: lw_g
def y_M_split : MethodName := ⟨R_M, "split", "(II)V"⟩
abbrev ws_M_split : List Cond := .code y_M_split prog_11_method_7_code 9 none :: lw_g
def y_M_isLabel : MethodName := ⟨R_M, "isLabel", "()Z"⟩
abbrev ws_M_isLabel : List Cond := .code y_M_isLabel prog_11_method_14_code 1 (some .boolean) :: lw_g
def y_M_isSign : MethodName := ⟨R_M, "isSign", "(I)Z"⟩
abbrev ws_M_isSign : List Cond := .code y_M_isSign prog_11_method_12_code 4 (some .boolean) :: lw_g
def y_M_isRegister : MethodName := ⟨R_M, "isRegister", "(I)Z"⟩
abbrev ws_M_isRegister : List Cond := .code y_M_isRegister prog_11_method_8_code 2 (some .boolean) :: lw_g
def y_M_isNumber : MethodName := ⟨R_M, "isNumber", "(I)Z"⟩
abbrev ws_M_isNumber : List Cond := .code y_M_isNumber prog_11_method_10_code 4 (some .boolean) :: lw_g
def y_M_isValue : MethodName := ⟨R_M, "isValue", "(I)Z"⟩
abbrev ws_M_isValue : List Cond := .code y_M_isValue prog_11_method_11_code 2 (some .boolean) :: lw_g
def y_M_isLetter : MethodName := ⟨R_M, "isLetter", "(I)Z"⟩
abbrev ws_M_isLetter : List Cond := .code y_M_isLetter prog_11_method_9_code 2 (some .boolean) :: lw_g
def y_M_isComparison : MethodName := ⟨R_M, "isComparison", "(I)Z"⟩
abbrev ws_M_isComparison : List Cond := .code y_M_isComparison prog_11_method_13_code 2 (some .boolean) :: lw_g
def y_M_isStatement : MethodName := ⟨R_M, "isStatement", "()Z"⟩
abbrev ws_M_isStatement : List Cond := .code y_M_isStatement prog_11_method_15_code 3 (some .boolean) :: lw_g
def y_M_goal : MethodName := ⟨R_M, "goal", "()I"⟩
abbrev ws_M_goal : List Cond := .code y_M_goal prog_11_method_16_code 1 (some .int) :: lw_g
def y_M_ill : MethodName := ⟨R_M, "ill", "()I"⟩
abbrev ws_M_ill : List Cond := .code y_M_ill prog_11_method_17_code 4 (some .int) :: lw_g
def y_M_keep : MethodName := ⟨R_M, "keep", "(I)V"⟩
abbrev ws_M_keep : List Cond := .code y_M_keep prog_11_method_6_code 3 none :: lw_g
def y_M_load : MethodName := ⟨R_M, "load", "(I)I"⟩
abbrev ws_M_load : List Cond := .code y_M_load prog_11_method_4_code 4 (some .int) :: lw_g
def y_M_isFile : MethodName := ⟨R_M, "isFile", "(I)Z"⟩
abbrev ws_M_isFile : List Cond := .code y_M_isFile prog_11_method_18_code 1 (some .boolean) :: lw_g
def y_M_append : MethodName := ⟨R_M, "append", "(II)V"⟩
abbrev ws_M_append : List Cond := .code y_M_append prog_11_method_20_code 3 none :: lw_g
def y_M_file : MethodName := ⟨R_M, "file", "(IJI)Z"⟩
abbrev ws_M_file : List Cond := .code y_M_file prog_11_method_19_code 6 (some .boolean) :: lw_g
def y_M_clear : MethodName := ⟨R_M, "clear", "(IZ)Z"⟩
abbrev ws_M_clear : List Cond := .code y_M_clear prog_11_method_21_code 3 (some .boolean) :: lw_g
def y_M_plant : MethodName := ⟨R_M, "plant", "(IZ)Z"⟩
abbrev ws_M_plant : List Cond := .code y_M_plant prog_11_method_22_code 3 (some .boolean) :: lw_g
def y_M_isProgram : MethodName := ⟨R_M, "isProgram", "(I)Z"⟩
abbrev ws_M_isProgram : List Cond := .code y_M_isProgram prog_11_method_23_code 2 (some .boolean) :: lw_g
def y_M_begin : MethodName := ⟨R_M, "begin", "(III)V"⟩
abbrev ws_M_begin : List Cond := .code y_M_begin prog_11_method_25_code 5 none :: lw_g
def y_M_comesToStatement : MethodName := ⟨R_M, "comesToStatement", "()Z"⟩
abbrev ws_M_comesToStatement : List Cond := .code y_M_comesToStatement prog_11_method_26_code 2 (some .boolean) :: lw_g
def y_M_registerOf : MethodName := ⟨R_M, "registerOf", "(I)I"⟩
abbrev ws_M_registerOf : List Cond := .code y_M_registerOf prog_11_method_27_code 2 (some .int) :: lw_g
def y_M_value : MethodName := ⟨R_M, "value", "(II)I"⟩
abbrev ws_M_value : List Cond := .code y_M_value prog_11_method_29_code 6 (some .int) :: lw_g
def y_M_set : MethodName := ⟨R_M, "set", "(III)V"⟩
abbrev ws_M_set : List Cond := .code y_M_set prog_11_method_28_code 4 none :: lw_g
def y_M_goesOn : MethodName := ⟨R_M, "goesOn", "(I)I"⟩
abbrev ws_M_goesOn : List Cond := .code y_M_goesOn prog_11_method_31_code 2 (some .int) :: lw_g
def y_M_gives : MethodName := ⟨R_M, "gives", "(II)I"⟩
abbrev ws_M_gives : List Cond := .code y_M_gives prog_11_method_30_code 3 (some .int) :: lw_g
def y_M_let : MethodName := ⟨R_M, "let", "(I)I"⟩
abbrev ws_M_let : List Cond := .code y_M_let prog_11_method_35_code 5 (some .int) :: lw_g
def y_M_put : MethodName := ⟨R_M, "put", "(III)I"⟩
abbrev ws_M_put : List Cond := .code y_M_put prog_11_method_36_code 4 (some .int) :: lw_g
def y_M_read : MethodName := ⟨R_M, "read", "(III)I"⟩
abbrev ws_M_read : List Cond := .code y_M_read prog_11_method_38_code 4 (some .int) :: lw_g
def y_M_write : MethodName := ⟨R_M, "write", "(III)I"⟩
abbrev ws_M_write : List Cond := .code y_M_write prog_11_method_39_code 4 (some .int) :: lw_g
def y_M_copy : MethodName := ⟨R_M, "copy", "(III)I"⟩
abbrev ws_M_copy : List Cond := .code y_M_copy prog_11_method_40_code 5 (some .int) :: lw_g
def y_M_withFiles : MethodName := ⟨R_M, "withFiles", "(I)I"⟩
abbrev ws_M_withFiles : List Cond := .code y_M_withFiles prog_11_method_37_code 5 (some .int) :: lw_g
def y_M_says : MethodName := ⟨R_M, "says", "(IZI)I"⟩
abbrev ws_M_says : List Cond := .code y_M_says prog_11_method_41_code 4 (some .int) :: lw_g
def y_M_goesTo : MethodName := ⟨R_M, "goesTo", "(II)I"⟩
abbrev ws_M_goesTo : List Cond := .code y_M_goesTo prog_11_method_32_code 3 (some .int) :: lw_g
def y_M_isSo : MethodName := ⟨R_M, "isSo", "(III)Z"⟩
abbrev ws_M_isSo : List Cond := .code y_M_isSo prog_11_method_34_code 3 (some .boolean) :: lw_g
def y_M_call : MethodName := ⟨R_M, "call", "(I)I"⟩
abbrev ws_M_call : List Cond := .code y_M_call prog_11_method_42_code 2 (some .int) :: lw_g
def y_M_back : MethodName := ⟨R_M, "back", "(I)I"⟩
abbrev ws_M_back : List Cond := .code y_M_back prog_11_method_43_code 2 (some .int) :: lw_g
def y_M_child : MethodName := ⟨R_M, "child", "(III)I"⟩
abbrev ws_M_child : List Cond := .code y_M_child prog_11_method_44_code 4 (some .int) :: lw_g
def y_M_ask : MethodName := ⟨R_M, "ask", "(II)I"⟩
abbrev ws_M_ask : List Cond := .code y_M_ask prog_11_method_45_code 3 (some .int) :: lw_g
def y_M_work : MethodName := ⟨R_M, "work", "(I)I"⟩
abbrev ws_M_work : List Cond := .code y_M_work prog_11_method_33_code 4 (some .int) :: lw_g
def y_M_run : MethodName := ⟨R_M, "run", "(III)I"⟩
abbrev ws_M_run : List Cond := .code y_M_run prog_11_method_24_code 7 (some .int) :: lw_g
def y_M_about : MethodName := ⟨R_M, "about", "(I)I"⟩
abbrev ws_M_about : List Cond := .code y_M_about prog_11_method_46_code 2 (some .int) :: lw_g
def y_M_said : MethodName := ⟨R_M, "said", "(II)I"⟩
abbrev ws_M_said : List Cond := .code y_M_said prog_11_method_47_code 3 (some .int) :: lw_g
def y_M_register : MethodName := ⟨R_M, "register", "(I)I"⟩
abbrev ws_M_register : List Cond := .code y_M_register prog_11_method_48_code 2 (some .int) :: lw_g
def y_M_size : MethodName := ⟨R_M, "size", "(I)I"⟩
abbrev ws_M_size : List Cond := .code y_M_size prog_11_method_49_code 2 (some .int) :: lw_g
def y_M_byteOf : MethodName := ⟨R_M, "byteOf", "(II)I"⟩
abbrev ws_M_byteOf : List Cond := .code y_M_byteOf prog_11_method_50_code 3 (some .int) :: lw_g
def y_Arrs_fill : MethodName := ⟨R_Arrs, "fill", "([II)V"⟩
abbrev ws_Arrs_fill : List Cond := .code y_Arrs_fill prog_25_method_103_code 4 none :: lw_g
def y_Frame_begin : MethodName := ⟨R_Frame, "begin", "(I)V"⟩
abbrev ws_Frame_begin : List Cond := .code y_Frame_begin prog_4_method_2_code 2 none :: lw_g
def y_Frame_valueOf : MethodName := ⟨R_Frame, "valueOf", "(I)I"⟩
abbrev ws_Frame_valueOf : List Cond := .code y_Frame_valueOf prog_4_method_3_code 3 (some .int) :: lw_g
def y_Frame_set : MethodName := ⟨R_Frame, "set", "(II)V"⟩
abbrev ws_Frame_set : List Cond := .code y_Frame_set prog_4_method_4_code 3 none :: lw_g
def y_Frame_call : MethodName := ⟨R_Frame, "call", "(I)Z"⟩
abbrev ws_Frame_call : List Cond := .code y_Frame_call prog_4_method_5_code 2 (some .boolean) :: lw_g
def y_Frame_comeBack : MethodName := ⟨R_Frame, "comeBack", "()Z"⟩
abbrev ws_Frame_comeBack : List Cond := .code y_Frame_comeBack prog_4_method_6_code 1 (some .boolean) :: lw_g
def y_Mach_scriptAt : MethodName := ⟨R_Mach, "scriptAt", "(I)LStepPrograms$Script;"⟩
abbrev ws_Mach_scriptAt : List Cond := .code y_Mach_scriptAt prog_5_method_3_code 2 (some (.object "StepPrograms$Script")) :: lw_g
def y_Mach_divided : MethodName := ⟨R_Mach, "divided", "(III)I"⟩
abbrev ws_Mach_divided : List Cond := .code y_Mach_divided prog_5_method_8_code 3 (some .int) :: lw_g
def y_Mach_holds : MethodName := ⟨R_Mach, "holds", "(III)Z"⟩
abbrev ws_Mach_holds : List Cond := .code y_Mach_holds prog_5_method_10_code 3 (some .boolean) :: lw_g
def y_Mach_combined : MethodName := ⟨R_Mach, "combined", "(III)I"⟩
abbrev ws_Mach_combined : List Cond := .code y_Mach_combined prog_5_method_9_code 3 (some .int) :: lw_g
def y_Mach_calculate : MethodName := ⟨R_Mach, "calculate", "(LStepPrograms$Frame;LStepPrograms$Statement;II)I"⟩
abbrev ws_Mach_calculate : List Cond := .code y_Mach_calculate prog_5_method_7_code 5 (some .int) :: lw_g
def y_Mach_getCell : MethodName := ⟨R_Mach, "getCell", "(LStepPrograms$Frame;II)I"⟩
abbrev ws_Mach_getCell : List Cond := .code y_Mach_getCell prog_5_method_11_code 3 (some .int) :: lw_g
def y_Mach_putCell : MethodName := ⟨R_Mach, "putCell", "(LStepPrograms$Frame;II)I"⟩
abbrev ws_Mach_putCell : List Cond := .code y_Mach_putCell prog_5_method_12_code 3 (some .int) :: lw_g
def y_Mach_sizeFile : MethodName := ⟨R_Mach, "sizeFile", "(LStepPrograms$Frame;II)I"⟩
abbrev ws_Mach_sizeFile : List Cond := .code y_Mach_sizeFile prog_5_method_13_code 5 (some .int) :: lw_g
def y_Mach_readFile : MethodName := ⟨R_Mach, "readFile", "(LStepPrograms$Frame;III)I"⟩
abbrev ws_Mach_readFile : List Cond := .code y_Mach_readFile prog_5_method_14_code 7 (some .int) :: lw_g
def y_Mach_speak : MethodName := ⟨R_Mach, "speak", "(LStepPrograms$Row;I)I"⟩
abbrev ws_Mach_speak : List Cond := .code y_Mach_speak prog_5_method_18_code 2 (some .int) :: lw_g
def y_Mach_writeFile : MethodName := ⟨R_Mach, "writeFile", "(II)I"⟩
abbrev ws_Mach_writeFile : List Cond := .code y_Mach_writeFile prog_5_method_15_code 4 (some .int) :: lw_g
def y_Mach_dropFile : MethodName := ⟨R_Mach, "dropFile", "(I)I"⟩
abbrev ws_Mach_dropFile : List Cond := .code y_Mach_dropFile prog_5_method_16_code 3 (some .int) :: lw_g
def y_Mach_answer : MethodName := ⟨R_Mach, "answer", "(LStepPrograms$Frame;I)I"⟩
abbrev ws_Mach_answer : List Cond := .code y_Mach_answer prog_5_method_21_code 3 (some .int) :: lw_g
def y_Mach_ask : MethodName := ⟨R_Mach, "ask", "(LStepPrograms$Frame;II)I"⟩
abbrev ws_Mach_ask : List Cond := .code y_Mach_ask prog_5_method_20_code 4 (some .int) :: lw_g
def y_Script_placeOf : MethodName := ⟨R_Script, "placeOf", "(I)I"⟩
abbrev ws_Script_placeOf : List Cond := .code y_Script_placeOf prog_7_method_3_code 2 (some .int) :: lw_g
def y_AL_size : MethodName := ⟨R_AL, "size", "()I"⟩
abbrev ws_AL_size : List Cond := .code y_AL_size prog_24_method_8_code 1 (some .int) :: lw_g
def y_Script_addLabel : MethodName := ⟨R_Script, "addLabel", "(I)Z"⟩
abbrev ws_Script_addLabel : List Cond := .code y_Script_addLabel prog_7_method_4_code 2 (some .boolean) :: lw_g
def y_Stat_init : MethodName := ⟨R_Stat, "<init>", "(ILStepPrograms$Form;IIIII)V"⟩
abbrev ws_Stat_init : List Cond := .code y_Stat_init prog_8_method_1_code 8 none :: lw_g
def y_Tape_takeCharacter : MethodName := ⟨R_Tape, "takeCharacter", "(IZ)V"⟩
abbrev ws_Tape_takeCharacter : List Cond := .code y_Tape_takeCharacter prog_9_method_3_code 4 none :: lw_g
def y_Tape_lengthOf : MethodName := ⟨R_Tape, "lengthOf", "(I)I"⟩
abbrev ws_Tape_lengthOf : List Cond := .code y_Tape_lengthOf prog_9_method_7_code 3 (some .int) :: lw_g
def y_Tape_letterAt : MethodName := ⟨R_Tape, "letterAt", "(II)I"⟩
abbrev ws_Tape_letterAt : List Cond := .code y_Tape_letterAt prog_9_method_8_code 5 (some .int) :: lw_g
def y_Tape_onlyLetter : MethodName := ⟨R_Tape, "onlyLetter", "(I)I"⟩
abbrev ws_Tape_onlyLetter : List Cond := .code y_Tape_onlyLetter prog_9_method_9_code 2 (some .int) :: lw_g
def y_Tape_registerNamed : MethodName := ⟨R_Tape, "registerNamed", "(I)I"⟩
abbrev ws_Tape_registerNamed : List Cond := .code y_Tape_registerNamed prog_9_method_12_code 1 (some .int) :: lw_g
def y_Tape_operandAt : MethodName := ⟨R_Tape, "operandAt", "(I)I"⟩
abbrev ws_Tape_operandAt : List Cond := .code y_Tape_operandAt prog_9_method_11_code 9 (some .int) :: lw_g
def y_Tape_labelNamed : MethodName := ⟨R_Tape, "labelNamed", "(I)I"⟩
abbrev ws_Tape_labelNamed : List Cond := .code y_Tape_labelNamed prog_9_method_13_code 1 (some .int) :: lw_g
def y_Math_max : MethodName := ⟨R_Math, "max", "(II)I"⟩
abbrev ws_Math_max : List Cond := .code y_Math_max prog_17_method_65_code 2 (some .int) :: lw_g
def y_Math_min : MethodName := ⟨R_Math, "min", "(II)I"⟩
abbrev ws_Math_min : List Cond := .code y_Math_min prog_17_method_69_code 2 (some .int) :: lw_g
def y_ABC_init : MethodName := ⟨R_ABC, "<init>", "()V"⟩
abbrev ws_ABC_init : List Cond := .code y_ABC_init prog_22_method_1_code 1 none :: lw_g
def y_ABL_init : MethodName := ⟨R_ABL, "<init>", "()V"⟩
abbrev ws_ABL_init : List Cond := .code y_ABL_init prog_23_method_1_code 1 none :: lw_g
def y_AL_elementData : MethodName := ⟨R_AL, "elementData", "(I)Ljava/lang/Object;"⟩
abbrev ws_AL_elementData : List Cond := .code y_AL_elementData prog_24_method_18_code 2 (some (.object "java/lang/Object")) :: lw_g
theorem wm_1 : (Cond.initialized "StepPrograms") ∈ lw_g := wt (List.mem_of_getElem? (i := 1) (by decide +kernel)) rfl
theorem wm_2 : (Cond.initialized "StepPrograms$Tape") ∈ lw_g := wt (List.mem_of_getElem? (i := 2) (by decide +kernel)) rfl
theorem wm_3 : (Cond.initialized "StepPrograms$Row") ∈ lw_g := wt (List.mem_of_getElem? (i := 3) (by decide +kernel)) rfl
theorem wm_4 : (Cond.initialized "StepPrograms$Machine") ∈ lw_g := wt (List.mem_of_getElem? (i := 4) (by decide +kernel)) rfl
theorem wm_5 : (Cond.initialized "StepPrograms$Frame") ∈ lw_g := wt (List.mem_of_getElem? (i := 5) (by decide +kernel)) rfl
theorem wm_6 : (Cond.initialized "StepProgramsModel") ∈ lw_g := wt (List.mem_of_getElem? (i := 6) (by decide +kernel)) rfl
theorem wm_8 : (Cond.initialized "java/util/AbstractCollection") ∈ lw_g := wt (List.mem_of_getElem? (i := 8) (by decide +kernel)) rfl
theorem wm_10 : (Cond.initialized "java/util/ArrayList") ∈ lw_g := wt (List.mem_of_getElem? (i := 10) (by decide +kernel)) rfl
theorem wm_11 : (Cond.initialized "java/util/Arrays") ∈ lw_g := wt (List.mem_of_getElem? (i := 11) (by decide +kernel)) rfl
theorem wm_28 : (Cond.methodLink "StepPrograms" (1 : Nat) ({ cls := "java/lang/Object", name := "<init>", desc := "()V" } : MethodName)) ∈ lw_g := wt (List.mem_of_getElem? (i := 28) (by decide +kernel)) rfl
theorem wm_29 : (Cond.instanceMethod ({ cls := "java/lang/Object", name := "<init>", desc := "()V" } : MethodName)) ∈ lw_g := wt (List.mem_of_getElem? (i := 29) (by decide +kernel)) rfl
set_option maxRecDepth 100000 in
theorem wm_30 : (Cond.code ({ cls := "java/lang/Object", name := "<init>", desc := "()V" } : MethodName) object_method_1_code (1 : Nat) (Option.none : Option FieldType)) ∈ lw_g := wt (List.mem_of_getElem? (i := 30) rfl) rfl
theorem wm_31 : (Cond.classLink "StepPrograms" (7 : Nat) "StepPrograms$Tape") ∈ lw_g := wt (List.mem_of_getElem? (i := 31) (by decide +kernel)) rfl
theorem wm_32 : (Cond.instantiable "StepPrograms$Tape" (9 : Nat)) ∈ lw_g := wt (List.mem_of_getElem? (i := 32) (by decide +kernel)) rfl
theorem wm_34 : (Cond.instanceMethod ({ cls := "StepPrograms$Tape", name := "<init>", desc := "()V" } : MethodName)) ∈ lw_g := wt (List.mem_of_getElem? (i := 34) (by decide +kernel)) rfl
set_option maxRecDepth 100000 in
theorem wm_35 : (Cond.code ({ cls := "StepPrograms$Tape", name := "<init>", desc := "()V" } : MethodName) prog_9_method_1_code (1 : Nat) (Option.none : Option FieldType)) ∈ lw_g := wt (List.mem_of_getElem? (i := 35) rfl) rfl
theorem wm_36 : (Cond.methodLink "StepPrograms$Tape" (3 : Nat) ({ cls := "java/lang/Object", name := "<init>", desc := "()V" } : MethodName)) ∈ lw_g := wt (List.mem_of_getElem? (i := 36) (by decide +kernel)) rfl
theorem wm_37 : (Cond.classLink "StepPrograms$Tape" (9 : Nat) "StepPrograms$Row") ∈ lw_g := wt (List.mem_of_getElem? (i := 37) (by decide +kernel)) rfl
theorem wm_38 : (Cond.instantiable "StepPrograms$Row" (3 : Nat)) ∈ lw_g := wt (List.mem_of_getElem? (i := 38) (by decide +kernel)) rfl
theorem wm_39 : (Cond.methodLink "StepPrograms$Tape" (11 : Nat) ({ cls := "StepPrograms$Row", name := "<init>", desc := "(I)V" } : MethodName)) ∈ lw_g := wt (List.mem_of_getElem? (i := 39) (by decide +kernel)) rfl
theorem wm_40 : (Cond.instanceMethod ({ cls := "StepPrograms$Row", name := "<init>", desc := "(I)V" } : MethodName)) ∈ lw_g := wt (List.mem_of_getElem? (i := 40) (by decide +kernel)) rfl
set_option maxRecDepth 100000 in
theorem wm_41 : (Cond.code ({ cls := "StepPrograms$Row", name := "<init>", desc := "(I)V" } : MethodName) prog_6_method_1_code (2 : Nat) (Option.none : Option FieldType)) ∈ lw_g := wt (List.mem_of_getElem? (i := 41) rfl) rfl
theorem wm_42 : (Cond.methodLink "StepPrograms$Row" (3 : Nat) ({ cls := "java/lang/Object", name := "<init>", desc := "()V" } : MethodName)) ∈ lw_g := wt (List.mem_of_getElem? (i := 42) (by decide +kernel)) rfl
theorem wm_43 : (Cond.fieldLink "StepPrograms$Row" (9 : Nat) "StepPrograms$Row" "bytes" "[I") ∈ lw_g := wt (List.mem_of_getElem? (i := 43) (by decide +kernel)) rfl
theorem wm_44 : (Cond.fieldLink "StepPrograms$Tape" (153 : Nat) "StepPrograms$Row" "bytes" "[I") ∈ lw_g := wt (List.mem_of_getElem? (i := 44) (by decide +kernel)) rfl
theorem wm_45 : (Cond.fieldLink "StepPrograms$Row" (15 : Nat) "StepPrograms$Row" "count" "I") ∈ lw_g := wt (List.mem_of_getElem? (i := 45) (by decide +kernel)) rfl
theorem wm_47 : (Cond.fieldLink "StepPrograms" (88 : Nat) "StepPrograms$Row" "count" "I") ∈ lw_g := wt (List.mem_of_getElem? (i := 47) (by decide +kernel)) rfl
theorem wm_48 : (Cond.fieldLink "StepPrograms$Row" (19 : Nat) "StepPrograms$Row" "there" "Z") ∈ lw_g := wt (List.mem_of_getElem? (i := 48) (by decide +kernel)) rfl
theorem wm_49 : (Cond.fieldLink "StepPrograms$Machine" (215 : Nat) "StepPrograms$Row" "there" "Z") ∈ lw_g := wt (List.mem_of_getElem? (i := 49) (by decide +kernel)) rfl
theorem wm_57 : (Cond.arrayClass FieldType.int) ∈ lw_g := wt (List.mem_of_getElem? (i := 57) (by decide +kernel)) rfl
theorem wm_58 : (Cond.fieldLink "StepPrograms$Tape" (14 : Nat) "StepPrograms$Tape" "row" "LStepPrograms$Row;") ∈ lw_g := wt (List.mem_of_getElem? (i := 58) (by decide +kernel)) rfl
theorem wm_59 : (Cond.fieldLink "StepPrograms" (31 : Nat) "StepPrograms$Tape" "row" "LStepPrograms$Row;") ∈ lw_g := wt (List.mem_of_getElem? (i := 59) (by decide +kernel)) rfl
theorem wm_60 : (Cond.fieldLink "StepPrograms$Tape" (20 : Nat) "StepPrograms$Tape" "from" "[I") ∈ lw_g := wt (List.mem_of_getElem? (i := 60) (by decide +kernel)) rfl
theorem wm_61 : (Cond.fieldLink "StepPrograms$Tape" (24 : Nat) "StepPrograms$Tape" "to" "[I") ∈ lw_g := wt (List.mem_of_getElem? (i := 61) (by decide +kernel)) rfl
theorem wm_62 : (Cond.fieldLink "StepPrograms$Tape" (27 : Nat) "StepPrograms$Tape" "words" "I") ∈ lw_g := wt (List.mem_of_getElem? (i := 62) (by decide +kernel)) rfl
theorem wm_87 : (Cond.classLink "StepPrograms" (16 : Nat) "StepPrograms$Machine") ∈ lw_g := wt (List.mem_of_getElem? (i := 87) (by decide +kernel)) rfl
theorem wm_88 : (Cond.instantiable "StepPrograms$Machine" (13 : Nat)) ∈ lw_g := wt (List.mem_of_getElem? (i := 88) (by decide +kernel)) rfl
theorem wm_89 : (Cond.methodLink "StepPrograms" (18 : Nat) ({ cls := "StepPrograms$Machine", name := "<init>", desc := "()V" } : MethodName)) ∈ lw_g := wt (List.mem_of_getElem? (i := 89) (by decide +kernel)) rfl
theorem wm_90 : (Cond.instanceMethod ({ cls := "StepPrograms$Machine", name := "<init>", desc := "()V" } : MethodName)) ∈ lw_g := wt (List.mem_of_getElem? (i := 90) (by decide +kernel)) rfl
set_option maxRecDepth 100000 in
theorem wm_91 : (Cond.code ({ cls := "StepPrograms$Machine", name := "<init>", desc := "()V" } : MethodName) prog_5_method_1_code (2 : Nat) (Option.none : Option FieldType)) ∈ lw_g := wt (List.mem_of_getElem? (i := 91) rfl) rfl
theorem wm_92 : (Cond.methodLink "StepPrograms$Machine" (3 : Nat) ({ cls := "java/lang/Object", name := "<init>", desc := "()V" } : MethodName)) ∈ lw_g := wt (List.mem_of_getElem? (i := 92) (by decide +kernel)) rfl
theorem wm_93 : (Cond.classLink "StepPrograms$Machine" (9 : Nat) "StepPrograms$Script") ∈ lw_g := wt (List.mem_of_getElem? (i := 93) (by decide +kernel)) rfl
theorem wm_95 : (Cond.classLink "StepPrograms$Machine" (21 : Nat) "StepPrograms$Row") ∈ lw_g := wt (List.mem_of_getElem? (i := 95) (by decide +kernel)) rfl
theorem wm_96 : (Cond.methodLink "StepPrograms$Machine" (23 : Nat) ({ cls := "StepPrograms$Row", name := "<init>", desc := "(I)V" } : MethodName)) ∈ lw_g := wt (List.mem_of_getElem? (i := 96) (by decide +kernel)) rfl
theorem wm_97 : (Cond.classLink "StepPrograms$Machine" (33 : Nat) "StepPrograms$Frame") ∈ lw_g := wt (List.mem_of_getElem? (i := 97) (by decide +kernel)) rfl
theorem wm_98 : (Cond.instantiable "StepPrograms$Frame" (7 : Nat)) ∈ lw_g := wt (List.mem_of_getElem? (i := 98) (by decide +kernel)) rfl
theorem wm_99 : (Cond.methodLink "StepPrograms$Machine" (35 : Nat) ({ cls := "StepPrograms$Frame", name := "<init>", desc := "(I)V" } : MethodName)) ∈ lw_g := wt (List.mem_of_getElem? (i := 99) (by decide +kernel)) rfl
theorem wm_100 : (Cond.instanceMethod ({ cls := "StepPrograms$Frame", name := "<init>", desc := "(I)V" } : MethodName)) ∈ lw_g := wt (List.mem_of_getElem? (i := 100) (by decide +kernel)) rfl
set_option maxRecDepth 100000 in
theorem wm_101 : (Cond.code ({ cls := "StepPrograms$Frame", name := "<init>", desc := "(I)V" } : MethodName) prog_4_method_1_code (2 : Nat) (Option.none : Option FieldType)) ∈ lw_g := wt (List.mem_of_getElem? (i := 101) rfl) rfl
theorem wm_102 : (Cond.methodLink "StepPrograms$Frame" (3 : Nat) ({ cls := "java/lang/Object", name := "<init>", desc := "()V" } : MethodName)) ∈ lw_g := wt (List.mem_of_getElem? (i := 102) (by decide +kernel)) rfl
theorem wm_103 : (Cond.fieldLink "StepPrograms$Frame" (21 : Nat) "StepPrograms$Frame" "depth" "I") ∈ lw_g := wt (List.mem_of_getElem? (i := 103) (by decide +kernel)) rfl
theorem wm_104 : (Cond.fieldLink "StepPrograms$Machine" (78 : Nat) "StepPrograms$Frame" "depth" "I") ∈ lw_g := wt (List.mem_of_getElem? (i := 104) (by decide +kernel)) rfl
theorem wm_105 : (Cond.fieldLink "StepPrograms$Frame" (9 : Nat) "StepPrograms$Frame" "registers" "[I") ∈ lw_g := wt (List.mem_of_getElem? (i := 105) (by decide +kernel)) rfl
theorem wm_106 : (Cond.fieldLink "StepPrograms" (113 : Nat) "StepPrograms$Frame" "registers" "[I") ∈ lw_g := wt (List.mem_of_getElem? (i := 106) (by decide +kernel)) rfl
theorem wm_107 : (Cond.fieldLink "StepPrograms$Frame" (15 : Nat) "StepPrograms$Frame" "cells" "[I") ∈ lw_g := wt (List.mem_of_getElem? (i := 107) (by decide +kernel)) rfl
theorem wm_108 : (Cond.fieldLink "StepPrograms$Machine" (205 : Nat) "StepPrograms$Frame" "cells" "[I") ∈ lw_g := wt (List.mem_of_getElem? (i := 108) (by decide +kernel)) rfl
theorem wm_109 : (Cond.fieldLink "StepPrograms$Frame" (18 : Nat) "StepPrograms$Frame" "calls" "[I") ∈ lw_g := wt (List.mem_of_getElem? (i := 109) (by decide +kernel)) rfl
theorem wm_110 : (Cond.fieldLink "StepPrograms$Frame" (31 : Nat) "StepPrograms$Frame" "open" "I") ∈ lw_g := wt (List.mem_of_getElem? (i := 110) (by decide +kernel)) rfl
theorem wm_111 : (Cond.fieldLink "StepPrograms$Frame" (34 : Nat) "StepPrograms$Frame" "next" "I") ∈ lw_g := wt (List.mem_of_getElem? (i := 111) (by decide +kernel)) rfl
theorem wm_113 : (Cond.fieldLink "StepPrograms$Frame" (37 : Nat) "StepPrograms$Frame" "line" "I") ∈ lw_g := wt (List.mem_of_getElem? (i := 113) (by decide +kernel)) rfl
theorem wm_114 : (Cond.fieldLink "StepPrograms$Machine" (97 : Nat) "StepPrograms$Frame" "line" "I") ∈ lw_g := wt (List.mem_of_getElem? (i := 114) (by decide +kernel)) rfl
theorem wm_115 : (Cond.fieldLink "StepPrograms" (101 : Nat) "StepPrograms$Frame" "line" "I") ∈ lw_g := wt (List.mem_of_getElem? (i := 115) (by decide +kernel)) rfl
theorem wm_131 : (Cond.arrayClass FieldType.boolean) ∈ lw_g := wt (List.mem_of_getElem? (i := 131) (by decide +kernel)) rfl
theorem wm_134 : (Cond.fieldLink "StepPrograms$Machine" (11 : Nat) "StepPrograms$Machine" "scripts" "[LStepPrograms$Script;") ∈ lw_g := wt (List.mem_of_getElem? (i := 134) (by decide +kernel)) rfl
theorem wm_136 : (Cond.fieldLink "StepPrograms$Machine" (17 : Nat) "StepPrograms$Machine" "planted" "[Z") ∈ lw_g := wt (List.mem_of_getElem? (i := 136) (by decide +kernel)) rfl
theorem wm_137 : (Cond.fieldLink "StepPrograms" (65 : Nat) "StepPrograms$Machine" "planted" "[Z") ∈ lw_g := wt (List.mem_of_getElem? (i := 137) (by decide +kernel)) rfl
theorem wm_138 : (Cond.fieldLink "StepPrograms$Machine" (26 : Nat) "StepPrograms$Machine" "out" "LStepPrograms$Row;") ∈ lw_g := wt (List.mem_of_getElem? (i := 138) (by decide +kernel)) rfl
theorem wm_139 : (Cond.fieldLink "StepPrograms" (85 : Nat) "StepPrograms$Machine" "out" "LStepPrograms$Row;") ∈ lw_g := wt (List.mem_of_getElem? (i := 139) (by decide +kernel)) rfl
theorem wm_140 : (Cond.fieldLink "StepPrograms$Machine" (30 : Nat) "StepPrograms$Machine" "err" "LStepPrograms$Row;") ∈ lw_g := wt (List.mem_of_getElem? (i := 140) (by decide +kernel)) rfl
theorem wm_141 : (Cond.fieldLink "StepPrograms" (91 : Nat) "StepPrograms$Machine" "err" "LStepPrograms$Row;") ∈ lw_g := wt (List.mem_of_getElem? (i := 141) (by decide +kernel)) rfl
theorem wm_142 : (Cond.fieldLink "StepPrograms$Machine" (36 : Nat) "StepPrograms$Machine" "first" "LStepPrograms$Frame;") ∈ lw_g := wt (List.mem_of_getElem? (i := 142) (by decide +kernel)) rfl
theorem wm_143 : (Cond.fieldLink "StepPrograms" (97 : Nat) "StepPrograms$Machine" "first" "LStepPrograms$Frame;") ∈ lw_g := wt (List.mem_of_getElem? (i := 143) (by decide +kernel)) rfl
theorem wm_144 : (Cond.fieldLink "StepPrograms$Machine" (40 : Nat) "StepPrograms$Machine" "files" "[LStepPrograms$Row;") ∈ lw_g := wt (List.mem_of_getElem? (i := 144) (by decide +kernel)) rfl
theorem wm_145 : (Cond.fieldLink "StepPrograms$Machine" (44 : Nat) "StepPrograms$Machine" "children" "[LStepPrograms$Frame;") ∈ lw_g := wt (List.mem_of_getElem? (i := 145) (by decide +kernel)) rfl
theorem wm_147 : (Cond.fieldLink "StepPrograms" (77 : Nat) "StepPrograms$Machine" "hasRun" "Z") ∈ lw_g := wt (List.mem_of_getElem? (i := 147) (by decide +kernel)) rfl
theorem wm_148 : (Cond.fieldLink "StepPrograms$Machine" (56 : Nat) "StepPrograms$Machine" "steps" "I") ∈ lw_g := wt (List.mem_of_getElem? (i := 148) (by decide +kernel)) rfl
theorem wm_149 : (Cond.fieldLink "StepPrograms" (81 : Nat) "StepPrograms$Machine" "steps" "I") ∈ lw_g := wt (List.mem_of_getElem? (i := 149) (by decide +kernel)) rfl
theorem wm_151 : (Cond.fieldLink "StepPrograms" (94 : Nat) "StepPrograms$Machine" "deepest" "I") ∈ lw_g := wt (List.mem_of_getElem? (i := 151) (by decide +kernel)) rfl
theorem wm_152 : (Cond.fieldLink "StepPrograms$Machine" (62 : Nat) "StepPrograms$Machine" "begun" "I") ∈ lw_g := wt (List.mem_of_getElem? (i := 152) (by decide +kernel)) rfl
theorem wm_153 : (Cond.fieldLink "StepPrograms" (106 : Nat) "StepPrograms$Machine" "begun" "I") ∈ lw_g := wt (List.mem_of_getElem? (i := 153) (by decide +kernel)) rfl
theorem wm_183 : (Cond.fieldLink "StepPrograms" (10 : Nat) "StepPrograms" "tape" "LStepPrograms$Tape;") ∈ lw_g := wt (List.mem_of_getElem? (i := 183) (by decide +kernel)) rfl
theorem wm_184 : (Cond.fieldLink "StepPrograms" (19 : Nat) "StepPrograms" "machine" "LStepPrograms$Machine;") ∈ lw_g := wt (List.mem_of_getElem? (i := 184) (by decide +kernel)) rfl
theorem wm_194 : (Cond.methodLink "StepPrograms" (23 : Nat) ({ cls := "StepPrograms", name := "byteAt", desc := "(JI)I" } : MethodName)) ∈ lw_g := wt (List.mem_of_getElem? (i := 194) (by decide +kernel)) rfl
theorem wm_195 : (Cond.static ({ cls := "StepPrograms", name := "byteAt", desc := "(JI)I" } : MethodName)) ∈ lw_g := wt (List.mem_of_getElem? (i := 195) (by decide +kernel)) rfl
set_option maxRecDepth 100000 in
theorem wm_196 : (Cond.code ({ cls := "StepPrograms", name := "byteAt", desc := "(JI)I" } : MethodName) prog_1_method_13_code (3 : Nat) (Option.some FieldType.int)) ∈ lw_g := wt (List.mem_of_getElem? (i := 196) rfl) rfl
theorem wm_197 : (Cond.methodLink "StepPrograms" (27 : Nat) ({ cls := "StepPrograms", name := "isCharacter", desc := "(I)Z" } : MethodName)) ∈ lw_g := wt (List.mem_of_getElem? (i := 197) (by decide +kernel)) rfl
theorem wm_198 : (Cond.static ({ cls := "StepPrograms", name := "isCharacter", desc := "(I)Z" } : MethodName)) ∈ lw_g := wt (List.mem_of_getElem? (i := 198) (by decide +kernel)) rfl
set_option maxRecDepth 100000 in
theorem wm_199 : (Cond.code ({ cls := "StepPrograms", name := "isCharacter", desc := "(I)Z" } : MethodName) prog_1_method_14_code (1 : Nat) (Option.some FieldType.boolean)) ∈ lw_g := wt (List.mem_of_getElem? (i := 199) rfl) rfl
theorem wm_200 : (Cond.methodLink "StepPrograms" (35 : Nat) ({ cls := "StepPrograms$Row", name := "hasRoomFor", desc := "(I)Z" } : MethodName)) ∈ lw_g := wt (List.mem_of_getElem? (i := 200) (by decide +kernel)) rfl
theorem wm_201 : (Cond.instanceMethod ({ cls := "StepPrograms$Row", name := "hasRoomFor", desc := "(I)Z" } : MethodName)) ∈ lw_g := wt (List.mem_of_getElem? (i := 201) (by decide +kernel)) rfl
theorem wm_202 : (Cond.selects "StepPrograms$Row" ({ cls := "StepPrograms$Row", name := "hasRoomFor", desc := "(I)Z" } : MethodName) ({ cls := "StepPrograms$Row", name := "hasRoomFor", desc := "(I)Z" } : MethodName)) ∈ lw_g := wt (List.mem_of_getElem? (i := 202) (by decide +kernel)) rfl
set_option maxRecDepth 100000 in
theorem wm_203 : (Cond.code ({ cls := "StepPrograms$Row", name := "hasRoomFor", desc := "(I)Z" } : MethodName) prog_6_method_2_code (2 : Nat) (Option.some FieldType.boolean)) ∈ lw_g := wt (List.mem_of_getElem? (i := 203) rfl) rfl
theorem wm_204 : (Cond.methodLink "StepPrograms" (40 : Nat) ({ cls := "StepPrograms$Row", name := "add", desc := "(I)V" } : MethodName)) ∈ lw_g := wt (List.mem_of_getElem? (i := 204) (by decide +kernel)) rfl
theorem wm_205 : (Cond.instanceMethod ({ cls := "StepPrograms$Row", name := "add", desc := "(I)V" } : MethodName)) ∈ lw_g := wt (List.mem_of_getElem? (i := 205) (by decide +kernel)) rfl
theorem wm_206 : (Cond.selects "StepPrograms$Row" ({ cls := "StepPrograms$Row", name := "add", desc := "(I)V" } : MethodName) ({ cls := "StepPrograms$Row", name := "add", desc := "(I)V" } : MethodName)) ∈ lw_g := wt (List.mem_of_getElem? (i := 206) (by decide +kernel)) rfl
set_option maxRecDepth 100000 in
theorem wm_207 : (Cond.code ({ cls := "StepPrograms$Row", name := "add", desc := "(I)V" } : MethodName) prog_6_method_3_code (2 : Nat) (Option.none : Option FieldType)) ∈ lw_g := wt (List.mem_of_getElem? (i := 207) rfl) rfl
theorem wm_212 : (Cond.methodLink "StepPrograms" (44 : Nat) ({ cls := "StepPrograms$Row", name := "makeEmpty", desc := "()V" } : MethodName)) ∈ lw_g := wt (List.mem_of_getElem? (i := 212) (by decide +kernel)) rfl
theorem wm_213 : (Cond.instanceMethod ({ cls := "StepPrograms$Row", name := "makeEmpty", desc := "()V" } : MethodName)) ∈ lw_g := wt (List.mem_of_getElem? (i := 213) (by decide +kernel)) rfl
theorem wm_214 : (Cond.selects "StepPrograms$Row" ({ cls := "StepPrograms$Row", name := "makeEmpty", desc := "()V" } : MethodName) ({ cls := "StepPrograms$Row", name := "makeEmpty", desc := "()V" } : MethodName)) ∈ lw_g := wt (List.mem_of_getElem? (i := 214) (by decide +kernel)) rfl
set_option maxRecDepth 100000 in
theorem wm_215 : (Cond.code ({ cls := "StepPrograms$Row", name := "makeEmpty", desc := "()V" } : MethodName) prog_6_method_4_code (1 : Nat) (Option.none : Option FieldType)) ∈ lw_g := wt (List.mem_of_getElem? (i := 215) rfl) rfl
theorem wm_230 : (Cond.methodLink "java/util/AbstractList" (1 : Nat) ({ cls := "java/util/AbstractCollection", name := "<init>", desc := "()V" } : MethodName)) ∈ lw_g := wt (List.mem_of_getElem? (i := 230) (by decide +kernel)) rfl
theorem wm_231 : (Cond.instanceMethod ({ cls := "java/util/AbstractCollection", name := "<init>", desc := "()V" } : MethodName)) ∈ lw_g := wt (List.mem_of_getElem? (i := 231) (by decide +kernel)) rfl
set_option maxRecDepth 100000 in
theorem wm_232 : (Cond.code ({ cls := "java/util/AbstractCollection", name := "<init>", desc := "()V" } : MethodName) prog_22_method_1_code (1 : Nat) (Option.none : Option FieldType)) ∈ lw_g := wt (List.mem_of_getElem? (i := 232) rfl) rfl
theorem wm_233 : (Cond.methodLink "java/util/AbstractCollection" (1 : Nat) ({ cls := "java/lang/Object", name := "<init>", desc := "()V" } : MethodName)) ∈ lw_g := wt (List.mem_of_getElem? (i := 233) (by decide +kernel)) rfl
theorem wm_236 : (Cond.fieldLink "java/util/ArrayList" (9 : Nat) "java/util/ArrayList" "elementData" "[Ljava/lang/Object;") ∈ lw_g := wt (List.mem_of_getElem? (i := 236) (by decide +kernel)) rfl
theorem wm_237 : (Cond.fieldLink "java/util/ArrayList" (48 : Nat) "java/util/ArrayList" "size" "I") ∈ lw_g := wt (List.mem_of_getElem? (i := 237) (by decide +kernel)) rfl
theorem wm_238 : (Cond.fieldLink "java/util/AbstractList" (7 : Nat) "java/util/AbstractList" "modCount" "I") ∈ lw_g := wt (List.mem_of_getElem? (i := 238) (by decide +kernel)) rfl
theorem wm_249 : (Cond.static ({ cls := "java/util/Arrays", name := "fill", desc := "([II)V" } : MethodName)) ∈ lw_g := wt (List.mem_of_getElem? (i := 249) (by decide +kernel)) rfl
set_option maxRecDepth 100000 in
theorem wm_250 : (Cond.code ({ cls := "java/util/Arrays", name := "fill", desc := "([II)V" } : MethodName) prog_25_method_103_code (4 : Nat) (Option.none : Option FieldType)) ∈ lw_g := wt (List.mem_of_getElem? (i := 250) rfl) rfl
theorem wm_251 : (Cond.fieldLink "StepPrograms$Script" (12 : Nat) "StepPrograms$Script" "statements" "Ljava/util/ArrayList;") ∈ lw_g := wt (List.mem_of_getElem? (i := 251) (by decide +kernel)) rfl
theorem wm_253 : (Cond.fieldLink "StepPrograms$Script" (18 : Nat) "StepPrograms$Script" "places" "[I") ∈ lw_g := wt (List.mem_of_getElem? (i := 253) (by decide +kernel)) rfl
theorem wm_268 : (Cond.instanceMethod ({ cls := "StepPrograms$Row", name := "at", desc := "(I)I" } : MethodName)) ∈ lw_g := wt (List.mem_of_getElem? (i := 268) (by decide +kernel)) rfl
theorem wm_269 : (Cond.selects "StepPrograms$Row" ({ cls := "StepPrograms$Row", name := "at", desc := "(I)I" } : MethodName) ({ cls := "StepPrograms$Row", name := "at", desc := "(I)I" } : MethodName)) ∈ lw_g := wt (List.mem_of_getElem? (i := 269) (by decide +kernel)) rfl
set_option maxRecDepth 100000 in
theorem wm_270 : (Cond.code ({ cls := "StepPrograms$Row", name := "at", desc := "(I)I" } : MethodName) prog_6_method_7_code (2 : Nat) (Option.some FieldType.int)) ∈ lw_g := wt (List.mem_of_getElem? (i := 270) rfl) rfl
theorem wm_279 : (Cond.methodLink "StepPrograms$Tape" (55 : Nat) ({ cls := "StepPrograms$Tape", name := "lengthOf", desc := "(I)I" } : MethodName)) ∈ lw_g := wt (List.mem_of_getElem? (i := 279) (by decide +kernel)) rfl
theorem wm_281 : (Cond.instanceMethod ({ cls := "StepPrograms$Tape", name := "lengthOf", desc := "(I)I" } : MethodName)) ∈ lw_g := wt (List.mem_of_getElem? (i := 281) (by decide +kernel)) rfl
set_option maxRecDepth 100000 in
theorem wm_282 : (Cond.code ({ cls := "StepPrograms$Tape", name := "lengthOf", desc := "(I)I" } : MethodName) prog_9_method_7_code (3 : Nat) (Option.some FieldType.int)) ∈ lw_g := wt (List.mem_of_getElem? (i := 282) rfl) rfl
theorem wm_283 : (Cond.methodLink "StepPrograms$Tape" (58 : Nat) ({ cls := "StepPrograms$Tape", name := "letterAt", desc := "(II)I" } : MethodName)) ∈ lw_g := wt (List.mem_of_getElem? (i := 283) (by decide +kernel)) rfl
theorem wm_285 : (Cond.instanceMethod ({ cls := "StepPrograms$Tape", name := "letterAt", desc := "(II)I" } : MethodName)) ∈ lw_g := wt (List.mem_of_getElem? (i := 285) (by decide +kernel)) rfl
set_option maxRecDepth 100000 in
theorem wm_286 : (Cond.code ({ cls := "StepPrograms$Tape", name := "letterAt", desc := "(II)I" } : MethodName) prog_9_method_8_code (5 : Nat) (Option.some FieldType.int)) ∈ lw_g := wt (List.mem_of_getElem? (i := 286) rfl) rfl
theorem wm_294 : (Cond.methodLink "StepPrograms$Script" (28 : Nat) ({ cls := "java/util/ArrayList", name := "size", desc := "()I" } : MethodName)) ∈ lw_g := wt (List.mem_of_getElem? (i := 294) (by decide +kernel)) rfl
theorem wm_295 : (Cond.instanceMethod ({ cls := "java/util/ArrayList", name := "size", desc := "()I" } : MethodName)) ∈ lw_g := wt (List.mem_of_getElem? (i := 295) (by decide +kernel)) rfl
theorem wm_296 : (Cond.selects "java/util/ArrayList" ({ cls := "java/util/ArrayList", name := "size", desc := "()I" } : MethodName) ({ cls := "java/util/ArrayList", name := "size", desc := "()I" } : MethodName)) ∈ lw_g := wt (List.mem_of_getElem? (i := 296) (by decide +kernel)) rfl
set_option maxRecDepth 100000 in
theorem wm_297 : (Cond.code ({ cls := "java/util/ArrayList", name := "size", desc := "()I" } : MethodName) prog_24_method_8_code (1 : Nat) (Option.some FieldType.int)) ∈ lw_g := wt (List.mem_of_getElem? (i := 297) rfl) rfl
theorem wm_356 : (Cond.constant "StepPrograms$Tape" (125 : Nat) (-1000000 : Int32)) ∈ lw_g := wt (List.mem_of_getElem? (i := 356) (by decide +kernel)) rfl
theorem wm_361 : (Cond.methodLink "StepPrograms$Tape" (134 : Nat) ({ cls := "StepPrograms$Tape", name := "onlyLetter", desc := "(I)I" } : MethodName)) ∈ lw_g := wt (List.mem_of_getElem? (i := 361) (by decide +kernel)) rfl
theorem wm_363 : (Cond.instanceMethod ({ cls := "StepPrograms$Tape", name := "onlyLetter", desc := "(I)I" } : MethodName)) ∈ lw_g := wt (List.mem_of_getElem? (i := 363) (by decide +kernel)) rfl
set_option maxRecDepth 100000 in
theorem wm_364 : (Cond.code ({ cls := "StepPrograms$Tape", name := "onlyLetter", desc := "(I)I" } : MethodName) prog_9_method_9_code (2 : Nat) (Option.some FieldType.int)) ∈ lw_g := wt (List.mem_of_getElem? (i := 364) rfl) rfl
theorem wm_365 : (Cond.methodLink "StepPrograms$Tape" (137 : Nat) ({ cls := "StepPrograms$Tape", name := "registerNamed", desc := "(I)I" } : MethodName)) ∈ lw_g := wt (List.mem_of_getElem? (i := 365) (by decide +kernel)) rfl
theorem wm_366 : (Cond.static ({ cls := "StepPrograms$Tape", name := "registerNamed", desc := "(I)I" } : MethodName)) ∈ lw_g := wt (List.mem_of_getElem? (i := 366) (by decide +kernel)) rfl
set_option maxRecDepth 100000 in
theorem wm_367 : (Cond.code ({ cls := "StepPrograms$Tape", name := "registerNamed", desc := "(I)I" } : MethodName) prog_9_method_12_code (1 : Nat) (Option.some FieldType.int)) ∈ lw_g := wt (List.mem_of_getElem? (i := 367) rfl) rfl
theorem wm_372 : (Cond.constant "StepPrograms$Tape" (156 : Nat) (1000000 : Int32)) ∈ lw_g := wt (List.mem_of_getElem? (i := 372) (by decide +kernel)) rfl
theorem wm_443 : (Cond.methodLink "StepPrograms$Statement" (1 : Nat) ({ cls := "java/lang/Object", name := "<init>", desc := "()V" } : MethodName)) ∈ lw_g := wt (List.mem_of_getElem? (i := 443) (by decide +kernel)) rfl
theorem wm_444 : (Cond.fieldLink "StepPrograms$Statement" (7 : Nat) "StepPrograms$Statement" "line" "I") ∈ lw_g := wt (List.mem_of_getElem? (i := 444) (by decide +kernel)) rfl
theorem wm_447 : (Cond.fieldLink "StepPrograms$Statement" (13 : Nat) "StepPrograms$Statement" "form" "LStepPrograms$Form;") ∈ lw_g := wt (List.mem_of_getElem? (i := 447) (by decide +kernel)) rfl
theorem wm_449 : (Cond.fieldLink "StepPrograms$Statement" (17 : Nat) "StepPrograms$Statement" "into" "I") ∈ lw_g := wt (List.mem_of_getElem? (i := 449) (by decide +kernel)) rfl
theorem wm_450 : (Cond.fieldLink "StepPrograms$Machine" (133 : Nat) "StepPrograms$Statement" "into" "I") ∈ lw_g := wt (List.mem_of_getElem? (i := 450) (by decide +kernel)) rfl
theorem wm_451 : (Cond.fieldLink "StepPrograms$Statement" (20 : Nat) "StepPrograms$Statement" "left" "I") ∈ lw_g := wt (List.mem_of_getElem? (i := 451) (by decide +kernel)) rfl
theorem wm_453 : (Cond.fieldLink "StepPrograms$Statement" (23 : Nat) "StepPrograms$Statement" "sign" "I") ∈ lw_g := wt (List.mem_of_getElem? (i := 453) (by decide +kernel)) rfl
theorem wm_454 : (Cond.fieldLink "StepPrograms$Machine" (177 : Nat) "StepPrograms$Statement" "sign" "I") ∈ lw_g := wt (List.mem_of_getElem? (i := 454) (by decide +kernel)) rfl
theorem wm_455 : (Cond.fieldLink "StepPrograms$Statement" (26 : Nat) "StepPrograms$Statement" "right" "I") ∈ lw_g := wt (List.mem_of_getElem? (i := 455) (by decide +kernel)) rfl
theorem wm_457 : (Cond.fieldLink "StepPrograms$Statement" (29 : Nat) "StepPrograms$Statement" "label" "I") ∈ lw_g := wt (List.mem_of_getElem? (i := 457) (by decide +kernel)) rfl
theorem wm_554 : (Cond.methodLink "StepPrograms" (58 : Nat) ({ cls := "StepPrograms$Machine", name := "fileAt", desc := "(I)LStepPrograms$Row;" } : MethodName)) ∈ lw_g := wt (List.mem_of_getElem? (i := 554) (by decide +kernel)) rfl
theorem wm_555 : (Cond.instanceMethod ({ cls := "StepPrograms$Machine", name := "fileAt", desc := "(I)LStepPrograms$Row;" } : MethodName)) ∈ lw_g := wt (List.mem_of_getElem? (i := 555) (by decide +kernel)) rfl
theorem wm_556 : (Cond.selects "StepPrograms$Machine" ({ cls := "StepPrograms$Machine", name := "fileAt", desc := "(I)LStepPrograms$Row;" } : MethodName) ({ cls := "StepPrograms$Machine", name := "fileAt", desc := "(I)LStepPrograms$Row;" } : MethodName)) ∈ lw_g := wt (List.mem_of_getElem? (i := 556) (by decide +kernel)) rfl
set_option maxRecDepth 100000 in
theorem wm_557 : (Cond.code ({ cls := "StepPrograms$Machine", name := "fileAt", desc := "(I)LStepPrograms$Row;" } : MethodName) prog_5_method_2_code (2 : Nat) (Option.some (FieldType.object "StepPrograms$Row"))) ∈ lw_g := wt (List.mem_of_getElem? (i := 557) rfl) rfl
theorem wm_562 : (Cond.methodLink "StepPrograms" (62 : Nat) ({ cls := "StepPrograms$Row", name := "remove", desc := "()V" } : MethodName)) ∈ lw_g := wt (List.mem_of_getElem? (i := 562) (by decide +kernel)) rfl
theorem wm_563 : (Cond.instanceMethod ({ cls := "StepPrograms$Row", name := "remove", desc := "()V" } : MethodName)) ∈ lw_g := wt (List.mem_of_getElem? (i := 563) (by decide +kernel)) rfl
theorem wm_564 : (Cond.selects "StepPrograms$Row" ({ cls := "StepPrograms$Row", name := "remove", desc := "()V" } : MethodName) ({ cls := "StepPrograms$Row", name := "remove", desc := "()V" } : MethodName)) ∈ lw_g := wt (List.mem_of_getElem? (i := 564) (by decide +kernel)) rfl
set_option maxRecDepth 100000 in
theorem wm_565 : (Cond.code ({ cls := "StepPrograms$Row", name := "remove", desc := "()V" } : MethodName) prog_6_method_5_code (1 : Nat) (Option.none : Option FieldType)) ∈ lw_g := wt (List.mem_of_getElem? (i := 565) rfl) rfl
theorem wm_591 : (Cond.methodLink "StepPrograms$Frame" (25 : Nat) ({ cls := "java/util/Arrays", name := "fill", desc := "([II)V" } : MethodName)) ∈ lw_g := wt (List.mem_of_getElem? (i := 591) (by decide +kernel)) rfl
theorem wm_605 : (Cond.constant "StepPrograms$Frame" (40 : Nat) (1000000 : Int32)) ∈ lw_g := wt (List.mem_of_getElem? (i := 605) (by decide +kernel)) rfl
theorem wm_614 : (Cond.methodLink "StepPrograms$Machine" (136 : Nat) ({ cls := "StepPrograms$Frame", name := "set", desc := "(II)V" } : MethodName)) ∈ lw_g := wt (List.mem_of_getElem? (i := 614) (by decide +kernel)) rfl
theorem wm_615 : (Cond.instanceMethod ({ cls := "StepPrograms$Frame", name := "set", desc := "(II)V" } : MethodName)) ∈ lw_g := wt (List.mem_of_getElem? (i := 615) (by decide +kernel)) rfl
theorem wm_616 : (Cond.selects "StepPrograms$Frame" ({ cls := "StepPrograms$Frame", name := "set", desc := "(II)V" } : MethodName) ({ cls := "StepPrograms$Frame", name := "set", desc := "(II)V" } : MethodName)) ∈ lw_g := wt (List.mem_of_getElem? (i := 616) (by decide +kernel)) rfl
set_option maxRecDepth 100000 in
theorem wm_617 : (Cond.code ({ cls := "StepPrograms$Frame", name := "set", desc := "(II)V" } : MethodName) prog_4_method_4_code (3 : Nat) (Option.none : Option FieldType)) ∈ lw_g := wt (List.mem_of_getElem? (i := 617) rfl) rfl
theorem wm_621 : (Cond.methodLink "StepPrograms$Machine" (198 : Nat) ({ cls := "StepPrograms$Machine", name := "divided", desc := "(III)I" } : MethodName)) ∈ lw_g := wt (List.mem_of_getElem? (i := 621) (by decide +kernel)) rfl
theorem wm_622 : (Cond.static ({ cls := "StepPrograms$Machine", name := "divided", desc := "(III)I" } : MethodName)) ∈ lw_g := wt (List.mem_of_getElem? (i := 622) (by decide +kernel)) rfl
set_option maxRecDepth 100000 in
theorem wm_623 : (Cond.code ({ cls := "StepPrograms$Machine", name := "divided", desc := "(III)I" } : MethodName) prog_5_method_8_code (3 : Nat) (Option.some FieldType.int)) ∈ lw_g := wt (List.mem_of_getElem? (i := 623) rfl) rfl
theorem wm_624 : (Cond.methodLink "StepPrograms$Machine" (202 : Nat) ({ cls := "StepPrograms$Machine", name := "combined", desc := "(III)I" } : MethodName)) ∈ lw_g := wt (List.mem_of_getElem? (i := 624) (by decide +kernel)) rfl
theorem wm_625 : (Cond.static ({ cls := "StepPrograms$Machine", name := "combined", desc := "(III)I" } : MethodName)) ∈ lw_g := wt (List.mem_of_getElem? (i := 625) (by decide +kernel)) rfl
set_option maxRecDepth 100000 in
theorem wm_626 : (Cond.code ({ cls := "StepPrograms$Machine", name := "combined", desc := "(III)I" } : MethodName) prog_5_method_9_code (3 : Nat) (Option.some FieldType.int)) ∈ lw_g := wt (List.mem_of_getElem? (i := 626) rfl) rfl
theorem wm_627 : (Cond.methodLink "StepPrograms$Machine" (180 : Nat) ({ cls := "StepPrograms$Machine", name := "holds", desc := "(III)Z" } : MethodName)) ∈ lw_g := wt (List.mem_of_getElem? (i := 627) (by decide +kernel)) rfl
theorem wm_628 : (Cond.static ({ cls := "StepPrograms$Machine", name := "holds", desc := "(III)Z" } : MethodName)) ∈ lw_g := wt (List.mem_of_getElem? (i := 628) (by decide +kernel)) rfl
set_option maxRecDepth 100000 in
theorem wm_629 : (Cond.code ({ cls := "StepPrograms$Machine", name := "holds", desc := "(III)Z" } : MethodName) prog_5_method_10_code (3 : Nat) (Option.some FieldType.boolean)) ∈ lw_g := wt (List.mem_of_getElem? (i := 629) rfl) rfl
theorem wm_640 : (Cond.methodLink "StepPrograms$Machine" (208 : Nat) ({ cls := "StepPrograms$Machine", name := "fileAt", desc := "(I)LStepPrograms$Row;" } : MethodName)) ∈ lw_g := wt (List.mem_of_getElem? (i := 640) (by decide +kernel)) rfl
theorem wm_641 : (Cond.methodLink "StepPrograms$Machine" (212 : Nat) ({ cls := "StepPrograms$Row", name := "countIfThere", desc := "()I" } : MethodName)) ∈ lw_g := wt (List.mem_of_getElem? (i := 641) (by decide +kernel)) rfl
theorem wm_642 : (Cond.instanceMethod ({ cls := "StepPrograms$Row", name := "countIfThere", desc := "()I" } : MethodName)) ∈ lw_g := wt (List.mem_of_getElem? (i := 642) (by decide +kernel)) rfl
theorem wm_643 : (Cond.selects "StepPrograms$Row" ({ cls := "StepPrograms$Row", name := "countIfThere", desc := "()I" } : MethodName) ({ cls := "StepPrograms$Row", name := "countIfThere", desc := "()I" } : MethodName)) ∈ lw_g := wt (List.mem_of_getElem? (i := 643) (by decide +kernel)) rfl
set_option maxRecDepth 100000 in
theorem wm_644 : (Cond.code ({ cls := "StepPrograms$Row", name := "countIfThere", desc := "()I" } : MethodName) prog_6_method_8_code (1 : Nat) (Option.some FieldType.int)) ∈ lw_g := wt (List.mem_of_getElem? (i := 644) rfl) rfl
theorem wm_649 : (Cond.methodLink "StepPrograms$Machine" (218 : Nat) ({ cls := "StepPrograms$Row", name := "at", desc := "(I)I" } : MethodName)) ∈ lw_g := wt (List.mem_of_getElem? (i := 649) (by decide +kernel)) rfl
theorem wm_654 : (Cond.methodLink "StepPrograms$Machine" (167 : Nat) ({ cls := "StepPrograms$Machine", name := "speak", desc := "(LStepPrograms$Row;I)I" } : MethodName)) ∈ lw_g := wt (List.mem_of_getElem? (i := 654) (by decide +kernel)) rfl
theorem wm_655 : (Cond.static ({ cls := "StepPrograms$Machine", name := "speak", desc := "(LStepPrograms$Row;I)I" } : MethodName)) ∈ lw_g := wt (List.mem_of_getElem? (i := 655) (by decide +kernel)) rfl
set_option maxRecDepth 100000 in
theorem wm_656 : (Cond.code ({ cls := "StepPrograms$Machine", name := "speak", desc := "(LStepPrograms$Row;I)I" } : MethodName) prog_5_method_18_code (2 : Nat) (Option.some FieldType.int)) ∈ lw_g := wt (List.mem_of_getElem? (i := 656) rfl) rfl
theorem wm_657 : (Cond.methodLink "StepPrograms$Machine" (227 : Nat) ({ cls := "StepPrograms$Row", name := "hasRoomFor", desc := "(I)Z" } : MethodName)) ∈ lw_g := wt (List.mem_of_getElem? (i := 657) (by decide +kernel)) rfl
theorem wm_658 : (Cond.methodLink "StepPrograms$Machine" (230 : Nat) ({ cls := "StepPrograms$Row", name := "add", desc := "(I)V" } : MethodName)) ∈ lw_g := wt (List.mem_of_getElem? (i := 658) (by decide +kernel)) rfl
theorem wm_663 : (Cond.methodLink "StepPrograms$Machine" (220 : Nat) ({ cls := "StepPrograms$Row", name := "remove", desc := "()V" } : MethodName)) ∈ lw_g := wt (List.mem_of_getElem? (i := 663) (by decide +kernel)) rfl
theorem wm_692 : (Cond.methodLink "StepPrograms$Machine" (237 : Nat) ({ cls := "StepPrograms$Machine", name := "answer", desc := "(LStepPrograms$Frame;I)I" } : MethodName)) ∈ lw_g := wt (List.mem_of_getElem? (i := 692) (by decide +kernel)) rfl
theorem wm_694 : (Cond.instanceMethod ({ cls := "StepPrograms$Machine", name := "answer", desc := "(LStepPrograms$Frame;I)I" } : MethodName)) ∈ lw_g := wt (List.mem_of_getElem? (i := 694) (by decide +kernel)) rfl
set_option maxRecDepth 100000 in
theorem wm_695 : (Cond.code ({ cls := "StepPrograms$Machine", name := "answer", desc := "(LStepPrograms$Frame;I)I" } : MethodName) prog_5_method_21_code (3 : Nat) (Option.some FieldType.int)) ∈ lw_g := wt (List.mem_of_getElem? (i := 695) rfl) rfl
theorem wm_704 : (Cond.methodLink "StepPrograms" (109 : Nat) ({ cls := "StepPrograms$Row", name := "at", desc := "(I)I" } : MethodName)) ∈ lw_g := wt (List.mem_of_getElem? (i := 704) (by decide +kernel)) rfl
theorem wm_713 : (Cond.methodLink "StepPrograms" (117 : Nat) ({ cls := "StepPrograms$Row", name := "countIfThere", desc := "()I" } : MethodName)) ∈ lw_g := wt (List.mem_of_getElem? (i := 713) (by decide +kernel)) rfl
theorem wm_723 : (Cond.methodLink "StepProgramsModel" (1 : Nat) ({ cls := "java/lang/Object", name := "<init>", desc := "()V" } : MethodName)) ∈ lw_g := wt (List.mem_of_getElem? (i := 723) (by decide +kernel)) rfl
theorem wm_724 : (Cond.fieldLink "StepProgramsModel" (87 : Nat) "StepProgramsModel" "taped" "I") ∈ lw_g := wt (List.mem_of_getElem? (i := 724) (by decide +kernel)) rfl
theorem wm_725 : (Cond.fieldLink "StepProgramsModel" (7 : Nat) "StepProgramsModel" "tape" "[I") ∈ lw_g := wt (List.mem_of_getElem? (i := 725) (by decide +kernel)) rfl
theorem wm_726 : (Cond.fieldLink "StepProgramsModel" (13 : Nat) "StepProgramsModel" "text" "[I") ∈ lw_g := wt (List.mem_of_getElem? (i := 726) (by decide +kernel)) rfl
theorem wm_727 : (Cond.fieldLink "StepProgramsModel" (16 : Nat) "StepProgramsModel" "lineFrom" "[I") ∈ lw_g := wt (List.mem_of_getElem? (i := 727) (by decide +kernel)) rfl
theorem wm_728 : (Cond.fieldLink "StepProgramsModel" (19 : Nat) "StepProgramsModel" "lineTo" "[I") ∈ lw_g := wt (List.mem_of_getElem? (i := 728) (by decide +kernel)) rfl
theorem wm_729 : (Cond.fieldLink "StepProgramsModel" (22 : Nat) "StepProgramsModel" "lines" "[I") ∈ lw_g := wt (List.mem_of_getElem? (i := 729) (by decide +kernel)) rfl
theorem wm_730 : (Cond.fieldLink "StepProgramsModel" (25 : Nat) "StepProgramsModel" "isThere" "[Z") ∈ lw_g := wt (List.mem_of_getElem? (i := 730) (by decide +kernel)) rfl
theorem wm_731 : (Cond.fieldLink "StepProgramsModel" (29 : Nat) "StepProgramsModel" "labelAt" "[I") ∈ lw_g := wt (List.mem_of_getElem? (i := 731) (by decide +kernel)) rfl
theorem wm_732 : (Cond.fieldLink "StepProgramsModel" (102 : Nat) "StepProgramsModel" "words" "I") ∈ lw_g := wt (List.mem_of_getElem? (i := 732) (by decide +kernel)) rfl
theorem wm_733 : (Cond.fieldLink "StepProgramsModel" (32 : Nat) "StepProgramsModel" "word" "[J") ∈ lw_g := wt (List.mem_of_getElem? (i := 733) (by decide +kernel)) rfl
theorem wm_734 : (Cond.fieldLink "StepProgramsModel" (36 : Nat) "StepProgramsModel" "wordFrom" "[I") ∈ lw_g := wt (List.mem_of_getElem? (i := 734) (by decide +kernel)) rfl
theorem wm_735 : (Cond.fieldLink "StepProgramsModel" (39 : Nat) "StepProgramsModel" "wordTo" "[I") ∈ lw_g := wt (List.mem_of_getElem? (i := 735) (by decide +kernel)) rfl
theorem wm_736 : (Cond.fieldLink "StepProgramsModel" (42 : Nat) "StepProgramsModel" "isFileThere" "[Z") ∈ lw_g := wt (List.mem_of_getElem? (i := 736) (by decide +kernel)) rfl
theorem wm_737 : (Cond.fieldLink "StepProgramsModel" (45 : Nat) "StepProgramsModel" "fileSize" "[I") ∈ lw_g := wt (List.mem_of_getElem? (i := 737) (by decide +kernel)) rfl
theorem wm_738 : (Cond.fieldLink "StepProgramsModel" (48 : Nat) "StepProgramsModel" "bytes" "[I") ∈ lw_g := wt (List.mem_of_getElem? (i := 738) (by decide +kernel)) rfl
theorem wm_739 : (Cond.fieldLink "StepProgramsModel" (51 : Nat) "StepProgramsModel" "planted" "[Z") ∈ lw_g := wt (List.mem_of_getElem? (i := 739) (by decide +kernel)) rfl
theorem wm_740 : (Cond.fieldLink "StepProgramsModel" (215 : Nat) "StepProgramsModel" "ran" "Z") ∈ lw_g := wt (List.mem_of_getElem? (i := 740) (by decide +kernel)) rfl
theorem wm_741 : (Cond.fieldLink "StepProgramsModel" (219 : Nat) "StepProgramsModel" "steps" "I") ∈ lw_g := wt (List.mem_of_getElem? (i := 741) (by decide +kernel)) rfl
theorem wm_742 : (Cond.fieldLink "StepProgramsModel" (222 : Nat) "StepProgramsModel" "begun" "I") ∈ lw_g := wt (List.mem_of_getElem? (i := 742) (by decide +kernel)) rfl
theorem wm_743 : (Cond.fieldLink "StepProgramsModel" (225 : Nat) "StepProgramsModel" "deepest" "I") ∈ lw_g := wt (List.mem_of_getElem? (i := 743) (by decide +kernel)) rfl
theorem wm_744 : (Cond.fieldLink "StepProgramsModel" (251 : Nat) "StepProgramsModel" "endedAt" "I") ∈ lw_g := wt (List.mem_of_getElem? (i := 744) (by decide +kernel)) rfl
theorem wm_745 : (Cond.fieldLink "StepProgramsModel" (228 : Nat) "StepProgramsModel" "outs" "I") ∈ lw_g := wt (List.mem_of_getElem? (i := 745) (by decide +kernel)) rfl
theorem wm_746 : (Cond.fieldLink "StepProgramsModel" (231 : Nat) "StepProgramsModel" "errs" "I") ∈ lw_g := wt (List.mem_of_getElem? (i := 746) (by decide +kernel)) rfl
theorem wm_747 : (Cond.fieldLink "StepProgramsModel" (54 : Nat) "StepProgramsModel" "out" "[I") ∈ lw_g := wt (List.mem_of_getElem? (i := 747) (by decide +kernel)) rfl
theorem wm_748 : (Cond.fieldLink "StepProgramsModel" (57 : Nat) "StepProgramsModel" "err" "[I") ∈ lw_g := wt (List.mem_of_getElem? (i := 748) (by decide +kernel)) rfl
theorem wm_749 : (Cond.fieldLink "StepProgramsModel" (238 : Nat) "StepProgramsModel" "depth" "I") ∈ lw_g := wt (List.mem_of_getElem? (i := 749) (by decide +kernel)) rfl
theorem wm_750 : (Cond.fieldLink "StepProgramsModel" (60 : Nat) "StepProgramsModel" "program" "[I") ∈ lw_g := wt (List.mem_of_getElem? (i := 750) (by decide +kernel)) rfl
theorem wm_751 : (Cond.fieldLink "StepProgramsModel" (63 : Nat) "StepProgramsModel" "line" "[I") ∈ lw_g := wt (List.mem_of_getElem? (i := 751) (by decide +kernel)) rfl
theorem wm_752 : (Cond.fieldLink "StepProgramsModel" (66 : Nat) "StepProgramsModel" "takes" "[I") ∈ lw_g := wt (List.mem_of_getElem? (i := 752) (by decide +kernel)) rfl
theorem wm_753 : (Cond.fieldLink "StepProgramsModel" (69 : Nat) "StepProgramsModel" "registers" "[I") ∈ lw_g := wt (List.mem_of_getElem? (i := 753) (by decide +kernel)) rfl
theorem wm_754 : (Cond.fieldLink "StepProgramsModel" (72 : Nat) "StepProgramsModel" "cells" "[I") ∈ lw_g := wt (List.mem_of_getElem? (i := 754) (by decide +kernel)) rfl
theorem wm_755 : (Cond.fieldLink "StepProgramsModel" (75 : Nat) "StepProgramsModel" "calls" "[I") ∈ lw_g := wt (List.mem_of_getElem? (i := 755) (by decide +kernel)) rfl
theorem wm_756 : (Cond.fieldLink "StepProgramsModel" (78 : Nat) "StepProgramsModel" "backTo" "[I") ∈ lw_g := wt (List.mem_of_getElem? (i := 756) (by decide +kernel)) rfl
theorem wm_824 : (Cond.arrayClass FieldType.long) ∈ lw_g := wt (List.mem_of_getElem? (i := 824) (by decide +kernel)) rfl
theorem wm_829 : (Cond.constantLong "StepProgramsModel" (81 : Nat) (255 : Int64)) ∈ lw_g := wt (List.mem_of_getElem? (i := 829) (by decide +kernel)) rfl
theorem wm_830 : (Cond.methodLink "StepProgramsModel" (83 : Nat) ({ cls := "StepProgramsModel", name := "in", desc := "(III)Z" } : MethodName)) ∈ lw_g := wt (List.mem_of_getElem? (i := 830) (by decide +kernel)) rfl
theorem wm_831 : (Cond.static ({ cls := "StepProgramsModel", name := "in", desc := "(III)Z" } : MethodName)) ∈ lw_g := wt (List.mem_of_getElem? (i := 831) (by decide +kernel)) rfl
set_option maxRecDepth 100000 in
theorem wm_832 : (Cond.code ({ cls := "StepProgramsModel", name := "in", desc := "(III)Z" } : MethodName) prog_11_method_2_code (3 : Nat) (Option.some FieldType.boolean)) ∈ lw_g := wt (List.mem_of_getElem? (i := 832) rfl) rfl
theorem wm_837 : (Cond.methodLink "StepProgramsModel" (91 : Nat) ({ cls := "StepProgramsModel", name := "layLines", desc := "(I)V" } : MethodName)) ∈ lw_g := wt (List.mem_of_getElem? (i := 837) (by decide +kernel)) rfl
theorem wm_839 : (Cond.instanceMethod ({ cls := "StepProgramsModel", name := "layLines", desc := "(I)V" } : MethodName)) ∈ lw_g := wt (List.mem_of_getElem? (i := 839) (by decide +kernel)) rfl
set_option maxRecDepth 100000 in
theorem wm_840 : (Cond.code ({ cls := "StepProgramsModel", name := "layLines", desc := "(I)V" } : MethodName) prog_11_method_5_code (6 : Nat) (Option.none : Option FieldType)) ∈ lw_g := wt (List.mem_of_getElem? (i := 840) rfl) rfl
theorem wm_841 : (Cond.methodLink "StepProgramsModel" (95 : Nat) ({ cls := "StepProgramsModel", name := "ill", desc := "()I" } : MethodName)) ∈ lw_g := wt (List.mem_of_getElem? (i := 841) (by decide +kernel)) rfl
theorem wm_843 : (Cond.instanceMethod ({ cls := "StepProgramsModel", name := "ill", desc := "()I" } : MethodName)) ∈ lw_g := wt (List.mem_of_getElem? (i := 843) (by decide +kernel)) rfl
set_option maxRecDepth 100000 in
theorem wm_844 : (Cond.code ({ cls := "StepProgramsModel", name := "ill", desc := "()I" } : MethodName) prog_11_method_17_code (4 : Nat) (Option.some FieldType.int)) ∈ lw_g := wt (List.mem_of_getElem? (i := 844) rfl) rfl
theorem wm_845 : (Cond.methodLink "StepProgramsModel" (192 : Nat) ({ cls := "StepProgramsModel", name := "split", desc := "(II)V" } : MethodName)) ∈ lw_g := wt (List.mem_of_getElem? (i := 845) (by decide +kernel)) rfl
theorem wm_847 : (Cond.instanceMethod ({ cls := "StepProgramsModel", name := "split", desc := "(II)V" } : MethodName)) ∈ lw_g := wt (List.mem_of_getElem? (i := 847) (by decide +kernel)) rfl
set_option maxRecDepth 100000 in
theorem wm_848 : (Cond.code ({ cls := "StepProgramsModel", name := "split", desc := "(II)V" } : MethodName) prog_11_method_7_code (9 : Nat) (Option.none : Option FieldType)) ∈ lw_g := wt (List.mem_of_getElem? (i := 848) rfl) rfl
theorem wm_849 : (Cond.constantLong "StepProgramsModel" (105 : Nat) (-1 : Int64)) ∈ lw_g := wt (List.mem_of_getElem? (i := 849) (by decide +kernel)) rfl
theorem wm_850 : (Cond.methodLink "StepProgramsModel" (196 : Nat) ({ cls := "StepProgramsModel", name := "isLabel", desc := "()Z" } : MethodName)) ∈ lw_g := wt (List.mem_of_getElem? (i := 850) (by decide +kernel)) rfl
theorem wm_852 : (Cond.instanceMethod ({ cls := "StepProgramsModel", name := "isLabel", desc := "()Z" } : MethodName)) ∈ lw_g := wt (List.mem_of_getElem? (i := 852) (by decide +kernel)) rfl
set_option maxRecDepth 100000 in
theorem wm_853 : (Cond.code ({ cls := "StepProgramsModel", name := "isLabel", desc := "()Z" } : MethodName) prog_11_method_14_code (1 : Nat) (Option.some FieldType.boolean)) ∈ lw_g := wt (List.mem_of_getElem? (i := 853) rfl) rfl
theorem wm_854 : (Cond.constantLong "StepProgramsModel" (144 : Nat) (58 : Int64)) ∈ lw_g := wt (List.mem_of_getElem? (i := 854) (by decide +kernel)) rfl
theorem wm_855 : (Cond.constantLong "StepProgramsModel" (111 : Nat) (65 : Int64)) ∈ lw_g := wt (List.mem_of_getElem? (i := 855) (by decide +kernel)) rfl
theorem wm_856 : (Cond.constantLong "StepProgramsModel" (113 : Nat) (90 : Int64)) ∈ lw_g := wt (List.mem_of_getElem? (i := 856) (by decide +kernel)) rfl
theorem wm_857 : (Cond.methodLink "StepProgramsModel" (200 : Nat) ({ cls := "StepProgramsModel", name := "isStatement", desc := "()Z" } : MethodName)) ∈ lw_g := wt (List.mem_of_getElem? (i := 857) (by decide +kernel)) rfl
theorem wm_859 : (Cond.instanceMethod ({ cls := "StepProgramsModel", name := "isStatement", desc := "()Z" } : MethodName)) ∈ lw_g := wt (List.mem_of_getElem? (i := 859) (by decide +kernel)) rfl
set_option maxRecDepth 100000 in
theorem wm_860 : (Cond.code ({ cls := "StepProgramsModel", name := "isStatement", desc := "()Z" } : MethodName) prog_11_method_15_code (3 : Nat) (Option.some FieldType.boolean)) ∈ lw_g := wt (List.mem_of_getElem? (i := 860) rfl) rfl
theorem wm_861 : (Cond.constantLong "StepProgramsModel" (146 : Nat) (7103860 : Int64)) ∈ lw_g := wt (List.mem_of_getElem? (i := 861) (by decide +kernel)) rfl
theorem wm_862 : (Cond.methodLink "StepProgramsModel" (148 : Nat) ({ cls := "StepProgramsModel", name := "isSign", desc := "(I)Z" } : MethodName)) ∈ lw_g := wt (List.mem_of_getElem? (i := 862) (by decide +kernel)) rfl
theorem wm_864 : (Cond.instanceMethod ({ cls := "StepProgramsModel", name := "isSign", desc := "(I)Z" } : MethodName)) ∈ lw_g := wt (List.mem_of_getElem? (i := 864) (by decide +kernel)) rfl
set_option maxRecDepth 100000 in
theorem wm_865 : (Cond.code ({ cls := "StepProgramsModel", name := "isSign", desc := "(I)Z" } : MethodName) prog_11_method_12_code (4 : Nat) (Option.some FieldType.boolean)) ∈ lw_g := wt (List.mem_of_getElem? (i := 865) rfl) rfl
theorem wm_866 : (Cond.constantLong "StepProgramsModel" (122 : Nat) (43 : Int64)) ∈ lw_g := wt (List.mem_of_getElem? (i := 866) (by decide +kernel)) rfl
theorem wm_867 : (Cond.constantLong "StepProgramsModel" (124 : Nat) (45 : Int64)) ∈ lw_g := wt (List.mem_of_getElem? (i := 867) (by decide +kernel)) rfl
theorem wm_868 : (Cond.constantLong "StepProgramsModel" (126 : Nat) (42 : Int64)) ∈ lw_g := wt (List.mem_of_getElem? (i := 868) (by decide +kernel)) rfl
theorem wm_869 : (Cond.constantLong "StepProgramsModel" (128 : Nat) (47 : Int64)) ∈ lw_g := wt (List.mem_of_getElem? (i := 869) (by decide +kernel)) rfl
theorem wm_870 : (Cond.constantLong "StepProgramsModel" (130 : Nat) (37 : Int64)) ∈ lw_g := wt (List.mem_of_getElem? (i := 870) (by decide +kernel)) rfl
theorem wm_871 : (Cond.constantLong "StepProgramsModel" (132 : Nat) (38 : Int64)) ∈ lw_g := wt (List.mem_of_getElem? (i := 871) (by decide +kernel)) rfl
theorem wm_872 : (Cond.constantLong "StepProgramsModel" (134 : Nat) (124 : Int64)) ∈ lw_g := wt (List.mem_of_getElem? (i := 872) (by decide +kernel)) rfl
theorem wm_873 : (Cond.constantLong "StepProgramsModel" (136 : Nat) (94 : Int64)) ∈ lw_g := wt (List.mem_of_getElem? (i := 873) (by decide +kernel)) rfl
theorem wm_874 : (Cond.constantLong "StepProgramsModel" (138 : Nat) (60 : Int64)) ∈ lw_g := wt (List.mem_of_getElem? (i := 874) (by decide +kernel)) rfl
theorem wm_875 : (Cond.constantLong "StepProgramsModel" (140 : Nat) (61 : Int64)) ∈ lw_g := wt (List.mem_of_getElem? (i := 875) (by decide +kernel)) rfl
theorem wm_876 : (Cond.methodLink "StepProgramsModel" (151 : Nat) ({ cls := "StepProgramsModel", name := "isValue", desc := "(I)Z" } : MethodName)) ∈ lw_g := wt (List.mem_of_getElem? (i := 876) (by decide +kernel)) rfl
theorem wm_878 : (Cond.instanceMethod ({ cls := "StepProgramsModel", name := "isValue", desc := "(I)Z" } : MethodName)) ∈ lw_g := wt (List.mem_of_getElem? (i := 878) (by decide +kernel)) rfl
set_option maxRecDepth 100000 in
theorem wm_879 : (Cond.code ({ cls := "StepProgramsModel", name := "isValue", desc := "(I)Z" } : MethodName) prog_11_method_11_code (2 : Nat) (Option.some FieldType.boolean)) ∈ lw_g := wt (List.mem_of_getElem? (i := 879) rfl) rfl
theorem wm_880 : (Cond.methodLink "StepProgramsModel" (115 : Nat) ({ cls := "StepProgramsModel", name := "isRegister", desc := "(I)Z" } : MethodName)) ∈ lw_g := wt (List.mem_of_getElem? (i := 880) (by decide +kernel)) rfl
theorem wm_882 : (Cond.instanceMethod ({ cls := "StepProgramsModel", name := "isRegister", desc := "(I)Z" } : MethodName)) ∈ lw_g := wt (List.mem_of_getElem? (i := 882) (by decide +kernel)) rfl
set_option maxRecDepth 100000 in
theorem wm_883 : (Cond.code ({ cls := "StepProgramsModel", name := "isRegister", desc := "(I)Z" } : MethodName) prog_11_method_8_code (2 : Nat) (Option.some FieldType.boolean)) ∈ lw_g := wt (List.mem_of_getElem? (i := 883) rfl) rfl
theorem wm_884 : (Cond.constantLong "StepProgramsModel" (107 : Nat) (97 : Int64)) ∈ lw_g := wt (List.mem_of_getElem? (i := 884) (by decide +kernel)) rfl
theorem wm_885 : (Cond.constantLong "StepProgramsModel" (109 : Nat) (104 : Int64)) ∈ lw_g := wt (List.mem_of_getElem? (i := 885) (by decide +kernel)) rfl
theorem wm_886 : (Cond.methodLink "StepProgramsModel" (119 : Nat) ({ cls := "StepProgramsModel", name := "isNumber", desc := "(I)Z" } : MethodName)) ∈ lw_g := wt (List.mem_of_getElem? (i := 886) (by decide +kernel)) rfl
theorem wm_888 : (Cond.instanceMethod ({ cls := "StepProgramsModel", name := "isNumber", desc := "(I)Z" } : MethodName)) ∈ lw_g := wt (List.mem_of_getElem? (i := 888) (by decide +kernel)) rfl
set_option maxRecDepth 100000 in
theorem wm_889 : (Cond.code ({ cls := "StepProgramsModel", name := "isNumber", desc := "(I)Z" } : MethodName) prog_11_method_10_code (4 : Nat) (Option.some FieldType.boolean)) ∈ lw_g := wt (List.mem_of_getElem? (i := 889) rfl) rfl
theorem wm_890 : (Cond.constantLong "StepProgramsModel" (154 : Nat) (6776180 : Int64)) ∈ lw_g := wt (List.mem_of_getElem? (i := 890) (by decide +kernel)) rfl
theorem wm_891 : (Cond.constantLong "StepProgramsModel" (156 : Nat) (1936292453 : Int64)) ∈ lw_g := wt (List.mem_of_getElem? (i := 891) (by decide +kernel)) rfl
theorem wm_892 : (Cond.constantLong "StepProgramsModel" (158 : Nat) (6386539 : Int64)) ∈ lw_g := wt (List.mem_of_getElem? (i := 892) (by decide +kernel)) rfl
theorem wm_893 : (Cond.constantLong "StepProgramsModel" (160 : Nat) (7370100 : Int64)) ∈ lw_g := wt (List.mem_of_getElem? (i := 893) (by decide +kernel)) rfl
theorem wm_894 : (Cond.constantLong "StepProgramsModel" (162 : Nat) (513020621925 : Int64)) ∈ lw_g := wt (List.mem_of_getElem? (i := 894) (by decide +kernel)) rfl
theorem wm_895 : (Cond.constantLong "StepProgramsModel" (164 : Nat) (1668247673 : Int64)) ∈ lw_g := wt (List.mem_of_getElem? (i := 895) (by decide +kernel)) rfl
theorem wm_896 : (Cond.constantLong "StepProgramsModel" (166 : Nat) (1919246692 : Int64)) ∈ lw_g := wt (List.mem_of_getElem? (i := 896) (by decide +kernel)) rfl
theorem wm_897 : (Cond.constantLong "StepProgramsModel" (168 : Nat) (7501166 : Int64)) ∈ lw_g := wt (List.mem_of_getElem? (i := 897) (by decide +kernel)) rfl
theorem wm_898 : (Cond.constantLong "StepProgramsModel" (170 : Nat) (1685221232 : Int64)) ∈ lw_g := wt (List.mem_of_getElem? (i := 898) (by decide +kernel)) rfl
theorem wm_899 : (Cond.constantLong "StepProgramsModel" (172 : Nat) (7304564 : Int64)) ∈ lw_g := wt (List.mem_of_getElem? (i := 899) (by decide +kernel)) rfl
theorem wm_900 : (Cond.constantLong "StepProgramsModel" (174 : Nat) (6648434 : Int64)) ∈ lw_g := wt (List.mem_of_getElem? (i := 900) (by decide +kernel)) rfl
theorem wm_901 : (Cond.constantLong "StepProgramsModel" (176 : Nat) (1702390132 : Int64)) ∈ lw_g := wt (List.mem_of_getElem? (i := 901) (by decide +kernel)) rfl
theorem wm_902 : (Cond.constantLong "StepProgramsModel" (178 : Nat) (26479 : Int64)) ∈ lw_g := wt (List.mem_of_getElem? (i := 902) (by decide +kernel)) rfl
theorem wm_903 : (Cond.constantLong "StepProgramsModel" (180 : Nat) (1667329132 : Int64)) ∈ lw_g := wt (List.mem_of_getElem? (i := 903) (by decide +kernel)) rfl
theorem wm_904 : (Cond.methodLink "StepProgramsModel" (182 : Nat) ({ cls := "StepProgramsModel", name := "isLetter", desc := "(I)Z" } : MethodName)) ∈ lw_g := wt (List.mem_of_getElem? (i := 904) (by decide +kernel)) rfl
theorem wm_906 : (Cond.instanceMethod ({ cls := "StepProgramsModel", name := "isLetter", desc := "(I)Z" } : MethodName)) ∈ lw_g := wt (List.mem_of_getElem? (i := 906) (by decide +kernel)) rfl
set_option maxRecDepth 100000 in
theorem wm_907 : (Cond.code ({ cls := "StepProgramsModel", name := "isLetter", desc := "(I)Z" } : MethodName) prog_11_method_9_code (2 : Nat) (Option.some FieldType.boolean)) ∈ lw_g := wt (List.mem_of_getElem? (i := 907) rfl) rfl
theorem wm_908 : (Cond.constantLong "StepProgramsModel" (185 : Nat) (26982 : Int64)) ∈ lw_g := wt (List.mem_of_getElem? (i := 908) (by decide +kernel)) rfl
theorem wm_909 : (Cond.methodLink "StepProgramsModel" (187 : Nat) ({ cls := "StepProgramsModel", name := "isComparison", desc := "(I)Z" } : MethodName)) ∈ lw_g := wt (List.mem_of_getElem? (i := 909) (by decide +kernel)) rfl
theorem wm_911 : (Cond.instanceMethod ({ cls := "StepProgramsModel", name := "isComparison", desc := "(I)Z" } : MethodName)) ∈ lw_g := wt (List.mem_of_getElem? (i := 911) (by decide +kernel)) rfl
set_option maxRecDepth 100000 in
theorem wm_912 : (Cond.code ({ cls := "StepProgramsModel", name := "isComparison", desc := "(I)Z" } : MethodName) prog_11_method_13_code (2 : Nat) (Option.some FieldType.boolean)) ∈ lw_g := wt (List.mem_of_getElem? (i := 912) rfl) rfl
theorem wm_913 : (Cond.constantLong "StepProgramsModel" (142 : Nat) (62 : Int64)) ∈ lw_g := wt (List.mem_of_getElem? (i := 913) (by decide +kernel)) rfl
theorem wm_914 : (Cond.constantLong "StepProgramsModel" (190 : Nat) (1650549611 : Int64)) ∈ lw_g := wt (List.mem_of_getElem? (i := 914) (by decide +kernel)) rfl
theorem wm_915 : (Cond.methodLink "StepProgramsModel" (203 : Nat) ({ cls := "StepProgramsModel", name := "goal", desc := "()I" } : MethodName)) ∈ lw_g := wt (List.mem_of_getElem? (i := 915) (by decide +kernel)) rfl
theorem wm_917 : (Cond.instanceMethod ({ cls := "StepProgramsModel", name := "goal", desc := "()I" } : MethodName)) ∈ lw_g := wt (List.mem_of_getElem? (i := 917) (by decide +kernel)) rfl
set_option maxRecDepth 100000 in
theorem wm_918 : (Cond.code ({ cls := "StepProgramsModel", name := "goal", desc := "()I" } : MethodName) prog_11_method_16_code (1 : Nat) (Option.some FieldType.int)) ∈ lw_g := wt (List.mem_of_getElem? (i := 918) rfl) rfl
theorem wm_919 : (Cond.methodLink "StepProgramsModel" (99 : Nat) ({ cls := "StepProgramsModel", name := "keep", desc := "(I)V" } : MethodName)) ∈ lw_g := wt (List.mem_of_getElem? (i := 919) (by decide +kernel)) rfl
theorem wm_921 : (Cond.instanceMethod ({ cls := "StepProgramsModel", name := "keep", desc := "(I)V" } : MethodName)) ∈ lw_g := wt (List.mem_of_getElem? (i := 921) (by decide +kernel)) rfl
set_option maxRecDepth 100000 in
theorem wm_922 : (Cond.code ({ cls := "StepProgramsModel", name := "keep", desc := "(I)V" } : MethodName) prog_11_method_6_code (3 : Nat) (Option.none : Option FieldType)) ∈ lw_g := wt (List.mem_of_getElem? (i := 922) rfl) rfl
theorem wm_927 : (Cond.methodLink "StepProgramsModel" (206 : Nat) ({ cls := "StepProgramsModel", name := "isFile", desc := "(I)Z" } : MethodName)) ∈ lw_g := wt (List.mem_of_getElem? (i := 927) (by decide +kernel)) rfl
theorem wm_928 : (Cond.static ({ cls := "StepProgramsModel", name := "isFile", desc := "(I)Z" } : MethodName)) ∈ lw_g := wt (List.mem_of_getElem? (i := 928) (by decide +kernel)) rfl
set_option maxRecDepth 100000 in
theorem wm_929 : (Cond.code ({ cls := "StepProgramsModel", name := "isFile", desc := "(I)Z" } : MethodName) prog_11_method_18_code (1 : Nat) (Option.some FieldType.boolean)) ∈ lw_g := wt (List.mem_of_getElem? (i := 929) rfl) rfl
theorem wm_930 : (Cond.methodLink "StepProgramsModel" (209 : Nat) ({ cls := "StepProgramsModel", name := "append", desc := "(II)V" } : MethodName)) ∈ lw_g := wt (List.mem_of_getElem? (i := 930) (by decide +kernel)) rfl
theorem wm_932 : (Cond.instanceMethod ({ cls := "StepProgramsModel", name := "append", desc := "(II)V" } : MethodName)) ∈ lw_g := wt (List.mem_of_getElem? (i := 932) (by decide +kernel)) rfl
set_option maxRecDepth 100000 in
theorem wm_933 : (Cond.code ({ cls := "StepProgramsModel", name := "append", desc := "(II)V" } : MethodName) prog_11_method_20_code (3 : Nat) (Option.none : Option FieldType)) ∈ lw_g := wt (List.mem_of_getElem? (i := 933) rfl) rfl
theorem wm_946 : (Cond.methodLink "StepProgramsModel" (212 : Nat) ({ cls := "StepProgramsModel", name := "isProgram", desc := "(I)Z" } : MethodName)) ∈ lw_g := wt (List.mem_of_getElem? (i := 946) (by decide +kernel)) rfl
theorem wm_948 : (Cond.instanceMethod ({ cls := "StepProgramsModel", name := "isProgram", desc := "(I)Z" } : MethodName)) ∈ lw_g := wt (List.mem_of_getElem? (i := 948) (by decide +kernel)) rfl
set_option maxRecDepth 100000 in
theorem wm_949 : (Cond.code ({ cls := "StepProgramsModel", name := "isProgram", desc := "(I)Z" } : MethodName) prog_11_method_23_code (2 : Nat) (Option.some FieldType.boolean)) ∈ lw_g := wt (List.mem_of_getElem? (i := 949) rfl) rfl
theorem wm_950 : (Cond.methodLink "StepProgramsModel" (234 : Nat) ({ cls := "StepProgramsModel", name := "begin", desc := "(III)V" } : MethodName)) ∈ lw_g := wt (List.mem_of_getElem? (i := 950) (by decide +kernel)) rfl
theorem wm_952 : (Cond.instanceMethod ({ cls := "StepProgramsModel", name := "begin", desc := "(III)V" } : MethodName)) ∈ lw_g := wt (List.mem_of_getElem? (i := 952) (by decide +kernel)) rfl
set_option maxRecDepth 100000 in
theorem wm_953 : (Cond.code ({ cls := "StepProgramsModel", name := "begin", desc := "(III)V" } : MethodName) prog_11_method_25_code (5 : Nat) (Option.none : Option FieldType)) ∈ lw_g := wt (List.mem_of_getElem? (i := 953) rfl) rfl
theorem wm_954 : (Cond.methodLink "StepProgramsModel" (241 : Nat) ({ cls := "StepProgramsModel", name := "comesToStatement", desc := "()Z" } : MethodName)) ∈ lw_g := wt (List.mem_of_getElem? (i := 954) (by decide +kernel)) rfl
theorem wm_956 : (Cond.instanceMethod ({ cls := "StepProgramsModel", name := "comesToStatement", desc := "()Z" } : MethodName)) ∈ lw_g := wt (List.mem_of_getElem? (i := 956) (by decide +kernel)) rfl
set_option maxRecDepth 100000 in
theorem wm_957 : (Cond.code ({ cls := "StepProgramsModel", name := "comesToStatement", desc := "()Z" } : MethodName) prog_11_method_26_code (2 : Nat) (Option.some FieldType.boolean)) ∈ lw_g := wt (List.mem_of_getElem? (i := 957) rfl) rfl
theorem wm_958 : (Cond.methodLink "StepProgramsModel" (244 : Nat) ({ cls := "StepProgramsModel", name := "work", desc := "(I)I" } : MethodName)) ∈ lw_g := wt (List.mem_of_getElem? (i := 958) (by decide +kernel)) rfl
theorem wm_960 : (Cond.instanceMethod ({ cls := "StepProgramsModel", name := "work", desc := "(I)I" } : MethodName)) ∈ lw_g := wt (List.mem_of_getElem? (i := 960) (by decide +kernel)) rfl
set_option maxRecDepth 100000 in
theorem wm_961 : (Cond.code ({ cls := "StepProgramsModel", name := "work", desc := "(I)I" } : MethodName) prog_11_method_33_code (4 : Nat) (Option.some FieldType.int)) ∈ lw_g := wt (List.mem_of_getElem? (i := 961) rfl) rfl
theorem wm_962 : (Cond.methodLink "StepProgramsModel" (260 : Nat) ({ cls := "StepProgramsModel", name := "let", desc := "(I)I" } : MethodName)) ∈ lw_g := wt (List.mem_of_getElem? (i := 962) (by decide +kernel)) rfl
theorem wm_964 : (Cond.instanceMethod ({ cls := "StepProgramsModel", name := "let", desc := "(I)I" } : MethodName)) ∈ lw_g := wt (List.mem_of_getElem? (i := 964) (by decide +kernel)) rfl
set_option maxRecDepth 100000 in
theorem wm_965 : (Cond.code ({ cls := "StepProgramsModel", name := "let", desc := "(I)I" } : MethodName) prog_11_method_35_code (5 : Nat) (Option.some FieldType.int)) ∈ lw_g := wt (List.mem_of_getElem? (i := 965) rfl) rfl
theorem wm_966 : (Cond.methodLink "StepProgramsModel" (263 : Nat) ({ cls := "StepProgramsModel", name := "value", desc := "(II)I" } : MethodName)) ∈ lw_g := wt (List.mem_of_getElem? (i := 966) (by decide +kernel)) rfl
theorem wm_968 : (Cond.instanceMethod ({ cls := "StepProgramsModel", name := "value", desc := "(II)I" } : MethodName)) ∈ lw_g := wt (List.mem_of_getElem? (i := 968) (by decide +kernel)) rfl
set_option maxRecDepth 100000 in
theorem wm_969 : (Cond.code ({ cls := "StepProgramsModel", name := "value", desc := "(II)I" } : MethodName) prog_11_method_29_code (6 : Nat) (Option.some FieldType.int)) ∈ lw_g := wt (List.mem_of_getElem? (i := 969) rfl) rfl
theorem wm_970 : (Cond.methodLink "StepProgramsModel" (254 : Nat) ({ cls := "StepProgramsModel", name := "registerOf", desc := "(I)I" } : MethodName)) ∈ lw_g := wt (List.mem_of_getElem? (i := 970) (by decide +kernel)) rfl
theorem wm_972 : (Cond.instanceMethod ({ cls := "StepProgramsModel", name := "registerOf", desc := "(I)I" } : MethodName)) ∈ lw_g := wt (List.mem_of_getElem? (i := 972) (by decide +kernel)) rfl
set_option maxRecDepth 100000 in
theorem wm_973 : (Cond.code ({ cls := "StepProgramsModel", name := "registerOf", desc := "(I)I" } : MethodName) prog_11_method_27_code (2 : Nat) (Option.some FieldType.int)) ∈ lw_g := wt (List.mem_of_getElem? (i := 973) rfl) rfl
theorem wm_974 : (Cond.methodLink "StepProgramsModel" (267 : Nat) ({ cls := "StepProgramsModel", name := "gives", desc := "(II)I" } : MethodName)) ∈ lw_g := wt (List.mem_of_getElem? (i := 974) (by decide +kernel)) rfl
theorem wm_976 : (Cond.instanceMethod ({ cls := "StepProgramsModel", name := "gives", desc := "(II)I" } : MethodName)) ∈ lw_g := wt (List.mem_of_getElem? (i := 976) (by decide +kernel)) rfl
set_option maxRecDepth 100000 in
theorem wm_977 : (Cond.code ({ cls := "StepProgramsModel", name := "gives", desc := "(II)I" } : MethodName) prog_11_method_30_code (3 : Nat) (Option.some FieldType.int)) ∈ lw_g := wt (List.mem_of_getElem? (i := 977) rfl) rfl
theorem wm_978 : (Cond.methodLink "StepProgramsModel" (248 : Nat) ({ cls := "StepProgramsModel", name := "set", desc := "(III)V" } : MethodName)) ∈ lw_g := wt (List.mem_of_getElem? (i := 978) (by decide +kernel)) rfl
theorem wm_980 : (Cond.instanceMethod ({ cls := "StepProgramsModel", name := "set", desc := "(III)V" } : MethodName)) ∈ lw_g := wt (List.mem_of_getElem? (i := 980) (by decide +kernel)) rfl
set_option maxRecDepth 100000 in
theorem wm_981 : (Cond.code ({ cls := "StepProgramsModel", name := "set", desc := "(III)V" } : MethodName) prog_11_method_28_code (4 : Nat) (Option.none : Option FieldType)) ∈ lw_g := wt (List.mem_of_getElem? (i := 981) rfl) rfl
theorem wm_982 : (Cond.methodLink "StepProgramsModel" (257 : Nat) ({ cls := "StepProgramsModel", name := "goesOn", desc := "(I)I" } : MethodName)) ∈ lw_g := wt (List.mem_of_getElem? (i := 982) (by decide +kernel)) rfl
theorem wm_984 : (Cond.instanceMethod ({ cls := "StepProgramsModel", name := "goesOn", desc := "(I)I" } : MethodName)) ∈ lw_g := wt (List.mem_of_getElem? (i := 984) (by decide +kernel)) rfl
set_option maxRecDepth 100000 in
theorem wm_985 : (Cond.code ({ cls := "StepProgramsModel", name := "goesOn", desc := "(I)I" } : MethodName) prog_11_method_31_code (2 : Nat) (Option.some FieldType.int)) ∈ lw_g := wt (List.mem_of_getElem? (i := 985) rfl) rfl
theorem wm_986 : (Cond.methodLink "StepProgramsModel" (270 : Nat) ({ cls := "StepProgramsModel", name := "put", desc := "(III)I" } : MethodName)) ∈ lw_g := wt (List.mem_of_getElem? (i := 986) (by decide +kernel)) rfl
theorem wm_988 : (Cond.instanceMethod ({ cls := "StepProgramsModel", name := "put", desc := "(III)I" } : MethodName)) ∈ lw_g := wt (List.mem_of_getElem? (i := 988) (by decide +kernel)) rfl
set_option maxRecDepth 100000 in
theorem wm_989 : (Cond.code ({ cls := "StepProgramsModel", name := "put", desc := "(III)I" } : MethodName) prog_11_method_36_code (4 : Nat) (Option.some FieldType.int)) ∈ lw_g := wt (List.mem_of_getElem? (i := 989) rfl) rfl
theorem wm_990 : (Cond.methodLink "StepProgramsModel" (274 : Nat) ({ cls := "StepProgramsModel", name := "withFiles", desc := "(I)I" } : MethodName)) ∈ lw_g := wt (List.mem_of_getElem? (i := 990) (by decide +kernel)) rfl
theorem wm_992 : (Cond.instanceMethod ({ cls := "StepProgramsModel", name := "withFiles", desc := "(I)I" } : MethodName)) ∈ lw_g := wt (List.mem_of_getElem? (i := 992) (by decide +kernel)) rfl
set_option maxRecDepth 100000 in
theorem wm_993 : (Cond.code ({ cls := "StepProgramsModel", name := "withFiles", desc := "(I)I" } : MethodName) prog_11_method_37_code (5 : Nat) (Option.some FieldType.int)) ∈ lw_g := wt (List.mem_of_getElem? (i := 993) rfl) rfl
theorem wm_994 : (Cond.methodLink "StepProgramsModel" (299 : Nat) ({ cls := "StepProgramsModel", name := "read", desc := "(III)I" } : MethodName)) ∈ lw_g := wt (List.mem_of_getElem? (i := 994) (by decide +kernel)) rfl
theorem wm_996 : (Cond.instanceMethod ({ cls := "StepProgramsModel", name := "read", desc := "(III)I" } : MethodName)) ∈ lw_g := wt (List.mem_of_getElem? (i := 996) (by decide +kernel)) rfl
set_option maxRecDepth 100000 in
theorem wm_997 : (Cond.code ({ cls := "StepProgramsModel", name := "read", desc := "(III)I" } : MethodName) prog_11_method_38_code (4 : Nat) (Option.some FieldType.int)) ∈ lw_g := wt (List.mem_of_getElem? (i := 997) rfl) rfl
theorem wm_998 : (Cond.methodLink "StepProgramsModel" (302 : Nat) ({ cls := "StepProgramsModel", name := "write", desc := "(III)I" } : MethodName)) ∈ lw_g := wt (List.mem_of_getElem? (i := 998) (by decide +kernel)) rfl
theorem wm_1000 : (Cond.instanceMethod ({ cls := "StepProgramsModel", name := "write", desc := "(III)I" } : MethodName)) ∈ lw_g := wt (List.mem_of_getElem? (i := 1000) (by decide +kernel)) rfl
set_option maxRecDepth 100000 in
theorem wm_1001 : (Cond.code ({ cls := "StepProgramsModel", name := "write", desc := "(III)I" } : MethodName) prog_11_method_39_code (4 : Nat) (Option.some FieldType.int)) ∈ lw_g := wt (List.mem_of_getElem? (i := 1001) rfl) rfl
theorem wm_1002 : (Cond.methodLink "StepProgramsModel" (305 : Nat) ({ cls := "StepProgramsModel", name := "copy", desc := "(III)I" } : MethodName)) ∈ lw_g := wt (List.mem_of_getElem? (i := 1002) (by decide +kernel)) rfl
theorem wm_1004 : (Cond.instanceMethod ({ cls := "StepProgramsModel", name := "copy", desc := "(III)I" } : MethodName)) ∈ lw_g := wt (List.mem_of_getElem? (i := 1004) (by decide +kernel)) rfl
set_option maxRecDepth 100000 in
theorem wm_1005 : (Cond.code ({ cls := "StepProgramsModel", name := "copy", desc := "(III)I" } : MethodName) prog_11_method_40_code (5 : Nat) (Option.some FieldType.int)) ∈ lw_g := wt (List.mem_of_getElem? (i := 1005) rfl) rfl
theorem wm_1006 : (Cond.methodLink "StepProgramsModel" (277 : Nat) ({ cls := "StepProgramsModel", name := "says", desc := "(IZI)I" } : MethodName)) ∈ lw_g := wt (List.mem_of_getElem? (i := 1006) (by decide +kernel)) rfl
theorem wm_1008 : (Cond.instanceMethod ({ cls := "StepProgramsModel", name := "says", desc := "(IZI)I" } : MethodName)) ∈ lw_g := wt (List.mem_of_getElem? (i := 1008) (by decide +kernel)) rfl
set_option maxRecDepth 100000 in
theorem wm_1009 : (Cond.code ({ cls := "StepProgramsModel", name := "says", desc := "(IZI)I" } : MethodName) prog_11_method_41_code (4 : Nat) (Option.some FieldType.int)) ∈ lw_g := wt (List.mem_of_getElem? (i := 1009) rfl) rfl
theorem wm_1010 : (Cond.methodLink "StepProgramsModel" (281 : Nat) ({ cls := "StepProgramsModel", name := "goesTo", desc := "(II)I" } : MethodName)) ∈ lw_g := wt (List.mem_of_getElem? (i := 1010) (by decide +kernel)) rfl
theorem wm_1012 : (Cond.instanceMethod ({ cls := "StepProgramsModel", name := "goesTo", desc := "(II)I" } : MethodName)) ∈ lw_g := wt (List.mem_of_getElem? (i := 1012) (by decide +kernel)) rfl
set_option maxRecDepth 100000 in
theorem wm_1013 : (Cond.code ({ cls := "StepProgramsModel", name := "goesTo", desc := "(II)I" } : MethodName) prog_11_method_32_code (3 : Nat) (Option.some FieldType.int)) ∈ lw_g := wt (List.mem_of_getElem? (i := 1013) rfl) rfl
theorem wm_1014 : (Cond.methodLink "StepProgramsModel" (284 : Nat) ({ cls := "StepProgramsModel", name := "isSo", desc := "(III)Z" } : MethodName)) ∈ lw_g := wt (List.mem_of_getElem? (i := 1014) (by decide +kernel)) rfl
theorem wm_1015 : (Cond.static ({ cls := "StepProgramsModel", name := "isSo", desc := "(III)Z" } : MethodName)) ∈ lw_g := wt (List.mem_of_getElem? (i := 1015) (by decide +kernel)) rfl
set_option maxRecDepth 100000 in
theorem wm_1016 : (Cond.code ({ cls := "StepProgramsModel", name := "isSo", desc := "(III)Z" } : MethodName) prog_11_method_34_code (3 : Nat) (Option.some FieldType.boolean)) ∈ lw_g := wt (List.mem_of_getElem? (i := 1016) rfl) rfl
theorem wm_1017 : (Cond.methodLink "StepProgramsModel" (287 : Nat) ({ cls := "StepProgramsModel", name := "call", desc := "(I)I" } : MethodName)) ∈ lw_g := wt (List.mem_of_getElem? (i := 1017) (by decide +kernel)) rfl
theorem wm_1019 : (Cond.instanceMethod ({ cls := "StepProgramsModel", name := "call", desc := "(I)I" } : MethodName)) ∈ lw_g := wt (List.mem_of_getElem? (i := 1019) (by decide +kernel)) rfl
set_option maxRecDepth 100000 in
theorem wm_1020 : (Cond.code ({ cls := "StepProgramsModel", name := "call", desc := "(I)I" } : MethodName) prog_11_method_42_code (2 : Nat) (Option.some FieldType.int)) ∈ lw_g := wt (List.mem_of_getElem? (i := 1020) rfl) rfl
theorem wm_1021 : (Cond.methodLink "StepProgramsModel" (290 : Nat) ({ cls := "StepProgramsModel", name := "back", desc := "(I)I" } : MethodName)) ∈ lw_g := wt (List.mem_of_getElem? (i := 1021) (by decide +kernel)) rfl
theorem wm_1023 : (Cond.instanceMethod ({ cls := "StepProgramsModel", name := "back", desc := "(I)I" } : MethodName)) ∈ lw_g := wt (List.mem_of_getElem? (i := 1023) (by decide +kernel)) rfl
set_option maxRecDepth 100000 in
theorem wm_1024 : (Cond.code ({ cls := "StepProgramsModel", name := "back", desc := "(I)I" } : MethodName) prog_11_method_43_code (2 : Nat) (Option.some FieldType.int)) ∈ lw_g := wt (List.mem_of_getElem? (i := 1024) rfl) rfl
theorem wm_1025 : (Cond.methodLink "StepProgramsModel" (293 : Nat) ({ cls := "StepProgramsModel", name := "child", desc := "(III)I" } : MethodName)) ∈ lw_g := wt (List.mem_of_getElem? (i := 1025) (by decide +kernel)) rfl
theorem wm_1027 : (Cond.instanceMethod ({ cls := "StepProgramsModel", name := "child", desc := "(III)I" } : MethodName)) ∈ lw_g := wt (List.mem_of_getElem? (i := 1027) (by decide +kernel)) rfl
set_option maxRecDepth 100000 in
theorem wm_1028 : (Cond.code ({ cls := "StepProgramsModel", name := "child", desc := "(III)I" } : MethodName) prog_11_method_44_code (4 : Nat) (Option.some FieldType.int)) ∈ lw_g := wt (List.mem_of_getElem? (i := 1028) rfl) rfl
theorem wm_1029 : (Cond.methodLink "StepProgramsModel" (296 : Nat) ({ cls := "StepProgramsModel", name := "ask", desc := "(II)I" } : MethodName)) ∈ lw_g := wt (List.mem_of_getElem? (i := 1029) (by decide +kernel)) rfl
theorem wm_1031 : (Cond.instanceMethod ({ cls := "StepProgramsModel", name := "ask", desc := "(II)I" } : MethodName)) ∈ lw_g := wt (List.mem_of_getElem? (i := 1031) (by decide +kernel)) rfl
set_option maxRecDepth 100000 in
theorem wm_1032 : (Cond.code ({ cls := "StepProgramsModel", name := "ask", desc := "(II)I" } : MethodName) prog_11_method_45_code (3 : Nat) (Option.some FieldType.int)) ∈ lw_g := wt (List.mem_of_getElem? (i := 1032) rfl) rfl
theorem sel_M_isRegister : Cond.selects R_M y_M_isRegister y_M_isRegister ∈ lw_g := ws_sel (by decide +kernel) rfl
theorem sel_M_isNumber : Cond.selects R_M y_M_isNumber y_M_isNumber ∈ lw_g := ws_sel (by decide +kernel) rfl
theorem sel_M_isLetter : Cond.selects R_M y_M_isLetter y_M_isLetter ∈ lw_g := ws_sel (by decide +kernel) rfl
theorem sel_M_isValue : Cond.selects R_M y_M_isValue y_M_isValue ∈ lw_g := ws_sel (by decide +kernel) rfl
theorem sel_M_isComparison : Cond.selects R_M y_M_isComparison y_M_isComparison ∈ lw_g := ws_sel (by decide +kernel) rfl
theorem sel_M_isSign : Cond.selects R_M y_M_isSign y_M_isSign ∈ lw_g := ws_sel (by decide +kernel) rfl
theorem sel_M_split : Cond.selects R_M y_M_split y_M_split ∈ lw_g := ws_sel (by decide +kernel) rfl
theorem sel_M_isLabel : Cond.selects R_M y_M_isLabel y_M_isLabel ∈ lw_g := ws_sel (by decide +kernel) rfl
theorem sel_M_goal : Cond.selects R_M y_M_goal y_M_goal ∈ lw_g := ws_sel (by decide +kernel) rfl
theorem sel_M_isStatement : Cond.selects R_M y_M_isStatement y_M_isStatement ∈ lw_g := ws_sel (by decide +kernel) rfl
theorem sel_M_layLines : Cond.selects R_M y_M_layLines y_M_layLines ∈ lw_g := ws_sel (by decide +kernel) rfl
theorem sel_M_ill : Cond.selects R_M y_M_ill y_M_ill ∈ lw_g := ws_sel (by decide +kernel) rfl
theorem sel_M_keep : Cond.selects R_M y_M_keep y_M_keep ∈ lw_g := ws_sel (by decide +kernel) rfl
theorem sel_M_append : Cond.selects R_M y_M_append y_M_append ∈ lw_g := ws_sel (by decide +kernel) rfl
theorem sel_M_registerOf : Cond.selects R_M y_M_registerOf y_M_registerOf ∈ lw_g := ws_sel (by decide +kernel) rfl
theorem sel_M_set : Cond.selects R_M y_M_set y_M_set ∈ lw_g := ws_sel (by decide +kernel) rfl
theorem sel_M_goesOn : Cond.selects R_M y_M_goesOn y_M_goesOn ∈ lw_g := ws_sel (by decide +kernel) rfl
theorem sel_M_gives : Cond.selects R_M y_M_gives y_M_gives ∈ lw_g := ws_sel (by decide +kernel) rfl
theorem sel_M_value : Cond.selects R_M y_M_value y_M_value ∈ lw_g := ws_sel (by decide +kernel) rfl
theorem sel_M_copy : Cond.selects R_M y_M_copy y_M_copy ∈ lw_g := ws_sel (by decide +kernel) rfl
theorem sel_M_write : Cond.selects R_M y_M_write y_M_write ∈ lw_g := ws_sel (by decide +kernel) rfl
theorem sel_M_read : Cond.selects R_M y_M_read y_M_read ∈ lw_g := ws_sel (by decide +kernel) rfl
theorem sel_M_goesTo : Cond.selects R_M y_M_goesTo y_M_goesTo ∈ lw_g := ws_sel (by decide +kernel) rfl
theorem sel_M_isProgram : Cond.selects R_M y_M_isProgram y_M_isProgram ∈ lw_g := ws_sel (by decide +kernel) rfl
theorem sel_M_begin : Cond.selects R_M y_M_begin y_M_begin ∈ lw_g := ws_sel (by decide +kernel) rfl
theorem sel_M_back : Cond.selects R_M y_M_back y_M_back ∈ lw_g := ws_sel (by decide +kernel) rfl
theorem sel_M_call : Cond.selects R_M y_M_call y_M_call ∈ lw_g := ws_sel (by decide +kernel) rfl
theorem sel_M_says : Cond.selects R_M y_M_says y_M_says ∈ lw_g := ws_sel (by decide +kernel) rfl
theorem sel_M_withFiles : Cond.selects R_M y_M_withFiles y_M_withFiles ∈ lw_g := ws_sel (by decide +kernel) rfl
theorem sel_M_ask : Cond.selects R_M y_M_ask y_M_ask ∈ lw_g := ws_sel (by decide +kernel) rfl
theorem sel_M_child : Cond.selects R_M y_M_child y_M_child ∈ lw_g := ws_sel (by decide +kernel) rfl
theorem sel_M_put : Cond.selects R_M y_M_put y_M_put ∈ lw_g := ws_sel (by decide +kernel) rfl
theorem sel_M_let : Cond.selects R_M y_M_let y_M_let ∈ lw_g := ws_sel (by decide +kernel) rfl
theorem sel_M_comesToStatement : Cond.selects R_M y_M_comesToStatement y_M_comesToStatement ∈ lw_g := ws_sel (by decide +kernel) rfl
theorem sel_M_work : Cond.selects R_M y_M_work y_M_work ∈ lw_g := ws_sel (by decide +kernel) rfl
theorem sel_Mach_answer : Cond.selects R_Mach y_Mach_answer y_Mach_answer ∈ lw_g := ws_sel (by decide +kernel) rfl
theorem sel_Tape_lengthOf : Cond.selects R_Tape y_Tape_lengthOf y_Tape_lengthOf ∈ lw_g := ws_sel (by decide +kernel) rfl
theorem sel_Tape_letterAt : Cond.selects R_Tape y_Tape_letterAt y_Tape_letterAt ∈ lw_g := ws_sel (by decide +kernel) rfl
theorem sel_Tape_onlyLetter : Cond.selects R_Tape y_Tape_onlyLetter y_Tape_onlyLetter ∈ lw_g := ws_sel (by decide +kernel) rfl
