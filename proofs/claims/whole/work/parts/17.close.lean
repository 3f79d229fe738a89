/-! the recursion of follow, closed by depth -/
def F_fol (S : hE) (g : Nat → Nat) (N : Nat) : Nat → Nat → Option Nat → Option Nat → Int32 → hE → Option (Int32 × hE)
  | 0 => fun _ _ _ _ _ => none
  | d + 1 => f_Mach_follow S g N (F_fol S g N d)
theorem c_fol {l : Launch} {D : va_G} {kA : Nat → ClassId} {S : hE} {g : Nat → Nat} {n0 : Nat} {N : Nat} : ∀ (d : Nat) {nx x0 : Nat} {x1 x2 : Option Nat} {x3 : Int32} {E : hE} {res : Int32 × hE}, F_fol S g N d x0 x1 x2 x3 E = some res → Met l y_Mach_follow ws_Mach_follow { frames := 4 * d, cells := 0, slots := 0, locals := 111 * d } (va_Pc [va_rf (some x0), va_rf x1, va_rf x2, .int x3] (hJ D kA S g n0 (E, nx))) (va_Qi (fun r w => r = res.1 ∧ w = (res.2, nx)) (hJ D kA S g n0) (fun q => n0 ≤ q)) 0 0 (fun q => n0 ≤ q) := by
  intro d
  induction d with
  | zero =>
    intro nx x0 x1 x2 x3 E res h
    simp [F_fol] at h
  | succ d ih =>
    intro nx x0 x1 x2 x3 E res h
    exact c_Mach_follow (fr := 4 * d) (lo := 111 * d) (fun {x0} {x1 x2} {x3} {E} {res} h => ih h) h
theorem c_fol4 {l : Launch} {D : va_G} {kA : Nat → ClassId} {S : hE} {g : Nat → Nat} {n0 : Nat} {N : Nat} {nx x0 : Nat} {x1 x2 : Option Nat} {x3 : Int32} {E : hE} {res : Int32 × hE} (h : F_fol S g N 4 x0 x1 x2 x3 E = some res) : Met l y_Mach_follow ws_Mach_follow { frames := 16, cells := 0, slots := 0, locals := 444 } (va_Pc [va_rf (some x0), va_rf x1, va_rf x2, .int x3] (hJ D kA S g n0 (E, nx))) (va_Qi (fun r w => r = res.1 ∧ w = (res.2, nx)) (hJ D kA S g n0) (fun q => n0 ≤ q)) 0 0 (fun q => n0 ≤ q) := c_fol 4 h
