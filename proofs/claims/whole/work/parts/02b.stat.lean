/-! ===== the map as a list of cells, for rows of the kit that take such a list ===== -/
def hp_wl (kA : Nat → ClassId) (E : hE) (n : Nat) : va_W := (List.range n).filterMap (fun a => (E a).map (fun e => (a, h_cv kA e)))
theorem hp_mem {kA : Nat → ClassId} {E : hE} {n a : Nat} {x : va_E} : (a, x) ∈ hp_wl kA E n ↔ a < n ∧ ∃ e, E a = some e ∧ x = h_cv kA e := by
  unfold hp_wl
  rw [List.mem_filterMap]
  constructor
  · intro h0
    obtain ⟨b, hb, h⟩ := h0
    rw [List.mem_range] at hb
    cases hq : E b with
    | none => rw [hq] at h; cases h
    | some y =>
      rw [hq] at h
      cases h
      exact ⟨hb, y, hq, rfl⟩
  · intro h0
    obtain ⟨h1, e, h2, h3⟩ := h0
    exact ⟨a, List.mem_range.mpr h1, by rw [h2, h3]; rfl⟩
theorem hp_pw (kA : Nat → ClassId) (E : hE) (n : Nat) : (hp_wl kA E n).Pairwise (fun x y => x.1 < y.1) := by
  unfold hp_wl
  refine List.Pairwise.filterMap _ ?_ (List.pairwise_lt_range (n := n))
  intro a b hab x hx y hy
  have h1 : x.1 = a := by
    cases h : E a with
    | none => rw [h] at hx; cases hx
    | some z => rw [h] at hx; cases hx; rfl
  have h2 : y.1 = b := by
    cases h : E b with
    | none => rw [h] at hy; cases hy
    | some z => rw [h] at hy; cases hy; rfl
  rw [h1, h2]
  exact hab
theorem hp_D {kA : Nat → ClassId} {E : hE} {n n0 : Nat} (h : ∀ (a : Nat) (e : va_E), E a = some e → n0 ≤ a) : va_D (fun q => n0 ≤ q) (hp_wl kA E n) := by
  refine ⟨fun i j x y hx hy hxy => ?_, fun k q hk => ?_⟩
  · obtain ⟨hi, ei⟩ := List.getElem?_eq_some_iff.mp hx
    obtain ⟨hj, ej⟩ := List.getElem?_eq_some_iff.mp hy
    have pw := List.pairwise_iff_getElem.mp (hp_pw kA E n)
    rcases Nat.lt_trichotomy i j with h1 | h1 | h1
    · have h2 := pw i j hi hj h1
      rw [ei, ej] at h2
      omega
    · exact h1
    · have h2 := pw j i hj hi h1
      rw [ei, ej] at h2
      omega
  · obtain ⟨-, e, h1, -⟩ := hp_mem.mp (List.mem_of_getElem? hk)
    exact h q.1 e h1
section HPL
variable {D : va_G} {cl : List vw_C} {kA : Nat → ClassId} {n0 : Nat} {E : hE} {H H1 : Heap} {a : Nat} {e e' : va_E}
theorem hp_P (h : hp D cl kA n0 E H) (n : Nat) : va_P D cl (hp_wl kA E n) H := fun k q hk => by
  obtain ⟨a, x⟩ := q
  obtain ⟨-, e, h1, h2⟩ := hp_mem.mp (List.mem_of_getElem? hk)
  subst h2
  exact (h a e h1).1
theorem hp_at (h : hp D cl kA n0 E H) (ha : E a = some e) : ∃ k : Nat, (hp_wl kA E H.size)[k]? = some (a, h_cv kA e) := List.getElem?_of_mem (hp_mem.mpr ⟨hp_lt h ha, e, ha, rfl⟩)
theorem hp_lset (h : hp D cl kA n0 E H) {k : Nat} (ha : E a = some e) (hk : (hp_wl kA E H.size)[k]? = some (a, h_cv kA e)) (h1 : va_P D cl ((hp_wl kA E H.size).set k (a, h_cv kA e')) H1) : hp D cl kA n0 (va_up E a (some e')) H1 := by
  intro b x hb
  by_cases hba : b = a
  · subst hba
    rw [va_up_self] at hb
    cases hb
    exact ⟨h1 k _ (List.getElem?_set_self (List.getElem?_eq_some_iff.mp hk).1), (h b e ha).2⟩
  · rw [va_up_ne _ _ hba] at hb
    obtain ⟨j, hj⟩ := hp_at h hb
    have hjk : k ≠ j := fun q => hba (by subst q; rw [hk] at hj; exact (congrArg Prod.fst (Option.some.inj hj)).symm)
    exact ⟨h1 j _ (by rw [List.getElem?_set_ne hjk]; exact hj), (h b x hb).2⟩
end HPL
/-- what the first n budgets come to -/
def sumB (bo : Nat → Nat) : Nat → Nat
  | 0 => 0
  | n + 1 => sumB bo n + bo n
theorem nQ_last {E E1 : hE} {nx t bd : Nat} {n : Int32} (h : nQ E nx t n bd = some E1) : E1 (nx + 1 - 1) = some (.inl (t, n.toNatClampNeg, .inr (.inr (.inr (.inr (fun _ => none)))))) := by
  unfold nQ at h
  split at h
  · cases h
  · cases h
    rw [Nat.add_sub_cancel]
    exact va_up_self _ _ _
def bT (ty : FieldType) (x : Int32) : Option Int32 := if vp_nar ty x = x then some x else none
theorem bT_some {ty : FieldType} {x v : Int32} (ht : ty = .byte ∨ ty = .char) (h : bT ty x = some v) : x = v ∧ narrow ty (.int v) = .int v := by
  unfold bT at h
  split at h
  · rename_i hq
    cases h
    refine ⟨rfl, ?_⟩
    rcases ht with rfl | rfl
    · show Value.int _ = _
      exact congrArg Value.int hq
    · show Value.int _ = _
      exact congrArg Value.int hq
  · cases h
/-! System.arraycopy -/
def cpI (E : hE) (r0 r1 : Option Nat) (t : Nat) (sp dp n : Int32) : Option hE := (gA E r0 t).bind fun o0 => (vAi o0.2).bind fun f => (gA E r1 t).bind fun o1 => (vAi o1.2).bind fun g =>
  if sp < 0 ∨ dp < 0 ∨ n < 0 ∨ o0.2.1 < sp.toNatClampNeg + n.toNatClampNeg ∨ o1.2.1 < dp.toNatClampNeg + n.toNatClampNeg then none else some (va_up E o1.1 (some (.inl (t, o1.2.1, .inl (va_cpy f g sp.toNatClampNeg dp.toNatClampNeg n.toNatClampNeg)))))
def cpQ (E : hE) (r0 r1 : Option Nat) (t ci : Nat) (sp dp n : Int32) : Option hE := (gA E r0 t).bind fun o0 => (vAq o0.2).bind fun f => (gA E r1 t).bind fun o1 => (vAq o1.2).bind fun g =>
  if sp < 0 ∨ dp < 0 ∨ n < 0 ∨ o0.2.1 < sp.toNatClampNeg + n.toNatClampNeg ∨ o1.2.1 < dp.toNatClampNeg + n.toNatClampNeg ∨ ¬ (∀ i, i < n.toNatClampNeg → f (sp.toNatClampNeg + i) = none ∨ (gO E (f (sp.toNatClampNeg + i)) ci).isSome = true) then none else some (va_up E o1.1 (some (.inl (t, o1.2.1, .inr (.inr (.inr (.inr (va_cpy f g sp.toNatClampNeg dp.toNatClampNeg n.toNatClampNeg))))))))
section HCC
variable {p : Program} {l : Launch} {e : Env} {R : Room} {s : State} {m : MethodId} {args : Array Value} {below : List Frame} {meth : Method} {c : Code} {H : Heap} {locs : List Loc} {cells slots : Nat} {Q : State → Prop}
variable {cc : ByteArray} {nL pc : Nat} {own : String} {Ts : List Cond} {D : va_G} {cl : List vw_C} {kA : Nat → ClassId} {tys : List (ClassId × FieldType)} {n0 nx : Nat} {Z : State → Prop} {E E1 : hE} {ls : Array Slot} {rest : List Value} {r r0 r1 : Option Nat}
/-- no more cells than the count says -/
theorem w_sized {g : JFrame} (k : H.size ≤ s.heap.size + cells → W p l e R s m args below meth c H locs cells slots Q g) : W p l e R s m args below meth c H locs cells slots Q g := by
  intro T hT X
  have h : T.heap.size ≤ s.heap.size + cells := X.same.2.2.1
  rw [hT] at h
  exact k h T hT X
theorem w_acopyI (C : hC p s m args c cc nL own Ts D cl tys n0 Z) (M : hM D cl kA n0 s E nx H locs) {t index : Nat} {sp dp n : Int32} (h : cpI E r0 r1 t sp dp n = some E1) (ht : tys[t]? = some (kA t, .int)) (hls : ls.size = nL)
    (hlink : Cond.methodLink own index arraycopyName ∈ Ts) (hnat : Cond.native arraycopyName ∈ Ts) (hstat : Cond.static arraycopyName ∈ Ts) (hini : Cond.initialized "java/lang/System" ∈ Ts) (hc0 : s.heap.size + cells ≤ nx) (hlo : nx ≤ s.heap.size ∨ ∃ x, E (nx - 1) = some x)
    (hframes : 1 ≤ R.frames) (hlocals : (rest.map fun v => v.category).sum + (nativeFrameWords "java/lang/System" "arraycopy" 5 + 11) ≤ R.locals) (hdg : decode cc pc = .ok (.invokestatic index, 3))
    (kk : ∀ (H1 : Heap) (locs1 : List Loc), hM D cl kA n0 s E1 nx H1 locs1 → W p l e R s m args below meth c H1 locs1 cells slots Q (F0 m (pc + 3) ls rest)) : W p l e R s m args below meth c H locs cells slots Q (F0 m pc ls (.int n :: .int dp :: va_rf r1 :: .int sp :: va_rf r0 :: rest)) := by
  obtain ⟨⟨a0, x0⟩, g1, hz0⟩ := Option.bind_eq_some_iff.mp h
  obtain ⟨f, g2, hz1⟩ := Option.bind_eq_some_iff.mp hz0
  obtain ⟨⟨a1, x1⟩, g3, hz2⟩ := Option.bind_eq_some_iff.mp hz1
  obtain ⟨g, g4, hz3⟩ := Option.bind_eq_some_iff.mp hz2
  obtain ⟨rfl, e0⟩ := gA_some g1
  obtain ⟨rfl, e1⟩ := gA_some g3
  have y0 := vAi_some g2
  have y1 := vAi_some g4
  dsimp only at hz3 e0 e1 y0 y1
  rw [y0] at e0
  rw [y1] at e1
  split at hz3
  · cases hz3
  · rename_i hno
    cases hz3
    obtain ⟨k0, hk0⟩ := hp_at M.P e0
    obtain ⟨k1, hk1⟩ := hp_at M.P e1
    refine va_copyi C.x C.b (C.ml.trans hls.symm) C.ow (C.ts _ hlink) (C.ts _ hnat) (C.ts _ hstat) (C.ts _ hini) C.K (hp_P M.P H.size) (hp_D (fun a e ha => (M.P a e ha).2)) M.S k0 k1 t t hk0 hk1 ht ht rfl (fun z => hno (Or.inl z)) (fun z => hno (Or.inr (Or.inl z))) (fun z => hno (Or.inr (Or.inr (Or.inl z)))) (by omega) (by omega) (fun i hi => rfl) hframes hlocals hdg (fun H1 locs1 hP1 _ hS1 => ?_)
    have hE1 := hp_lset (e' := .inl (t, x1.1, .inl (va_cpy f g sp.toNatClampNeg dp.toNatClampNeg n.toNatClampNeg))) M.P e1 hk1 hP1
    refine w_sized (fun hz => kk H1 locs1 ⟨hE1, hS1, ?_⟩)
    have hlow : nx ≤ H1.size := by
      rcases hlo with q | ⟨x, q⟩
      · exact Nat.le_trans q hS1.1
      · by_cases hq : nx - 1 = a1
        · have := hp_lt hE1 (a := a1) (va_up_self _ _ _)
          omega
        · have := hp_lt hE1 (a := nx - 1) (by rw [va_up_ne _ _ hq]; exact q)
          omega
    omega
theorem w_acopyQ (C : hC p s m args c cc nL own Ts D cl tys n0 Z) (M : hM D cl kA n0 s E nx H locs) {t ci index : Nat} {sp dp n : Int32} {rc : vw_C} {ac : String} (h : cpQ E r0 r1 t ci sp dp n = some E1) (hc : cl[ci]? = some rc) (ht : tys[t]? = some (kA t, .object ac)) (hasg : ∀ comp c0 : ClassId, s.vm.findClass ac = some comp → s.vm.findClass rc.1 = some c0 → s.vm.assignable c0 comp = true) (hls : ls.size = nL)
    (hlink : Cond.methodLink own index arraycopyName ∈ Ts) (hnat : Cond.native arraycopyName ∈ Ts) (hstat : Cond.static arraycopyName ∈ Ts) (hini : Cond.initialized "java/lang/System" ∈ Ts) (hc0 : s.heap.size + cells ≤ nx) (hlo : nx ≤ s.heap.size ∨ ∃ x, E (nx - 1) = some x)
    (hframes : 1 ≤ R.frames) (hlocals : (rest.map fun v => v.category).sum + (nativeFrameWords "java/lang/System" "arraycopy" 5 + 11) ≤ R.locals) (hdg : decode cc pc = .ok (.invokestatic index, 3))
    (kk : ∀ (H1 : Heap) (locs1 : List Loc), hM D cl kA n0 s E1 nx H1 locs1 → W p l e R s m args below meth c H1 locs1 cells slots Q (F0 m (pc + 3) ls rest)) : W p l e R s m args below meth c H locs cells slots Q (F0 m pc ls (.int n :: .int dp :: va_rf r1 :: .int sp :: va_rf r0 :: rest)) := by
  obtain ⟨⟨a0, x0⟩, g1, hz0⟩ := Option.bind_eq_some_iff.mp h
  obtain ⟨f, g2, hz1⟩ := Option.bind_eq_some_iff.mp hz0
  obtain ⟨⟨a1, x1⟩, g3, hz2⟩ := Option.bind_eq_some_iff.mp hz1
  obtain ⟨g, g4, hz3⟩ := Option.bind_eq_some_iff.mp hz2
  obtain ⟨rfl, e0⟩ := gA_some g1
  obtain ⟨rfl, e1⟩ := gA_some g3
  have y0 := vAq_some g2
  have y1 := vAq_some g4
  dsimp only at hz3 e0 e1 y0 y1
  rw [y0] at e0
  rw [y1] at e1
  split at hz3
  · cases hz3
  · rename_i hno
    cases hz3
    obtain ⟨k0, hk0⟩ := hp_at M.P e0
    obtain ⟨k1, hk1⟩ := hp_at M.P e1
    have hall : ∀ i, i < n.toNatClampNeg → f (sp.toNatClampNeg + i) = none ∨ (gO E (f (sp.toNatClampNeg + i)) ci).isSome = true := Classical.byContradiction fun z => hno (Or.inr (Or.inr (Or.inr (Or.inr (Or.inr z)))))
    refine va_copyM C.x C.b (C.ml.trans hls.symm) C.ow (C.ts _ hlink) (C.ts _ hnat) (C.ts _ hstat) (C.ts _ hini) C.K (hp_P M.P H.size) (hp_D (fun a e ha => (M.P a e ha).2)) M.S k0 k1 t t hk0 hk1 ht ht (fun z => hno (Or.inl z)) (fun z => hno (Or.inr (Or.inl z))) (fun z => hno (Or.inr (Or.inr (Or.inl z)))) (by omega) (by omega) (fun i hi y hy => ?_) hframes hlocals hdg (fun H1 locs1 hP1 _ hS1 => ?_)
    · rcases hall i hi with q | q
      · rw [hy] at q; cases q
      · rw [hy] at q
        obtain ⟨o, ho⟩ := Option.isSome_iff_exists.mp q
        obtain ⟨ev, hv⟩ := gO_some ho
        have ev2 : y = o.1 := Option.some.inj ev
        rw [← ev2] at hv
        exact va_rAny C.K (hp_one M.P hv) (q0 := 0) rfl hc hasg
    have hE1 := hp_lset (e' := .inl (t, x1.1, .inr (.inr (.inr (.inr (va_cpy f g sp.toNatClampNeg dp.toNatClampNeg n.toNatClampNeg)))))) M.P e1 hk1 hP1
    refine w_sized (fun hz => kk H1 locs1 ⟨hE1, hS1, ?_⟩)
    have hlow : nx ≤ H1.size := by
      rcases hlo with q | ⟨x, q⟩
      · exact Nat.le_trans q hS1.1
      · by_cases hq : nx - 1 = a1
        · have := hp_lt hE1 (a := a1) (va_up_self _ _ _)
          omega
        · have := hp_lt hE1 (a := nx - 1) (by rw [va_up_ne _ _ hq]; exact q)
          omega
    omega
/-! a cast to the class that the object has -/
def kC (E : hE) (r : Option Nat) (ci : Nat) : Option Unit := if r = none ∨ (gO E r ci).isSome = true then some () else none
theorem w_cast (C : hC p s m args c cc nL own Ts D cl tys n0 Z) (M : hM D cl kA n0 s E nx H locs) {ci index : Nat} {rc : vw_C} {x : Unit} (h : kC E r ci = some x) (hc : cl[ci]? = some rc) (hlink : Cond.classLink own index rc.1 ∈ Ts) (hca : va_Nw (.castable rc.1 rc.1) s) (hdg : decode cc pc = .ok (.checkcast index, 3))
    (kk : W p l e R s m args below meth c H locs cells slots Q (F0 m (pc + 3) ls (va_rf r :: rest))) : W p l e R s m args below meth c H locs cells slots Q (F0 m pc ls (va_rf r :: rest)) := by
  unfold kC at h
  split at h
  · rename_i hq
    cases r with
    | none => exact lv_castN C.x C.b hdg kk
    | some a =>
      have hs : (gO E (some a) ci).isSome = true := by
        rcases hq with q | q
        · cases q
        · exact q
      obtain ⟨o, ho⟩ := Option.isSome_iff_exists.mp hs
      obtain ⟨ev, hv⟩ := gO_some ho
      have ev2 : a = o.1 := Option.some.inj ev
      rw [← ev2] at hv
      exact va_castY C.x C.b C.ow (C.ts _ hlink) hca (w_recv C M hv hc) hdg kk
  · cases h
end HCC
/-! ===== constants that were there before: a second map S, which is only read; g names places ===== -/
def So (S : hE) : hE := fun a => S (2 * a)
def Sa (S : hE) : hE := fun a => S (2 * a + 1)
def sN (c : Nat) : String := if c = 100 then "java/lang/String" else "StepPrograms$Form"
def sT (c k : Nat) : String × String × String := if c = 100 then (if k = 0 then ("java/lang/String", "value", "[B") else ("java/lang/String", "coder", "B")) else if k = 0 then ("java/lang/Enum", "ordinal", "I") else if k = 1 then ("StepPrograms$Form", "word", "Ljava/lang/String;") else ("StepPrograms$Form", "kinds", "Ljava/lang/String;")
def sA (t : Nat) : FieldType := if t = 100 then .byte else if t = 101 then .object "StepPrograms$Form" else if t = 102 then .int else .object "java/lang/Object"
/-- static fields that hold a reference -/
def sF1 (i : Nat) : String × String × String := if i = 0 then ("java/util/ArrayList", "DEFAULTCAPACITY_EMPTY_ELEMENTDATA", "[Ljava/lang/Object;") else if i = 1 then ("StepPrograms$Tape", "FORMS", "[LStepPrograms$Form;") else ("StepPrograms$1", "$SwitchMap$StepPrograms$Form", "[I")
/-- the texts that ldc asks for: pool place and text -/
def sL (i : Nat) : Nat × String := if i = 10 then (143, "+-*/%&|^<=") else if i = 11 then (149, "<=>") else (151, "go")
def gq (g : Nat → Nat) : Option Nat := if g 5 = 0 then none else some (g 4)
def zS (S : hE) (g : Nat → Nat) (n0 : Nat) (U : State) : Prop :=
  (∀ (a ci : Nat) (fs : List Value), So S a = some (.inr (ci, fs)) → va_O (sN ci) a (fun q => n0 ≤ q) U U.heap ∧ ∀ (k : Nat) (v : Value), fs[k]? = some v → va_OF (sT ci k).1 (sT ci k).2.1 (sT ci k).2.2 v a (fun q => n0 ≤ q) U U.heap) ∧
  (∀ (a t n : Nat) (f : Nat → Int32), Sa S a = some (.inl (t, n, .inl f)) → va_T (sA t) a n (fun j => .int (f j)) (fun q => n0 ≤ q) U U.heap) ∧
  (∀ (a t n : Nat) (f : Nat → Option Nat), Sa S a = some (.inl (t, n, .inr (.inr (.inr (.inr f))))) → va_T (sA t) a n (fun j => va_rf (f j)) (fun q => n0 ≤ q) U U.heap) ∧
  (∀ i : Nat, i < 3 → va_Z (sF1 i).1 (sF1 i).2.1 (sF1 i).2.2 (va_rf (some (g i))) (fun q => n0 ≤ q) U U.heap) ∧
  va_Z "java/lang/String" "COMPACT_STRINGS" "Z" (.int 1) (fun q => n0 ≤ q) U U.heap ∧
  va_Z "jdk/internal/util/Preconditions" "SIOOBE_FORMATTER" "Ljava/util/function/BiFunction;" (va_rf (gq g)) (fun q => n0 ≤ q) U U.heap ∧
  (∀ i : Nat, 10 ≤ i → i < 13 → vk_R "StepPrograms$Tape" (sL i).1 (sL i).2 (g i) U) ∧
  va_Mi "[Ljava/lang/Object;" (g 3) U ∧ va_Dc U
theorem zS_k {S : hE} {g : Nat → Nat} {n0 : Nat} : hZk n0 (zS S g n0) := by
  have key : ∀ u U : State, u.vm.Alike U.vm → (∀ a : Nat, a < n0 → U.heap[a]? = u.heap[a]?) → (∀ (k a : Nat) (tx : String), vk_R "StepPrograms$Tape" k tx a u → vk_R "StepPrograms$Tape" k tx a U) → zS S g n0 u → zS S g n0 U := by
    intro u U hA hh hR h
    obtain ⟨h1, h2, h3, h4, h5, h6, h7, h8, h9⟩ := h
    have hq : ∀ a : Nat, a < u.heap.size → ¬ (fun q => n0 ≤ q) a → U.heap[a]? = u.heap[a]? := fun a _ h => hh a (Nat.not_le.mp h)
    exact ⟨fun a ci fs hs => ⟨((h1 a ci fs hs).1.moved hA).kept hq, fun k v hv => (((h1 a ci fs hs).2 k v hv).moved hA).kept hq⟩, fun a t n f hs => ((h2 a t n f hs).moved hA).kept hq, fun a t n f hs => ((h3 a t n f hs).moved hA).kept hq, fun i hi => ((h4 i hi).moved hA).kept hq, (h5.moved hA).kept hq, (h6.moved hA).kept hq, fun i q9 hi => hR _ _ _ (h7 i q9 hi), h8.moved hA, h9.moved hA⟩
  refine ⟨fun u U hW hh h => key u U hW.alike hh (fun k a tx hr => hr.warm hW) h, fun u U hv hh h => key u U (hv ▸ Vm.Alike.refl u.vm) (fun a _ => by rw [hh]) (fun k a tx hr => hr.same hv.symm) h⟩
section HCS
variable {p : Program} {l : Launch} {e : Env} {R : Room} {s : State} {m : MethodId} {args : Array Value} {below : List Frame} {meth : Method} {c : Code} {H : Heap} {locs : List Loc} {cells slots : Nat} {Q : State → Prop}
variable {cc : ByteArray} {nL pc : Nat} {own : String} {Ts : List Cond} {D : va_G} {cl : List vw_C} {kA : Nat → ClassId} {tys : List (ClassId × FieldType)} {n0 nx : Nat} {Z : State → Prop} {E E1 S : hE} {g : Nat → Nat} {ls : Array Slot} {rest : List Value} {r : Option Nat}
theorem w_sget (C : hC p s m args c cc nL own Ts D cl tys n0 Z) (M : hM D cl kA n0 s E nx H locs) (hz : zS S g n0 s) {ci k index : Nat} {ref : String} {o : Nat × List Value} {v : Value} (h : gO (So S) r ci = some o) (hv : o.2[k]? = some v) (hlink : Cond.fieldLink own index ref (sT ci k).2.1 (sT ci k).2.2 ∈ Ts) (href : (sT ci k).1 = ref) (hdg : decode cc pc = .ok (.getfield index, 3))
    (kk : W p l e R s m args below meth c H locs cells slots Q (F0 m (pc + 3) ls (v :: rest))) : W p l e R s m args below meth c H locs cells slots Q (F0 m pc ls (va_rf r :: rest)) := by
  obtain ⟨rfl, he⟩ := gO_some h
  exact vk_getf C.x C.b ((hz.1 _ _ _ he).2 k v hv) M.S C.ow (C.ts _ hlink) (fun x h => by rw [← href]; exact h) hdg kk
theorem w_sgetI (C : hC p s m args c cc nL own Ts D cl tys n0 Z) (M : hM D cl kA n0 s E nx H locs) (hz : zS S g n0 s) {ci k index : Nat} {ref : String} {v : Int32} (h : gI (So S) r ci k = some v) (hlink : Cond.fieldLink own index ref (sT ci k).2.1 (sT ci k).2.2 ∈ Ts) (href : (sT ci k).1 = ref) (hdg : decode cc pc = .ok (.getfield index, 3))
    (kk : W p l e R s m args below meth c H locs cells slots Q (F0 m (pc + 3) ls (.int v :: rest))) : W p l e R s m args below meth c H locs cells slots Q (F0 m pc ls (va_rf r :: rest)) := by
  obtain ⟨o, h1, hz1⟩ := Option.bind_eq_some_iff.mp h
  obtain ⟨w, h2, hz2⟩ := Option.bind_eq_some_iff.mp hz1
  have h3 := vI_some hz2
  subst h3
  exact w_sget C M hz h1 h2 hlink href hdg kk
theorem w_sgetR (C : hC p s m args c cc nL own Ts D cl tys n0 Z) (M : hM D cl kA n0 s E nx H locs) (hz : zS S g n0 s) {ci k index : Nat} {ref : String} {v : Option Nat} (h : gR (So S) r ci k = some v) (hlink : Cond.fieldLink own index ref (sT ci k).2.1 (sT ci k).2.2 ∈ Ts) (href : (sT ci k).1 = ref) (hdg : decode cc pc = .ok (.getfield index, 3))
    (kk : W p l e R s m args below meth c H locs cells slots Q (F0 m (pc + 3) ls (va_rf v :: rest))) : W p l e R s m args below meth c H locs cells slots Q (F0 m pc ls (va_rf r :: rest)) := by
  obtain ⟨o, h1, hz1⟩ := Option.bind_eq_some_iff.mp h
  obtain ⟨w, h2, hz2⟩ := Option.bind_eq_some_iff.mp hz1
  have h3 := vR_some hz2
  subst h3
  exact w_sget C M hz h1 h2 hlink href hdg kk
theorem w_sarr (hz : zS S g n0 s) {t a : Nat} {x : vp_A} {f : Nat → Int32} (he : Sa S a = some (.inl (t, x))) (hx : vAi x = some f) : va_T (sA t) a x.1 (fun j => .int (f j)) (fun q => n0 ≤ q) s s.heap := by
  have := vAi_some hx
  rw [this] at he
  exact hz.2.1 _ _ _ _ he
theorem w_saI (C : hC p s m args c cc nL own Ts D cl tys n0 Z) (M : hM D cl kA n0 s E nx H locs) (hz : zS S g n0 s) {t : Nat} {i v : Int32} (h : aI (Sa S) r t i = some v) (ht : sA t = .int) (hdg : decode cc pc = .ok (.iaload, 1))
    (kk : W p l e R s m args below meth c H locs cells slots Q (F0 m (pc + 1) ls (.int v :: rest))) : W p l e R s m args below meth c H locs cells slots Q (F0 m pc ls (.int i :: va_rf r :: rest)) := by
  obtain ⟨⟨a, x⟩, h1, hz0⟩ := Option.bind_eq_some_iff.mp h
  obtain ⟨f, h2, hz1⟩ := Option.bind_eq_some_iff.mp hz0
  obtain ⟨rfl, he⟩ := gA_some h1
  have hT := w_sarr hz he h2
  rw [ht] at hT
  dsimp only at hz1
  split at hz1
  · cases hz1
  · rename_i hi
    cases hz1
    exact va_ti C.x C.b hT M.S (h_in hi) rfl hdg kk
theorem w_saB (C : hC p s m args c cc nL own Ts D cl tys n0 Z) (M : hM D cl kA n0 s E nx H locs) (hz : zS S g n0 s) {t : Nat} {i v : Int32} (h : aI (Sa S) r t i = some v) (ht : sA t = .byte) (hdg : decode cc pc = .ok (.baload, 1))
    (kk : W p l e R s m args below meth c H locs cells slots Q (F0 m (pc + 1) ls (.int v :: rest))) : W p l e R s m args below meth c H locs cells slots Q (F0 m pc ls (.int i :: va_rf r :: rest)) := by
  obtain ⟨⟨a, x⟩, h1, hz0⟩ := Option.bind_eq_some_iff.mp h
  obtain ⟨f, h2, hz1⟩ := Option.bind_eq_some_iff.mp hz0
  obtain ⟨rfl, he⟩ := gA_some h1
  have hT := w_sarr hz he h2
  rw [ht] at hT
  dsimp only at hz1
  split at hz1
  · cases hz1
  · rename_i hi
    cases hz1
    exact va_tb C.x C.b hT M.S (h_in hi) rfl hdg kk
theorem w_saQ (C : hC p s m args c cc nL own Ts D cl tys n0 Z) (M : hM D cl kA n0 s E nx H locs) (hz : zS S g n0 s) {t : Nat} {Cn : String} {i : Int32} {v : Option Nat} (h : aQ (Sa S) r t i = some v) (ht : sA t = .object Cn) (hdg : decode cc pc = .ok (.aaload, 1))
    (kk : W p l e R s m args below meth c H locs cells slots Q (F0 m (pc + 1) ls (va_rf v :: rest))) : W p l e R s m args below meth c H locs cells slots Q (F0 m pc ls (.int i :: va_rf r :: rest)) := by
  obtain ⟨⟨a, x⟩, h1, hz0⟩ := Option.bind_eq_some_iff.mp h
  obtain ⟨f, h2, hz1⟩ := Option.bind_eq_some_iff.mp hz0
  obtain ⟨rfl, he⟩ := gA_some h1
  have hx := vAq_some h2
  dsimp only at he hx hz1
  rw [hx] at he
  have hT := hz.2.2.1 _ _ _ _ he
  rw [ht] at hT
  split at hz1
  · cases hz1
  · rename_i hi
    cases hz1
    exact vb_tq C.x C.b hT M.S (h_in hi) rfl hdg kk
theorem w_saL (C : hC p s m args c cc nL own Ts D cl tys n0 Z) (M : hM D cl kA n0 s E nx H locs) (hz : zS S g n0 s) {t : Nat} {v : Int32} (h : aL (Sa S) r t = some v) (hk : ∀ o, gA (Sa S) r t = some o → (vAi o.2).isSome = true ∨ (vAq o.2).isSome = true) (hdg : decode cc pc = .ok (.arraylength, 1))
    (kk : W p l e R s m args below meth c H locs cells slots Q (F0 m (pc + 1) ls (.int v :: rest))) : W p l e R s m args below meth c H locs cells slots Q (F0 m pc ls (va_rf r :: rest)) := by
  obtain ⟨⟨a, x⟩, h1, h2⟩ := Option.map_eq_some_iff.mp h
  have hk1 := hk _ h1
  obtain ⟨rfl, he⟩ := gA_some h1
  dsimp only at hk1
  rcases hk1 with q | q
  · obtain ⟨f, hf⟩ := Option.isSome_iff_exists.mp q
    exact va_tlen C.x C.b (w_sarr hz he hf) M.S h2 hdg kk
  · obtain ⟨f, hf⟩ := Option.isSome_iff_exists.mp q
    have hx := vAq_some hf
    dsimp only at he
    rw [hx] at he
    exact va_tlen C.x C.b (hz.2.2.1 _ _ _ _ he) M.S h2 hdg kk
theorem w_gets (C : hC p s m args c cc nL own Ts D cl tys n0 Z) (M : hM D cl kA n0 s E nx H locs) (hz : zS S g n0 s) {i index : Nat} {ref : String} (hi : i < 3) (hlink : Cond.fieldLink own index ref (sF1 i).2.1 (sF1 i).2.2 ∈ Ts) (href : (sF1 i).1 = ref) (hdg : decode cc pc = .ok (.getstatic index, 3))
    (kk : W p l e R s m args below meth c H locs cells slots Q (F0 m (pc + 3) ls (va_rf (some (g i)) :: rest))) : W p l e R s m args below meth c H locs cells slots Q (F0 m pc ls rest) :=
  va_gets C.x C.b (hz.2.2.2.1 i hi) M.S C.ow (C.ts _ hlink) (fun x h => by rw [← href]; exact h) hdg kk
theorem w_getsC (C : hC p s m args c cc nL own Ts D cl tys n0 Z) (M : hM D cl kA n0 s E nx H locs) (hz : zS S g n0 s) {index : Nat} (hlink : Cond.fieldLink own index "java/lang/String" "COMPACT_STRINGS" "Z" ∈ Ts) (hdg : decode cc pc = .ok (.getstatic index, 3))
    (kk : W p l e R s m args below meth c H locs cells slots Q (F0 m (pc + 3) ls (.int 1 :: rest))) : W p l e R s m args below meth c H locs cells slots Q (F0 m pc ls rest) :=
  va_gets C.x C.b hz.2.2.2.2.1 M.S C.ow (C.ts _ hlink) (fun x h => h) hdg kk
theorem w_getsF (C : hC p s m args c cc nL own Ts D cl tys n0 Z) (M : hM D cl kA n0 s E nx H locs) (hz : zS S g n0 s) {index : Nat} (hlink : Cond.fieldLink own index "jdk/internal/util/Preconditions" "SIOOBE_FORMATTER" "Ljava/util/function/BiFunction;" ∈ Ts) (hdg : decode cc pc = .ok (.getstatic index, 3))
    (kk : W p l e R s m args below meth c H locs cells slots Q (F0 m (pc + 3) ls (va_rf (gq g) :: rest))) : W p l e R s m args below meth c H locs cells slots Q (F0 m pc ls rest) :=
  va_gets C.x C.b hz.2.2.2.2.2.1 M.S C.ow (C.ts _ hlink) (fun x h => h) hdg kk
theorem w_ldcS (C : hC p s m args c cc nL "StepPrograms$Tape" Ts D cl tys n0 Z) (hz : zS S g n0 s) (i : Nat) (h9 : 10 ≤ i) (hi : i < 13) {index : Nat} (hx : (sL i).1 = index) (hdg : decode cc pc = .ok (.ldc index, 2))
    (kk : W p l e R s m args below meth c H locs cells slots Q (F0 m (pc + 2) ls (va_rf (some (g i)) :: rest))) : W p l e R s m args below meth c H locs cells slots Q (F0 m pc ls rest) := by
  subst hx
  exact va_ldcS C.x C.b C.ow (hz.2.2.2.2.2.2.1 i h9 hi) hdg kk
theorem w_ldcM (C : hC p s m args c cc nL own Ts D cl tys n0 Z) (hz : zS S g n0 s) {index : Nat} (hlink : Cond.classLink own index "[Ljava/lang/Object;" ∈ Ts) (hdg : decode cc pc = .ok (.ldc index, 2))
    (kk : W p l e R s m args below meth c H locs cells slots Q (F0 m (pc + 2) ls (va_rf (some (g 3)) :: rest))) : W p l e R s m args below meth c H locs cells slots Q (F0 m pc ls rest) :=
  va_ldcM C.x C.b C.ow (C.ts _ hlink) hz.2.2.2.2.2.2.2.1 hdg kk
/-! lengths of arrays that may be constants -/
def sL1 (S : hE) (r : Option Nat) (t : Nat) : Option Int32 := (gA S r t).bind fun o => if (vAi o.2).isSome = true ∨ (vAq o.2).isSome = true then some (nI o.2.1) else none
theorem w_sL1 (C : hC p s m args c cc nL own Ts D cl tys n0 Z) (M : hM D cl kA n0 s E nx H locs) (hz : zS S g n0 s) {t : Nat} {v : Int32} (h : sL1 (Sa S) r t = some v) (hdg : decode cc pc = .ok (.arraylength, 1))
    (kk : W p l e R s m args below meth c H locs cells slots Q (F0 m (pc + 1) ls (.int v :: rest))) : W p l e R s m args below meth c H locs cells slots Q (F0 m pc ls (va_rf r :: rest)) := by
  obtain ⟨o, h1, hz0⟩ := Option.bind_eq_some_iff.mp h
  split at hz0
  · rename_i hq
    refine w_saL C M hz (t := t) (v := v) ?_ ?_ hdg kk
    · unfold aL
      rw [h1]
      exact hz0
    · intro o2 h2
      rw [h1] at h2
      cases h2
      exact hq
  · cases hz0
def aL2 (E S : hE) (r : Option Nat) (t u : Nat) : Option Int32 := if (gA E r t).isSome = true then aL E r t else sL1 (Sa S) r u
theorem w_aL2 (C : hC p s m args c cc nL own Ts D cl tys n0 Z) (M : hM D cl kA n0 s E nx H locs) (hz : zS S g n0 s) {t u : Nat} {ty : FieldType} {v : Int32} (h : aL2 E S r t u = some v) (ht : tys[t]? = some (kA t, ty)) (hdg : decode cc pc = .ok (.arraylength, 1))
    (kk : W p l e R s m args below meth c H locs cells slots Q (F0 m (pc + 1) ls (.int v :: rest))) : W p l e R s m args below meth c H locs cells slots Q (F0 m pc ls (va_rf r :: rest)) := by
  unfold aL2 at h
  split at h
  · exact w_alen C M h ht hdg kk
  · exact w_sL1 C M hz h hdg kk
theorem w_getC (C : hC p s m args c cc nL own Ts D cl tys n0 Z) (M : hM D cl kA n0 s E nx H locs) (hz : zS S g n0 s) {t index : Nat} {o : Nat × vp_A} (h : gA E r t = some o) (ht : tys[t]? = some (kA t, .object "java/lang/Object")) (hls : ls.size = nL)
    (hlink : Cond.methodLink own index ⟨"java/lang/Object", "getClass", "()Ljava/lang/Class;"⟩ ∈ Ts) (hsel : Cond.selects "[Ljava/lang/Object;" ⟨"java/lang/Object", "getClass", "()Ljava/lang/Class;"⟩ ⟨"java/lang/Object", "getClass", "()Ljava/lang/Class;"⟩ ∈ Ts) (hinst : Cond.instanceMethod ⟨"java/lang/Object", "getClass", "()Ljava/lang/Class;"⟩ ∈ Ts) (hnat : Cond.native ⟨"java/lang/Object", "getClass", "()Ljava/lang/Class;"⟩ ∈ Ts)
    (hframes : 1 ≤ R.frames) (hlocals : (rest.map fun v => v.category).sum + 14 ≤ R.locals) (hdg : decode cc pc = .ok (.invokevirtual index, 3))
    (kk : W p l e R s m args below meth c H locs cells slots Q (F0 m (pc + 3) ls (va_rf (some (g 3)) :: rest))) : W p l e R s m args below meth c H locs cells slots Q (F0 m pc ls (va_rf r :: rest)) := by
  obtain ⟨rfl, he⟩ := gA_some h
  have hcell : H[o.1]? = some (vp_cell (kA t) o.2) := (M.P _ _ he).1
  have hcls : (vp_cell (kA t) o.2).cls = kA t ∧ (vp_cell (kA t) o.2).vm.isStatics = false := by
    obtain ⟨q, n, f | f | f | f | f⟩ := o <;> exact ⟨rfl, rfl⟩
  exact va_getC C.x C.b (C.ml.trans hls.symm) C.ow (C.ts _ hlink) (va_Dc.use hz.2.2.2.2.2.2.2.2) (C.ts _ hsel) (C.ts _ hinst) (C.ts _ hnat) hz.2.2.2.2.2.2.2.1 ⟨_, hcell, hcls.2, by rw [hcls.1]; exact va_nmO (C.K.2 t _ ht).2 (by decide)⟩ hframes hlocals hdg kk
variable {y : MethodName} {bytes : ByteArray} {maxL mc ms n index : Nat} {ret : Option FieldType} {ws : List Cond} {rm : Room} {Qc : Array Value → State → Outcome → State → Prop} {free : Addr → Prop} {b : Addr} {As st0 : List Value} {Cn : String}
theorem w_srecv (M : hM D cl kA n0 s E nx H locs) (hz : zS S g n0 s) {ci : Nat} {fs : List Value} (he : So S b = some (.inr (ci, fs))) : ∃ cell : Cell, H[b]? = some cell ∧ cell.vm.isStatics = false ∧ s.vm.findClass (sN ci) = some cell.cls := by
  have hO := (hz.1 _ _ _ he).1
  obtain ⟨cell, h1, h2, h3, h4⟩ := hO
  have hb : b < s.heap.size := (Array.getElem?_eq_some_iff.mp h1).1
  exact ⟨cell, by rw [M.S.2.1 b hb h4]; exact h1, h2, h3⟩
theorem w_runVs (C : hC p s m args c cc nL own Ts D cl tys n0 Z) (M : hM D cl kA n0 s E nx H locs) (hz : zS S g n0 s) {ci : Nat} {o : Nat × List Value} (h : gO (So S) r ci = some o) (hMt : Met l y ws rm (va_Pc (va_rf (some o.1) :: As) (hI D cl kA tys n0 Z (E, nx))) Qc mc ms free) (cw : CallW R s args own (sN ci) index y bytes maxL ret ws rm mc ms n)
    (hn : As.length = n) (hsize : ls.size = nL) (hstack : st0 = As.reverse ++ va_rf r :: rest) (hW : (rest.map fun v => v.category).sum ≤ 8) (hdg : decode cc pc = .ok (.invokevirtual index, 3)) (hf : cells + mc ≤ R.cells ∧ slots + ms ≤ R.slots) :
    va_Run p l e R s m args below meth c H locs cells slots mc ms (F0 m pc ls st0) rest (Qc (va_rf (some o.1) :: As).toArray) free := by
  obtain ⟨rfl, he⟩ := gO_some h
  exact va_runV C.fix hMt cw ⟨hI.blind C.zk _, w_srecv M hz he, fun U hU hA => ⟨rfl, hM.I C M U hU hA⟩⟩ rfl hn hsize hstack (lv_room hW) hdg hf
theorem w_runUs (C : hC p s m args c cc nL own Ts D cl tys n0 Z) (M : hM D cl kA n0 s E nx H locs) (hz : zS S g n0 s) {ci : Nat} {o : Nat × List Value} {x : MethodName} {owner : String} (h : gO (So S) r ci = some o) (hMt : Met l y ws rm (va_Pc (va_rf (some o.1) :: As) (hI D cl kA tys n0 Z (E, nx))) Qc mc ms free) (cw : va_CU R s args own (sN ci) owner index x y bytes maxL ret ws rm mc ms n)
    (hn : As.length = n) (hsize : ls.size = nL) (hstack : st0 = As.reverse ++ va_rf r :: rest) (hW : (rest.map fun v => v.category).sum ≤ 8) (hdg : decode cc pc = .ok (.invokevirtual index, 3)) (hf : cells + mc ≤ R.cells ∧ slots + ms ≤ R.slots) :
    va_Run p l e R s m args below meth c H locs cells slots mc ms (F0 m pc ls st0) rest (Qc (va_rf (some o.1) :: As).toArray) free := by
  obtain ⟨rfl, he⟩ := gO_some h
  exact va_runU C.fix hMt cw ⟨hI.blind C.zk _, w_srecv M hz he, fun U hU hA => ⟨rfl, hM.I C M U hU hA⟩⟩ rfl hn hsize hstack (lv_room hW) hdg hf
end HCS
