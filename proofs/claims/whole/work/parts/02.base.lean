/-! ===== the heap as a map: what lies at which address; an array's cell bears a tag in place of its class ===== -/
abbrev hE : Type := Nat → Option va_E
def h_cv (kA : Nat → ClassId) (e : va_E) : va_E := match e with
  | .inl x => .inl (kA x.1, x.2)
  | .inr o => .inr o
def hp (D : va_G) (cl : List vw_C) (kA : Nat → ClassId) (n0 : Nat) (E : hE) (H : Heap) : Prop := ∀ (a : Nat) (e : va_E), E a = some e → va_at D cl (a, h_cv kA e) H ∧ n0 ≤ a
/-! reading and writing the map -/
def gO (E : hE) (r : Option Nat) (ci : Nat) : Option (Nat × List Value) := r.bind fun a => (E a).bind fun e => match e with
  | .inr o => if o.1 = ci then some (a, o.2) else none
  | .inl _ => none
def vI (v : Value) : Option Int32 := match v with
  | .int x => some x
  | _ => none
def vR (v : Value) : Option (Option Nat) := match v with
  | .null => some none
  | .ref a => some (some a)
  | _ => none
def gI (E : hE) (r : Option Nat) (ci k : Nat) : Option Int32 := (gO E r ci).bind fun o => (o.2[k]?).bind vI
def gR (E : hE) (r : Option Nat) (ci k : Nat) : Option (Option Nat) := (gO E r ci).bind fun o => (o.2[k]?).bind vR
def sF (E : hE) (r : Option Nat) (ci k : Nat) (v : Value) : Option hE := (gO E r ci).bind fun o => if k < o.2.length then some (va_up E o.1 (some (.inr (ci, o.2.set k v)))) else none
def sI (E : hE) (r : Option Nat) (ci k : Nat) (x : Int32) : Option hE := sF E r ci k (.int x)
def sZ (E : hE) (r : Option Nat) (ci k : Nat) (x : Int32) : Option hE := if x = 0 ∨ x = 1 then sF E r ci k (.int x) else none
def sR (E : hE) (r : Option Nat) (ci k : Nat) (q : Option Nat) : Option hE := sF E r ci k (va_rf q)
def gA (E : hE) (r : Option Nat) (t : Nat) : Option (Nat × vp_A) := r.bind fun a => (E a).bind fun e => match e with
  | .inl x => if x.1 = t then some (a, x.2) else none
  | .inr _ => none
def aL (E : hE) (r : Option Nat) (t : Nat) : Option Int32 := (gA E r t).map fun o => nI o.2.1
def vAi (x : vp_A) : Option (Nat → Int32) := match x.2 with
  | .inl f => some f
  | _ => none
def vAq (x : vp_A) : Option (Nat → Option Nat) := match x.2 with
  | .inr (.inr (.inr (.inr f))) => some f
  | _ => none
def vAl (x : vp_A) : Option (Nat → Int64) := match x.2 with
  | .inr (.inl f) => some f
  | _ => none
def aJ (E : hE) (r : Option Nat) (t : Nat) (i : Int32) : Option Int64 := (gA E r t).bind fun o => (vAl o.2).bind fun f => if i < 0 ∨ o.2.1 ≤ i.toNatClampNeg then none else some (f i.toNatClampNeg)
def tJ (E : hE) (r : Option Nat) (t : Nat) (i : Int32) (x : Int64) : Option hE := (gA E r t).bind fun o => (vAl o.2).bind fun f => if i < 0 ∨ o.2.1 ≤ i.toNatClampNeg then none else some (va_up E o.1 (some (.inl (t, o.2.1, .inr (.inl (vp_updL f i.toNatClampNeg x))))))
def nJ (E : hE) (nx t : Nat) (n : Int32) (bd : Nat) : Option hE := if n < 0 ∨ bd < n.toNatClampNeg then none else some (va_up E nx (some (.inl (t, n.toNatClampNeg, .inr (.inl (fun _ => 0))))))
def aI (E : hE) (r : Option Nat) (t : Nat) (i : Int32) : Option Int32 := (gA E r t).bind fun o => (vAi o.2).bind fun f => if i < 0 ∨ o.2.1 ≤ i.toNatClampNeg then none else some (f i.toNatClampNeg)
def aQ (E : hE) (r : Option Nat) (t : Nat) (i : Int32) : Option (Option Nat) := (gA E r t).bind fun o => (vAq o.2).bind fun f => if i < 0 ∨ o.2.1 ≤ i.toNatClampNeg then none else some (f i.toNatClampNeg)
def tI (E : hE) (r : Option Nat) (t : Nat) (i x : Int32) : Option hE := (gA E r t).bind fun o => (vAi o.2).bind fun f => if i < 0 ∨ o.2.1 ≤ i.toNatClampNeg then none else some (va_up E o.1 (some (.inl (t, o.2.1, .inl (upd f i.toNatClampNeg x)))))
def tZ (E : hE) (r : Option Nat) (t : Nat) (i x : Int32) : Option hE := if x = 0 ∨ x = 1 then tI E r t i x else none
def tQ (E : hE) (r : Option Nat) (t : Nat) (i : Int32) (q : Option Nat) (ci : Nat) : Option hE := (gA E r t).bind fun o => (vAq o.2).bind fun f => if i < 0 ∨ o.2.1 ≤ i.toNatClampNeg then none else if q = none ∨ (gO E q ci).isSome = true then some (va_up E o.1 (some (.inl (t, o.2.1, .inr (.inr (.inr (.inr (va_up f i.toNatClampNeg q)))))))) else none
def bZ (x : Int32) : Option Int32 := if x = 0 ∨ x = 1 then some x else none
theorem bZ_some {x v : Int32} (h : bZ x = some v) : x = v ∧ (v = 0 ∨ v = 1) := by
  unfold bZ at h
  by_cases hv : x = 0 ∨ x = 1
  · rw [if_pos hv] at h
    cases h
    exact ⟨rfl, hv⟩
  · rw [if_neg hv] at h
    cases h
def nA (E : hE) (nx t : Nat) (n : Int32) (bd : Nat) : Option hE := if n < 0 ∨ bd < n.toNatClampNeg then none else some (va_up E nx (some (.inl (t, n.toNatClampNeg, .inl (fun _ => 0)))))
def nQ (E : hE) (nx t : Nat) (n : Int32) (bd : Nat) : Option hE := if n < 0 ∨ bd < n.toNatClampNeg ∨ 100000 < n.toNatClampNeg then none else some (va_up E nx (some (.inl (t, n.toNatClampNeg, .inr (.inr (.inr (.inr (fun _ => none))))))))
theorem gO_some {E : hE} {r : Option Nat} {ci : Nat} {o : Nat × List Value} (h : gO E r ci = some o) : r = some o.1 ∧ E o.1 = some (.inr (ci, o.2)) := by
  unfold gO at h
  obtain ⟨a, h1, hz0⟩ := Option.bind_eq_some_iff.mp h
  obtain ⟨e, h2, hz1⟩ := Option.bind_eq_some_iff.mp hz0
  cases e with
  | inl x => cases hz1
  | inr x =>
    by_cases hc : x.1 = ci
    · simp only [hc, if_true] at hz1
      cases hz1
      refine ⟨h1, ?_⟩
      rw [h2, ← hc]
    · simp only [hc, if_false] at hz1
      cases hz1
theorem gA_some {E : hE} {r : Option Nat} {t : Nat} {o : Nat × vp_A} (h : gA E r t = some o) : r = some o.1 ∧ E o.1 = some (.inl (t, o.2)) := by
  unfold gA at h
  obtain ⟨a, h1, hz0⟩ := Option.bind_eq_some_iff.mp h
  obtain ⟨e, h2, hz1⟩ := Option.bind_eq_some_iff.mp hz0
  cases e with
  | inr x => cases hz1
  | inl x =>
    by_cases hc : x.1 = t
    · simp only [hc, if_true] at hz1
      cases hz1
      refine ⟨h1, ?_⟩
      rw [h2, ← hc]
    · simp only [hc, if_false] at hz1
      cases hz1
theorem vI_some {v : Value} {x : Int32} (h : vI v = some x) : v = .int x := by
  unfold vI at h
  cases v <;> first | (cases h; rfl) | cases h
theorem vR_some {v : Value} {x : Option Nat} (h : vR v = some x) : v = va_rf x := by
  unfold vR at h
  cases v <;> first | (cases h; rfl) | cases h
theorem vAi_some {x : vp_A} {f : Nat → Int32} (h : vAi x = some f) : x = (x.1, .inl f) := by
  obtain ⟨n, g | g | g | g | g⟩ := x <;> first | (cases h; rfl) | cases h
theorem vAl_some {x : vp_A} {f : Nat → Int64} (h : vAl x = some f) : x = (x.1, .inr (.inl f)) := by
  obtain ⟨n, g | g | g | g | g⟩ := x <;> first | (cases h; rfl) | cases h
theorem vAq_some {x : vp_A} {f : Nat → Option Nat} (h : vAq x = some f) : x = (x.1, .inr (.inr (.inr (.inr f)))) := by
  obtain ⟨n, g | g | g | g | g⟩ := x <;> first | (cases h; rfl) | cases h
section HPB
variable {D : va_G} {cl : List vw_C} {kA : Nat → ClassId} {n0 : Nat} {E : hE} {H H1 : Heap} {a : Nat} {e e' : va_E}
theorem hp_one (h : hp D cl kA n0 E H) (ha : E a = some e) : va_P D cl [(a, h_cv kA e)] H := fun k q hk => by
  have hk0 : k < 1 := (List.getElem?_eq_some_iff.mp hk).1
  rw [show k = 0 by omega] at hk
  cases hk
  exact (h a e ha).1
theorem hp_lt (h : hp D cl kA n0 E H) (ha : E a = some e) : a < H.size := (h a e ha).1.lt
theorem hp_upd (h : hp D cl kA n0 E H) (ha : E a = some e) (he : va_at D cl (a, h_cv kA e') H1) (oq : ∀ q : Nat, q ≠ a → H1[q]? = H[q]?) : hp D cl kA n0 (va_up E a (some e')) H1 := by
  intro b x hb
  by_cases hba : b = a
  · subst hba
    rw [va_up_self] at hb
    cases hb
    exact ⟨he, (h b e ha).2⟩
  · rw [va_up_ne _ _ hba] at hb
    obtain ⟨h1, h2⟩ := h b x hb
    exact ⟨h1.kept (oq b hba), h2⟩
theorem hp_born (h : hp D cl kA n0 E H) (hn : n0 ≤ H.size) (he : va_at D cl (H.size, h_cv kA e) H1) (oq : ∀ q : Nat, q < H.size → H1[q]? = H[q]?) : hp D cl kA n0 (va_up E H.size (some e)) H1 := by
  intro b x hb
  by_cases hba : b = H.size
  · subst hba
    rw [va_up_self] at hb
    cases hb
    exact ⟨he, hn⟩
  · rw [va_up_ne _ _ hba] at hb
    obtain ⟨h1, h2⟩ := h b x hb
    exact ⟨h1.kept (oq b h1.lt), h2⟩
end HPB
/-! ===== what stays through a method's walk (hC), what moves (hM), a contract's start and end (hI) ===== -/
def hZk (n0 : Nat) (Z : State → Prop) : Prop := (∀ u U : State, u.WarmedH U.vm → (∀ a : Nat, a < n0 → U.heap[a]? = u.heap[a]?) → Z u → Z U) ∧ ∀ u U : State, u.vm = U.vm → u.heap = U.heap → Z u → Z U
def hC (p : Program) (s : State) (m : MethodId) (args : Array Value) (c : Code) (cc : ByteArray) (nL : Nat) (own : String) (Ts : List Cond) (D : va_G) (cl : List vw_C) (tys : List (ClassId × FieldType)) (n0 : Nat) (Z : State → Prop) : Prop :=
  p.tables.exec = Jvm.exec ∧ c.code = cc ∧ c.maxLocals = nL ∧ s.vm.findClass own = some m.cls ∧ (∀ w ∈ Ts, w.before args s = true) ∧ va_K D cl tys s ∧ n0 ≤ s.heap.size ∧ Z s ∧ hZk n0 Z
def hM (D : va_G) (cl : List vw_C) (kA : Nat → ClassId) (n0 : Nat) (s : State) (E : hE) (nx : Nat) (H : Heap) (locs : List Loc) : Prop := hp D cl kA n0 E H ∧ va_S (fun q => n0 ≤ q) s.heap H locs ∧ H.size = nx
def hI (D : va_G) (cl : List vw_C) (kA : Nat → ClassId) (tys : List (ClassId × FieldType)) (n0 : Nat) (Z : State → Prop) (u : hE × Nat) (U : State) : Prop := hp D cl kA n0 u.1 U.heap ∧ va_K D cl tys U ∧ n0 ≤ U.heap.size ∧ U.heap.size = u.2 ∧ Z U
section HCB
variable {p : Program} {l : Launch} {e : Env} {R : Room} {s : State} {m : MethodId} {args : Array Value} {below : List Frame} {meth : Method} {c : Code} {H : Heap} {locs : List Loc} {cells slots : Nat} {Q : State → Prop}
variable {cc : ByteArray} {nL pc : Nat} {own : String} {Ts : List Cond} {D : va_G} {cl : List vw_C} {kA : Nat → ClassId} {tys : List (ClassId × FieldType)} {n0 nx : Nat} {Z : State → Prop} {E E1 : hE} {ls : Array Slot} {rest : List Value} {r : Option Nat}
theorem hC.x (C : hC p s m args c cc nL own Ts D cl tys n0 Z) : p.tables.exec = Jvm.exec := C.1
theorem hC.b (C : hC p s m args c cc nL own Ts D cl tys n0 Z) : c.code = cc := C.2.1
theorem hC.ml (C : hC p s m args c cc nL own Ts D cl tys n0 Z) : c.maxLocals = nL := C.2.2.1
theorem hC.ow (C : hC p s m args c cc nL own Ts D cl tys n0 Z) : s.vm.findClass own = some m.cls := C.2.2.2.1
theorem hC.ts (C : hC p s m args c cc nL own Ts D cl tys n0 Z) : ∀ w ∈ Ts, w.before args s = true := C.2.2.2.2.1
theorem hC.K (C : hC p s m args c cc nL own Ts D cl tys n0 Z) : va_K D cl tys s := C.2.2.2.2.2.1
theorem hC.n (C : hC p s m args c cc nL own Ts D cl tys n0 Z) : n0 ≤ s.heap.size := C.2.2.2.2.2.2.1
theorem hC.z (C : hC p s m args c cc nL own Ts D cl tys n0 Z) : Z s := C.2.2.2.2.2.2.2.1
theorem hC.zk (C : hC p s m args c cc nL own Ts D cl tys n0 Z) : hZk n0 Z := C.2.2.2.2.2.2.2.2
theorem hC.fix (C : hC p s m args c cc nL own Ts D cl tys n0 Z) : CallFix p m c cc nL s args Ts own := ⟨C.x, C.b, C.ml, C.ow, C.ts⟩
theorem hM.P (M : hM D cl kA n0 s E nx H locs) : hp D cl kA n0 E H := M.1
theorem hM.S (M : hM D cl kA n0 s E nx H locs) : va_S (fun q => n0 ≤ q) s.heap H locs := M.2.1
theorem hM.z (M : hM D cl kA n0 s E nx H locs) : H.size = nx := M.2.2
theorem hM.lo (C : hC p s m args c cc nL own Ts D cl tys n0 Z) (M : hM D cl kA n0 s E nx H locs) : n0 ≤ H.size := Nat.le_trans C.n M.S.1
theorem hM.I (C : hC p s m args c cc nL own Ts D cl tys n0 Z) (M : hM D cl kA n0 s E nx H locs) (U : State) (hU : U.heap = H) (hA : s.WarmedH U.vm) : hI D cl kA tys n0 Z (E, nx) U := by
  refine ⟨by rw [hU]; exact M.1, va_K.moved hA.alike C.K, by rw [hU]; exact hM.lo C M, by rw [hU]; exact M.z, C.zk.1 s U hA (fun q hq => ?_) C.z⟩
  rw [hU]
  exact M.S.2.1 q (Nat.lt_of_lt_of_le hq C.n) (Nat.not_le.mpr hq)
theorem hI.blind {u : hE × Nat} (hz : hZk n0 Z) (av : List Value) : FrameBlind (va_Pc av (hI D cl kA tys n0 Z u)) := fun b U g mk q => by
  obtain ⟨q0, q1, q2, q3, q4, q5⟩ := q
  exact ⟨q0, q1, va_K.moved (u := U) (U := U.calling g mk b) (Vm.Alike.refl U.vm) q2, q3, q4, hz.2 U (U.calling g mk b) rfl rfl q5⟩
/-- a write to a cell that is there -/
theorem hM.upd {a : Nat} {x y : va_E} {H1 : Heap} {j : Nat} (M : hM D cl kA n0 s E nx H locs) (ha : E a = some x) (he : va_at D cl (a, h_cv kA y) H1) (z : H1.size = H.size) (oq : ∀ q : Nat, q ≠ a → H1[q]? = H[q]?) : hM D cl kA n0 s (va_up E a (some y)) nx H1 (locs ++ [⟨a, j⟩]) :=
  ⟨hp_upd M.P ha he oq, M.S.put z oq (M.P a x ha).2, z.trans M.z⟩
/-- a method's contract out of its walk -/
theorem h_met {y : MethodName} {ws ws' : List Cond} {rm : Room} {Qc : Array Value → State → Outcome → State → Prop} {mc ms : Nat} {maxL : Nat} {ret : Option FieldType} {av : List Value} (hz : hZk n0 Z)
    (hy : plainName y.cls = true) (hw : ws = Cond.code y cc maxL ret :: ws') (hlen : (lg_sl av).length ≤ maxL) {lvs : List (Nat × Value)} (hlv : lv_args 0 av = lvs)
    (body : ∀ (p : Program) (e : Env) (s : State) (m : MethodId) (below : List Frame) (meth : Method) (c : Code) (ls : Array Slot), hC p s m av.toArray c cc maxL y.cls ws D cl tys n0 Z → hM D cl kA n0 s E nx s.heap [] → meth.sig.returnType = ret → meth.locks = false → meth.name = y.name → lv_has ls maxL lvs →
      W p l e rm s m av.toArray below meth c s.heap [] 0 0 (MQ below Qc av.toArray s mc ms (fun q => n0 ≤ q)) (F0 m 0 ls [])) : Met l y ws rm (va_Pc av (hI D cl kA tys n0 Z (E, nx))) Qc mc ms (fun q => n0 ≤ q) := by
  refine Met.ofW (cc := cc) (maxL := maxL) (ret := ret) hy hw ?_
  intro p e s m args below meth c s₁ B hml hv
  obtain ⟨rfl, hP, hK, hn, hsz, hZ⟩ := hv
  have hts := atoms_spec (ws := ws) B.pre
  have hown : s.vm.findClass y.cls = some m.cls := findClass_of_methodNamed B.named
  have hin : meth.name = y.name := (name_of_methodNamed B.named B.method).1
  subst hlv
  have hl := lv_entry av hlen
  rw [lg_entry_eq]
  generalize (lg_sl av ++ List.replicate (maxL - (lg_sl av).length) Slot.unset).toArray = ls at hl ⊢
  exact body p e s m below meth c ls ⟨B.exec, B.bytes, hml, hown, hts, hK, hn, hZ, hz⟩ ⟨hP, va_S.rf, hsz⟩ B.returns B.notSynchronized hin hl
/-! fields -/
theorem w_get (C : hC p s m args c cc nL own Ts D cl tys n0 Z) (M : hM D cl kA n0 s E nx H locs) {ci k N index : Nat} {Cn ref : String} {T : u_T} {o : Nat × List Value} {v : Value} (h : gO E r ci = some o) (hv : o.2[k]? = some v) (hc : cl[ci]? = some (Cn, T, N)) (hin : ∀ w ∈ u_ws Cn T N, w ∈ Ts) (hk : k < N) (hlink : Cond.fieldLink own index ref (T k).2.1 (T k).2.2.1 ∈ Ts) (href : (T k).1 = ref) (hdg : decode cc pc = .ok (.getfield index, 3))
    (kk : W p l e R s m args below meth c H locs cells slots Q (F0 m (pc + 3) ls (v :: rest))) : W p l e R s m args below meth c H locs cells slots Q (F0 m pc ls (va_rf r :: rest)) := by
  obtain ⟨rfl, he⟩ := gO_some h
  exact va_get C.x C.b C.ts hin C.ow C.K (hp_one M.P he) 0 rfl hc k hk (C.ts _ hlink) (fun x h => by rw [← href]; exact h) hv hdg kk
theorem w_getI (C : hC p s m args c cc nL own Ts D cl tys n0 Z) (M : hM D cl kA n0 s E nx H locs) {ci k N index : Nat} {Cn ref : String} {T : u_T} {v : Int32} (h : gI E r ci k = some v) (hc : cl[ci]? = some (Cn, T, N)) (hin : ∀ w ∈ u_ws Cn T N, w ∈ Ts) (hk : k < N) (hlink : Cond.fieldLink own index ref (T k).2.1 (T k).2.2.1 ∈ Ts) (href : (T k).1 = ref) (hdg : decode cc pc = .ok (.getfield index, 3))
    (kk : W p l e R s m args below meth c H locs cells slots Q (F0 m (pc + 3) ls (.int v :: rest))) : W p l e R s m args below meth c H locs cells slots Q (F0 m pc ls (va_rf r :: rest)) := by
  obtain ⟨o, h1, hz0⟩ := Option.bind_eq_some_iff.mp h
  obtain ⟨w, h2, hz1⟩ := Option.bind_eq_some_iff.mp hz0
  have h3 := vI_some hz1
  subst h3
  exact w_get C M h1 h2 hc hin hk hlink href hdg kk
theorem w_getR (C : hC p s m args c cc nL own Ts D cl tys n0 Z) (M : hM D cl kA n0 s E nx H locs) {ci k N index : Nat} {Cn ref : String} {T : u_T} {v : Option Nat} (h : gR E r ci k = some v) (hc : cl[ci]? = some (Cn, T, N)) (hin : ∀ w ∈ u_ws Cn T N, w ∈ Ts) (hk : k < N) (hlink : Cond.fieldLink own index ref (T k).2.1 (T k).2.2.1 ∈ Ts) (href : (T k).1 = ref) (hdg : decode cc pc = .ok (.getfield index, 3))
    (kk : W p l e R s m args below meth c H locs cells slots Q (F0 m (pc + 3) ls (va_rf v :: rest))) : W p l e R s m args below meth c H locs cells slots Q (F0 m pc ls (va_rf r :: rest)) := by
  obtain ⟨o, h1, hz0⟩ := Option.bind_eq_some_iff.mp h
  obtain ⟨w, h2, hz1⟩ := Option.bind_eq_some_iff.mp hz0
  have h3 := vR_some hz1
  subst h3
  exact w_get C M h1 h2 hc hin hk hlink href hdg kk
theorem w_putV (C : hC p s m args c cc nL own Ts D cl tys n0 Z) (M : hM D cl kA n0 s E nx H locs) {ci k N index : Nat} {Cn ref : String} {T : u_T} {v : Value} {ty : FieldType} (ty0 : Nat → FieldType) (h : sF E r ci k v = some E1) (hc : cl[ci]? = some (Cn, T, N)) (hin : ∀ w ∈ u_ws Cn T N, w ∈ Ts) (hty : ∀ k, k < N → parseFieldDescriptor (T k).2.2.1 = some (ty0 k)) (hnm : ∀ a, a < N → ∀ b, b < N → a ≠ b → (T a).2.1 ≠ (T b).2.1) (hk : k < N) (hlink : Cond.fieldLink own index ref (T k).2.1 (T k).2.2.1 ∈ Ts) (href : (T k).1 = ref) (hfin : (T k).2.2.2 = false) (hd : parseFieldDescriptor (T k).2.2.1 = some ty) (hn : narrow ty v = v) (hfit : fits ty v = true) (hdg : decode cc pc = .ok (.putfield index, 3))
    (kk : ∀ (H1 : Heap) (locs1 : List Loc), hM D cl kA n0 s E1 nx H1 locs1 → W p l e R s m args below meth c H1 locs1 cells slots Q (F0 m (pc + 3) ls rest)) : W p l e R s m args below meth c H locs cells slots Q (F0 m pc ls (v :: va_rf r :: rest)) := by
  obtain ⟨⟨a, fs⟩, h1, hz0⟩ := Option.bind_eq_some_iff.mp h
  obtain ⟨rfl, he⟩ := gO_some h1
  dsimp only at hz0 he
  by_cases hl : k < fs.length
  · rw [if_pos hl] at hz0
    cases hz0
    have hap := va_apart (own := own) C.ts hin ty0 hty hnm C.K hc
    obtain ⟨r, h1, cell, q1, q2, q3, q4⟩ := (M.P _ _ he).1
    have hr : r = (Cn, T, N) := Option.some.inj (h1.symm.trans hc)
    subst hr
    obtain ⟨hS, hfc, kC, hkC, hkind⟩ := C.K.1 ci _ hc
    obtain ⟨cf, kf, fi, f, hi, hsl⟩ := hS k hk
    have hlay := C.ts _ (hin _ (u_in_lay hk))
    unfold u_lay at hlay
    rw [if_neg (by rw [hfin]; decide)] at hlay
    have hst := (u_facts hfc hkC (u_lays C.ts hin hk) hi).1
    have h6 := u_store hfc hkC hkind hlay hi hd hn hfit
    refine W.putK C.x C.b (f := f) ⟨C.ow, C.ts _ hlink, ⟨_, _, _, by rw [← href]; exact hi⟩, hst⟩ (by rw [q2]; exact h6) q1 q3 (by rw [hsl]; exact k2_hasslot (q4 k hk)) rfl rfl hdg fun H' e1 e2 e3 => ?_
    rw [hsl] at e1 ⊢
    exact kk H' _ (hM.upd M he ⟨_, hc, t_OB.to (V := updV (vp_V fs) k v) ⟨_, e1, q2, q3, t_set q4 hap hk v⟩ (fun j _ => vp_updV_set hl v j)⟩ e2 e3)
  · rw [if_neg hl] at hz0
    cases hz0
theorem w_putVF (C : hC p s m args c cc nL own Ts D cl tys n0 Z) (M : hM D cl kA n0 s E nx H locs) {ci k N index : Nat} {Cn ref : String} {T : u_T} {v : Value} {ty : FieldType} (ty0 : Nat → FieldType) (h : sF E r ci k v = some E1) (hc : cl[ci]? = some (Cn, T, N)) (hin : ∀ w ∈ u_ws Cn T N, w ∈ Ts) (hty : ∀ k, k < N → parseFieldDescriptor (T k).2.2.1 = some (ty0 k)) (hnm : ∀ a, a < N → ∀ b, b < N → a ≠ b → (T a).2.1 ≠ (T b).2.1) (hk : k < N) (hlink : Cond.fieldLink own index ref (T k).2.1 (T k).2.2.1 ∈ Ts) (href : (T k).1 = ref) (hfin : (T k).2.2.2 = true) (hin2 : meth.name = "<init>") (hdecl : (T k).1 = own) (hd : parseFieldDescriptor (T k).2.2.1 = some ty) (hn : narrow ty v = v) (hfit : fits ty v = true) (hdg : decode cc pc = .ok (.putfield index, 3))
    (kk : ∀ (H1 : Heap) (locs1 : List Loc), hM D cl kA n0 s E1 nx H1 locs1 → W p l e R s m args below meth c H1 locs1 cells slots Q (F0 m (pc + 3) ls rest)) : W p l e R s m args below meth c H locs cells slots Q (F0 m pc ls (v :: va_rf r :: rest)) := by
  obtain ⟨⟨a, fs⟩, h1, hz0⟩ := Option.bind_eq_some_iff.mp h
  obtain ⟨rfl, he⟩ := gO_some h1
  dsimp only at hz0 he
  by_cases hl : k < fs.length
  · rw [if_pos hl] at hz0
    cases hz0
    have hap := va_apart (own := own) C.ts hin ty0 hty hnm C.K hc
    obtain ⟨r, h1, cell, q1, q2, q3, q4⟩ := (M.P _ _ he).1
    have hr : r = (Cn, T, N) := Option.some.inj (h1.symm.trans hc)
    subst hr
    obtain ⟨hS, hfc, kC, hkC, hkind⟩ := C.K.1 ci _ hc
    obtain ⟨cf, kf, fi, f, hi, hsl⟩ := hS k hk
    have hlay := C.ts _ (hin _ (u_in_lay hk))
    unfold u_lay at hlay
    rw [if_pos hfin] at hlay
    have hst := (u_facts hfc hkC (u_lays C.ts hin hk) hi).1
    have hcf : m.cls = cf := by
      obtain ⟨_, _, c', _, _, _, -, -, hf', -, -, -, hown2, -⟩ := Cond.laysFinal_spec hlay
      have e1 : c' = cf := by have := hi.symm.trans hf'; simp at this; exact this.1.symm
      rw [hdecl] at hown2
      rw [← e1]; exact Option.some.inj (C.ow.symm.trans hown2)
    have h6 := u_fits hfc hkC hkind (Or.inr hlay) hi hd hn hfit
    refine W.putFinK C.x C.b C.ow (C.ts _ hlink) (by rw [← href]; exact hi) hst hcf hin2 (by rw [q2]; exact h6) q1 q3 (by rw [hsl]; exact k2_hasslot (q4 k hk)) rfl rfl hdg fun H' e1 e2 e3 => ?_
    rw [hsl] at e1 ⊢
    exact kk H' _ (hM.upd M he ⟨_, hc, t_OB.to (V := updV (vp_V fs) k v) ⟨_, e1, q2, q3, t_set q4 hap hk v⟩ (fun j _ => vp_updV_set hl v j)⟩ e2 e3)
  · rw [if_neg hl] at hz0
    cases hz0
/-! arrays -/
theorem h_in {i : Int32} {n : Nat} (h : ¬ (i < 0 ∨ n ≤ i.toNatClampNeg)) : vp_in i n := h
theorem w_iald (C : hC p s m args c cc nL own Ts D cl tys n0 Z) (M : hM D cl kA n0 s E nx H locs) {t : Nat} {i v : Int32} (h : aI E r t i = some v) (ht : tys[t]? = some (kA t, .int)) (hdg : decode cc pc = .ok (.iaload, 1))
    (kk : W p l e R s m args below meth c H locs cells slots Q (F0 m (pc + 1) ls (.int v :: rest))) : W p l e R s m args below meth c H locs cells slots Q (F0 m pc ls (.int i :: va_rf r :: rest)) := by
  obtain ⟨⟨a, x⟩, h1, hz0⟩ := Option.bind_eq_some_iff.mp h
  obtain ⟨f, h2, hz1⟩ := Option.bind_eq_some_iff.mp hz0
  obtain ⟨rfl, he⟩ := gA_some h1
  have hx := vAi_some h2
  dsimp only at hz1 he hx
  rw [hx] at he
  by_cases hi : i < 0 ∨ x.1 ≤ i.toNatClampNeg
  · rw [if_pos hi] at hz1; cases hz1
  · rw [if_neg hi] at hz1
    cases hz1
    exact va_iald C.x C.b C.K (hp_one M.P he) 0 t rfl ht (h_in hi) hdg kk
theorem w_lald (C : hC p s m args c cc nL own Ts D cl tys n0 Z) (M : hM D cl kA n0 s E nx H locs) {t : Nat} {i : Int32} {v : Int64} (h : aJ E r t i = some v) (ht : tys[t]? = some (kA t, .long)) (hdg : decode cc pc = .ok (.laload, 1))
    (kk : W p l e R s m args below meth c H locs cells slots Q (F0 m (pc + 1) ls (.long v :: rest))) : W p l e R s m args below meth c H locs cells slots Q (F0 m pc ls (.int i :: va_rf r :: rest)) := by
  obtain ⟨⟨a, x⟩, h1, hz0⟩ := Option.bind_eq_some_iff.mp h
  obtain ⟨f, h2, hz1⟩ := Option.bind_eq_some_iff.mp hz0
  obtain ⟨rfl, he⟩ := gA_some h1
  have hx := vAl_some h2
  dsimp only at hz1 he hx
  rw [hx] at he
  by_cases hi : i < 0 ∨ x.1 ≤ i.toNatClampNeg
  · rw [if_pos hi] at hz1; cases hz1
  · rw [if_neg hi] at hz1
    cases hz1
    exact va_lald C.x C.b C.K (hp_one M.P he) 0 t rfl ht (h_in hi) hdg kk
theorem w_zald (C : hC p s m args c cc nL own Ts D cl tys n0 Z) (M : hM D cl kA n0 s E nx H locs) {t : Nat} {i v : Int32} (h : aI E r t i = some v) (ht : tys[t]? = some (kA t, .boolean)) (hdg : decode cc pc = .ok (.baload, 1))
    (kk : W p l e R s m args below meth c H locs cells slots Q (F0 m (pc + 1) ls (.int v :: rest))) : W p l e R s m args below meth c H locs cells slots Q (F0 m pc ls (.int i :: va_rf r :: rest)) := by
  obtain ⟨⟨a, x⟩, h1, hz0⟩ := Option.bind_eq_some_iff.mp h
  obtain ⟨f, h2, hz1⟩ := Option.bind_eq_some_iff.mp hz0
  obtain ⟨rfl, he⟩ := gA_some h1
  have hx := vAi_some h2
  dsimp only at hz1 he hx
  rw [hx] at he
  by_cases hi : i < 0 ∨ x.1 ≤ i.toNatClampNeg
  · rw [if_pos hi] at hz1; cases hz1
  · rw [if_neg hi] at hz1
    cases hz1
    exact va_zald C.x C.b C.K (hp_one M.P he) 0 t rfl ht (h_in hi) hdg kk
theorem w_aald (C : hC p s m args c cc nL own Ts D cl tys n0 Z) (M : hM D cl kA n0 s E nx H locs) {t : Nat} {Cn : String} {i : Int32} {v : Option Nat} (h : aQ E r t i = some v) (ht : tys[t]? = some (kA t, .object Cn)) (hdg : decode cc pc = .ok (.aaload, 1))
    (kk : W p l e R s m args below meth c H locs cells slots Q (F0 m (pc + 1) ls (va_rf v :: rest))) : W p l e R s m args below meth c H locs cells slots Q (F0 m pc ls (.int i :: va_rf r :: rest)) := by
  obtain ⟨⟨a, x⟩, h1, hz0⟩ := Option.bind_eq_some_iff.mp h
  obtain ⟨f, h2, hz1⟩ := Option.bind_eq_some_iff.mp hz0
  obtain ⟨rfl, he⟩ := gA_some h1
  have hx := vAq_some h2
  dsimp only at hz1 he hx
  rw [hx] at he
  by_cases hi : i < 0 ∨ x.1 ≤ i.toNatClampNeg
  · rw [if_pos hi] at hz1; cases hz1
  · rw [if_neg hi] at hz1
    cases hz1
    exact va_aldq C.x C.b C.K (hp_one M.P he) 0 t rfl ht (h_in hi) hdg kk
theorem w_alen (C : hC p s m args c cc nL own Ts D cl tys n0 Z) (M : hM D cl kA n0 s E nx H locs) {t : Nat} {ty : FieldType} {v : Int32} (h : aL E r t = some v) (ht : tys[t]? = some (kA t, ty)) (hdg : decode cc pc = .ok (.arraylength, 1))
    (kk : W p l e R s m args below meth c H locs cells slots Q (F0 m (pc + 1) ls (.int v :: rest))) : W p l e R s m args below meth c H locs cells slots Q (F0 m pc ls (va_rf r :: rest)) := by
  obtain ⟨⟨a, x⟩, h1, h2⟩ := Option.map_eq_some_iff.mp h
  obtain ⟨rfl, he⟩ := gA_some h1
  exact va_alen C.x C.b C.K (hp_one M.P he) 0 t rfl ht h2 hdg kk
theorem w_iast (C : hC p s m args c cc nL own Ts D cl tys n0 Z) (M : hM D cl kA n0 s E nx H locs) {t : Nat} {i v : Int32} (h : tI E r t i v = some E1) (ht : tys[t]? = some (kA t, .int)) (hdg : decode cc pc = .ok (.iastore, 1))
    (kk : ∀ (H1 : Heap) (locs1 : List Loc), hM D cl kA n0 s E1 nx H1 locs1 → W p l e R s m args below meth c H1 locs1 cells slots Q (F0 m (pc + 1) ls rest)) : W p l e R s m args below meth c H locs cells slots Q (F0 m pc ls (.int v :: .int i :: va_rf r :: rest)) := by
  obtain ⟨⟨a, n, g⟩, h1, hz0⟩ := Option.bind_eq_some_iff.mp h
  obtain ⟨f, h2, hz1⟩ := Option.bind_eq_some_iff.mp hz0
  obtain ⟨rfl, he⟩ := gA_some h1
  have hx := vAi_some h2
  dsimp only at hz1 he hx
  rw [hx] at he
  by_cases hi : i < 0 ∨ n ≤ i.toNatClampNeg
  · rw [if_pos hi] at hz1; cases hz1
  · rw [if_neg hi] at hz1
    cases hz1
    refine W.iast C.x C.b (M.P _ _ he).1 ((C.K.2 t _ ht).1 n (fun j => .int (f j))) (fun q => by cases q) (by show ¬ (i < 0 ∨ (arrV _ _ _).slots.size ≤ _); rw [arrV_size]; exact hi) rfl rfl hdg fun H1 e z oq => ?_
    refine kk H1 _ (hM.upd M he ?_ z oq)
    show H1[a]? = some (vp_cell _ _)
    rw [e]
    show some ((vp_cell (kA t) (n, .inl f)).setSlot _ _) = _
    rw [vp_cell_i, vp_cell_i, arrV_store]
    congr 2
    funext q
    by_cases hq : q = i.toNatClampNeg
    · subst hq
      simp [updV, upd]
    · simp [updV, upd, hq]
theorem w_last (C : hC p s m args c cc nL own Ts D cl tys n0 Z) (M : hM D cl kA n0 s E nx H locs) {t : Nat} {i : Int32} {v : Int64} (h : tJ E r t i v = some E1) (ht : tys[t]? = some (kA t, .long)) (hdg : decode cc pc = .ok (.lastore, 1))
    (kk : ∀ (H1 : Heap) (locs1 : List Loc), hM D cl kA n0 s E1 nx H1 locs1 → W p l e R s m args below meth c H1 locs1 cells slots Q (F0 m (pc + 1) ls rest)) : W p l e R s m args below meth c H locs cells slots Q (F0 m pc ls (.long v :: .int i :: va_rf r :: rest)) := by
  obtain ⟨⟨a, n, g⟩, h1, hz0⟩ := Option.bind_eq_some_iff.mp h
  obtain ⟨f, h2, hz1⟩ := Option.bind_eq_some_iff.mp hz0
  obtain ⟨rfl, he⟩ := gA_some h1
  have hx := vAl_some h2
  dsimp only at hz1 he hx
  rw [hx] at he
  by_cases hi : i < 0 ∨ n ≤ i.toNatClampNeg
  · rw [if_pos hi] at hz1; cases hz1
  · rw [if_neg hi] at hz1
    cases hz1
    refine W.last C.x C.b (M.P _ _ he).1 ((C.K.2 t _ ht).1 n (fun j => .long (f j))) (fun q => by cases q) (by show ¬ (i < 0 ∨ (arrV _ _ _).slots.size ≤ _); rw [arrV_size]; exact hi) rfl rfl hdg fun H1 e z oq => ?_
    refine kk H1 _ (hM.upd M he ?_ z oq)
    show H1[a]? = some (vp_cell _ _)
    rw [e]
    show some ((vp_cell (kA t) (n, .inr (.inl f))).setSlot _ _) = _
    rw [vp_cell_l, vp_cell_l, arrV_store]
    congr 2
    funext q
    by_cases hq : q = i.toNatClampNeg
    · subst hq
      simp [updV, vp_updL]
    · simp [updV, vp_updL, hq]
theorem w_zast (C : hC p s m args c cc nL own Ts D cl tys n0 Z) (M : hM D cl kA n0 s E nx H locs) {t : Nat} {i v : Int32} (h : tZ E r t i v = some E1) (ht : tys[t]? = some (kA t, .boolean)) (hdg : decode cc pc = .ok (.bastore, 1))
    (kk : ∀ (H1 : Heap) (locs1 : List Loc), hM D cl kA n0 s E1 nx H1 locs1 → W p l e R s m args below meth c H1 locs1 cells slots Q (F0 m (pc + 1) ls rest)) : W p l e R s m args below meth c H locs cells slots Q (F0 m pc ls (.int v :: .int i :: va_rf r :: rest)) := by
  unfold tZ at h
  by_cases hv : v = 0 ∨ v = 1
  · rw [if_pos hv] at h
    have hvn : narrow .boolean (.int v) = .int v := by rcases hv with rfl | rfl <;> rfl
    obtain ⟨⟨a, n, g⟩, h1, hz0⟩ := Option.bind_eq_some_iff.mp h
    obtain ⟨f, h2, hz1⟩ := Option.bind_eq_some_iff.mp hz0
    obtain ⟨rfl, he⟩ := gA_some h1
    have hx := vAi_some h2
    dsimp only at hz1 he hx
    rw [hx] at he
    by_cases hi : i < 0 ∨ n ≤ i.toNatClampNeg
    · rw [if_pos hi] at hz1; cases hz1
    · rw [if_neg hi] at hz1
      cases hz1
      refine W.zast C.x C.b (M.P _ _ he).1 ((C.K.2 t _ ht).1 n (fun j => .int (f j))) (fun q => by cases q) (by show ¬ (i < 0 ∨ (arrV _ _ _).slots.size ≤ _); rw [arrV_size]; exact hi) rfl rfl hdg fun H1 e z oq => ?_
      refine kk H1 _ (hM.upd M he ?_ z oq)
      show H1[a]? = some (vp_cell _ _)
      rw [e, hvn]
      show some ((vp_cell (kA t) (n, .inl f)).setSlot _ _) = _
      rw [vp_cell_i, vp_cell_i, arrV_store]
      congr 2
      funext q
      by_cases hq : q = i.toNatClampNeg
      · subst hq
        simp [updV, upd]
      · simp [updV, upd, hq]
  · rw [if_neg hv] at h
    cases h
theorem w_aast (C : hC p s m args c cc nL own Ts D cl tys n0 Z) (M : hM D cl kA n0 s E nx H locs) {t ci : Nat} {i : Int32} {q : Option Nat} {rc : vw_C} {ac : String} (h : tQ E r t i q ci = some E1) (hc : cl[ci]? = some rc) (ht : tys[t]? = some (kA t, .object ac)) (hasg : ∀ comp c0 : ClassId, s.vm.findClass ac = some comp → s.vm.findClass rc.1 = some c0 → s.vm.assignable c0 comp = true) (hdg : decode cc pc = .ok (.aastore, 1))
    (kk : ∀ (H1 : Heap) (locs1 : List Loc), hM D cl kA n0 s E1 nx H1 locs1 → W p l e R s m args below meth c H1 locs1 cells slots Q (F0 m (pc + 1) ls rest)) : W p l e R s m args below meth c H locs cells slots Q (F0 m pc ls (va_rf q :: .int i :: va_rf r :: rest)) := by
  obtain ⟨⟨a, n, g⟩, h1, hz0⟩ := Option.bind_eq_some_iff.mp h
  obtain ⟨f, h2, hz1⟩ := Option.bind_eq_some_iff.mp hz0
  obtain ⟨rfl, he⟩ := gA_some h1
  have hx := vAq_some h2
  dsimp only at hz1 he hx
  rw [hx] at he
  by_cases hi : i < 0 ∨ n ≤ i.toNatClampNeg
  · rw [if_pos hi] at hz1; cases hz1
  · rw [if_neg hi] at hz1
    have hlt : i.toNatClampNeg < n := Nat.not_le.mp fun z => hi (Or.inr z)
    have hi0 : ¬ i < 0 := fun z => hi (Or.inl z)
    have fin : ∀ H1 : Heap, H1[a]? = some ((vp_cell (kA t) (n, .inr (.inr (.inr (.inr f))))).setSlot i.toNatClampNeg (va_rf q)) → va_at D cl (a, h_cv kA (.inl (t, n, .inr (.inr (.inr (.inr (va_up f i.toNatClampNeg q))))))) H1 := by
      intro H1 e
      show H1[a]? = some (vp_cell _ _)
      rw [e]
      rw [vp_cell_q, vp_cell_q, arrV_store]
      congr 2
      funext z
      by_cases hq : z = i.toNatClampNeg
      · subst hq
        simp [updV, va_up]
      · simp [updV, va_up, hq]
    cases q with
    | none =>
      rw [if_pos (Or.inl rfl)] at hz1
      cases hz1
      refine va_WaastN (C := ac) C.x C.b (M.P _ _ he).1 ((C.K.2 t _ ht).1 n (fun j => va_rf (f j))) (fun h => by cases h) (by show ¬ (i < 0 ∨ (arrV _ _ _).slots.size ≤ _); rw [arrV_size]; exact hi) rfl rfl hdg fun H1 e z oq => ?_
      exact kk H1 _ (hM.upd M he (fin H1 e) z oq)
    | some v =>
      by_cases hq : (some v : Option Nat) = none ∨ (gO E (some v) ci).isSome = true
      · rw [if_pos hq] at hz1
        cases hz1
        have hs : (gO E (some v) ci).isSome = true := by
          rcases hq with hq | hq
          · cases hq
          · exact hq
        obtain ⟨o, ho⟩ := Option.isSome_iff_exists.mp hs
        obtain ⟨ev, hv⟩ := gO_some ho
        have ev2 : v = o.1 := Option.some.inj ev
        rw [← ev2] at hv
        obtain ⟨r', hr', cellV, g1, g2, g3, -⟩ := (M.P _ _ hv).1
        have hcls := (C.K.1 ci rc hc).2
        obtain ⟨kB, comp, k1, k2, k3, -⟩ := (C.K.2 t _ ht).2
        obtain ⟨kE, hkE, -⟩ := Vm.findClass_spec k3
        obtain ⟨kC, hkC, -⟩ := hcls.2
        refine W.aast C.x C.b (M.P _ _ he).1 (fun q h => by cases h) (fun h => by cases h) k1 k2 rfl hkE ⟨hi0, by show _ < (arrV _ _ _).slots.size; rw [arrV_size]; exact hlt⟩ g1 (fun q h => by rw [g3] at h; cases h) (by rw [g2]; exact hkC) (by rw [g2]; exact hasg _ _ k3 hcls.1) rfl rfl hdg fun H1 e z oq => ?_
        exact kk H1 _ (hM.upd M he (fin H1 e) z oq)
      · rw [if_neg hq] at hz1
        cases hz1
/-! new objects and arrays: they come at the heap's end -/
theorem w_new (C : hC p s m args c cc nL own Ts D cl tys n0 Z) (M : hM D cl kA n0 s E nx H locs) {ci N index : Nat} {Cn : String} {T : u_T} {fs : List Value} (ty0 : Nat → FieldType) (hc : cl[ci]? = some (Cn, T, N)) (hin : ∀ w ∈ u_ws Cn T N, w ∈ Ts) (hty : ∀ k, k < N → parseFieldDescriptor (T k).2.2.1 = some (ty0 k)) (hcl : Cond.classLink own index Cn ∈ Ts) (hinst : Cond.instantiable Cn N ∈ Ts) (hini : Cond.initialized Cn ∈ Ts) (hfs : ∀ j, j < N → defaultValue (ty0 j) = vp_V fs j) (hcells : cells + 1 ≤ R.cells) (hslots : slots + N ≤ R.slots) (hdg : decode cc pc = .ok (.new index, 3))
    (kk : ∀ (H1 : Heap), hM D cl kA n0 s (va_up E nx (some (.inr (ci, fs)))) (nx + 1) H1 locs → W p l e R s m args below meth c H1 locs (cells + 1) (slots + N) Q (F0 m (pc + 3) ls (va_rf (some nx) :: rest))) : W p l e R s m args below meth c H locs cells slots Q (F0 m pc ls rest) := by
  have hKn := C.K.1 ci _ hc
  refine W.newcK C.x C.b C.ow (C.ts _ hcl) (C.ts _ hinst) (C.ts _ hini) rfl hdg hcells hslots hKn.2.1 M.z fun H1 kC hkC e1 z1 o1 => ?_
  obtain ⟨hP, hS, hz⟩ := M
  subst hz
  exact kk H1 ⟨hp_born hP (Nat.le_trans C.n hS.1) ⟨_, hc, (u_born ty0 C.ts hin hKn hkC e1 hty).to hfs⟩ o1, ⟨Nat.le_trans hS.1 (by omega), fun x h1 h2 => (o1 x (Nat.lt_of_lt_of_le h1 hS.1)).trans (hS.2.1 x h1 h2), hS.2.2⟩, z1⟩
theorem w_newa (C : hC p s m args c cc nL own Ts D cl tys n0 Z) (M : hM D cl kA n0 s E nx H locs) {t : Nat} {atype : ArrayType} {ty : FieldType} (harr : Cond.arrayClass (newarray.typeOf atype) ∈ Ts) (hty : newarray.typeOf atype = ty) (ht : tys[t]? = some (kA t, ty)) (hnm : ∀ (U : State) (x : ClassId), va_RA U x ty → U.vm.findClass ("[" ++ ty.toString) = some x) {n : Int32} {N' : Nat} {a0 : vp_A} (ha : ∀ cA : ClassId, vp_cell cA a0 = arrV cA N' (fun _ => defaultValue ty)) (hn : ¬ n < 0) (hN : n.toNatClampNeg = N') (hbytes : N' * componentBytes ty ≤ 536870912) (hcells : cells + 1 ≤ R.cells) (hslots : slots + N' ≤ R.slots) (hdg : decode cc pc = .ok (.newarray atype, 2))
    (kk : ∀ (H1 : Heap), hM D cl kA n0 s (va_up E nx (some (.inl (t, a0)))) (nx + 1) H1 locs → W p l e R s m args below meth c H1 locs (cells + 1) (slots + N') Q (F0 m (pc + 2) ls (va_rf (some nx) :: rest))) : W p l e R s m args below meth c H locs cells slots Q (F0 m pc ls (.int n :: rest)) := by
  subst hty
  refine va_newaK C.x C.b (C.ts _ harr) rfl hdg rfl hn hN hbytes hcells hslots M.z fun H1 cA e1 z1 o1 hAr hNm => ?_
  have h3 : cA = kA t := Option.some.inj (hNm.symm.trans (hnm s _ (C.K.2 t _ ht).2))
  subst h3
  obtain ⟨hP, hS, hz⟩ := M
  subst hz
  refine kk H1 ⟨hp_born hP (Nat.le_trans C.n hS.1) ?_ o1, ⟨Nat.le_trans hS.1 (by omega), fun x h1 h2 => (o1 x (Nat.lt_of_lt_of_le h1 hS.1)).trans (hS.2.1 x h1 h2), hS.2.2⟩, z1⟩
  show H1[H.size]? = some (vp_cell _ _)
  rw [ha]
  exact e1
theorem w_newq (C : hC p s m args c cc nL own Ts D cl tys n0 Z) (M : hM D cl kA n0 s E nx H locs) {t : Nat} {Cn : String} {index : Nat} (hcl : Cond.classLink own index Cn ∈ Ts) (hover : va_AO Cn s) (ht : tys[t]? = some (kA t, .object Cn)) {n : Int32} {N' : Nat} (hn : ¬ n < 0) (hN : n.toNatClampNeg = N') (hbytes : N' * 4 ≤ 536870912) (hcells : cells + 1 ≤ R.cells) (hslots : slots + N' ≤ R.slots) (hdg : decode cc pc = .ok (.anewarray index, 3))
    (kk : ∀ (H1 : Heap), hM D cl kA n0 s (va_up E nx (some (.inl (t, N', .inr (.inr (.inr (.inr (fun _ => none)))))))) (nx + 1) H1 locs → W p l e R s m args below meth c H1 locs (cells + 1) (slots + N') Q (F0 m (pc + 3) ls (va_rf (some nx) :: rest))) : W p l e R s m args below meth c H locs cells slots Q (F0 m pc ls (.int n :: rest)) := by
  subst hN
  refine W.anew C.x C.b C.ow (C.ts _ hcl) (va_AO.use hover) rfl hdg rfl hn hbytes hcells hslots fun cA kB comp f1 f2 f3 f4 => ?_
  generalize hH1 : H.push ({ cls := cA, slots := Array.replicate n.toNatClampNeg .null, vm := .none } : Cell) = H1
  have z1 : H1.size = H.size + 1 := by rw [← hH1, Array.size_push]
  have e1 : H1[H.size]? = some (arrV cA n.toNatClampNeg (fun _ => .null)) := by rw [← hH1, Array.getElem?_push_size, ← arrV_new]
  have o1 : ∀ q : Nat, q < H.size → H1[q]? = H[q]? := fun q hq => by rw [← hH1, Array.getElem?_push, if_neg (Nat.ne_of_lt hq)]
  have h3 : cA = kA t := by
    obtain ⟨_, _, _, _, _, h5⟩ := (C.K.2 t _ ht).2
    exact Option.some.inj (f1.symm.trans h5)
  subst h3
  obtain ⟨hP, hS, hz⟩ := M
  subst hz
  refine kk H1 ⟨hp_born hP (Nat.le_trans C.n hS.1) ?_ o1, ⟨Nat.le_trans hS.1 (by omega), fun x h1 h2 => (o1 x (Nat.lt_of_lt_of_le h1 hS.1)).trans (hS.2.1 x h1 h2), hS.2.2⟩, z1⟩
  show H1[H.size]? = some (vp_cell _ _)
  rw [vp_cell_q]
  exact e1
theorem w_newI (C : hC p s m args c cc nL own Ts D cl tys n0 Z) (M : hM D cl kA n0 s E nx H locs) {t bd : Nat} {n : Int32} {atype : ArrayType} {ty : FieldType} (h : nA E nx t n bd = some E1) (harr : Cond.arrayClass (newarray.typeOf atype) ∈ Ts) (hty : newarray.typeOf atype = ty) (ht : tys[t]? = some (kA t, ty)) (hnm : ∀ (U : State) (x : ClassId), va_RA U x ty → U.vm.findClass ("[" ++ ty.toString) = some x) (ha : ∀ (cA : ClassId) (N' : Nat), vp_cell cA (N', .inl (fun _ => 0)) = arrV cA N' (fun _ => defaultValue ty)) (hbd : bd * componentBytes ty ≤ 536870912) (hcells : cells + 1 ≤ R.cells) (hslots : slots + bd ≤ R.slots) (hdg : decode cc pc = .ok (.newarray atype, 2))
    (kk : ∀ (H1 : Heap), hM D cl kA n0 s E1 (nx + 1) H1 locs → W p l e R s m args below meth c H1 locs (cells + 1) (slots + bd) Q (F0 m (pc + 2) ls (va_rf (some nx) :: rest))) : W p l e R s m args below meth c H locs cells slots Q (F0 m pc ls (.int n :: rest)) := by
  unfold nA at h
  by_cases hn : n < 0 ∨ bd < n.toNatClampNeg
  · rw [if_pos hn] at h; cases h
  · rw [if_neg hn] at h
    cases h
    have h2 : n.toNatClampNeg ≤ bd := Nat.not_lt.mp fun z => hn (Or.inr z)
    refine w_newa C M harr hty ht hnm (ha := fun cA => ha cA n.toNatClampNeg) (fun z => hn (Or.inl z)) rfl (Nat.le_trans (Nat.mul_le_mul_right _ h2) hbd) hcells (Nat.le_trans (Nat.add_le_add_left h2 _) hslots) hdg (fun H1 M1 => ?_)
    exact W.widen (Nat.le_refl _) (Nat.add_le_add_left h2 _) (kk H1 M1)
theorem w_newJ (C : hC p s m args c cc nL own Ts D cl tys n0 Z) (M : hM D cl kA n0 s E nx H locs) {t bd : Nat} {n : Int32} {atype : ArrayType} {ty : FieldType} (h : nJ E nx t n bd = some E1) (harr : Cond.arrayClass (newarray.typeOf atype) ∈ Ts) (hty : newarray.typeOf atype = ty) (ht : tys[t]? = some (kA t, ty)) (hnm : ∀ (U : State) (x : ClassId), va_RA U x ty → U.vm.findClass ("[" ++ ty.toString) = some x) (ha : ∀ (cA : ClassId) (N' : Nat), vp_cell cA (N', .inr (.inl (fun _ => 0))) = arrV cA N' (fun _ => defaultValue ty)) (hbd : bd * componentBytes ty ≤ 536870912) (hcells : cells + 1 ≤ R.cells) (hslots : slots + bd ≤ R.slots) (hdg : decode cc pc = .ok (.newarray atype, 2))
    (kk : ∀ (H1 : Heap), hM D cl kA n0 s E1 (nx + 1) H1 locs → W p l e R s m args below meth c H1 locs (cells + 1) (slots + bd) Q (F0 m (pc + 2) ls (va_rf (some nx) :: rest))) : W p l e R s m args below meth c H locs cells slots Q (F0 m pc ls (.int n :: rest)) := by
  unfold nJ at h
  by_cases hn : n < 0 ∨ bd < n.toNatClampNeg
  · rw [if_pos hn] at h; cases h
  · rw [if_neg hn] at h
    cases h
    have h2 : n.toNatClampNeg ≤ bd := Nat.not_lt.mp fun z => hn (Or.inr z)
    refine w_newa C M harr hty ht hnm (ha := fun cA => ha cA n.toNatClampNeg) (fun z => hn (Or.inl z)) rfl (Nat.le_trans (Nat.mul_le_mul_right _ h2) hbd) hcells (Nat.le_trans (Nat.add_le_add_left h2 _) hslots) hdg (fun H1 M1 => ?_)
    exact W.widen (Nat.le_refl _) (Nat.add_le_add_left h2 _) (kk H1 M1)
theorem w_newO (C : hC p s m args c cc nL own Ts D cl tys n0 Z) (M : hM D cl kA n0 s E nx H locs) {t bd index : Nat} {n : Int32} {Cn : String} (h : nQ E nx t n bd = some E1) (hcl : Cond.classLink own index Cn ∈ Ts) (hover : va_AO Cn s) (ht : tys[t]? = some (kA t, .object Cn)) (hcells : cells + 1 ≤ R.cells) (hslots : slots + bd ≤ R.slots) (hdg : decode cc pc = .ok (.anewarray index, 3))
    (kk : ∀ (H1 : Heap), hM D cl kA n0 s E1 (nx + 1) H1 locs → W p l e R s m args below meth c H1 locs (cells + 1) (slots + bd) Q (F0 m (pc + 3) ls (va_rf (some nx) :: rest))) : W p l e R s m args below meth c H locs cells slots Q (F0 m pc ls (.int n :: rest)) := by
  unfold nQ at h
  by_cases hn : n < 0 ∨ bd < n.toNatClampNeg ∨ 100000 < n.toNatClampNeg
  · rw [if_pos hn] at h; cases h
  · rw [if_neg hn] at h
    cases h
    have h2 : n.toNatClampNeg ≤ bd := Nat.not_lt.mp fun z => hn (Or.inr (Or.inl z))
    have h3 : n.toNatClampNeg ≤ 100000 := Nat.not_lt.mp fun z => hn (Or.inr (Or.inr z))
    refine w_newq C M hcl hover ht (fun z => hn (Or.inl z)) rfl (by omega) hcells (Nat.le_trans (Nat.add_le_add_left h2 _) hslots) hdg (fun H1 M1 => ?_)
    exact W.widen (Nat.le_refl _) (Nat.add_le_add_left h2 _) (kk H1 M1)
/-! calls: the run, then the answer -/
variable {y : MethodName} {bytes : ByteArray} {maxL mc ms n index : Nat} {ret : Option FieldType} {ws : List Cond} {rm : Room} {Qc : Array Value → State → Outcome → State → Prop} {free : Addr → Prop} {b : Addr} {As st0 : List Value} {Cn : String}
theorem w_recv (C : hC p s m args c cc nL own Ts D cl tys n0 Z) (M : hM D cl kA n0 s E nx H locs) {ci : Nat} {rc : vw_C} {fs : List Value} (he : E b = some (.inr (ci, fs))) (hc : cl[ci]? = some rc) : ∃ cell : Cell, H[b]? = some cell ∧ cell.vm.isStatics = false ∧ s.vm.findClass rc.1 = some cell.cls := va_recv C.K (hp_one M.P he) hc (q0 := 0) rfl
theorem w_runV (C : hC p s m args c cc nL own Ts D cl tys n0 Z) (M : hM D cl kA n0 s E nx H locs) {ci : Nat} {rc : vw_C} {o : Nat × List Value} (h : gO E r ci = some o) (hc : cl[ci]? = some rc) (hMt : Met l y ws rm (va_Pc (va_rf (some o.1) :: As) (hI D cl kA tys n0 Z (E, nx))) Qc mc ms free) (cw : CallW R s args own rc.1 index y bytes maxL ret ws rm mc ms n)
    (hn : As.length = n) (hsize : ls.size = nL) (hstack : st0 = As.reverse ++ va_rf r :: rest) (hW : (rest.map fun v => v.category).sum ≤ 8) (hdg : decode cc pc = .ok (.invokevirtual index, 3)) (hf : cells + mc ≤ R.cells ∧ slots + ms ≤ R.slots) :
    va_Run p l e R s m args below meth c H locs cells slots mc ms (F0 m pc ls st0) rest (Qc (va_rf (some o.1) :: As).toArray) free := by
  obtain ⟨rfl, he⟩ := gO_some h
  exact va_runV C.fix hMt cw ⟨hI.blind C.zk _, w_recv C M he hc, fun U hU hA => ⟨rfl, hM.I C M U hU hA⟩⟩ rfl hn hsize hstack (lv_room hW) hdg hf
theorem w_runS (C : hC p s m args c cc nL own Ts D cl tys n0 Z) (M : hM D cl kA n0 s E nx H locs) (hMt : Met l y ws rm (va_Pc As (hI D cl kA tys n0 Z (E, nx))) Qc mc ms free) (cw : CallB R s args own index y bytes maxL ret ws rm mc ms n ∧ (Cond.static y).before args s = true)
    (hn : As.length = n) (hsize : ls.size = nL) (hstack : st0 = As.reverse ++ rest) (hW : (rest.map fun v => v.category).sum ≤ 8) (hdg : decode cc pc = .ok (.invokestatic index, 3)) (hf : cells + mc ≤ R.cells ∧ slots + ms ≤ R.slots) :
    va_Run p l e R s m args below meth c H locs cells slots mc ms (F0 m pc ls st0) rest (Qc As.toArray) free :=
  va_runS C.fix hMt cw ⟨hI.blind C.zk _, fun U hU hA => ⟨rfl, hM.I C M U hU hA⟩⟩ rfl hn hsize hstack (lv_room hW) hdg hf
theorem w_runI (C : hC p s m args c cc nL own Ts D cl tys n0 Z) (M : hM D cl kA n0 s E nx H locs) (hMt : Met l y ws rm (va_Pc (va_rf (some b) :: As) (hI D cl kA tys n0 Z (E, nx))) Qc mc ms free) (cw : CallB R s args own index y bytes maxL none ws rm mc ms n ∧ y.name = "<init>" ∧ (Cond.instanceMethod y).before args s = true)
    (hn : As.length = n) (hsize : ls.size = nL) (hstack : st0 = As.reverse ++ va_rf (some b) :: rest) (hW : (rest.map fun v => v.category).sum ≤ 8) (hdg : decode cc pc = .ok (.invokespecial index, 3)) (hf : cells + mc ≤ R.cells ∧ slots + ms ≤ R.slots) :
    va_Run p l e R s m args below meth c H locs cells slots mc ms (F0 m pc ls st0) rest (Qc (va_rf (some b) :: As).toArray) free :=
  va_runI C.fix hMt cw ⟨hI.blind C.zk _, fun U hU hA => ⟨rfl, hM.I C M U hU hA⟩⟩ rfl hn hsize hstack (lv_room hW) hdg hf
theorem w_runIN {host : String} (C : hC p s m args c cc nL own Ts D cl tys n0 Z) (M : hM D cl kA n0 s E nx H locs) (hMt : Met l y ws rm (va_Pc (va_rf (some b) :: As) (hI D cl kA tys n0 Z (E, nx))) Qc mc ms free) (cw : va_CN R s args own index y host bytes maxL none ws rm mc ms n ∧ y.name = "<init>" ∧ (Cond.instanceMethod y).before args s = true)
    (hn : As.length = n) (hsize : ls.size = nL) (hstack : st0 = As.reverse ++ va_rf (some b) :: rest) (hW : (rest.map fun v => v.category).sum ≤ 8) (hdg : decode cc pc = .ok (.invokespecial index, 3)) (hf : cells + mc ≤ R.cells ∧ slots + ms ≤ R.slots) :
    va_Run p l e R s m args below meth c H locs cells slots mc ms (F0 m pc ls st0) rest (Qc (va_rf (some b) :: As).toArray) free :=
  va_runIN C.fix hMt cw ⟨hI.blind C.zk _, fun U hU hA => ⟨rfl, hM.I C M U hU hA⟩⟩ rfl hn hsize hstack (lv_room hW) hdg hf
variable {aa : Array Value}
theorem w_ci {v : Int32} {E2 : hE} {nx2 : Nat} (M : hM D cl kA n0 s E nx H locs) (hr : va_Run p l e R s m args below meth c H locs cells slots mc ms (F0 m pc ls st0) rest (va_Qi (fun r w => r = v ∧ w = (E2, nx2)) (hI D cl kA tys n0 Z) (fun q => n0 ≤ q) aa) (fun q => n0 ≤ q))
    (kk : ∀ (H1 : Heap) (locs1 : List Loc), hM D cl kA n0 s E2 nx2 H1 locs1 → W p l e R s m args below meth c H1 locs1 (cells + mc) (slots + ms) Q (F0 m (pc + 3) ls (.int v :: rest))) : W p l e R s m args below meth c H locs cells slots Q (F0 m pc ls st0) :=
  va_calli hr M.S (fun _ _ h => h) (fun _ h => h) (fun r w t H1 locs1 ht _ hw hB _ _ hS => by
    obtain ⟨rfl, rfl⟩ := hw
    exact kk H1 locs1 ⟨by rw [← ht]; exact hB.1, hS, by rw [← ht]; exact hB.2.2.2.1⟩)
theorem w_cl {v : Int64} {E2 : hE} {nx2 : Nat} (M : hM D cl kA n0 s E nx H locs) (hr : va_Run p l e R s m args below meth c H locs cells slots mc ms (F0 m pc ls st0) rest (va_Ql (fun r w => r = v ∧ w = (E2, nx2)) (hI D cl kA tys n0 Z) (fun q => n0 ≤ q) aa) (fun q => n0 ≤ q))
    (kk : ∀ (H1 : Heap) (locs1 : List Loc), hM D cl kA n0 s E2 nx2 H1 locs1 → W p l e R s m args below meth c H1 locs1 (cells + mc) (slots + ms) Q (F0 m (pc + 3) ls (.long v :: rest))) : W p l e R s m args below meth c H locs cells slots Q (F0 m pc ls st0) :=
  va_calll hr M.S (fun _ _ h => h) (fun _ h => h) (fun r w t H1 locs1 ht _ hw hB _ _ hS => by
    obtain ⟨rfl, rfl⟩ := hw
    exact kk H1 locs1 ⟨by rw [← ht]; exact hB.1, hS, by rw [← ht]; exact hB.2.2.2.1⟩)
theorem w_cv {E2 : hE} {nx2 : Nat} (M : hM D cl kA n0 s E nx H locs) (hr : va_Run p l e R s m args below meth c H locs cells slots mc ms (F0 m pc ls st0) rest (va_Qv (fun w => w = (E2, nx2)) (hI D cl kA tys n0 Z) (fun q => n0 ≤ q) aa) (fun q => n0 ≤ q))
    (kk : ∀ (H1 : Heap) (locs1 : List Loc), hM D cl kA n0 s E2 nx2 H1 locs1 → W p l e R s m args below meth c H1 locs1 (cells + mc) (slots + ms) Q (F0 m (pc + 3) ls rest)) : W p l e R s m args below meth c H locs cells slots Q (F0 m pc ls st0) :=
  va_callv hr M.S (fun _ _ h => h) (fun _ h => h) (fun w t H1 locs1 ht _ hw hB _ _ hS => by
    subst hw
    exact kk H1 locs1 ⟨by rw [← ht]; exact hB.1, hS, by rw [← ht]; exact hB.2.2.2.1⟩)
theorem w_cq {v : Option Nat} {E2 : hE} {nx2 : Nat} (M : hM D cl kA n0 s E nx H locs) (hr : va_Run p l e R s m args below meth c H locs cells slots mc ms (F0 m pc ls st0) rest (va_Qq (fun r w => r = v ∧ w = (E2, nx2)) (hI D cl kA tys n0 Z) (fun q => n0 ≤ q) aa) (fun q => n0 ≤ q))
    (kk : ∀ (H1 : Heap) (locs1 : List Loc), hM D cl kA n0 s E2 nx2 H1 locs1 → W p l e R s m args below meth c H1 locs1 (cells + mc) (slots + ms) Q (F0 m (pc + 3) ls (va_rf v :: rest))) : W p l e R s m args below meth c H locs cells slots Q (F0 m pc ls st0) :=
  va_callq hr M.S (fun _ _ h => h) (fun _ h => h) (fun r w t H1 locs1 ht _ hw hB _ _ hS => by
    obtain ⟨rfl, rfl⟩ := hw
    exact kk H1 locs1 ⟨by rw [← ht]; exact hB.1, hS, by rw [← ht]; exact hB.2.2.2.1⟩)
/-! ends -/
theorem w_iret {v v' : Int32} {u : hE × Nat} (C : hC p s m args c cc nL own Ts D cl tys n0 Z) (M : hM D cl kA n0 s E nx H locs) {ty : FieldType} (hr : meth.sig.returnType = some ty) (hlocks : meth.locks = false) (hn : narrow ty (.int v) = .int v) (hc : cells ≤ mc) (hs : slots ≤ ms) (hdg : decode cc pc = .ok (.ireturn, 1)) (hv : v = v') (hu : (E, nx) = u) :
    W p l e R s m args below meth c H locs cells slots (MQ below (va_Qi (fun r w => r = v' ∧ w = u) (hI D cl kA tys n0 Z) (fun q => n0 ≤ q)) args s mc ms (fun q => n0 ≤ q)) (F0 m pc ls [.int v]) :=
  W.widen hc hs (W.zret C.x C.b hr hn (fun t ht hW => ⟨⟨v, (E, nx), rfl, ⟨hv, hu⟩, hM.I C M t ht hW⟩, M.S.F ht⟩) M.S.2.2 hdg hlocks)
theorem w_lret {v v' : Int64} {u : hE × Nat} (C : hC p s m args c cc nL own Ts D cl tys n0 Z) (M : hM D cl kA n0 s E nx H locs) (hr : meth.sig.returnType = some .long) (hlocks : meth.locks = false) (hc : cells ≤ mc) (hs : slots ≤ ms) (hdg : decode cc pc = .ok (.lreturn, 1)) (hv : v = v') (hu : (E, nx) = u) :
    W p l e R s m args below meth c H locs cells slots (MQ below (va_Ql (fun r w => r = v' ∧ w = u) (hI D cl kA tys n0 Z) (fun q => n0 ≤ q)) args s mc ms (fun q => n0 ≤ q)) (F0 m pc ls [.long v]) :=
  W.widen hc hs (W.lret C.x C.b hr (fun t ht hW => ⟨⟨v, (E, nx), rfl, ⟨hv, hu⟩, hM.I C M t ht hW⟩, M.S.F ht⟩) M.S.2.2 hdg hlocks)
theorem w_vret {u : hE × Nat} (C : hC p s m args c cc nL own Ts D cl tys n0 Z) (M : hM D cl kA n0 s E nx H locs) (hr : meth.sig.returnType = none) (hlocks : meth.locks = false) (hc : cells ≤ mc) (hs : slots ≤ ms) (hdg : decode cc pc = .ok (.return_, 1)) (hu : (E, nx) = u) :
    W p l e R s m args below meth c H locs cells slots (MQ below (va_Qv (fun w => w = u) (hI D cl kA tys n0 Z) (fun q => n0 ≤ q)) args s mc ms (fun q => n0 ≤ q)) (F0 m pc ls []) :=
  W.widen hc hs (W.vret C.x C.b hr (fun t ht hW => ⟨⟨(E, nx), rfl, hu, hM.I C M t ht hW⟩, M.S.F ht⟩) M.S.2.2 hdg hlocks)
theorem w_aret {v v' : Option Nat} {u : hE × Nat} (C : hC p s m args c cc nL own Ts D cl tys n0 Z) (M : hM D cl kA n0 s E nx H locs) {rt : FieldType} (hr : meth.sig.returnType = some rt) (hrt : (∃ n, rt = .object n) ∨ ∃ t, rt = .array t) (hlocks : meth.locks = false) (hc : cells ≤ mc) (hs : slots ≤ ms) (hdg : decode cc pc = .ok (.areturn, 1)) (hv : v = v') (hu : (E, nx) = u) :
    W p l e R s m args below meth c H locs cells slots (MQ below (va_Qq (fun r w => r = v' ∧ w = u) (hI D cl kA tys n0 Z) (fun q => n0 ≤ q)) args s mc ms (fun q => n0 ≤ q)) (F0 m pc ls [va_rf v]) :=
  W.widen hc hs (W.aret C.x C.b hr hrt (va_rf_or v) (fun t ht hW => ⟨⟨v, (E, nx), rfl, ⟨hv, hu⟩, hM.I C M t ht hW⟩, M.S.F ht⟩) M.S.2.2 hdg hlocks)
/-! references in locals and on the stack, null or not -/
theorem w_aload_n {k : Fin 4} {i : Nat} (hx : p.tables.exec = Jvm.exec) (hb : c.code = cc) (hdg : decode cc pc = .ok (.aload_n k, 1)) (hi : (k : Nat) = i) (hl : ls[i]? = some (.val (va_rf r)))
    (kk : W p l e R s m args below meth c H locs cells slots Q (F0 m (pc + 1) ls (va_rf r :: rest))) : W p l e R s m args below meth c H locs cells slots Q (F0 m pc ls rest) := by
  cases r with
  | none => exact lv_aload_nN hx hb hdg hi hl kk
  | some a => exact lv_aload_n hx hb hdg hi hl kk
theorem w_aload {i : Nat} (hx : p.tables.exec = Jvm.exec) (hb : c.code = cc) (hdg : decode cc pc = .ok (.aload i, 2)) (hl : ls[i]? = some (.val (va_rf r)))
    (kk : W p l e R s m args below meth c H locs cells slots Q (F0 m (pc + 2) ls (va_rf r :: rest))) : W p l e R s m args below meth c H locs cells slots Q (F0 m pc ls rest) := by
  cases r with
  | none => exact lv_aloadN hx hb hdg hl kk
  | some a => exact lv_aload hx hb hdg hl kk
theorem w_astore_n {k : Fin 4} {i : Nat} {lv lv' : List (Nat × Value)} (hx : p.tables.exec = Jvm.exec) (hb : c.code = cc) (hdg : decode cc pc = .ok (.astore_n k, 1)) (hi : (k : Nat) = i) (h : lv_has ls nL lv) (hn : i < nL) (hl : (i, va_rf r) :: lv.filter (fun q => !(q.1 == i) && !(q.1 + 1 == i && q.2.category == 2)) = lv')
    (kk : ∀ ls' : Array Slot, lv_has ls' nL lv' → W p l e R s m args below meth c H locs cells slots Q (F0 m (pc + 1) ls' rest)) : W p l e R s m args below meth c H locs cells slots Q (F0 m pc ls (va_rf r :: rest)) := by
  cases r with
  | none => exact lv_astore_nN hx hb hdg hi h hn hl kk
  | some a => exact lv_astore_n hx hb hdg hi h hn hl kk
theorem w_astore {i : Nat} {lv lv' : List (Nat × Value)} (hx : p.tables.exec = Jvm.exec) (hb : c.code = cc) (hdg : decode cc pc = .ok (.astore i, 2)) (h : lv_has ls nL lv) (hn : i < nL) (hl : (i, va_rf r) :: lv.filter (fun q => !(q.1 == i) && !(q.1 + 1 == i && q.2.category == 2)) = lv')
    (kk : ∀ ls' : Array Slot, lv_has ls' nL lv' → W p l e R s m args below meth c H locs cells slots Q (F0 m (pc + 2) ls' rest)) : W p l e R s m args below meth c H locs cells slots Q (F0 m pc ls (va_rf r :: rest)) := by
  cases r with
  | none => exact lv_astoreN hx hb hdg h hn hl kk
  | some a => exact lv_astore hx hb hdg h hn hl kk
theorem w_ifnull {off : Int} {tgt : Nat} (hx : p.tables.exec = Jvm.exec) (hb : c.code = cc) (hdg : decode cc pc = .ok (.ifnull off, 3)) (ht : (pc : Int) + off = (tgt : Int)) (kt : r = none → W p l e R s m args below meth c H locs cells slots Q (F0 m tgt ls rest)) (kf : ¬ r = none → W p l e R s m args below meth c H locs cells slots Q (F0 m (pc + 3) ls rest)) : W p l e R s m args below meth c H locs cells slots Q (F0 m pc ls (va_rf r :: rest)) := by
  cases r with
  | none => exact lv_ifnullN hx hb hdg ht (kt rfl)
  | some a => exact lv_ifnull hx hb hdg (kf (fun h => by cases h))
theorem w_ifnonnull {off : Int} {tgt : Nat} (hx : p.tables.exec = Jvm.exec) (hb : c.code = cc) (hdg : decode cc pc = .ok (.ifnonnull off, 3)) (ht : (pc : Int) + off = (tgt : Int)) (kt : ¬ r = none → W p l e R s m args below meth c H locs cells slots Q (F0 m tgt ls rest)) (kf : r = none → W p l e R s m args below meth c H locs cells slots Q (F0 m (pc + 3) ls rest)) : W p l e R s m args below meth c H locs cells slots Q (F0 m pc ls (va_rf r :: rest)) := by
  cases r with
  | none => exact lv_ifnonnullN hx hb hdg (kf rfl)
  | some a => exact lv_ifnonnull hx hb hdg ht (kt (fun h => by cases h))
theorem narrow_o (n : String) (q : Option Nat) : narrow (.object n) (va_rf q) = va_rf q := by cases q <;> rfl
theorem narrow_a (t : FieldType) (q : Option Nat) : narrow (.array t) (va_rf q) = va_rf q := by cases q <;> rfl
theorem fits_o (n : String) (q : Option Nat) : fits (.object n) (va_rf q) = true := by cases q <;> rfl
theorem fits_a (t : FieldType) (q : Option Nat) : fits (.array t) (va_rf q) = true := by cases q <;> rfl
theorem sZ_some {k ci : Nat} {x : Int32} (h : sZ E r ci k x = some E1) : (x = 0 ∨ x = 1) ∧ sF E r ci k (.int x) = some E1 := by
  unfold sZ at h
  by_cases hv : x = 0 ∨ x = 1
  · rw [if_pos hv] at h
    exact ⟨hv, h⟩
  · rw [if_neg hv] at h
    cases h
theorem narrow_z {x : Int32} (h : x = 0 ∨ x = 1) : narrow .boolean (.int x) = .int x := by rcases h with rfl | rfl <;> rfl
theorem fits_z {x : Int32} (h : x = 0 ∨ x = 1) : fits .boolean (.int x) = true := by rcases h with rfl | rfl <;> rfl
theorem va_rf_cat (r : Option Nat) : (va_rf r).category = 1 := by cases r <;> rfl
theorem cat_i (x : Int32) : (Value.int x).category = 1 := rfl
theorem cat_l (x : Int64) : (Value.long x).category = 2 := rfl
theorem cat_n : Value.null.category = 1 := rfl
end HCB
