section HCO
variable {p : Program} {l : Launch} {e : Env} {R : Room} {s : State} {m : MethodId} {args : Array Value} {below : List Frame} {meth : Method} {c : Code} {H : Heap} {locs : List Loc} {cells slots : Nat} {Q : State → Prop}
variable {cc : ByteArray} {nL pc : Nat} {own : String} {Ts : List Cond} {D : va_G} {cl : List vw_C} {kA : Nat → ClassId} {tys : List (ClassId × FieldType)} {n0 nx : Nat} {Z : State → Prop} {E E1 S : hE} {g : Nat → Nat} {ls : Array Slot} {rest : List Value} {r : Option Nat}
/-! Enum.ordinal() of a constant: its class isn't said to be initialised, so its three instructions are walked where it is called -/
theorem w_ord (C : hC p s m args c cc nL own Ts D cl tys n0 Z) (M : hM D cl kA n0 s E nx H locs) (hz : zS S g n0 s) {v : Int32} {index : Nat} {bytes : ByteArray} (h : gI (So S) r 101 0 = some v) (hls : ls.size = nL)
    (hlink : Cond.methodLink own index ⟨"StepPrograms$Form", "ordinal", "()I"⟩ ∈ Ts) (hsame : Cond.sameMethod "StepPrograms$Form" "java/lang/Enum" "ordinal" "()I" ∈ Ts) (hsel : Cond.selects "StepPrograms$Form" ⟨"StepPrograms$Form", "ordinal", "()I"⟩ ⟨"java/lang/Enum", "ordinal", "()I"⟩ ∈ Ts) (hinst : Cond.instanceMethod ⟨"java/lang/Enum", "ordinal", "()I"⟩ ∈ Ts) (hcode : Cond.code ⟨"java/lang/Enum", "ordinal", "()I"⟩ bytes 1 (some .int) ∈ Ts) (hfl : Cond.fieldLink "java/lang/Enum" 7 "java/lang/Enum" "ordinal" "I" ∈ Ts)
    (h0 : decode bytes 0 = .ok (.aload_n 0, 1)) (h1 : decode bytes 1 = .ok (.getfield 7, 3)) (h4 : decode bytes 4 = .ok (.ireturn, 1)) (hframes : 1 ≤ R.frames) (hlocals : (rest.map fun v => v.category).sum + 12 ≤ R.locals) (hdg : decode cc pc = .ok (.invokevirtual index, 3))
    (kk : W p l e R s m args below meth c H locs cells slots Q (F0 m (pc + 3) ls (.int v :: rest))) : W p l e R s m args below meth c H locs cells slots Q (F0 m pc ls (va_rf r :: rest)) := by
  obtain ⟨o, g1, hz0⟩ := Option.bind_eq_some_iff.mp h
  obtain ⟨w, g2, hz1⟩ := Option.bind_eq_some_iff.mp hz0
  have g3 := vI_some hz1
  subst g3
  obtain ⟨rfl, he⟩ := gO_some g1
  obtain ⟨hO, hF⟩ := hz.1 _ _ _ he
  obtain ⟨cf, kf, fi, f, cell, f1, f2, f3, f4, f5, f6⟩ := hF 0 _ g2
  obtain ⟨cellB, b1, b2, b3, b4⟩ := hO
  cases f3.symm.trans b1
  intro T hT X
  have hb0 : o.1 < s.heap.size := (Array.getElem?_eq_some_iff.mp f3).1
  have hcell : T.heap[o.1]? = some cell := by rw [hT, M.S.2.1 o.1 hb0 f6]; exact f3
  obtain ⟨mk, methM, hnamed, hmethM, hstM, habM⟩ := Cond.instanceMethod_spec (C.ts _ hinst)
  obtain ⟨meth', c', hm', hc', hbytes, hml', hret', hlk', -, hsig'⟩ := Cond.code_spec hnamed (C.ts _ hcode)
  cases hmethM.symm.trans hm'
  obtain ⟨cn, ck, r1, hcn, hck, hni, hf, hn1⟩ := Cond.sameMethod_found (C.ts _ hsame)
  cases hnamed.symm.trans hn1
  obtain ⟨c2, r2, m2, q1, q2, q3, q4, kP, hkP, hkPi⟩ := Cond.selects_spec (C.ts _ hsel)
  have b3' : s.vm.findClass "StepPrograms$Form" = some cell.cls := b3
  cases b3'.symm.trans q1
  cases hf.symm.trans q2
  cases hnamed.symm.trans q3
  have hselP : selectMethod e.platform s.vm cell.cls mk = .method mk := by rw [Launch.admits_selectMethod X.admits]; exact q4
  have hlen : ([] : List Value).length = methM.sig.parameters.length := by
    have h2 : (parseMethodDescriptor "()I").map (fun d => d.parameters.length) = some 0 := by decide +kernel
    rw [hsig'] at h2
    exact (Option.some.inj h2).symm
  obtain ⟨vm₁, X₁, hstep₁⟩ := X.invokevirtualUp C.x C.ow (C.ts _ hlink) (C.ts _ hsame) (by decide) hnamed hmethM hstM (a := o.1) (cell := cell) hcell
    (fun z h => by rw [h] at b2; cases b2) hselP hmethM habM hkP hkPi (g := F0 m pc ls (va_rf (some o.1) :: rest)) rfl (argsL := []) (rest := rest) hlen rfl (by rw [C.b]; exact hdg)
  have hpl : e.platform.magicAccessors = ({} : Platform).magicAccessors := by rw [X.admits.platform]
  obtain ⟨ci', cfl, k', i', f', hi', hlinks, hright⟩ := Cond.fieldLink_spec (findClass_of_methodNamed hnamed) (C.ts _ hfl) e.platform hpl
  have f1' : s.fieldFound? "java/lang/Enum" "ordinal" "I" = some (cf, kf, fi, f) := f1
  cases f1'.symm.trans hi'
  obtain ⟨hk, hff⟩ := State.fieldFound?_spec f1'
  obtain ⟨vm', hgives, hW', hready, hfi⟩ := State.fieldEntry (e := e) X₁.warmed hlinks hright hk hff
  obtain ⟨t, a1, b1'⟩ := kk (T.setVm vm') hT (X.noted hW')
  obtain ⟨kE, hkE, hkN⟩ := className_of_methodNamed hnamed
  have hal : vm₁.Alike vm' := X₁.warmed.alike.symm.trans hW'.alike
  refine ⟨t, hstep₁ t (fun acts => ?_), b1'⟩
  refine Steps.intGetterInline (s := T.setVm vm₁) (g := F0 m pc ls rest) (c := c) (below := below) (ig := .invokevirtual index) (len := 3) (index := 7) (meth := methM) (code := c') X₁.here C.x acts
    (by rw [X₁.warmed.alike.method?]; exact hmethM) hc' hlk' ?_ hret' hml' (by rw [hbytes]; exact h0) (by rw [hbytes]; exact h1) (by rw [hbytes]; exact h4)
    ?_ (by rw [C.b]; exact hdg) (vm' := vm') (cf := cf) (i := fi) (f := f) (cell := cell) (v := v) hal hgives hready hfi f2 hcell f4 f5 a1
  · intro k hk1
    have hk2 : vm₁.classes[mk.cls]? = some k := hk1
    obtain ⟨k3, hk3, he3⟩ := X₁.warmed.alike.2.2 _ _ hkE
    cases hk2.symm.trans hk3
    have hnm : k.name = "java/lang/Enum" := by rw [he3]; exact hkN
    rw [hnm]
    rfl
  · rw [hml']
    exact X₁.notFull (g := F0 m pc ls rest) (by rw [C.ml]; exact hls) hframes (by show 2 * 0 + (rest.map fun v => v.category).sum + (1 + 11) ≤ R.locals; omega)
/-! a field by the name of a subclass -/
theorem w_getIs (C : hC p s m args c cc nL own Ts D cl tys n0 Z) (M : hM D cl kA n0 s E nx H locs) {ci k N index : Nat} {Cn ref : String} {T : u_T} {v : Int32} (h : gI E r ci k = some v) (hc : cl[ci]? = some (Cn, T, N)) (hin : ∀ w ∈ u_ws Cn T N, w ∈ Ts) (hk : k < N) (hlink : Cond.fieldLink own index ref (T k).2.1 (T k).2.2.1 ∈ Ts) (hsm : Cond.sameField ref (T k).1 (T k).2.1 (T k).2.2.1 ∈ Ts) (hdg : decode cc pc = .ok (.getfield index, 3))
    (kk : W p l e R s m args below meth c H locs cells slots Q (F0 m (pc + 3) ls (.int v :: rest))) : W p l e R s m args below meth c H locs cells slots Q (F0 m pc ls (va_rf r :: rest)) := by
  obtain ⟨o, h1, hz0⟩ := Option.bind_eq_some_iff.mp h
  obtain ⟨w, h2, hz1⟩ := Option.bind_eq_some_iff.mp hz0
  have h3 := vI_some hz1
  subst h3
  obtain ⟨rfl, he⟩ := gO_some h1
  exact va_get C.x C.b C.ts hin C.ow C.K (hp_one M.P he) 0 rfl hc k hk (C.ts _ hlink) (fun x h => u_same (C.ts _ hsm) x h) h2 hdg kk
theorem w_putVs (C : hC p s m args c cc nL own Ts D cl tys n0 Z) (M : hM D cl kA n0 s E nx H locs) {ci k N index : Nat} {Cn ref : String} {T : u_T} {v : Value} {ty : FieldType} (ty0 : Nat → FieldType) (h : sF E r ci k v = some E1) (hc : cl[ci]? = some (Cn, T, N)) (hin : ∀ w ∈ u_ws Cn T N, w ∈ Ts) (hty : ∀ k, k < N → parseFieldDescriptor (T k).2.2.1 = some (ty0 k)) (hnm : ∀ a, a < N → ∀ b, b < N → a ≠ b → (T a).2.1 ≠ (T b).2.1) (hk : k < N) (hlink : Cond.fieldLink own index ref (T k).2.1 (T k).2.2.1 ∈ Ts) (hsm : Cond.sameField ref (T k).1 (T k).2.1 (T k).2.2.1 ∈ Ts) (hfin : (T k).2.2.2 = false) (hd : parseFieldDescriptor (T k).2.2.1 = some ty) (hn : narrow ty v = v) (hfit : fits ty v = true) (hdg : decode cc pc = .ok (.putfield index, 3))
    (kk : ∀ (H1 : Heap) (locs1 : List Loc), hM D cl kA n0 s E1 nx H1 locs1 → W p l e R s m args below meth c H1 locs1 cells slots Q (F0 m (pc + 3) ls rest)) : W p l e R s m args below meth c H locs cells slots Q (F0 m pc ls (v :: va_rf r :: rest)) := by
  obtain ⟨⟨a, fs⟩, h1, hz0⟩ := Option.bind_eq_some_iff.mp h
  obtain ⟨rfl, he⟩ := gO_some h1
  dsimp only at hz0 he
  by_cases hl : k < fs.length
  · rw [if_pos hl] at hz0
    cases hz0
    have hap := va_apart (own := own) C.ts hin ty0 hty hnm C.K hc
    obtain ⟨r, h1, cell, q1, q2, q3, q4⟩ := (M.P _ _ he).1
    have hr : r = (Cn, T, N) := Option.some.inj (h1.symm.trans hc)
    subst hr
    obtain ⟨hS, hfc, kC, hkC, hkind⟩ := C.K.1 ci _ hc
    obtain ⟨cf, kf, fi, f, hi, hsl⟩ := hS k hk
    have hlay := C.ts _ (hin _ (u_in_lay hk))
    unfold u_lay at hlay
    rw [if_neg (by rw [hfin]; decide)] at hlay
    have hst := (u_facts hfc hkC (u_lays C.ts hin hk) hi).1
    have h6 := u_store hfc hkC hkind hlay hi hd hn hfit
    refine W.putK C.x C.b (f := f) ⟨C.ow, C.ts _ hlink, ⟨_, _, _, u_same (C.ts _ hsm) _ hi⟩, hst⟩ (by rw [q2]; exact h6) q1 q3 (by rw [hsl]; exact k2_hasslot (q4 k hk)) rfl rfl hdg fun H' e1 e2 e3 => ?_
    rw [hsl] at e1 ⊢
    exact kk H' _ (hM.upd M he ⟨_, hc, t_OB.to (V := updV (vp_V fs) k v) ⟨_, e1, q2, q3, t_set q4 hap hk v⟩ (fun j _ => vp_updV_set hl v j)⟩ e2 e3)
  · rw [if_neg hl] at hz0
    cases hz0
end HCO
