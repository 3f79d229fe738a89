/-! ===== the class: takeLine ===== -/
def stmtL (t : Nat → Int32) (W : Nat × (Nat → Nat) × (Nat → Nat)) : Bool := !decide (W.1 = 0) && !labL t W
def cst (t : Nat → Int32) (l : Nat × (Nat → Nat) × (Nat → Nat)) : Nat → Nat
  | 0 => 0
  | k + 1 => if stmtL t (Wl t l k) = true then cst t l k + 1 else cst t l k
theorem cst_le (t : Nat → Int32) (l : Nat × (Nat → Nat) × (Nat → Nat)) : ∀ k, cst t l k ≤ k := by
  intro k
  induction k with
  | zero => exact Nat.le_refl _
  | succ k ih =>
    rw [cst]
    split <;> omega
def plc (t : Nat → Int32) (l : Nat × (Nat → Nat) × (Nat → Nat)) (la : Nat → Int32) (c : Nat) : Int32 := if la c = -1 then -1 else nI (cst t l (cN (la c)))
/-- a script holds the first k lines of a text, whose labels are la; its own count of lines is ln -/
def scK (g0 : Nat) (fa : Nat → Nat) (F : hE) (nx sc : Nat) (t : Nat → Int32) (l : Nat × (Nat → Nat) × (Nat → Nat)) (k ln : Nat) (la : Nat → Int32) (j : Nat) : Prop :=
  ∃ (pl : Nat → Int32) (sts : Nat → stI), scB g0 fa F nx sc (cst t l k) pl ln (capJ j) sts ∧ (∀ c, c < 26 → pl c = plc t l la c) ∧ (∀ k', k' < k → stmtL t (Wl t l k') = true → ∃ u, stm t (Wl t l k') = some u ∧ sts (cst t l k') = (k', u.1, u.2)) ∧ ∀ c, c < 26 → la c = -1 ∨ ∃ k', k' < k ∧ la c = nI k'
theorem plc_m1 {t : Nat → Int32} {l : Nat × (Nat → Nat) × (Nat → Nat)} {la : Nat → Int32} {c k : Nat} (hk : k ≤ 400) (h : la c = -1 ∨ ∃ k', k' < k ∧ la c = nI k') : plc t l la c = -1 ↔ la c = -1 := by
  unfold plc
  constructor
  · intro z
    by_cases h1 : la c = -1
    · exact h1
    · rw [if_neg h1] at z
      obtain ⟨k', h2, h3⟩ := h.resolve_left h1
      rw [h3, cN_nI (by omega)] at z
      exact absurd z (neg2 (by have := cst_le t l k'; omega))
  · intro z
    rw [if_pos z]
theorem fit_one {t : Nat → Int32} {W : Nat × (Nat → Nat) × (Nat → Nat)} (h1 : W.1 = 1) (h2 : W.2.2 0 - W.2.1 0 = 2) : anyFit t W = false := by
  cases hz : anyFit t W with
  | false => rfl
  | true =>
    rw [stm_any] at hz
    obtain ⟨⟨i, st⟩, hq⟩ := Option.isSome_iff_exists.mp hz
    obtain ⟨q1, q2, -⟩ := stm_some hq
    simp only at q1 q2
    exfalso
    match i, q1, q2 with
    | 0, _, h => have := (fi_0 h).1; omega
    | 1, _, h => have := (fi_1 h).1; omega
    | 2, _, h => have := (fi_2 h).1; omega
    | 3, _, h => have := (fi_3 h).1; omega
    | 4, _, h => have := (fi_4 h).1; omega
    | 5, _, h => have := (fi_5 h).1; omega
    | 6, _, h => have := (fi_6 h).1; omega
    | 7, _, h => have := (fi_7 h).1; omega
    | 8, _, h => have := (fi_8 h).1; omega
    | 9, _, h => have := (fi_9 h).1; omega
    | 10, _, h => have := (fi_10 h).1; omega
    | 11, _, h => have := (fi_11 h).1; omega
    | 12, _, h => have := (fi_12 h).1; omega
    | 13, _, h => have := (fi_13 h).1; omega
    | 14, _, h =>
      have := (isWb_iff.mp (fi_14 h).2.1).1
      simp at this
      omega
    | 15, _, h => have := (fi_15 h).1; omega
    | 16, _, h => have := (fi_16 h).1; omega
    | 17, _, h => have := (fi_17 h).1; omega
    | i + 18, hi, _ => exact absurd hi (by omega)
section TKL
variable {S : hE} {g fa wa ka : Nat → Nat} {x N n : Nat} {A : Nat → Nat → Int32} {q : Nat → Option Nat} {t : Nat → Int32} {W : Nat × (Nat → Nat) × (Nat → Nat)} {nx sc k ln j : Nat} {la : Nat → Int32} {l : Nat × (Nat → Nat) × (Nat → Nat)}
theorem con_L (hc : conS S g fa wa ka) : sL1 (Sa S) (some (g 1)) 101 = some (nI 18) := by
  obtain ⟨-, -, -, ⟨ff, h1, -⟩, -⟩ := hc
  simp [sL1, gA_at h1, vAi, vAq]
theorem con_Q (hc : conS S g fa wa ka) {i : Nat} (hi : i < 18) : aQ (Sa S) (some (g 1)) 101 (nI i) = some (some (fa i)) := by
  obtain ⟨-, -, -, ⟨ff, h1, h2⟩, -⟩ := hc
  rw [aQ_at h1 hi (by decide), h2 i hi]
theorem T_none (hN : 400 < N) (hc : conS S g fa wa ka) {F : hE} {B : Nat} (h0 : 0 < W.1) (hno : ∀ i, i < 18 → fit t W i = none) : ∀ (r i fuel : Nat) (o : Nat → Nat → Int32), i + r = 18 → r < fuel → tvw o A t n W → ∃ o', f_Tape_takeLine_b53 S g N B fuel (some (x + 1)) (some sc) (nI i) (eX x o A q F) nx = some (0, eX x o' A q F, nx) ∧ ∀ j, j ≠ 1 → o' j = o j := by
  intro r
  induction r with
  | zero =>
    intro i fuel o hi hf h
    obtain ⟨fuel, rfl⟩ : ∃ k, fuel = k + 1 := ⟨fuel - 1, by omega⟩
    rw [f_Tape_takeLine_b53, con_L hc, Option.bind_some, if_pos (nI_le (by omega) (by omega))]
    exact ⟨o, rfl, fun _ _ => rfl⟩
  | succ r ih =>
    intro i fuel o hi hf h
    obtain ⟨fuel, rfl⟩ : ∃ k, fuel = k + 1 := ⟨fuel - 1, by omega⟩
    obtain ⟨o1, g1, g2⟩ := T_form (x := x) (q := q) (F := F) (i := i) hN hc (by omega) h h0
    rw [hno i (by omega)] at g1 g2
    rw [f_Tape_takeLine_b53, con_L hc, Option.bind_some, if_neg (nI_ge (by omega) (by omega)), con_Q hc (by omega), Option.bind_some, xt_O, Option.bind_some, g1, Option.bind_some, if_pos (show (bI (none : Option vSt).isSome, eX x o1 A q F).1 = 0 from rfl), nI_1]
    obtain ⟨o2, k1, k2⟩ := ih (i + 1) fuel o1 (by omega) (by omega) (tvw_tw h g2)
    exact ⟨o2, k1, fun j hj => (k2 j hj).trans (g2.2.1 j hj)⟩
theorem T_some (hN : 400 < N) (hc : conS S g fa wa ka) {F : hE} (h0 : 0 < W.1) {u : Nat × vSt} (hu : stm t W = some u) (hx : x + 51 ≤ sc) (hg : g 0 < x) (hF0 : F (g 0) = none) {cnt : Nat} {pl : Nat → Int32} {sts : Nat → stI} (hj : j ≤ 11) (hcnt : cnt < 400) (hs : scB (g 0) fa F nx sc cnt pl ln (capJ j) sts) : ∀ (r i fuel : Nat) (o : Nat → Nat → Int32), i + r = u.1 → r < fuel → tvw o A t n W →
    ∃ (B j' nx' : Nat) (o' : Nat → Nat → Int32) (F' : hE), f_Tape_takeLine_b53 S g N B fuel (some (x + 1)) (some sc) (nI i) (eX x o A q F) nx = some (1, eX x o' A q F', nx') ∧ (∀ j, j ≠ 1 → o' j = o j) ∧ j' ≤ 11 ∧ j ≤ j' ∧ capU j + B = capU j' ∧ nx ≤ nx' ∧ scB (g 0) fa F' nx' sc (cnt + 1) pl ln (capJ j') (va_up sts cnt (ln, u.1, u.2)) ∧ ∀ a, a < sc → F' a = F a := by
  obtain ⟨u1, u2', u3⟩ := stm_some hu
  intro r
  induction r with
  | zero =>
    intro i fuel o hi hf h
    obtain ⟨fuel, rfl⟩ : ∃ k, fuel = k + 1 := ⟨fuel - 1, by omega⟩
    have hiu : i = u.1 := by omega
    subst hiu
    obtain ⟨o1, g1, g2⟩ := T_form (x := x) (q := q) (F := F) (i := u.1) hN hc u1 h h0
    rw [u2'] at g1 g2
    have hfv := g2.1 _ rfl
    -- the new statement
    have hsc := hs
    obtain ⟨b1, b2, b3, arr, md, b4, b5⟩ := hs
    have e1 : ∀ fs : List Value, scB (g 0) fa (va_up F nx (some (.inr (4, fs)))) nx sc cnt pl ln (capJ j) sts := fun fs => scB_mv hsc (Nat.le_refl _) (fun a _ ha => va_up_ne _ _ (by omega))
    obtain ⟨B, j', nx', F', k1, k2, k3, k4, k5, k6, k7⟩ := AL_add (S := S) (x := x) (o := o1) (A := A) (q := q) (F := va_up F nx (some (.inr (4, stL fa (ln, u.1, u.2))))) hx hg (by rw [va_up_ne _ _ (by omega)]; exact hF0) hc.2.2.2.2.2.2 hj rfl hcnt (e1 _) (u := (ln, u.1, u.2)) (va_up_self _ _ _)
    refine ⟨B, j', nx', o1, F', ?_, g2.2.1, k2, k3, k4, by omega, k6, fun a ha => by rw [k7 a ha, va_up_ne _ _ (by omega)]⟩
    have c0 : ∀ fs : List Value, eX x o1 A q (va_up F nx (some (.inr (4, fs)))) sc = some (.inr (3, [.ref (sc + 1), .ref (sc + 2), .int (nI ln)])) := fun fs => by rw [eX_hi (by omega), va_up_ne _ _ (by omega)]; exact b2
    have c1 : ∀ fs : List Value, eX x o1 A q (va_up F nx (some (.inr (4, fs)))) (sc + 1) = some (.inr (8, [.ref arr, .int (nI cnt), .int md])) := fun fs => by rw [eX_hi (by omega), va_up_ne _ _ (by omega)]; exact b4
    have c2 : ∀ fs : List Value, eX x o1 A q (va_up F nx (some (.inr (4, fs)))) nx = some (.inr (4, fs)) := fun fs => by rw [eX_hi (by omega), va_up_self]
    have setI : ∀ (fs : List Value) (i : Nat) (v : Int32), i < fs.length → sI (eX x o1 A q (va_up F nx (some (.inr (4, fs))))) (some nx) 4 i v = some (eX x o1 A q (va_up F nx (some (.inr (4, fs.set i (.int v)))))) := fun fs i v hi => by
      unfold sI
      rw [sF_at (c2 fs) hi, eX_up (by omega), va_up2]
    have setR : ∀ (fs : List Value) (i : Nat) (v : Option Nat), i < fs.length → sR (eX x o1 A q (va_up F nx (some (.inr (4, fs))))) (some nx) 4 i v = some (eX x o1 A q (va_up F nx (some (.inr (4, fs.set i (va_rf v)))))) := fun fs i v hi => by
      unfold sR
      rw [sF_at (c2 fs) hi, eX_up (by omega), va_up2]
    have c3 : eX x o1 A q F sc = some (.inr (3, [.ref (sc + 1), .ref (sc + 2), .int (nI ln)])) := by rw [eX_hi (by omega)]; exact b2
    have hfv' := hfv
    unfold fv at hfv'
    have q4 : o1 1 4 = u.2.1 := congrArg (fun z : vSt => z.1) hfv'
    have q5 : o1 1 5 = u.2.2.1 := congrArg (fun z : vSt => z.2.1) hfv'
    have q6 : o1 1 6 = u.2.2.2.1 := congrArg (fun z : vSt => z.2.2.1) hfv'
    have q7 : o1 1 7 = u.2.2.2.2.1 := congrArg (fun z : vSt => z.2.2.2.1) hfv'
    have q8 : o1 1 8 = u.2.2.2.2.2 := congrArg (fun z : vSt => z.2.2.2.2) hfv'
    rw [f_Tape_takeLine_b53, con_L hc, Option.bind_some, if_neg (nI_ge u1 (by omega)), con_Q hc u1, Option.bind_some, xt_O, Option.bind_some, g1, Option.bind_some, if_neg (show ¬ (bI (some u.2).isSome, eX x o1 A q F).1 = 0 from by show ¬ (1 : Int32) = 0; decide)]
    simp only
    rw [gR_at (k := 0) c3 rfl, Option.bind_some, Option.bind_some, eX_up (by omega), gI_at (k := 2) (c0 _) rfl, Option.bind_some, Option.bind_some, xt_4, Option.bind_some, xt_5, Option.bind_some, xt_6, Option.bind_some, xt_7, Option.bind_some, xt_8, Option.bind_some, q4, q5, q6, q7, q8]
    unfold f_Stat_init
    rw [setI _ 0 _ (by decide), Option.bind_some, setR _ 1 _ (by simp), Option.bind_some, setI _ 2 _ (by simp), Option.bind_some, setI _ 3 _ (by simp), Option.bind_some, setI _ 4 _ (by simp), Option.bind_some, setI _ 5 _ (by simp), Option.bind_some, setI _ 6 _ (by simp), Option.bind_some, Option.bind_some, gO_at (c1 _), Option.bind_some]
    have k1' : f_AL_add1 S g B (sc + 1) (some nx) (eX x o1 A q (va_up F nx (some (.inr (4, ((((((([Value.int 0, .null, .int 0, .int 0, .int 0, .int 0, .int 0].set 0 (.int (nI ln))).set 1 (va_rf (some (fa u.1)))).set 2 (.int u.2.1)).set 3 (.int u.2.2.1)).set 4 (.int u.2.2.2.1)).set 5 (.int u.2.2.2.2.1)).set 6 (.int u.2.2.2.2.2))))))) (nx + 1) = some (1, eX x o1 A q F', nx') := k1
    rw [k1', Option.bind_some]
  | succ r ih =>
    intro i fuel o hi hf h
    obtain ⟨fuel, rfl⟩ : ∃ k, fuel = k + 1 := ⟨fuel - 1, by omega⟩
    obtain ⟨o1, g1, g2⟩ := T_form (x := x) (q := q) (F := F) (i := i) hN hc (by omega) h h0
    rw [u3 i (by omega)] at g1 g2
    obtain ⟨B, j', nx', o', F', k1, k2, k3⟩ := ih (i + 1) fuel o1 (by omega) (by omega) (tvw_tw h g2)
    refine ⟨B, j', nx', o', F', ?_, fun j hj => (k2 j hj).trans (g2.2.1 j hj), k3⟩
    rw [f_Tape_takeLine_b53, con_L hc, Option.bind_some, if_neg (nI_ge (by omega) (by omega)), con_Q hc (by omega), Option.bind_some, xt_O, Option.bind_some, g1, Option.bind_some, if_pos (show (bI (none : Option vSt).isSome, eX x o1 A q F).1 = 0 from rfl), nI_1]
    exact k1
theorem T_line (hN : 400 < N) (hc : conS S g fa wa ka) {F : hE} {o : Nat → Nat → Int32} (hx : x + 51 ≤ sc) (hg : g 0 < x) (hF0 : F (g 0) = none) (hj : j ≤ 11) (hk : k < 400) (h : tvw o A t n W) (hWk : W = Wl t l k) (hs : scK (g 0) fa F nx sc t l k k la j) :
    ∃ (B j' nx' : Nat) (o' : Nat → Nat → Int32) (F' : hE), j' ≤ 11 ∧ j ≤ j' ∧ capU j + B = capU j' ∧ nx ≤ nx' ∧ (∀ i, i ≠ 1 → o' i = o i) ∧ (∀ a, a < sc → F' a = F a) ∧
      ((lstep t W k la = none ∧ f_Tape_takeLine S g N B (x + 1) (some sc) (eX x o A q F) nx = some (0, eX x o' A q F', nx') ∧ F' sc = some (.inr (3, [.ref (sc + 1), .ref (sc + 2), .int (nI k)]))) ∨ (∃ la', lstep t W k la = some la' ∧ f_Tape_takeLine S g N B (x + 1) (some sc) (eX x o A q F) nx = some (1, eX x o' A q F', nx') ∧ scK (g 0) fa F' nx' sc t l (k + 1) k la' j')) := by
  obtain ⟨pl, sts, s1, s2, s3, s4⟩ := hs
  have hcl := cst_le t l k
  have hW := h.2.1
  -- nothing, or a label: the count of statements stays
  have stay : ∀ (F1 : hE) (pl1 la1 : Nat → Int32), stmtL t W = false → scB (g 0) fa F1 nx sc (cst t l k) pl1 k (capJ j) sts → (∀ c, c < 26 → pl1 c = plc t l la1 c) → (∀ c, c < 26 → la1 c = -1 ∨ ∃ k', k' < k + 1 ∧ la1 c = nI k') → scK (g 0) fa F1 nx sc t l (k + 1) k la1 j := by
    intro F1 pl1 la1 hst a1 a2 a3
    rw [hWk] at hst
    have e : cst t l (k + 1) = cst t l k := by rw [cst, if_neg (by rw [hst]; decide)]
    refine ⟨pl1, sts, by rw [e]; exact a1, a2, fun k' hk' hs' => ?_, a3⟩
    by_cases hkk : k' = k
    · rw [hkk, hst] at hs'
      cases hs'
    · exact s3 k' (by omega) hs'
  by_cases h0 : W.1 = 0
  · refine ⟨0, j, nx, o, F, hj, Nat.le_refl _, by omega, Nat.le_refl _, fun _ _ => rfl, fun _ _ => rfl, Or.inr ⟨la, by rw [lstep, if_pos h0], ?_, stay F pl la (by unfold stmtL; rw [decide_eq_true h0]; rfl) s1 s2 (fun c hc => (s4 c hc).imp id (fun ⟨k', h1, h2⟩ => ⟨k', by omega, h2⟩))⟩⟩
    unfold f_Tape_takeLine
    rw [xt_3, Option.bind_some, h.1, if_pos (by rw [h0]; rfl)]
  · have hpos : 0 < W.1 := by omega
    have n0' : ¬ nI W.1 = 0 := nI_ne0 hpos (by omega)
    -- the forms
    have forms : labL t W = false → (∀ B : Nat, f_Tape_takeLine S g N B (x + 1) (some sc) (eX x o A q F) nx = f_Tape_takeLine_b53 S g N B N (some (x + 1)) (some sc) (nI 0) (eX x o A q F) nx) → ∃ (B j' nx' : Nat) (o' : Nat → Nat → Int32) (F' : hE), j' ≤ 11 ∧ j ≤ j' ∧ capU j + B = capU j' ∧ nx ≤ nx' ∧ (∀ i, i ≠ 1 → o' i = o i) ∧ (∀ a, a < sc → F' a = F a) ∧
      ((lstep t W k la = none ∧ f_Tape_takeLine S g N B (x + 1) (some sc) (eX x o A q F) nx = some (0, eX x o' A q F', nx') ∧ F' sc = some (.inr (3, [.ref (sc + 1), .ref (sc + 2), .int (nI k)]))) ∨ (∃ la', lstep t W k la = some la' ∧ f_Tape_takeLine S g N B (x + 1) (some sc) (eX x o A q F) nx = some (1, eX x o' A q F', nx') ∧ scK (g 0) fa F' nx' sc t l (k + 1) k la' j')) := by
      intro hlab hgo
      cases hq : stm t W with
      | none =>
        have hany : anyFit t W = false := by rw [stm_any, hq]; rfl
        have hno : ∀ i, i < 18 → fit t W i = none := fun i hi => by
          cases hf : fit t W i with
          | none => rfl
          | some st =>
            have : anyFit t W = true := List.any_eq_true.mpr ⟨i, List.mem_range.mpr hi, by rw [hf]; rfl⟩
            rw [hany] at this
            cases this
        obtain ⟨o1, k1, k2⟩ := T_none (x := x) (q := q) (F := F) (B := 0) (sc := sc) (nx := nx) hN hc hpos hno 18 0 N o (by omega) (by omega) h
        refine ⟨0, j, nx, o1, F, hj, Nat.le_refl _, by omega, Nat.le_refl _, k2, fun _ _ => rfl, Or.inl ⟨by rw [lstep, if_neg h0, if_neg (by rw [hlab]; decide), if_neg (by rw [hany]; decide)], by rw [hgo, k1], s1.2.1⟩⟩
      | some u =>
        have hany : anyFit t W = true := by rw [stm_any, hq]; rfl
        obtain ⟨u1, -, -⟩ := stm_some hq
        obtain ⟨B, j', nx', o', F', k1, k2, k3, k4, k5, k6, k7, k8⟩ := T_some (x := x) (q := q) (F := F) (nx := nx) (ln := k) (pl := pl) (sts := sts) hN hc hpos hq hx hg hF0 hj (show cst t l k < 400 by omega) s1 u.1 0 N o (by omega) (by omega) h
        refine ⟨B, j', nx', o', F', k3, k4, k5, k6, k2, k8, Or.inr ⟨la, by rw [lstep, if_neg h0, if_neg (by rw [hlab]; decide), if_pos hany], by rw [hgo, k1], ?_⟩⟩
        have hst : stmtL t (Wl t l k) = true := by
          rw [← hWk]
          unfold stmtL
          rw [decide_eq_false h0, hlab]
          rfl
        have e : cst t l (k + 1) = cst t l k + 1 := by rw [cst, if_pos hst]
        refine ⟨pl, va_up sts (cst t l k) (k, u.1, u.2), by rw [e]; exact k7, s2, fun k' hk' hs' => ?_, fun c hc => (s4 c hc).imp id (fun ⟨k', h1, h2⟩ => ⟨k', by omega, h2⟩)⟩
        have hlt : ∀ k', k' < k → stmtL t (Wl t l k') = true → cst t l k' < cst t l k := by
          intro k' h1 h2
          have mono : ∀ d, cst t l (k' + 1) ≤ cst t l (k' + 1 + d) := by
            intro d
            induction d with
            | zero => exact Nat.le_refl _
            | succ d ih =>
              rw [show k' + 1 + (d + 1) = (k' + 1 + d) + 1 from rfl]
              have : cst t l (k' + 1 + d) ≤ cst t l (k' + 1 + d + 1) := by
                rw [cst]
                split <;> omega
              omega
          have := mono (k - (k' + 1))
          rw [show k' + 1 + (k - (k' + 1)) = k from by omega, cst, if_pos h2] at this
          omega
        by_cases hkk : k' = k
        · rw [hkk, ← hWk]
          exact ⟨u, hq, va_up_self _ _ _⟩
        · obtain ⟨u', a1, a2⟩ := s3 k' (by omega) hs'
          have := hlt k' (by omega) hs'
          exact ⟨u', a1, by rw [va_up_ne _ _ (by omega)]; exact a2⟩
    by_cases h1 : W.1 = 1
    · have hl0 := T_len (x := x) (q := q) (F := F) h hpos (by decide)
      obtain ⟨-, -, hok, hle⟩ := h.2.2.2.2 0 hpos (by decide)
      have hn := h.2.2.1
      have hf := hok.1
      by_cases h2 : W.2.2 0 - W.2.1 0 = 2
      · have hle1 := T_let (x := x) (q := q) (F := F) (i := 1) h hpos (by decide) (by decide)
        have hle0 := T_let (x := x) (q := q) (F := F) (i := 0) h hpos (by decide) (by decide)
        rw [if_pos (by omega)] at hle1 hle0
        by_cases h58 : t (W.2.1 0 + 1) = 58
        · have hgo : ∀ B : Nat, f_Tape_takeLine S g N B (x + 1) (some sc) (eX x o A q F) nx = (f_Script_addLabel sc (if isLt (t (W.2.1 0)) = true then t (W.2.1 0) - 65 else -1) (eX x o A q F)).bind (fun v47 => (bZ v47.1).bind fun v50 => some (v50, v47.2, nx)) := fun B => by
            have c3 : eX x o A q F sc = some (.inr (3, [.ref (sc + 1), .ref (sc + 2), .int (nI k)])) := by rw [eX_hi (by omega)]; exact s1.2.1
            unfold f_Tape_takeLine
            rw [xt_3, Option.bind_some, h.1, if_neg n0', Option.bind_some, if_pos (by rw [h1]; rfl), xt_O, Option.bind_some, show (0 : Int32) = nI 0 from rfl, hl0, Option.bind_some, h2, if_pos (show nI 2 = 2 from rfl), Option.bind_some, show (1 : Int32) = nI 1 from rfl, hle1, Option.bind_some, if_pos h58, Option.bind_some, hle0, Option.bind_some, T_lab, Option.bind_some, gO_at c3, Option.bind_some]
            rfl
          by_cases hlt : isLt (t (W.2.1 0)) = true
          · have hlab : labL t W = true := by
              unfold labL isLb
              rw [decide_eq_true h1, decide_eq_true h2, decide_eq_true h58, hlt]
              rfl
            obtain ⟨r, hr, hv⟩ := isLt_i.mp hlt
            have hcn : cN (t (W.2.1 0)) - 65 = r := by rw [hv, cN_nI (by omega)]; omega
            have hv65 : t (W.2.1 0) - 65 = nI r := by
              rw [hv, show (65 : Int32) = nI 65 from rfl, pk_sub (by omega)]
              congr 1
              omega
            obtain ⟨b1, b2, b3, arr, md, b4, b5⟩ := s1
            have c3 : eX x o A q F sc = some (.inr (3, [.ref (sc + 1), .ref (sc + 2), .int (nI k)])) := by rw [eX_hi (by omega)]; exact b2
            have c4 : eX x o A q F (sc + 2) = some (.inl (0, 26, .inl pl)) := by rw [eX_hi (by omega)]; exact b3
            have c5 : eX x o A q F (sc + 1) = some (.inr (8, [.ref arr, .int (nI (cst t l k)), .int md])) := by rw [eX_hi (by omega)]; exact b4
            have hpm := plc_m1 (t := t) (l := l) (show k ≤ 400 by omega) (s4 r hr)
            rw [← s2 r hr] at hpm
            have hst : stmtL t W = false := by unfold stmtL; rw [hlab]; simp
            by_cases hdup : la r = -1
            · refine ⟨0, j, nx, o, va_up F (sc + 2) (some (.inl (0, 26, .inl (upd pl r (nI (cst t l k)))))), hj, Nat.le_refl _, by omega, Nat.le_refl _, fun _ _ => rfl, fun a ha => va_up_ne _ _ (by omega), Or.inr ⟨upd la r (nI k), by rw [lstep, if_neg h0, if_pos hlab, hcn, if_pos hdup], ?_, ?_⟩⟩
              · rw [hgo, if_pos hlt, hv65]
                unfold f_Script_addLabel f_AL_size
                rw [if_neg (nI_pos (by omega)), if_neg (show ¬ (26 : Int32) ≤ nI r from nI_ge (b := 26) hr (by decide)), gR_at (k := 1) c3 rfl, Option.bind_some, aI_at c4 hr (by decide), Option.bind_some, if_pos (hpm.mpr hdup), Option.bind_some, gR_at (k := 0) c3 rfl, Option.bind_some, gO_at c5, Option.bind_some, gI_at (k := 1) c5 rfl, Option.bind_some, Option.bind_some, tI_at c4 hr (by decide), Option.bind_some, Option.bind_some, eX_up (by omega)]
                rfl
              · refine stay _ (upd pl r (nI (cst t l k))) (upd la r (nI k)) hst ⟨b1, by rw [va_up_ne _ _ (by omega)]; exact b2, va_up_self _ _ _, arr, md, by rw [va_up_ne _ _ (by omega)]; exact b4, ?_⟩ (fun c hc => ?_) (fun c hc => ?_)
                · rcases b5 with b5 | ⟨d1, d2, d3, d4, el, d5, d5', d6⟩
                  · exact Or.inl b5
                  · refine Or.inr ⟨d1, d2, d3, d4, el, by rw [va_up_ne _ _ (by omega)]; exact d5, d5', fun i hi => ?_⟩
                    obtain ⟨a, e1, e2, e3, e4, e5⟩ := d6 i hi
                    exact ⟨a, e1, e2, e3, e4, by rw [va_up_ne _ _ (by omega)]; exact e5⟩
                · by_cases hcr : c = r
                  · subst hcr
                    unfold plc
                    rw [upd_self, upd_self, if_neg (neg2 (by omega)), cN_nI (by omega)]
                  · unfold plc
                    rw [upd_ne _ _ hcr, upd_ne _ _ hcr]
                    exact s2 c hc
                · by_cases hcr : c = r
                  · subst hcr
                    rw [upd_self]
                    exact Or.inr ⟨k, by omega, rfl⟩
                  · rw [upd_ne _ _ hcr]
                    exact (s4 c hc).imp id (fun ⟨k', h1, h2⟩ => ⟨k', by omega, h2⟩)
            · refine ⟨0, j, nx, o, F, hj, Nat.le_refl _, by omega, Nat.le_refl _, fun _ _ => rfl, fun _ _ => rfl, Or.inl ⟨by rw [lstep, if_neg h0, if_pos hlab, hcn, if_neg hdup], ?_, b2⟩⟩
              rw [hgo, if_pos hlt, hv65]
              unfold f_Script_addLabel
              rw [if_neg (nI_pos (by omega)), if_neg (show ¬ (26 : Int32) ≤ nI r from nI_ge (b := 26) hr (by decide)), gR_at (k := 1) c3 rfl, Option.bind_some, aI_at c4 hr (by decide), Option.bind_some, if_neg (fun z => hdup (hpm.mp z))]
              rfl
          · have hlab : labL t W = false := by
              unfold labL isLb
              rw [Bool.eq_false_iff.mpr hlt]
              simp
            refine ⟨0, j, nx, o, F, hj, Nat.le_refl _, by omega, Nat.le_refl _, fun _ _ => rfl, fun _ _ => rfl, Or.inl ⟨by rw [lstep, if_neg h0, if_neg (by rw [hlab]; decide), if_neg (by rw [fit_one h1 h2]; decide)], ?_, s1.2.1⟩⟩
            rw [hgo, if_neg hlt]
            rfl
        · refine forms (by unfold labL isLb; rw [decide_eq_false h58]; simp) (fun B => ?_)
          unfold f_Tape_takeLine f_Tape_takeLine_b51
          rw [xt_3, Option.bind_some, h.1, if_neg n0', Option.bind_some, if_pos (by rw [h1]; rfl), xt_O, Option.bind_some, show (0 : Int32) = nI 0 from rfl, hl0, Option.bind_some, h2, if_pos (show nI 2 = 2 from rfl), Option.bind_some, show (1 : Int32) = nI 1 from rfl, hle1, Option.bind_some, if_neg h58]
      · refine forms (by unfold labL isLb; rw [decide_eq_false h2]; simp) (fun B => ?_)
        unfold f_Tape_takeLine f_Tape_takeLine_b51
        rw [xt_3, Option.bind_some, h.1, if_neg n0', Option.bind_some, if_pos (by rw [h1]; rfl), xt_O, Option.bind_some, show (0 : Int32) = nI 0 from rfl, hl0, Option.bind_some, if_neg (show ¬ nI (W.2.2 0 - W.2.1 0) = 2 from fun z => h2 ((nI_eq (b := 2) (by omega) (by decide)).mp z))]
    · refine forms (by unfold labL; rw [decide_eq_false h1]; rfl) (fun B => ?_)
      unfold f_Tape_takeLine f_Tape_takeLine_b51
      rw [xt_3, Option.bind_some, h.1, if_neg n0', Option.bind_some, if_neg (show ¬ nI W.1 = 1 from fun z => h1 ((nI_eq (b := 1) (by omega) (by decide)).mp z))]
      rfl
end TKL
