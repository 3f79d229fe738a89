/-! ===== the class: signs, takeWord, isOfForm ===== -/
theorem dig {v : Int32} (h1 : 48 ≤ v) (h2 : v ≤ 57) : ∃ c : Nat, v = nI c ∧ 48 ≤ c ∧ c ≤ 57 := by
  have h0 : ¬ v < 0 := fun z => by
    have a := Int32.lt_iff_toInt_lt.mp z
    have b := Int32.le_iff_toInt_le.mp h1
    simp at a b
    omega
  obtain ⟨j, hj, rfl⟩ := nI_of2 (M := 57) (n := 57) (by decide) h0 h2
  exact ⟨j, rfl, (nI_leI (a := 48) (by decide) (by omega)).mp h1, hj⟩
theorem nv_bd {t : Nat → Int32} : ∀ (r p a j : Nat) (v : Int32), a < 10 ^ j → j + r ≤ 6 → nv t p r (nI a) = some v → ∃ V : Nat, v = nI V ∧ V < 1000000 := by
  intro r
  induction r with
  | zero =>
    intro p a j v ha hj h
    have hp : 10 ^ j ≤ 10 ^ 6 := Nat.pow_le_pow_right (by decide) (by omega)
    have h6 : (10 : Nat) ^ 6 = 1000000 := by decide
    rw [nv] at h
    exact ⟨a, (Option.some.inj h).symm, by omega⟩
  | succ r ih =>
    intro p a j v ha hj h
    rw [nv] at h
    by_cases hd : 48 ≤ t p ∧ t p ≤ 57
    · rw [if_pos hd] at h
      obtain ⟨c, hc, h1, h2⟩ := dig hd.1 hd.2
      have hp : 10 ^ j ≤ 10 ^ 6 := Nat.pow_le_pow_right (by decide) (by omega)
      have h6 : (10 : Nat) ^ 6 = 1000000 := by decide
      rw [hc, show (10 : Int32) = nI 10 from rfl, show (48 : Int32) = nI 48 from rfl, pk_mul, nI_add, pk_sub (by omega)] at h
      exact ih (p + 1) (10 * a + c - 48) (j + 1) v (by rw [Nat.pow_succ]; omega) (by omega) h
    · rw [if_neg hd] at h
      cases h
theorem opv_bd {t : Nat → Int32} {f e : Nat} {v : Int32} (h : opv t f e = some v) : ∃ V : Nat, V < 1000000 ∧ (v = nI V ∨ v = -nI V) := by
  unfold opv at h
  split at h
  · cases h
  · rename_i hl
    obtain ⟨u, h1, h2⟩ := Option.map_eq_some_iff.mp h
    obtain ⟨V, hV, hb⟩ := nv_bd (t := t) _ _ 0 0 u (by decide) (by omega) h1
    refine ⟨V, hb, ?_⟩
    rw [← h2, hV]
    split
    · exact Or.inr rfl
    · exact Or.inl rfl
theorem nN_toInt {V : Nat} (h : V < 2 ^ 31) : (-nI V).toInt = -(V : Int) := sb_negT h
theorem opd_ok {t : Nat → Int32} {f e : Nat} : (opd t f e = -1000000) ↔ isVl t f e = false := by
  unfold opd isVl
  by_cases hr : isRg (ol t f e) = true
  · rw [if_pos hr, hr]
    obtain ⟨r, h8, hv⟩ := isRg_i.mp hr
    constructor
    · intro z
      rw [hv, show (97 : Int32) = nI 97 from rfl, pk_sub (by omega), show (1000000 : Int32) = nI 1000000 from rfl, nI_add] at z
      have := congrArg Int32.toInt z
      rw [nI_toInt (by omega), show (-nI 1000000).toInt = -1000000 from by decide] at this
      omega
    · intro z
      cases z
  · rw [if_neg hr, Bool.eq_false_iff.mpr hr, Bool.false_or]
    cases ho : opv t f e with
    | none => simp
    | some v =>
      obtain ⟨V, hV, hv⟩ := opv_bd ho
      simp only [Option.getD_some, Option.isSome_some]
      constructor
      · intro z
        have := congrArg Int32.toInt z
        rw [show (-1000000 : Int32).toInt = -1000000 from by decide] at this
        rcases hv with rfl | rfl
        · rw [nI_toInt (by omega)] at this
          omega
        · rw [nN_toInt (by omega)] at this
          omega
      · intro z
        cases z
section SGN
variable {S E : hE} {g : Nat → Nat} {N a : Nat} {kw : List Nat}
theorem ix_loop {b : Nat} {f : Nat → Int32} (h2 : Sa S b = some (.inl (100, kw.length, .inl f))) (h3 : ∀ i, i < kw.length → f i = nI (kw.getD i 0)) (h4 : kw.length < 100) (h5 : ∀ d ∈ kw, d < 128) {c : Nat} (hc : c < 128) : ∀ (r i fuel : Nat), i + r = kw.length → r < fuel → ∃ v, f_SL1_indexOfChar_b7 S g N E fuel (some b) (nI kw.length) (nI c) (nI i) = some v ∧ (v < 0 ↔ ¬ c ∈ kw.drop i) := by
  intro r
  induction r with
  | zero =>
    intro i fuel hi hf
    obtain ⟨fuel, rfl⟩ : ∃ j, fuel = j + 1 := ⟨fuel - 1, by omega⟩
    rw [f_SL1_indexOfChar_b7, if_pos (nI_le (by omega) (by omega)), List.drop_eq_nil_of_le (by omega)]
    exact ⟨-1, rfl, ⟨fun _ => List.not_mem_nil, fun _ => by decide⟩⟩
  | succ r ih =>
    intro i fuel hi hf
    obtain ⟨fuel, rfl⟩ : ∃ j, fuel = j + 1 := ⟨fuel - 1, by omega⟩
    have hil : i < kw.length := by omega
    have e : kw.drop i = kw.getD i 0 :: kw.drop (i + 1) := by
      rw [List.drop_eq_getElem_cons hil]
      simp [List.getD, hil]
    have hd := h5 _ (gD_mem hil)
    rw [f_SL1_indexOfChar_b7, if_neg (nI_ge hil (by omega)), aI_at h2 hil (by omega), Option.bind_some, h3 i hil, e]
    by_cases hq : kw.getD i 0 = c
    · rw [if_pos (by rw [hq])]
      exact ⟨nI i, rfl, ⟨fun z => absurd z (nI_pos (by omega)), fun z => absurd (by rw [hq]; exact List.mem_cons_self) z⟩⟩
    · rw [if_neg (fun z => hq ((nI_eq (by omega) (by omega)).mp z)), nI_1]
      obtain ⟨v, h1, h2⟩ := ih (i + 1) fuel (by omega) (by omega)
      refine ⟨v, h1, h2.trans ?_⟩
      simp only [List.mem_cons, not_or]
      exact ⟨fun z => ⟨fun y => hq y.symm, z⟩, fun z => z.2⟩
theorem T_sgn (hN : 400 < N) (hs : strS S a kw) (hk : 0 < kw.length) {v : Int32} (hv : v = -1 ∨ wch v) : f_Tape_signAmong S g N E (some a) v = some (if v ≠ -1 ∧ cN v ∈ kw then v else -1) := by
  unfold f_Tape_signAmong f_Tape_signAmong_b18 f_Tape_signAmong_b19
  by_cases h1 : v = -1
  · rw [if_pos h1, if_neg (fun z => z.1 h1)]
  · obtain ⟨c, rfl, hc1, hc2⟩ := hv.resolve_left h1
    obtain ⟨fs, ho⟩ := str_O hs
    have hl := str_len (g := g) (E := E) hs
    obtain ⟨b, f, g1, g2, g3, g4, g5⟩ := hs
    have e1 : ((nI c).toUInt32 % 65536).toInt32 = nI c := (sb_byte c (by omega)).2.1
    have e2 : (nI c).toInt8.toInt32 = nI c := by
      have : ∀ c, c < 128 → (nI c).toInt8.toInt32 = nI c := by decide +kernel
      exact this c (by omega)
    obtain ⟨u, h2, h3⟩ := ix_loop (S := S) (E := E) (g := g) (N := N) g2 g3 g4 g5 (c := c) (by omega) kw.length 0 N (by omega) (by omega)
    have e3 : f_Str_indexOf1 S g N E a (nI c) = some u := by
      unfold f_Str_indexOf1 f_Str_indexOf2 f_Str_isLatin1 f_Str_isLatin1_b18 f_SL1_indexOf f_SL1_canEncode f_SL1_canEncode_b16 f_SL1_indexOfChar
      simp only [gO_at g1, Option.bind_some, gI_at (k := 1) g1 (show [Value.ref b, Value.int 0][1]? = some (.int 0) from rfl), if_neg (show ¬ (1 : Int32) = 0 from by decide), if_true, show bZ 1 = some 1 from rfl, gR_at (k := 0) g1 (show [Value.ref b, Value.int 0][0]? = some (.ref b) from rfl), hl, if_neg (nI_pos (show c < 2 ^ 31 by omega)), if_neg (show ¬ (255 : Int32) < nI c from nI_nlt (a := 255) (b := c) (by omega) (by decide)), sL1_at g2, if_neg (show ¬ (0 : Int32) < 0 from by decide), if_neg (show ¬ nI kw.length < nI kw.length from nI_nlt (Nat.le_refl _) (by omega)), if_pos (show (0 : Int32) < nI kw.length from nI_lt (a := 0) hk (by omega)), e2]
      rw [show (0 : Int32) = nI 0 from rfl, h2]
      rfl
    rw [if_neg h1, ho, Option.bind_some, e1, e3, Option.bind_some]
    have e4 : cN (nI c) = c := cN_nI (by omega)
    rw [e4]
    by_cases hm : c ∈ kw
    · rw [if_neg (fun z => h3.mp z (by simpa using hm)), if_pos ⟨h1, hm⟩]
    · rw [if_pos (h3.mpr (by simpa using hm)), if_neg (fun z => hm z.2)]
end SGN
theorem neg2 {r : Nat} (h : r < 2 ^ 31) : ¬ nI r = -1 := fun z => by
  have := congrArg Int32.toInt z
  rw [nI_toInt h, show (-1 : Int32).toInt = -1 from by decide] at this
  omega
theorem isSg_c : ∀ c, c < 127 → isSg (nI c) = decide (c ∈ [43, 45, 42, 47, 37, 38, 124, 94, 60, 61]) := by decide +kernel
theorem isCp_c : ∀ c, c < 127 → isCp (nI c) = decide (c ∈ [60, 61, 62]) := by decide +kernel
theorem sg_if {v : Int32} (hv : v = -1 ∨ wch v) : (if v ≠ -1 ∧ cN v ∈ [43, 45, 42, 47, 37, 38, 124, 94, 60, 61] then v else -1) = (if isSg v = true then v else -1) := by
  rcases hv with rfl | ⟨c, rfl, h1, h2⟩
  · rfl
  · rw [cN_nI (by omega), isSg_c c (by omega)]
    by_cases h : c ∈ [43, 45, 42, 47, 37, 38, 124, 94, 60, 61]
    · rw [if_pos ⟨neg2 (by omega), h⟩, if_pos (decide_eq_true h)]
    · rw [if_neg (fun z => h z.2), if_neg (fun z => h (of_decide_eq_true z))]
theorem cp_if {v : Int32} (hv : v = -1 ∨ wch v) : (if v ≠ -1 ∧ cN v ∈ [60, 61, 62] then v else -1) = (if isCp v = true then v else -1) := by
  rcases hv with rfl | ⟨c, rfl, h1, h2⟩
  · rfl
  · rw [cN_nI (by omega), isCp_c c (by omega)]
    by_cases h : c ∈ [60, 61, 62]
    · rw [if_pos ⟨neg2 (by omega), h⟩, if_pos (decide_eq_true h)]
    · rw [if_neg (fun z => h z.2), if_neg (fun z => h (of_decide_eq_true z))]
/-- the constants that the class reads -/
def conS (S : hE) (g fa wa ka : Nat → Nat) : Prop := strS S (g 10) [43, 45, 42, 47, 37, 38, 124, 94, 60, 61] ∧ strS S (g 11) [60, 61, 62] ∧ strS S (g 12) [103, 111] ∧ (∃ ff : Nat → Option Nat, Sa S (g 1) = some (.inl (101, 18, .inr (.inr (.inr (.inr ff))))) ∧ ∀ i, i < 18 → ff i = some (fa i)) ∧ (∀ i, i < 18 → So S (fa i) = some (.inr (101, [.int (nI i), .ref (wa i), .ref (ka i)])) ∧ strS S (wa i) (kwL.getD i []) ∧ strS S (ka i) (kdL.getD i [])) ∧ (∃ f : Nat → Int32, Sa S (g 2) = some (.inl (102, 18, .inl f)) ∧ ∀ i, i < 18 → f i = nI (i + 1)) ∧ ∃ f : Nat → Option Nat, Sa S (g 0) = some (.inl (103, 0, .inr (.inr (.inr (.inr f)))))
def fv (o : Nat → Nat → Int32) : vSt := (o 1 4, o 1 5, o 1 6, o 1 7, o 1 8)
theorem tw_82 {t : Nat → Int32} {f e : Nat} {st : vSt} : tw t f e 82 st = (if isRg (ol t f e) = true then some (ol t f e - 97, st.2) else none) := by
  unfold tw
  rw [if_pos rfl]
theorem tw_88 {t : Nat → Int32} {f e : Nat} {st : vSt} : tw t f e 88 st = (if isVl t f e = true then some (st.1, opd t f e, st.2.2) else none) := by
  unfold tw
  rw [if_neg (by decide), if_pos rfl]
theorem tw_89 {t : Nat → Int32} {f e : Nat} {st : vSt} : tw t f e 89 st = (if isVl t f e = true then some (st.1, st.2.1, st.2.2.1, opd t f e, st.2.2.2.2) else none) := by
  unfold tw
  rw [if_neg (by decide), if_neg (by decide), if_pos rfl]
theorem tw_79 {t : Nat → Int32} {f e : Nat} {st : vSt} : tw t f e 79 st = (if isSg (ol t f e) = true then some (st.1, st.2.1, ol t f e, st.2.2.2) else none) := by
  unfold tw
  rw [if_neg (by decide), if_neg (by decide), if_neg (by decide), if_pos rfl]
theorem tw_67 {t : Nat → Int32} {f e : Nat} {st : vSt} : tw t f e 67 st = (if isCp (ol t f e) = true then some (st.1, st.2.1, ol t f e, st.2.2.2) else none) := by
  unfold tw
  rw [if_neg (by decide), if_neg (by decide), if_neg (by decide), if_neg (by decide), if_pos rfl]
theorem tw_76 {t : Nat → Int32} {f e : Nat} {st : vSt} : tw t f e 76 st = (if isLt (ol t f e) = true then some (st.1, st.2.1, st.2.2.1, st.2.2.2.1, ol t f e - 65) else none) := by
  unfold tw
  rw [if_neg (by decide), if_neg (by decide), if_neg (by decide), if_neg (by decide), if_neg (by decide), if_pos rfl]
theorem tw_103 {t : Nat → Int32} {f e : Nat} {st : vSt} : tw t f e 103 st = (if isWb t f e [103, 111] = true then some st else none) := by
  unfold tw
  rw [if_neg (by decide), if_neg (by decide), if_neg (by decide), if_neg (by decide), if_neg (by decide), if_neg (by decide)]
section TW
variable {S : hE} {g fa wa ka : Nat → Nat} {x N n k : Nat} {o A : Nat → Nat → Int32} {q : Nat → Option Nat} {F : hE} {t : Nat → Int32} {W : Nat × (Nat → Nat) × (Nat → Nat)}
theorem ol_wch {f e : Nat} (h : wok t f e) : ol t f e = -1 ∨ wch (ol t f e) := by
  unfold ol
  split
  · exact Or.inr (h.2 f (Nat.le_refl _) h.1)
  · exact Or.inl rfl
theorem neg1 {r : Nat} (h : r < 2 ^ 31) : ¬ nI r = -1 := fun z => by
  have := congrArg Int32.toInt z
  rw [nI_toInt h, show (-1 : Int32).toInt = -1 from by decide] at this
  omega
theorem tw_out (h : tvw o A t n W) (j : Nat) (hj : j ≠ 3) (v : Int32) : tvw (u2 o 1 j v) A t n W := ⟨by rw [u2_ne _ _ (Ne.symm hj)]; exact h.1, h.2⟩
theorem fv_4 (v : Int32) : fv (u2 o 1 4 v) = (v, o 1 5, o 1 6, o 1 7, o 1 8) := by
  unfold fv
  rw [u2_self, u2_ne _ _ (by decide), u2_ne _ _ (by decide), u2_ne _ _ (by decide), u2_ne _ _ (by decide)]
theorem fv_5 (v : Int32) : fv (u2 o 1 5 v) = (o 1 4, v, o 1 6, o 1 7, o 1 8) := by
  unfold fv
  rw [u2_self, u2_ne _ _ (by decide), u2_ne _ _ (by decide), u2_ne _ _ (by decide), u2_ne _ _ (by decide)]
theorem fv_6 (v : Int32) : fv (u2 o 1 6 v) = (o 1 4, o 1 5, v, o 1 7, o 1 8) := by
  unfold fv
  rw [u2_self, u2_ne _ _ (by decide), u2_ne _ _ (by decide), u2_ne _ _ (by decide), u2_ne _ _ (by decide)]
theorem fv_7 (v : Int32) : fv (u2 o 1 7 v) = (o 1 4, o 1 5, o 1 6, v, o 1 8) := by
  unfold fv
  rw [u2_self, u2_ne _ _ (by decide), u2_ne _ _ (by decide), u2_ne _ _ (by decide), u2_ne _ _ (by decide)]
theorem fv_8 (v : Int32) : fv (u2 o 1 8 v) = (o 1 4, o 1 5, o 1 6, o 1 7, v) := by
  unfold fv
  rw [u2_self, u2_ne _ _ (by decide), u2_ne _ _ (by decide), u2_ne _ _ (by decide), u2_ne _ _ (by decide)]
def twR (o o' : Nat → Nat → Int32) (r : Option vSt) : Prop := (∀ st, r = some st → fv o' = st) ∧ (∀ j, j ≠ 1 → o' j = o j) ∧ o' 1 3 = o 1 3
theorem twR_u {j : Nat} {v : Int32} {r : Option vSt} (hj : j ≠ 3) (h : ∀ st, r = some st → fv (u2 o 1 j v) = st) : twR o (u2 o 1 j v) r := ⟨h, fun i hi => u2_n _ _ _ hi, u2_ne _ _ (Ne.symm hj)⟩
theorem T_tw (hN : 400 < N) (hc : conS S g fa wa ka) (h : tvw o A t n W) (hk : k < W.1) (h6 : k < 6) {kd : Nat} (hkd : kd = 82 ∨ kd = 88 ∨ kd = 89 ∨ kd = 79 ∨ kd = 67 ∨ kd = 76 ∨ kd = 103) :
    ∃ o', f_Tape_takeWord S g N (x + 1) (nI k) (nI kd) (eX x o A q F) = some (bI (tw t (W.2.1 k) (W.2.2 k) kd (fv o)).isSome, eX x o' A q F) ∧ twR o o' (tw t (W.2.1 k) (W.2.2 k) kd (fv o)) := by
  obtain ⟨b1, b2, b3, b4⟩ := h.2.2.2.2 k hk h6
  have how := ol_wch b3
  unfold f_Tape_takeWord
  rcases hkd with rfl | rfl | rfl | rfl | rfl | rfl | rfl
  · rw [if_neg (by decide), if_neg (by decide), if_neg (by decide), if_pos (by rfl), xt_O, Option.bind_some, T_ol h hk h6, Option.bind_some, T_reg, Option.bind_some, xts_4, Option.bind_some, xt_4, Option.bind_some, u2_self]
    rw [tw_82]
    unfold f_Tape_takeWord_b93
    by_cases hr : isRg (ol t (W.2.1 k) (W.2.2 k)) = true
    · obtain ⟨r, hr8, hv⟩ := isRg_i.mp hr
      rw [if_pos hr, if_pos hr, if_neg (by rw [hv, show (97 : Int32) = nI 97 from rfl, pk_sub (by omega)]; exact neg1 (by omega))]
      exact ⟨_, rfl, twR_u (by decide) (fun st hst => by rw [fv_4, ← Option.some.inj hst]; rfl)⟩
    · rw [if_neg hr, if_neg hr, if_pos rfl]
      exact ⟨_, rfl, twR_u (by decide) (fun st hst => by cases hst)⟩
  · rw [if_neg (by decide), if_neg (by decide), if_neg (by decide), if_neg (by decide), if_pos (by rfl), xt_O, Option.bind_some, T_op hN h hk h6, Option.bind_some, xts_5, Option.bind_some, xt_5, Option.bind_some, u2_self]
    rw [tw_88]
    unfold f_Tape_takeWord_b117
    by_cases hr : isVl t (W.2.1 k) (W.2.2 k) = true
    · rw [if_neg (show ¬ opd t (W.2.1 k) (W.2.2 k) = -1000000 from fun z => by rw [opd_ok.mp z] at hr; cases hr), if_pos hr]
      exact ⟨_, rfl, twR_u (by decide) (fun st hst => by rw [fv_5, ← Option.some.inj hst]; rfl)⟩
    · rw [if_pos (opd_ok.mpr (Bool.eq_false_iff.mpr hr)), if_neg hr]
      exact ⟨_, rfl, twR_u (by decide) (fun st hst => by cases hst)⟩
  · rw [if_neg (by decide), if_neg (by decide), if_neg (by decide), if_neg (by decide), if_neg (by decide), if_pos (by rfl), xt_O, Option.bind_some, T_op hN h hk h6, Option.bind_some, xts_7, Option.bind_some, xt_7, Option.bind_some, u2_self]
    rw [tw_89]
    unfold f_Tape_takeWord_b141
    by_cases hr : isVl t (W.2.1 k) (W.2.2 k) = true
    · rw [if_neg (show ¬ opd t (W.2.1 k) (W.2.2 k) = -1000000 from fun z => by rw [opd_ok.mp z] at hr; cases hr), if_pos hr]
      exact ⟨_, rfl, twR_u (by decide) (fun st hst => by rw [fv_7, ← Option.some.inj hst]; rfl)⟩
    · rw [if_pos (opd_ok.mpr (Bool.eq_false_iff.mpr hr)), if_neg hr]
      exact ⟨_, rfl, twR_u (by decide) (fun st hst => by cases hst)⟩
  · rw [if_neg (by decide), if_neg (by decide), if_pos (by rfl), xt_O, Option.bind_some, T_ol h hk h6, Option.bind_some, T_sgn hN hc.1 (by decide) how, Option.bind_some, sg_if how, xts_6, Option.bind_some, xt_6, Option.bind_some, u2_self]
    rw [tw_79]
    unfold f_Tape_takeWord_b169
    by_cases hr : isSg (ol t (W.2.1 k) (W.2.2 k)) = true
    · have hne : ¬ ol t (W.2.1 k) (W.2.2 k) = -1 := fun z => by rw [z] at hr; revert hr; decide
      rw [if_pos hr, if_pos hr, if_neg hne]
      exact ⟨_, rfl, twR_u (by decide) (fun st hst => by rw [fv_6, ← Option.some.inj hst]; rfl)⟩
    · rw [if_neg hr, if_neg hr, if_pos rfl]
      exact ⟨_, rfl, twR_u (by decide) (fun st hst => by cases hst)⟩
  · rw [if_pos (by rfl), xt_O, Option.bind_some, T_ol h hk h6, Option.bind_some, T_sgn hN hc.2.1 (by decide) how, Option.bind_some, cp_if how, xts_6, Option.bind_some, xt_6, Option.bind_some, u2_self]
    rw [tw_67]
    unfold f_Tape_takeWord_b197
    by_cases hr : isCp (ol t (W.2.1 k) (W.2.2 k)) = true
    · have hne : ¬ ol t (W.2.1 k) (W.2.2 k) = -1 := fun z => by rw [z] at hr; revert hr; decide
      rw [if_pos hr, if_pos hr, if_neg hne]
      exact ⟨_, rfl, twR_u (by decide) (fun st hst => by rw [fv_6, ← Option.some.inj hst]; rfl)⟩
    · rw [if_neg hr, if_neg hr, if_pos rfl]
      exact ⟨_, rfl, twR_u (by decide) (fun st hst => by cases hst)⟩
  · rw [if_neg (by decide), if_pos (by rfl), xt_O, Option.bind_some, T_ol h hk h6, Option.bind_some, T_lab, Option.bind_some, xts_8, Option.bind_some, xt_8, Option.bind_some, u2_self]
    rw [tw_76]
    unfold f_Tape_takeWord_b223
    by_cases hr : isLt (ol t (W.2.1 k) (W.2.2 k)) = true
    · obtain ⟨r, hr8, hv⟩ := isLt_i.mp hr
      rw [if_pos hr, if_pos hr, if_neg (by rw [hv, show (65 : Int32) = nI 65 from rfl, pk_sub (by omega)]; exact neg1 (by omega))]
      exact ⟨_, rfl, twR_u (by decide) (fun st hst => by rw [fv_8, ← Option.some.inj hst]; rfl)⟩
    · rw [if_neg hr, if_neg hr, if_pos rfl]
      exact ⟨_, rfl, twR_u (by decide) (fun st hst => by cases hst)⟩
  · rw [if_neg (by decide), if_neg (by decide), if_neg (by decide), if_neg (by decide), if_neg (by decide), if_neg (by decide), if_pos (by rfl), xt_O, Option.bind_some, T_isW hN hc.2.2.1 h hk h6, Option.bind_some]
    rw [tw_103]
    cases isWb t (W.2.1 k) (W.2.2 k) [103, 111] with
    | true => exact ⟨o, rfl, fun st hst => Option.some.inj hst, fun _ _ => rfl, rfl⟩
    | false => exact ⟨o, rfl, fun st hst => (by cases hst), fun _ _ => rfl, rfl⟩
end TW
