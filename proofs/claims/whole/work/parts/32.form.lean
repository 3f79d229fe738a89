/-! ===== the class: isOfForm ===== -/
theorem drop_gD (l : List Nat) (j : Nat) (h : j < l.length) : l.drop j = l.getD j 0 :: l.drop (j + 1) := by
  rw [List.drop_eq_getElem_cons h]
  simp [List.getD, h]
section FRM
variable {S : hE} {g fa wa ka : Nat → Nat} {x N n : Nat} {A : Nat → Nat → Int32} {q : Nat → Option Nat} {F : hE} {t : Nat → Int32} {W : Nat × (Nat → Nat) × (Nat → Nat)}
theorem kd_ok : ∀ i, i < 18 → (kdL.getD i []).length ≤ 5 ∧ ∀ d ∈ kdL.getD i [], d = 82 ∨ d = 88 ∨ d = 89 ∨ d = 79 ∨ d = 67 ∨ d = 76 ∨ d = 103 := by decide +kernel
theorem twR_trans {o o1 o2 : Nat → Nat → Int32} {r1 r2 : Option vSt} (h1 : twR o o1 r1) (h2 : twR o1 o2 r2) : twR o o2 r2 := ⟨h2.1, fun j hj => (h2.2.1 j hj).trans (h1.2.1 j hj), h2.2.2.trans h1.2.2⟩
theorem tvw_tw {o o1 : Nat → Nat → Int32} {r1 : Option vSt} (h : tvw o A t n W) (h1 : twR o o1 r1) : tvw o1 A t n W := ⟨by rw [h1.2.2]; exact h.1, h.2⟩
theorem T_form59 (hN : 400 < N) (hc : conS S g fa wa ka) {i : Nat} (hi : i < 18) (hW : W.1 = (kdL.getD i []).length + 1) : ∀ (r j fuel : Nat) (o : Nat → Nat → Int32), j + r = (kdL.getD i []).length → r < fuel → tvw o A t n W → ∃ o', f_Tape_isOfForm_b59 S g N fuel (some (x + 1)) (some (fa i)) (nI j) (eX x o A q F) = some (bI (pf t W ((kdL.getD i []).drop j) (j + 1) (fv o)).isSome, eX x o' A q F) ∧ twR o o' (pf t W ((kdL.getD i []).drop j) (j + 1) (fv o)) := by
  obtain ⟨hk5, hkd⟩ := kd_ok i hi
  obtain ⟨hf, -, hs⟩ := hc.2.2.2.2.1 i hi
  obtain ⟨fs, hso⟩ := str_O hs
  intro r
  induction r with
  | zero =>
    intro j fuel o hj hfu h
    obtain ⟨fuel, rfl⟩ : ∃ k, fuel = k + 1 := ⟨fuel - 1, by omega⟩
    rw [f_Tape_isOfForm_b59, gR_at hf rfl, Option.bind_some, hso, Option.bind_some, str_len hs, Option.bind_some, if_pos (nI_le (by omega) (by omega)), List.drop_eq_nil_of_le (by omega)]
    exact ⟨o, rfl, fun st hst => Option.some.inj hst, fun _ _ => rfl, rfl⟩
  | succ r ih =>
    intro j fuel o hj hfu h
    obtain ⟨fuel, rfl⟩ : ∃ k, fuel = k + 1 := ⟨fuel - 1, by omega⟩
    have hjl : j < (kdL.getD i []).length := by omega
    have e : (kdL.getD i []).drop j = (kdL.getD i []).getD j 0 :: (kdL.getD i []).drop (j + 1) := drop_gD _ _ hjl
    obtain ⟨o1, g1, g2⟩ := T_tw (x := x) (q := q) (F := F) (k := j + 1) hN hc h (by omega) (by omega) (hkd _ (gD_mem hjl))
    rw [f_Tape_isOfForm_b59, gR_at hf rfl, Option.bind_some, hso, Option.bind_some, str_len hs, Option.bind_some, if_neg (nI_ge (by omega) (by omega)), Option.bind_some, hso, Option.bind_some, str_at hs hjl, Option.bind_some, xt_O, Option.bind_some, nI_1, g1, Option.bind_some, e, pf]
    cases htw : tw t (W.2.1 (j + 1)) (W.2.2 (j + 1)) ((kdL.getD i []).getD j 0) (fv o) with
    | none =>
      exact ⟨o1, rfl, fun st hst => (by cases hst), g2.2.1, g2.2.2⟩
    | some st1 =>
      have e1 := g2.1 st1 htw
      obtain ⟨o2, k1, k2⟩ := ih (j + 1) fuel o1 (by omega) (by omega) (tvw_tw h g2)
      rw [e1] at k1 k2
      exact ⟨o2, k1, twR_trans g2 k2⟩
theorem T_form (hN : 400 < N) (hc : conS S g fa wa ka) {i : Nat} (hi : i < 18) {o : Nat → Nat → Int32} (h : tvw o A t n W) (h0 : 0 < W.1) : ∃ o', f_Tape_isOfForm S g N (x + 1) (some (fa i)) (eX x o A q F) = some (bI (fit t W i).isSome, eX x o' A q F) ∧ twR o o' (fit t W i) := by
  obtain ⟨hk5, hkd⟩ := kd_ok i hi
  obtain ⟨hf, hsw, hs⟩ := hc.2.2.2.2.1 i hi
  obtain ⟨fs, hso⟩ := str_O hs
  have hW := h.2.1
  have out : ∃ o', f_Tape_isOfForm_b28 S g N (eX x o A q F) = some (bI (none : Option vSt).isSome, eX x o' A q F) ∧ twR o o' none := ⟨o, rfl, fun st hst => (by cases hst), fun _ _ => rfl, rfl⟩
  unfold f_Tape_isOfForm fit
  rw [xt_3, Option.bind_some, gR_at hf rfl, Option.bind_some, hso, Option.bind_some, str_len hs, Option.bind_some, h.1, nI_1]
  by_cases hw : W.1 = (kdL.getD i []).length + 1
  · rw [if_pos (by rw [hw]), gR_at hf rfl, Option.bind_some, xt_O, Option.bind_some, show (0 : Int32) = nI 0 from rfl, T_isW hN hsw h h0 (by decide), Option.bind_some]
    by_cases hk : isWb t (W.2.1 0) (W.2.2 0) (kwL.getD i []) = true
    · rw [hk, if_neg (by decide), if_pos ⟨hw, rfl⟩, xts_4, Option.bind_some, xts_5, Option.bind_some, xts_6, Option.bind_some, xts_7, Option.bind_some, xts_8, Option.bind_some]
      obtain ⟨o', k1, k2⟩ := T_form59 (x := x) (q := q) (F := F) (g := g) hN hc hi hw (kdL.getD i []).length 0 N (u2 (u2 (u2 (u2 (u2 o 1 4 (-1)) 1 5 (-1000000)) 1 6 (-1)) 1 7 (-1000000)) 1 8 (-1)) (by omega) (by omega) (tw_out (tw_out (tw_out (tw_out (tw_out h 4 (by decide) _) 5 (by decide) _) 6 (by decide) _) 7 (by decide) _) 8 (by decide) _)
      have e : fv (u2 (u2 (u2 (u2 (u2 o 1 4 (-1)) 1 5 (-1000000)) 1 6 (-1)) 1 7 (-1000000)) 1 8 (-1)) = st0 := by
        rw [fv_8]
        rw [u2_ne _ _ (show (4 : Nat) ≠ 7 by decide), u2_ne _ _ (show (4 : Nat) ≠ 6 by decide), u2_ne _ _ (show (4 : Nat) ≠ 5 by decide), u2_self, u2_ne _ _ (show (5 : Nat) ≠ 7 by decide), u2_ne _ _ (show (5 : Nat) ≠ 6 by decide), u2_self, u2_ne _ _ (show (6 : Nat) ≠ 7 by decide), u2_self, u2_self]
        rfl
      rw [e] at k1 k2
      refine ⟨o', k1, k2.1, fun j hj => ?_, ?_⟩
      · rw [k2.2.1 j hj, u2_n _ _ _ hj, u2_n _ _ _ hj, u2_n _ _ _ hj, u2_n _ _ _ hj, u2_n _ _ _ hj]
      · rw [k2.2.2, u2_ne _ _ (by decide), u2_ne _ _ (by decide), u2_ne _ _ (by decide), u2_ne _ _ (by decide), u2_ne _ _ (by decide)]
    · rw [Bool.eq_false_iff.mpr hk, if_pos (show bI false = nI 0 from rfl), if_neg (fun z => by cases z.2)]
      exact out
  · rw [if_neg (fun z => hw ((nI_eq (by omega) (by omega)).mp z)), if_neg (fun z => hw z.1)]
    exact out
end FRM
/-! ===== the class: the list of statements ===== -/
def capJ (j : Nat) : Nat := [0, 10, 15, 22, 33, 49, 73, 109, 163, 244, 366, 549].getD j 0
def capU (j : Nat) : Nat := [0, 10, 25, 47, 80, 129, 202, 311, 474, 718, 1084, 1633].getD j 0
theorem cap_s : ∀ j, j < 11 → 1 ≤ j → capJ (j + 1) = capJ j + capJ j / 2 ∧ 10 ≤ capJ j ∧ capJ j ≤ 366 := by decide +kernel
theorem cap_u : ∀ j, j < 11 → capU (j + 1) = capU j + capJ (j + 1) ∧ capU j ≤ 1084 := by decide +kernel
theorem cap_m : ∀ j, j ≤ 11 → capU j ≤ 1633 ∧ capJ j ≤ 549 ∧ (capJ j ≤ 400 → j ≤ 10) ∧ (0 < capJ j → 1 ≤ j) ∧ (capJ j = 0 → j = 0) := by decide +kernel
abbrev stI : Type := Nat × Nat × vSt
def stL (fa : Nat → Nat) (q : stI) : List Value := [.int (nI q.1), .ref (fa q.2.1), .int q.2.2.1, .int q.2.2.2.1, .int q.2.2.2.2.1, .int q.2.2.2.2.2.1, .int q.2.2.2.2.2.2]
/-- a script: places, count of statements, lines, capacity, statements -/
def scB (g0 : Nat) (fa : Nat → Nat) (F : hE) (nx sc cnt : Nat) (pl : Nat → Int32) (ln cap : Nat) (sts : Nat → stI) : Prop :=
  sc + 3 ≤ nx ∧ F sc = some (.inr (3, [.ref (sc + 1), .ref (sc + 2), .int (nI ln)])) ∧ F (sc + 2) = some (.inl (0, 26, .inl pl)) ∧
  ∃ (arr : Nat) (md : Int32), F (sc + 1) = some (.inr (8, [.ref arr, .int (nI cnt), .int md])) ∧
    ((cnt = 0 ∧ cap = 0 ∧ arr = g0) ∨ (0 < cap ∧ cnt ≤ cap ∧ sc + 3 ≤ arr ∧ arr < nx ∧ ∃ el : Nat → Option Nat, F arr = some (.inl (6, cap, .inr (.inr (.inr (.inr el))))) ∧ (∀ i, cnt ≤ i → i < cap → el i = none) ∧ ∀ i, i < cnt → ∃ a, el i = some a ∧ sc + 3 ≤ a ∧ a < nx ∧ a ≠ arr ∧ F a = some (.inr (4, stL fa (sts i)))))
section LST
variable {S : hE} {g fa : Nat → Nat} {x : Nat} {o A : Nat → Nat → Int32} {q : Nat → Option Nat} {F : hE} {nx sc cnt ln cap : Nat} {pl : Nat → Int32} {sts : Nat → stI}
theorem eX_up {a : Nat} {e : Option va_E} (h : x + 51 ≤ a) : va_up (eX x o A q F) a e = eX x o A q (va_up F a e) := enc_upo (Or.inr h)
theorem eX_hi {a : Nat} (h : x + 51 ≤ a) : eX x o A q F a = F a := eX_out (Or.inr h)
/-- a script stays when other cells change -/
theorem scB_mv {F' : hE} {nx' g0 : Nat} (h : scB g0 fa F nx sc cnt pl ln cap sts) (hn : nx ≤ nx') (hF : ∀ a, sc ≤ a → a < nx → F' a = F a) : scB g0 fa F' nx' sc cnt pl ln cap sts := by
  obtain ⟨h1, h2, h3, arr, md, h4, h5⟩ := h
  refine ⟨by omega, by rw [hF _ (by omega) (by omega)]; exact h2, by rw [hF _ (by omega) (by omega)]; exact h3, arr, md, by rw [hF _ (by omega) (by omega)]; exact h4, ?_⟩
  rcases h5 with h5 | ⟨b1, b2, b3, b4, el, b5, b5', b6⟩
  · exact Or.inl h5
  · refine Or.inr ⟨b1, b2, b3, by omega, el, by rw [hF _ (by omega) b4]; exact b5, b5', fun i hi => ?_⟩
    obtain ⟨a, c1, c2, c3, c4, c5⟩ := b6 i hi
    exact ⟨a, c1, c2, by omega, c4, by rw [hF _ (by omega) c3]; exact c5⟩
/-- add: the new statement lies at nx - 1 already -/
theorem AL_add (hx : x + 51 ≤ sc) (hg : g 0 < x) (hF0 : F (g 0) = none) (hS0 : ∃ f : Nat → Option Nat, Sa S (g 0) = some (.inl (103, 0, .inr (.inr (.inr (.inr f)))))) {j : Nat} (hj : j ≤ 11) (hcap : cap = capJ j) (hcnt : cnt < 400) (h : scB (g 0) fa F nx sc cnt pl ln cap sts) {u : stI} (hu : F nx = some (.inr (4, stL fa u))) :
    ∃ (B j' nx' : Nat) (F' : hE), f_AL_add1 S g B (sc + 1) (some nx) (eX x o A q F) (nx + 1) = some (1, eX x o A q F', nx') ∧ j' ≤ 11 ∧ j ≤ j' ∧ capU j + B = capU j' ∧ nx + 1 ≤ nx' ∧ scB (g 0) fa F' nx' sc (cnt + 1) pl ln (capJ j') (va_up sts cnt u) ∧ ∀ a, a < sc → F' a = F a := by
  obtain ⟨h1, h2, h3, arr, md, h4, h5⟩ := h
  have hm := cap_m j hj
  have e4 : eX x o A q F (sc + 1) = some (.inr (8, [.ref arr, .int (nI cnt), .int md])) := by rw [eX_hi (by omega)]; exact h4
  -- behind modCount
  have s1 : sI (eX x o A q F) (some (sc + 1)) 8 2 (md + 1) = some (eX x o A q (va_up F (sc + 1) (some (.inr (8, [.ref arr, .int (nI cnt), .int (md + 1)]))))) := by
    unfold sI
    rw [sF_at e4 (by decide : 2 < 3), eX_up (by omega)]
    rfl
  have hF1 : ∀ a, a ≠ sc + 1 → va_up F (sc + 1) (some (.inr (8, [.ref arr, .int (nI cnt), .int (md + 1)]))) a = F a := fun a ha => va_up_ne _ _ ha
  have e4' : eX x o A q (va_up F (sc + 1) (some (.inr (8, [.ref arr, .int (nI cnt), .int (md + 1)])))) (sc + 1) = some (.inr (8, [.ref arr, .int (nI cnt), .int (md + 1)])) := by rw [eX_hi (by omega), va_up_self]
  generalize hFd : va_up F (sc + 1) (some (.inr (8, [.ref arr, .int (nI cnt), .int (md + 1)]))) = F1 at *
  have hstart : ∀ B : Nat, f_AL_add1 S g B (sc + 1) (some nx) (eX x o A q F) (nx + 1) = (f_AL_add3 S g B (sc + 1) (some nx) (some arr) (nI cnt) (eX x o A q F1) (nx + 1)).bind (fun v20 => some (1, v20.1, v20.2)) := fun B => by
    unfold f_AL_add1
    rw [gI_at (k := 2) e4 rfl, Option.bind_some, s1, Option.bind_some, gR_at (k := 0) e4' rfl, Option.bind_some, gI_at (k := 1) e4' rfl, Option.bind_some, gO_at e4', Option.bind_some]
  -- the last two steps, over a heap whose list has the array ar with room
  have fin : ∀ (F2 : hE) (ar cp j' nx' B : Nat) (el : Nat → Option Nat), j' ≤ 11 → cp = capJ j' → cnt < cp → sc + 3 ≤ ar → ar < nx' → nx + 1 ≤ nx' → ar ≠ nx → F2 (sc + 1) = some (.inr (8, [.ref ar, .int (nI cnt), .int (md + 1)])) → F2 ar = some (.inl (6, cp, .inr (.inr (.inr (.inr el))))) → (∀ i, cnt ≤ i → i < cp → el i = none) → (∀ a, a < sc ∨ (sc ≤ a ∧ a ≤ nx ∧ a ≠ sc + 1 ∧ a ≠ ar) → F2 a = F a) → (∀ i, i < cnt → ∃ a, el i = some a ∧ sc + 3 ≤ a ∧ a < nx ∧ a ≠ ar ∧ F a = some (.inr (4, stL fa (sts i)))) →
      ∃ F' : hE, f_AL_add3_b11 S g B (some (sc + 1)) (some nx) (some ar) (nI cnt) (eX x o A q F2) nx' = some (eX x o A q F', nx') ∧ scB (g 0) fa F' nx' sc (cnt + 1) pl ln (capJ j') (va_up sts cnt u) ∧ ∀ a, a < sc → F' a = F a := by
    intro F2 ar cp j' nx' B el hj' hcp hlt ha1 ha2 hn ha3 hal harr hnone hF2 hel
    have hm' := cap_m j' hj'
    have ear : eX x o A q F2 ar = some (.inl (6, cp, .inr (.inr (.inr (.inr el))))) := by rw [eX_hi (by omega)]; exact harr
    have enx : eX x o A q F2 nx = some (.inr (4, stL fa u)) := by rw [eX_hi (by omega), hF2 nx (Or.inr ⟨by omega, Nat.le_refl _, by omega, Ne.symm ha3⟩)]; exact hu
    have eal : eX x o A q (va_up F2 ar (some (.inl (6, cp, .inr (.inr (.inr (.inr (va_up el cnt (some nx))))))))) (sc + 1) = some (.inr (8, [.ref ar, .int (nI cnt), .int (md + 1)])) := by rw [eX_hi (by omega), va_up_ne _ _ (by omega)]; exact hal
    refine ⟨va_up (va_up F2 ar (some (.inl (6, cp, .inr (.inr (.inr (.inr (va_up el cnt (some nx))))))))) (sc + 1) (some (.inr (8, [.ref ar, .int (nI (cnt + 1)), .int (md + 1)]))), ?_, ?_, ?_⟩
    · unfold f_AL_add3_b11
      rw [tQ_at ear hlt (by omega) enx, Option.bind_some, eX_up (by omega)]
      unfold sI
      rw [sF_at eal (by decide : 1 < 3), Option.bind_some, eX_up (by omega), nI_1]
      rfl
    · refine ⟨by omega, ?_, ?_, ar, md + 1, va_up_self _ _ _, Or.inr ⟨by omega, by omega, ha1, ha2, va_up el cnt (some nx), ?_, ?_, fun i hi => ?_⟩⟩
      · rw [va_up_ne _ _ (by omega), va_up_ne _ _ (by omega), hF2 sc (Or.inr ⟨by omega, by omega, by omega, by omega⟩)]; exact h2
      · rw [va_up_ne _ _ (by omega), va_up_ne _ _ (by omega), hF2 (sc + 2) (Or.inr ⟨by omega, by omega, by omega, by omega⟩)]; exact h3
      · rw [va_up_ne _ _ (by omega), va_up_self, hcp]
      · intro i h1 h2
        rw [va_up_ne _ _ (by omega)]
        exact hnone i (by omega) (by omega)
      · by_cases hic : i = cnt
        · subst hic
          refine ⟨nx, va_up_self _ _ _, by omega, by omega, Ne.symm ha3, ?_⟩
          rw [va_up_ne _ _ (by omega), va_up_ne _ _ (Ne.symm ha3), va_up_self, hF2 nx (Or.inr ⟨by omega, Nat.le_refl _, by omega, Ne.symm ha3⟩)]
          exact hu
        · obtain ⟨a, c1, c2, c3, c4, c5⟩ := hel i (by omega)
          refine ⟨a, by rw [va_up_ne _ _ hic]; exact c1, c2, by omega, c4, ?_⟩
          rw [va_up_ne _ _ (by omega), va_up_ne _ _ c4, va_up_ne _ _ hic, hF2 a (Or.inr ⟨by omega, by omega, by omega, c4⟩)]
          exact c5
    · intro a ha
      rw [va_up_ne _ _ (by omega), va_up_ne _ _ (by omega), hF2 a (Or.inl ha)]
  rcases h5 with ⟨c1, c2, c3⟩ | ⟨b1, b2, b3, b4, el, b5, b5', b6⟩
  · -- the first: an array of ten
    have hj0 : j = 0 := hm.2.2.2.2 (by omega)
    obtain ⟨f0, hS0⟩ := hS0
    have eg : eX x o A q F1 (g 0) = none := by rw [eX_out (Or.inl hg), hF1 _ (by omega)]; exact hF0
    have hal2 : aL2 (eX x o A q F1) S (some (g 0)) 6 103 = some (nI 0) := by
      unfold aL2
      rw [if_neg (by simp [gA, eg])]
      simp [sL1, gA_at hS0, vAi, vAq]
    have enq : nQ (eX x o A q F1) (nx + 1) 6 10 10 = some (eX x o A q (va_up F1 (nx + 1) (some (.inl (6, 10, .inr (.inr (.inr (.inr (fun _ => none))))))))) := by
      unfold nQ
      rw [if_neg (by decide), eX_up (by omega)]
      rfl
    have e5 : eX x o A q (va_up F1 (nx + 1) (some (.inl (6, 10, .inr (.inr (.inr (.inr (fun _ => none)))))))) (sc + 1) = some (.inr (8, [.ref arr, .int (nI cnt), .int (md + 1)])) := by
      rw [eX_hi (by omega), va_up_ne _ _ (by omega)]
      rw [eX_hi (by omega)] at e4'
      exact e4'
    have e6 : sR (eX x o A q (va_up F1 (nx + 1) (some (.inl (6, 10, .inr (.inr (.inr (.inr (fun _ => none))))))))) (some (sc + 1)) 8 0 (some (nx + 1)) = some (eX x o A q (va_up (va_up F1 (nx + 1) (some (.inl (6, 10, .inr (.inr (.inr (.inr (fun _ => none)))))))) (sc + 1) (some (.inr (8, [.ref (nx + 1), .int (nI cnt), .int (md + 1)]))))) := by
      unfold sR
      rw [sF_at e5 (by decide : 0 < 3), eX_up (by omega)]
      rfl
    obtain ⟨F', k1, k2, k3⟩ := fin (va_up (va_up F1 (nx + 1) (some (.inl (6, 10, .inr (.inr (.inr (.inr (fun _ => none)))))))) (sc + 1) (some (.inr (8, [.ref (nx + 1), .int (nI cnt), .int (md + 1)])))) (nx + 1) 10 1 (nx + 2) 10 (fun _ => none) (by decide) rfl (by omega) (by omega) (by omega) (by omega) (by omega) (va_up_self _ _ _) (by rw [va_up_ne _ _ (by omega), va_up_self]) (fun _ _ _ => rfl) (fun a ha => by rw [va_up_ne _ _ (by omega), va_up_ne _ _ (by omega), hF1 a (by omega)]) (fun i hi => by omega)
    refine ⟨10, 1, nx + 2, F', ?_, by decide, by omega, by rw [hj0]; rfl, by omega, k2, k3⟩
    rw [hstart]
    unfold f_AL_add3
    rw [c3, hal2, Option.bind_some, if_pos (by rw [c1]), gO_at e4', Option.bind_some]
    unfold f_AL_grow0 f_AL_grow1
    rw [gI_at (k := 1) e4' rfl, Option.bind_some, gO_at e4', Option.bind_some, gR_at (k := 0) e4' rfl, Option.bind_some, c3, hal2, Option.bind_some, if_neg (by decide), Option.bind_some, if_pos rfl, c1, show (if (10 : Int32) < nI 0 + 1 then nI 0 + 1 else 10) = 10 from by decide, enq, Option.bind_some, e6, Option.bind_some, Option.bind_some, Option.bind_some, ← c1, k1, Option.bind_some]
  · have ear : eX x o A q F1 arr = some (.inl (6, cap, .inr (.inr (.inr (.inr el))))) := by rw [eX_hi (by omega), hF1 _ (by omega)]; exact b5
    have hal2 : aL2 (eX x o A q F1) S (some arr) 6 103 = some (nI cap) := by
      unfold aL2
      rw [if_pos (by simp [gA_at ear])]
      simp [aL, gA_at ear]
    by_cases hfull : cnt = cap
    · -- it grows by a half
      have hj10 : j ≤ 10 := hm.2.2.1 (by omega)
      have hj1 : 1 ≤ j := hm.2.2.2.1 (by omega)
      obtain ⟨cs1, cs2, cs3⟩ := cap_s j (by omega) hj1
      obtain ⟨cu1, cu2⟩ := cap_u j (by omega)
      have enq : nQ (eX x o A q F1) (nx + 1) 6 (nI (capJ (j + 1))) (capJ (j + 1)) = some (eX x o A q (va_up F1 (nx + 1) (some (.inl (6, capJ (j + 1), .inr (.inr (.inr (.inr (fun _ => none))))))))) := by
        unfold nQ
        rw [nI_clamp (by omega), if_neg (by
          rintro (z | z | z)
          · exact nI_pos (by omega) z
          · omega
          · omega), eX_up (by omega)]
      generalize hF2d : va_up F1 (nx + 1) (some (.inl (6, capJ (j + 1), .inr (.inr (.inr (.inr (fun _ => none))))))) = F2 at *
      have hF2 : ∀ a, a ≠ nx + 1 → F2 a = F1 a := fun a ha => by rw [← hF2d]; exact va_up_ne _ _ ha
      have enew : eX x o A q F2 (nx + 1) = some (.inl (6, capJ (j + 1), .inr (.inr (.inr (.inr (fun _ => none)))))) := by rw [eX_hi (by omega), ← hF2d]; exact va_up_self _ _ _
      have eold : eX x o A q F2 arr = some (.inl (6, cap, .inr (.inr (.inr (.inr el))))) := by rw [eX_hi (by omega), hF2 _ (by omega), hF1 _ (by omega)]; exact b5
      have hal3 : aL2 (eX x o A q F2) S (some arr) 6 103 = some (nI cap) := by
        unfold aL2
        rw [if_pos (by simp [gA_at eold])]
        simp [aL, gA_at eold]
      have ecp : cpQ (eX x o A q F2) (some arr) (some (nx + 1)) 6 4 0 0 (nI cap) = some (eX x o A q (va_up F2 (nx + 1) (some (.inl (6, capJ (j + 1), .inr (.inr (.inr (.inr (va_cpy el (fun _ => none) 0 0 cap))))))))) := by
        unfold cpQ
        simp only [gA_at eold, gA_at enew, Option.bind_some, vAq]
        rw [nI_clamp (by omega), show (0 : Int32).toNatClampNeg = 0 from by decide, if_neg (by
          rintro (z | z | z | z | z | z)
          · exact absurd z (by decide)
          · exact absurd z (by decide)
          · exact nI_pos (by omega) z
          · omega
          · omega
          · refine z fun i hi => ?_
            obtain ⟨a, d1, d2, d3, d4, d5⟩ := b6 i (by omega)
            right
            rw [show 0 + i = i from by omega, d1, gO_at (a := a) (fs := stL fa (sts i)) (by rw [eX_hi (by omega), hF2 _ (by omega), hF1 _ (by omega)]; exact d5)]
            rfl), eX_up (by omega)]
      have eal : eX x o A q (va_up F2 (nx + 1) (some (.inl (6, capJ (j + 1), .inr (.inr (.inr (.inr (va_cpy el (fun _ => none) 0 0 cap)))))))) (sc + 1) = some (.inr (8, [.ref arr, .int (nI cnt), .int (md + 1)])) := by
        rw [eX_hi (by omega), va_up_ne _ _ (by omega), hF2 _ (by omega)]
        rw [eX_hi (by omega)] at e4'
        exact e4'
      have e6 : sR (eX x o A q (va_up F2 (nx + 1) (some (.inl (6, capJ (j + 1), .inr (.inr (.inr (.inr (va_cpy el (fun _ => none) 0 0 cap))))))))) (some (sc + 1)) 8 0 (some (nx + 1)) = some (eX x o A q (va_up (va_up F2 (nx + 1) (some (.inl (6, capJ (j + 1), .inr (.inr (.inr (.inr (va_cpy el (fun _ => none) 0 0 cap)))))))) (sc + 1) (some (.inr (8, [.ref (nx + 1), .int (nI cnt), .int (md + 1)]))))) := by
        unfold sR
        rw [sF_at eal (by decide : 0 < 3), eX_up (by omega)]
        rfl
      have hcpy : ∀ i, va_cpy el (fun _ => none) 0 0 cap i = if i < cap then el i else none := fun i => by
        simp [va_cpy]
      obtain ⟨F', k1, k2, k3⟩ := fin (va_up (va_up F2 (nx + 1) (some (.inl (6, capJ (j + 1), .inr (.inr (.inr (.inr (va_cpy el (fun _ => none) 0 0 cap)))))))) (sc + 1) (some (.inr (8, [.ref (nx + 1), .int (nI cnt), .int (md + 1)])))) (nx + 1) (capJ (j + 1)) (j + 1) (nx + 2) (capJ (j + 1)) (va_cpy el (fun _ => none) 0 0 cap) (by omega) rfl (by omega) (by omega) (by omega) (by omega) (by omega) (va_up_self _ _ _) (by rw [va_up_ne _ _ (by omega), va_up_self]) (fun i h1 h2 => by rw [hcpy, if_neg (by omega)]) (fun a ha => by rw [va_up_ne _ _ (by omega), va_up_ne _ _ (by omega), hF2 a (by omega), hF1 a (by omega)]) (fun i hi => by
        obtain ⟨a, d1, d2, d3, d4, d5⟩ := b6 i hi
        exact ⟨a, by rw [hcpy, if_pos (by omega)]; exact d1, d2, d3, by omega, d5⟩)
      refine ⟨capJ (j + 1), j + 1, nx + 2, F', ?_, by omega, by omega, by omega, by omega, k2, k3⟩
      have hgrow : f_AL_grow1_b20 S g (capJ (j + 1)) (some (sc + 1)) (nI (cnt + 1)) (nI cap) (eX x o A q F1) (nx + 1) = some (some (nx + 1), eX x o A q (va_up (va_up F2 (nx + 1) (some (.inl (6, capJ (j + 1), .inr (.inr (.inr (.inr (va_cpy el (fun _ => none) 0 0 cap)))))))) (sc + 1) (some (.inr (8, [.ref (nx + 1), .int (nI cnt), .int (md + 1)])))), nx + 2) := by
        unfold f_AL_grow1_b20 f_AS_newLength
        have e7 : nI cap >>> ((1 : Int32) &&& 31) = nI (cap / 2) := pk_shrN (by omega) _ 1 (by decide)
        rw [pk_sub (by omega), show cnt + 1 - cap = 1 from by omega, e7, if_pos (show nI 1 < nI (cap / 2) from nI_lt (by omega) (by omega)), nI_add, show cap + cap / 2 = capJ (j + 1) from by omega, if_neg (nI_nle (by omega) (by omega)), if_neg (show ¬ (2147483639 : Int32) < nI (capJ (j + 1)) from nI_nlt (a := 2147483639) (by omega) (by decide)), Option.bind_some, gR_at (k := 0) e4' rfl, Option.bind_some]
        unfold f_Arrs_copyOf2 f_Arrs_copyOf3
        rw [gA_at ear, Option.bind_some, if_pos rfl, enq, Option.bind_some, hal3, Option.bind_some, if_neg (nI_nlt (by omega) (by omega)), ecp, Option.bind_some, Option.bind_some, Option.bind_some, e6, Option.bind_some]
      rw [hstart]
      unfold f_AL_add3
      rw [hal2, Option.bind_some, if_pos (by rw [hfull]), gO_at e4', Option.bind_some]
      unfold f_AL_grow0 f_AL_grow1
      rw [gI_at (k := 1) e4' rfl, Option.bind_some, gO_at e4', Option.bind_some, gR_at (k := 0) e4' rfl, Option.bind_some, hal2, Option.bind_some, if_pos (show (0 : Int32) < nI cap from nI_lt (a := 0) b1 (by omega)), nI_1, hgrow, Option.bind_some, Option.bind_some, k1, Option.bind_some]
    · obtain ⟨F', k1, k2, k3⟩ := fin F1 arr cap j (nx + 1) 0 el hj hcap (by omega) b3 (by omega) (by omega) (by omega) (by rw [eX_hi (by omega)] at e4'; exact e4') (by rw [hF1 _ (by omega)]; exact b5) b5' (fun a ha => hF1 a (by omega)) b6
      refine ⟨0, j, nx + 1, F', ?_, hj, Nat.le_refl _, by omega, by omega, by rw [← hcap] at k2 ⊢; exact k2, k3⟩
      rw [hstart]
      unfold f_AL_add3
      rw [hal2, Option.bind_some, if_neg (fun z => hfull ((nI_eq (by omega) (by omega)).mp z)), k1, Option.bind_some]
end LST
