/-! ===== the class: check, load ===== -/
def inW (t : Nat → Int32) (st i : Nat) : Int32 := bI (decide (st < i) && !decide (t (i - 1) = 32))
section CHK
variable {S : hE} {g fa wa ka : Nat → Nat} {x N n sc : Nat} {q : Nat → Option Nat} {t : Nat → Int32}
theorem chk_main (hN : 400 < N) (hc : conS S g fa wa ka) (hx : x + 51 ≤ sc) (hg : g 0 < x) (hn : n ≤ 400) (hch : ∀ i, i < n → isCh (t i)) : ∀ (r i fuel k j nx : Nat) (o A : Nat → Nat → Int32) (F : hE) (la : Nat → Int32) (y2 : Int32), i + r = n → r < fuel → (i < n → k = (lg t i).1 ∧ twv o A (wst t (lg t i).2.2.2 (i - (lg t i).2.2.2)) ∧ y2 = inW t (lg t i).2.2.2 i) → (i = n → k = (lns t n).1) → o 2 1 = nI n → (∀ i, i < n → A 3 i = t i) → j ≤ 11 → F (g 0) = none → scK (g 0) fa F nx sc t (lns t n) k k la j →
    ∃ (bo : Nat → Nat) (o' A' : Nat → Nat → Int32) (F' : hE) (nx' : Nat), sumB bo fuel + capU j ≤ 1633 ∧ f_Tape_check_b9 S g N bo fuel (some (x + 1)) (some sc) y2 (nI i) (eX x o A q F) nx = some (illV t (lns t n) (sc1 t (lns t n) ((lns t n).1 - k) k la), eX x o' A' q F', nx') ∧ (∀ m, m ≠ 1 → o' m = o m) ∧ (∀ m, m ≠ 4 → m ≠ 5 → A' m = A m) ∧ (∀ a, a < sc → F' a = F a) ∧ nx ≤ nx' ∧ (illV t (lns t n) (sc1 t (lns t n) ((lns t n).1 - k) k la) = -1 → ∃ la' j', j' ≤ 11 ∧ sc1 t (lns t n) ((lns t n).1 - k) k la = .inr la' ∧ scK (g 0) fa F' nx' sc t (lns t n) (lns t n).1 (lns t n).1 la' j') := by
  have hLn := (lns_ok t n).1
  intro r
  induction r with
  | zero =>
    intro i fuel k j nx o A F la y2 hi hf h1 h2 ho hA hj hF0 hs
    obtain ⟨fuel, rfl⟩ : ∃ m, fuel = m + 1 := ⟨fuel - 1, by omega⟩
    have hin : i = n := by omega
    have hk := h2 hin
    subst hk
    have hm := (cap_m j hj).1
    have hs' := hs
    obtain ⟨pl, sts, s1, -⟩ := hs'
    obtain ⟨-, -, -, -, ⟨fs', e5⟩⟩ := sc_size (o := o) (A := A) (q := q) hx s1
    have e0 : sc1 t (lns t n) ((lns t n).1 - (lns t n).1) (lns t n).1 la = .inr la := by rw [Nat.sub_self]; rfl
    refine ⟨fun _ => 0, o, A, F, nx, by rw [sumB_0]; omega, ?_, fun _ _ => rfl, fun _ _ _ => rfl, fun _ _ => rfl, Nat.le_refl _, fun _ => ⟨la, j, hj, e0, hs⟩⟩
    have hcl := cst_le t (lns t n) (lns t n).1
    rw [f_Tape_check_b9, xt_0, Option.bind_some, xr_1 r2', Option.bind_some, ho, if_pos (nI_le (by omega) (by omega)), e5, Option.bind_some, e0]
    unfold f_Script_lineOfMissingLabel
    rw [show (0 : Int32) = nI (cst t (lns t n) 0) from rfl, T_miss (g := g) hx (by omega) hj hs (lns t n).1 0 N (by omega) (by rw [cst]; omega), Option.bind_some]
    rfl
  | succ r ih =>
    intro i fuel k j nx o A F la y2 hi hf h1 h2 ho hA hj hF0 hs
    obtain ⟨fuel, rfl⟩ : ∃ m, fuel = m + 1 := ⟨fuel - 1, by omega⟩
    obtain ⟨hk, htw, hy2⟩ := h1 (by omega)
    obtain ⟨g1, g2, g3, g4⟩ := lg_ok t i
    generalize hst : (lg t i).2.2.2 = st at *
    -- the end of a line, and the way on
    have b93 : ∀ (c y5 : Int32) (o1 A1 : Nat → Nat → Int32), k < (lns t n).1 → tvw o1 A1 t n (Wl t (lns t n) k) → (∀ m, m ≠ 1 → o1 m = o m) → (∀ m, m ≠ 4 → m ≠ 5 → A1 m = A m) → (i + 1 < n → k + 1 = (lg t (i + 1)).1 ∧ (lg t (i + 1)).2.2.2 = i + 1 ∧ y5 = 0) → (i + 1 = n → k + 1 = (lns t n).1) →
        ∃ (bo : Nat → Nat) (o' A' : Nat → Nat → Int32) (F' : hE) (nx' : Nat), sumB bo (fuel + 1) + capU j ≤ 1633 ∧ f_Tape_check_b93 S g N bo (bo fuel) (f_Tape_check_b9 S g N bo fuel) (some (x + 1)) (some sc) y5 (nI i) (eX x o1 A1 q F) nx = some (illV t (lns t n) (sc1 t (lns t n) ((lns t n).1 - k) k la), eX x o' A' q F', nx') ∧ (∀ m, m ≠ 1 → o' m = o m) ∧ (∀ m, m ≠ 4 → m ≠ 5 → A' m = A m) ∧ (∀ a, a < sc → F' a = F a) ∧ nx ≤ nx' ∧ (illV t (lns t n) (sc1 t (lns t n) ((lns t n).1 - k) k la) = -1 → ∃ la' j', j' ≤ 11 ∧ sc1 t (lns t n) ((lns t n).1 - k) k la = .inr la' ∧ scK (g 0) fa F' nx' sc t (lns t n) (lns t n).1 (lns t n).1 la' j') := by
      intro c y5 o1 A1 hkL htv ho1 hA1 hnx1 hnx2
      have esc : sc1 t (lns t n) ((lns t n).1 - k) k la = (match lstep t (Wl t (lns t n) k) k la with
        | none => .inl k
        | some la' => sc1 t (lns t n) ((lns t n).1 - (k + 1)) (k + 1) la') := by
        rw [show (lns t n).1 - k = ((lns t n).1 - (k + 1)) + 1 from by omega, sc1]
        cases lstep t (Wl t (lns t n) k) k la <;> rfl
      obtain ⟨B, j', nx1, o2, F1, q1, q2, q3, q4, q5, q6, q7⟩ := T_line (x := x) (q := q) hN hc hx hg hF0 hj (show k < 400 by omega) htv rfl hs
      have hmj := (cap_m j' q1).1
      rcases q7 with ⟨z1, z2, z3⟩ | ⟨la1, z1, z2, z3⟩
      · refine ⟨fun m => if m = fuel then B else 0, o2, A1, F1, nx1, ?_, ?_, fun m hm => (q5 m hm).trans (ho1 m hm), hA1, q6, q4, fun hv => ?_⟩
        · rw [sumB, sumB_cg (bo' := fun _ => 0) fuel (fun m hm => if_neg (by omega)), sumB_0, if_pos rfl]
          omega
        · have e3 : eX x o2 A1 q F1 sc = some (.inr (3, [.ref (sc + 1), .ref (sc + 2), .int (nI k)])) := by rw [eX_hi (by omega)]; exact z3
          unfold f_Tape_check_b93
          rw [xt_O, Option.bind_some, show (fun m => if m = fuel then B else 0) fuel = B from if_pos rfl, z2, Option.bind_some, if_pos (by rfl), gI_at (k := 2) e3 rfl, Option.bind_some, esc, z1]
          rfl
        · rw [esc, z1] at hv
          exact absurd hv (neg2 (by omega))
      · -- lines + 1, words 0
        obtain ⟨pl, sts, s1, s2, s3, s4⟩ := z3
        obtain ⟨b1, b2, b3, arr, md, b4, b5⟩ := s1
        have e3 : eX x o2 A1 q F1 sc = some (.inr (3, [.ref (sc + 1), .ref (sc + 2), .int (nI k)])) := by rw [eX_hi (by omega)]; exact b2
        have hs2 : scK (g 0) fa (va_up F1 sc (some (.inr (3, [.ref (sc + 1), .ref (sc + 2), .int (nI (k + 1))])))) nx1 sc t (lns t n) (k + 1) (k + 1) la1 j' := by
          refine ⟨pl, sts, ⟨b1, va_up_self _ _ _, by rw [va_up_ne _ _ (by omega)]; exact b3, arr, md, by rw [va_up_ne _ _ (by omega)]; exact b4, ?_⟩, s2, s3, s4⟩
          rcases b5 with b5 | ⟨d1, d2, d3, d4, el, d5, d5', d6⟩
          · exact Or.inl b5
          · refine Or.inr ⟨d1, d2, d3, d4, el, by rw [va_up_ne _ _ (by omega)]; exact d5, d5', fun m hm => ?_⟩
            obtain ⟨a, e1, e2, e3, e4, e5⟩ := d6 m hm
            exact ⟨a, e1, e2, e3, e4, by rw [va_up_ne _ _ (by omega)]; exact e5⟩
        obtain ⟨bo, o', A', F', nx', p1, p2, p3, p4, p5, p6, p7⟩ := ih (i + 1) fuel (k + 1) j' nx1 (u2 o2 1 3 0) A1 (va_up F1 sc (some (.inr (3, [.ref (sc + 1), .ref (sc + 2), .int (nI (k + 1))])))) la1 y5 (by omega) (by omega) (fun hlt => by
            obtain ⟨w1, w2, w3⟩ := hnx1 hlt
            refine ⟨w1, ?_, ?_⟩
            · rw [w2, Nat.sub_self]
              exact ⟨u2_self _ _ _ _, fun m hm => absurd hm (Nat.not_lt_zero m)⟩
            · rw [w2, w3]
              unfold inW
              rw [decide_eq_false (by omega)]
              rfl) hnx2 (by rw [u2_n _ _ _ (by decide), q5 _ (by decide), ho1 _ (by decide)]; exact ho) (fun m hm => by rw [hA1 3 (by decide) (by decide)]; exact hA m hm) q1 (by rw [va_up_ne _ _ (by omega), q6 _ (by omega)]; exact hF0) hs2
        refine ⟨fun m => if m = fuel then B else bo m, o', A', F', nx', ?_, ?_, fun m hm => by rw [p3 m hm, u2_n _ _ _ hm, q5 m hm, ho1 m hm], fun m h4 h5 => by rw [p4 m h4 h5, hA1 m h4 h5], fun a ha => by rw [p5 a ha, va_up_ne _ _ (by omega), q6 a ha], by omega, fun hv => ?_⟩
        · rw [sumB, sumB_cg (bo' := bo) fuel (fun m hm => if_neg (by omega)), if_pos rfl]
          omega
        · rw [chk_cg (bo' := bo) fuel (fun m hm => if_neg (by omega))]
          unfold f_Tape_check_b93
          rw [xt_O, Option.bind_some, show (fun m => if m = fuel then B else bo m) fuel = B from if_pos rfl, z2, Option.bind_some, if_neg (by show ¬ (1 : Int32) = 0; decide), gI_at (k := 2) e3 rfl, Option.bind_some]
          have e4 : sI (eX x o2 A1 q F1) (some sc) 3 2 (nI k + 1) = some (eX x o2 A1 q (va_up F1 sc (some (.inr (3, [.ref (sc + 1), .ref (sc + 2), .int (nI (k + 1))]))))) := by
            unfold sI
            rw [sF_at e3 (by decide : 2 < 3), eX_up (by omega), nI_1]
            rfl
          rw [e4, Option.bind_some, xts_3, Option.bind_some]
          unfold f_Tape_check_b121
          rw [nI_1, p2, esc, z1]
        · rw [esc, z1] at hv ⊢
          exact p7 hv
    have b121 : ∀ (y5 : Int32) (o1 A1 : Nat → Nat → Int32), ¬ t i = 10 → i + 1 < n → twv o1 A1 (wst t st (i + 1 - st)) → y5 = inW t st (i + 1) → (∀ m, m ≠ 1 → o1 m = o m) → (∀ m, m ≠ 4 → m ≠ 5 → A1 m = A m) →
        ∃ (bo : Nat → Nat) (o' A' : Nat → Nat → Int32) (F' : hE) (nx' : Nat), sumB bo (fuel + 1) + capU j ≤ 1633 ∧ f_Tape_check_b121 S g N bo (bo fuel) (f_Tape_check_b9 S g N bo fuel) (some (x + 1)) (some sc) y5 (nI i) (eX x o1 A1 q F) nx = some (illV t (lns t n) (sc1 t (lns t n) ((lns t n).1 - k) k la), eX x o' A' q F', nx') ∧ (∀ m, m ≠ 1 → o' m = o m) ∧ (∀ m, m ≠ 4 → m ≠ 5 → A' m = A m) ∧ (∀ a, a < sc → F' a = F a) ∧ nx ≤ nx' ∧ (illV t (lns t n) (sc1 t (lns t n) ((lns t n).1 - k) k la) = -1 → ∃ la' j', j' ≤ 11 ∧ sc1 t (lns t n) ((lns t n).1 - k) k la = .inr la' ∧ scK (g 0) fa F' nx' sc t (lns t n) (lns t n).1 (lns t n).1 la' j') := by
      intro y5 o1 A1 h10 hlt htw1 hy5 ho1 hA1
      have e : lg t (i + 1) = lg t i := by rw [lg, if_neg h10]
      obtain ⟨bo, o', A', F', nx', p1, p2, p3, p4, p5, p6, p7⟩ := ih (i + 1) fuel k j nx o1 A1 F la y5 (by omega) (by omega) (fun _ => by rw [e, hst]; exact ⟨hk, htw1, hy5⟩) (fun z => by omega) (by rw [ho1 _ (by decide)]; exact ho) (fun m hm => by rw [hA1 3 (by decide) (by decide)]; exact hA m hm) hj hF0 hs
      refine ⟨fun m => if m = fuel then 0 else bo m, o', A', F', nx', ?_, ?_, fun m hm => (p3 m hm).trans (ho1 m hm), fun m h4 h5 => (p4 m h4 h5).trans (hA1 m h4 h5), p5, p6, p7⟩
      · rw [sumB, sumB_cg (bo' := bo) fuel (fun m hm => if_neg (by omega)), if_pos rfl]
        omega
      · rw [chk_cg (bo' := bo) fuel (fun m hm => if_neg (by omega))]
        unfold f_Tape_check_b121
        rw [nI_1, p2]
    -- the words of the line at its end
    have tv : ∀ (o1 A1 : Nat → Nat → Int32), k < (lns t n).1 → twv o1 A1 (Wl t (lns t n) k) → (∀ m, m ≠ 4 → m ≠ 5 → A1 m = A m) → tvw o1 A1 t n (Wl t (lns t n) k) := by
      intro o1 A1 hkL htw1 hA1
      obtain ⟨w1, w2⟩ := Wl_ok hch hkL
      exact ⟨htw1.1, by omega, hn, fun m hm => by rw [hA1 3 (by decide) (by decide)]; exact hA m hm, fun m hm h6 => ⟨(htw1.2 m hm h6).1, (htw1.2 m hm h6).2, (w2 m hm).1, (w2 m hm).2.2.2⟩⟩
    have start : ∀ bo : Nat → Nat, f_Tape_check_b9 S g N bo (fuel + 1) (some (x + 1)) (some sc) y2 (nI i) (eX x o A q F) nx = (if t i = 10 then f_Tape_check_b48 S g N bo (bo fuel) (f_Tape_check_b9 S g N bo fuel) (some (x + 1)) (some sc) y2 (nI i) (t i) (eX x o A q F) nx else if t i = 32 then f_Tape_check_b48 S g N bo (bo fuel) (f_Tape_check_b9 S g N bo fuel) (some (x + 1)) (some sc) y2 (nI i) (t i) (eX x o A q F) nx else f_Tape_check_b49 S g N bo (bo fuel) (f_Tape_check_b9 S g N bo fuel) (some (x + 1)) (some sc) y2 (nI i) (t i) 1 (eX x o A q F) nx) := fun bo => by
      rw [f_Tape_check_b9, xt_0, Option.bind_some, xr_1 r2', Option.bind_some, ho, if_neg (nI_ge (by omega) (by omega)), Option.bind_some, xr_O r2', Option.bind_some, R_at1 r2' ho (show n ≤ 400 from hn) (show i < n by omega), Option.bind_some, hA i (by omega)]
    by_cases h10 : t i = 10
    · obtain ⟨l1, l2, l3⟩ := lns_nl (show i < n by omega) h10
      rw [← hk] at l1 l2 l3
      rw [hst] at l2
      have eW : Wl t (lns t n) k = wst t st (i - st) := by unfold Wl; rw [l2, l3]
      have elg : lg t (i + 1) = ((lg t i).1 + 1, va_up (lg t i).2.1 (lg t i).1 (lg t i).2.2.2, va_up (lg t i).2.2.1 (lg t i).1 i, i + 1) := by rw [lg, if_pos h10]
      obtain ⟨bo, o', A', F', nx', p⟩ := b93 (t i) 0 o A l1 (tv o A l1 (by rw [eW]; exact htw) (fun _ _ _ => rfl)) (fun _ _ => rfl) (fun _ _ _ => rfl) (fun _ => by rw [elg]; exact ⟨by rw [hk], rfl, rfl⟩) (fun hz => by rw [lns_end hz h10, hk])
      refine ⟨bo, o', A', F', nx', p.1, ?_, p.2.2⟩
      rw [start, if_pos h10]
      unfold f_Tape_check_b48 f_Tape_check_b49 f_Tape_check_b70
      rw [if_pos rfl, if_pos h10]
      exact p.2.1
    · -- behind a character that doesn't end the line
      have lastL : i + 1 = n → k < (lns t n).1 ∧ Wl t (lns t n) k = wst t st (i + 1 - st) ∧ k + 1 = (lns t n).1 := fun hz => by
        obtain ⟨l1, l2, l3⟩ := lns_last hz h10
        rw [← hk] at l1 l2 l3
        rw [hst] at l2
        refine ⟨by omega, ?_, by omega⟩
        unfold Wl
        rw [l2, l3, hz]
      have b70 : ∀ (y5 : Int32) (o1 A1 : Nat → Nat → Int32), twv o1 A1 (wst t st (i + 1 - st)) → y5 = inW t st (i + 1) → (∀ m, m ≠ 1 → o1 m = o m) → (∀ m, m ≠ 4 → m ≠ 5 → A1 m = A m) →
        ∃ (bo : Nat → Nat) (o' A' : Nat → Nat → Int32) (F' : hE) (nx' : Nat), sumB bo (fuel + 1) + capU j ≤ 1633 ∧ f_Tape_check_b70 S g N bo (bo fuel) (f_Tape_check_b9 S g N bo fuel) (some (x + 1)) (some sc) (nI i) (t i) y5 (eX x o1 A1 q F) nx = some (illV t (lns t n) (sc1 t (lns t n) ((lns t n).1 - k) k la), eX x o' A' q F', nx') ∧ (∀ m, m ≠ 1 → o' m = o m) ∧ (∀ m, m ≠ 4 → m ≠ 5 → A' m = A m) ∧ (∀ a, a < sc → F' a = F a) ∧ nx ≤ nx' ∧ (illV t (lns t n) (sc1 t (lns t n) ((lns t n).1 - k) k la) = -1 → ∃ la' j', j' ≤ 11 ∧ sc1 t (lns t n) ((lns t n).1 - k) k la = .inr la' ∧ scK (g 0) fa F' nx' sc t (lns t n) (lns t n).1 (lns t n).1 la' j') := by
        intro y5 o1 A1 htw1 hy5 ho1 hA1
        have hcmp : ∀ bo : Nat → Nat, f_Tape_check_b70 S g N bo (bo fuel) (f_Tape_check_b9 S g N bo fuel) (some (x + 1)) (some sc) (nI i) (t i) y5 (eX x o1 A1 q F) nx = (if nI i = nI (n - 1) then f_Tape_check_b93 S g N bo (bo fuel) (f_Tape_check_b9 S g N bo fuel) (some (x + 1)) (some sc) y5 (nI i) (eX x o1 A1 q F) nx else f_Tape_check_b121 S g N bo (bo fuel) (f_Tape_check_b9 S g N bo fuel) (some (x + 1)) (some sc) y5 (nI i) (eX x o1 A1 q F) nx) := fun bo => by
          unfold f_Tape_check_b70
          rw [if_neg h10, xt_0, Option.bind_some, xr_1 r2', Option.bind_some, ho1 2 (by decide), ho, show nI n - 1 = nI (n - 1) from by rw [show (1 : Int32) = nI 1 from rfl, pk_sub (by omega)]]
        by_cases hl : i + 1 = n
        · obtain ⟨l1, l2, l3⟩ := lastL hl
          obtain ⟨bo, o', A', F', nx', p⟩ := b93 (t i) y5 o1 A1 l1 (tv o1 A1 l1 (by rw [l2]; exact htw1) hA1) ho1 hA1 (fun z => by omega) (fun _ => l3)
          refine ⟨bo, o', A', F', nx', p.1, ?_, p.2.2⟩
          rw [hcmp, if_pos (by rw [show i = n - 1 from by omega])]
          exact p.2.1
        · obtain ⟨bo, o', A', F', nx', p⟩ := b121 y5 o1 A1 h10 (by omega) htw1 hy5 ho1 hA1
          refine ⟨bo, o', A', F', nx', p.1, ?_, p.2.2⟩
          rw [hcmp, if_neg (fun z => hl (by have := (nI_eq (by omega) (by omega)).mp z; omega))]
          exact p.2.1
      have hid : st + (i - st) = i := by omega
      have hi1 : i + 1 - st = (i - st) + 1 := by omega
      by_cases h32 : t i = 32
      · obtain ⟨bo, o', A', F', nx', p⟩ := b70 0 o A (by rw [hi1, wst_blank (by rw [hid]; exact h32)]; exact htw) (by
          unfold inW
          rw [show i + 1 - 1 = i from rfl, decide_eq_true h32]
          simp [bI]) (fun _ _ => rfl) (fun _ _ _ => rfl)
        refine ⟨bo, o', A', F', nx', p.1, ?_, p.2.2⟩
        rw [start, if_neg h10, if_pos h32]
        unfold f_Tape_check_b48 f_Tape_check_b49
        rw [if_pos rfl]
        exact p.2.1
      · obtain ⟨o1, A1, c1, c2, c3, c4⟩ := T_chr (x := x) (q := q) (F := F) (t := t) (st := st) (d := i - st) (by omega) (by rw [hid]; exact h32) htw
        obtain ⟨bo, o', A', F', nx', p⟩ := b70 1 o1 A1 (by rw [hi1]; exact c2) (by
          unfold inW
          rw [show i + 1 - 1 = i from rfl, decide_eq_false h32, decide_eq_true (by omega)]
          rfl) c3 c4
        refine ⟨bo, o', A', F', nx', p.1, ?_, p.2.2⟩
        rw [start, if_neg h10, if_neg h32]
        unfold f_Tape_check_b49 f_Tape_check_b67
        rw [if_neg (by decide)]
        rw [hid] at c1
        have hflag : bI (decide (i - st = 0 ∨ t (i - 1) = 32)) = (if y2 = 0 then 1 else 0) := by
          rw [hy2]
          unfold inW
          by_cases ha : st < i
          · by_cases hb : t (i - 1) = 32
            · rw [decide_eq_true ha, decide_eq_true hb, decide_eq_true (Or.inr hb)]
              rfl
            · rw [decide_eq_true ha, decide_eq_false hb, decide_eq_false (by
                rintro (z | z)
                · omega
                · exact hb z)]
              rfl
          · rw [decide_eq_false ha, decide_eq_true (Or.inl (by omega))]
            rfl
        rw [hflag] at c1
        by_cases hy0 : y2 = 0
        · rw [if_pos hy0] at c1 ⊢
          rw [xt_O, Option.bind_some, c1, Option.bind_some]
          exact p.2.1
        · rw [if_neg hy0] at c1 ⊢
          rw [xt_O, Option.bind_some, c1, Option.bind_some]
          exact p.2.1
end CHK
