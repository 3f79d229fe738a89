/-! ===== the law's loop ===== -/
section LWL
variable {S : hE} {g fa wa ka : Nat → Nat} {x N b L : Nat} {xs : Nat → Int32}
theorem sw {o A : Nat → Nat → Int32} {q : Nat → Option Nat} {s : Nat → Int32} {B : Nat → Nat → Int32} {w : Nat → Int64} {F : hE} : eX x o A q (eM (x + 51) s B w F) = eM (x + 51) s B w (eX x o A q F) := enc_swap (Or.inl (Nat.le_refl _))
theorem eX_cong {o A o' A' : Nat → Nat → Int32} {q q' : Nat → Option Nat} {F F1 : hE} (h : eX x o A q F1 = eX x o' A' q' F1) : eX x o A q F = eX x o' A' q' F := by
  funext a
  have e := congrFun h a
  unfold eX enc at e ⊢
  by_cases hr : x ≤ a ∧ a < x + 51
  · rw [if_pos hr, if_pos hr] at e
    rw [if_pos hr, if_pos hr]
    exact e
  · rw [if_neg hr, if_neg hr]
theorem eM_id {m : Nat} {s : Nat → Int32} {B : Nat → Nat → Int32} {w : Nat → Int64} {F F' : hE} (h : ∀ a, m ≤ a → a < m + 24 → F' a = eM m s B w F a) : eM m s B w F' = F' := by
  funext a
  by_cases hr : m ≤ a ∧ a < m + 24
  · rw [h a hr.1 hr.2]
    unfold eM enc
    rw [if_pos hr, if_pos hr]
  · exact eM_out (by omega)
theorem Alk_use {o A : Nat → Nat → Int32} {q : Nat → Option Nat} {s : Nat → Int32} {B : Nat → Nat → Int32} {w : Nat → Int64} {F : hE} {rS : Option (Int32 × hE)} {rM : hE → Option (Int32 × hE)} (hA : ∀ G, Alk x (x + 51) q B (eM (x + 51) s B w F) G rS (rM (eM (x + 51) s B w G))) :
    ∃ (v : Int32) (E1 : hE) (o' A' : Nat → Nat → Int32) (s' : Nat → Int32) (B' : Nat → Nat → Int32) (w' : Nat → Int64), rS = some (v, E1) ∧ (∃ fs, gO E1 (some (x + 51)) 7 = some (x + 51, fs)) ∧ rM E1 = some (v, eX x o' A' q (eM (x + 51) s' B' w' F)) ∧ rSta o' A' s' B' ∧ ∀ k, 2 ≤ k → k ≤ 7 → B' k = B k := by
  obtain ⟨v, o1, A1, s1, B1, w1, h1, -, -, -⟩ := hA F
  obtain ⟨v2, o', A', s', B', w', g1, g2, g3, g4⟩ := hA (eX x o1 A1 q F)
  have he : some (v, eX x o1 A1 q (eM (x + 51) s B w F)) = some (v2, eX x o' A' q (eM (x + 51) s B w F)) := by rw [← h1, ← g1]
  have hp := Option.some.inj he
  have hm : eX x o1 A1 q (eM (x + 51) s B w F) = eX x o' A' q (eM (x + 51) s B w F) := congrArg Prod.snd hp
  have hm' : eX x o1 A1 q F = eX x o' A' q F := eX_cong hm
  refine ⟨v2, eX x o' A' q (eM (x + 51) s B w F), o', A', s', B', w', g1, ?_, ?_, g3, g4⟩
  · rw [sw]
    exact ⟨_, mgO⟩
  · rw [sw, ← hm', g2, sw, ← hm']
def Inv (x g0 : Nat) (fa : Nat → Nat) (E : hE) (nx : Nat) : Prop := ∃ (o A : Nat → Nat → Int32) (s : Nat → Int32) (B : Nat → Nat → Int32) (w : Nat → Int64) (q : Nat → Option Nat) (F : hE), E = eX x o A q (eM (x + 51) s B w F) ∧ rSta o A s B ∧ rScr x g0 fa q B F nx ∧ x + 75 ≤ nx ∧ F g0 = none
theorem xA_at {j : Nat} {i : Int32} (hi : i = nI j) (h : j < L) (hL : L < 2 ^ 31) : xA b L xs (some b) i = some (xs j) := by
  unfold xA
  rw [if_pos rfl, hi, if_neg (nI_in h hL), nI_clamp (by omega)]
theorem xL_at : xL b L (some b) = some (nI L) := by
  unfold xL
  rw [if_pos rfl]
theorem law_cg {fol : Nat → Option Nat → Option Nat → Int32 → hE → Option (Int32 × hE)} {bq bq' : Nat → Nat → Nat} : ∀ n, (∀ j, j < n → bq j = bq' j) → f_law_b18 S g N fol bq b L xs n = f_law_b18 S g N fol bq' b L xs n := by
  intro n
  induction n with
  | zero => intro _; rfl
  | succ n ih =>
    intro h
    have e := ih (fun j hj => h j (by omega))
    funext y0 y1 y2 y3 E nx
    rw [f_law_b18, f_law_b18, e, h n (by omega)]
    rfl
theorem L_law (hN : 4100 < N) (hc : conS S g fa wa ka) (hg : g 0 < x) (hL : L ≤ 2560) : ∀ (n i : Nat) (E : hE) (nx : Nat), Inv x (g 0) fa E nx → 2565 ≤ i + 5 * n → i ≤ 2560 → ∃ bq : Nat → Nat → Nat, f_law_b18 S g N (F_fol S g N 4) bq b L xs n (some b) (some x) (some (x + 51)) (nI i) E nx = some () := by
  intro n
  induction n with
  | zero => intro i E nx _ h1 h2; omega
  | succ n ih =>
    intro i E nx hI h1 h2
    have hcd : (nI L - 5 < nI i) ↔ L < i + 5 := by
      rw [show (5 : Int32) = nI 5 from rfl, Int32.lt_iff_toInt_lt, pk_sub_toInt (by omega) (by decide), nI_toInt (by omega)]
      omega
    by_cases hst : L < i + 5
    · refine ⟨fun _ _ => 0, ?_⟩
      rw [f_law_b18, xL_at, Option.bind_some, if_pos (hcd.mpr hst)]
    · have hno : ¬ (nI L - 5 < nI i) := fun z => hst (hcd.mp z)
      obtain ⟨o, A, s, B, w, q, F, rfl, hR, hq, hx, hF0⟩ := hI
      have a0 : xA b L xs (some b) (nI i) = some (xs i) := xA_at rfl (by omega) (by omega)
      have a1 : xA b L xs (some b) (nI i + 1) = some (xs (i + 1)) := xA_at (nI_1 i) (by omega) (by omega)
      have a2 : xA b L xs (some b) (nI i + 2) = some (xs (i + 2)) := xA_at (nI_add i 2) (by omega) (by omega)
      have a3 : xA b L xs (some b) (nI i + 3) = some (xs (i + 3)) := xA_at (nI_add i 3) (by omega) (by omega)
      have a4 : xA b L xs (some b) (nI i + 4) = some (xs (i + 4)) := xA_at (nI_add i 4) (by omega) (by omega)
      have nxt : ∀ E' nx', Inv x (g 0) fa E' nx' → ∃ bq : Nat → Nat → Nat, f_law_b18 S g N (F_fol S g N 4) bq b L xs n (some b) (some x) (some (x + 51)) (nI i + 5) E' nx' = some () := fun E' nx' h => by
        rw [show (5 : Int32) = nI 5 from rfl, nI_add]
        exact ih (i + 5) E' nx' h (by omega) (by omega)
      have hq' : rScr x (g 0) fa q B (eM (x + 51) s B w F) nx := rScr_mv hq (fun _ _ => regQ_refl) (Nat.le_refl _) (fun a ha _ => eM_out (by omega))
      have inv' : ∀ (o' A' : Nat → Nat → Int32) (s' : Nat → Int32) (B' : Nat → Nat → Int32) (w' : Nat → Int64), rSta o' A' s' B' → (∀ k, 2 ≤ k → k ≤ 7 → B' k = B k) → Inv x (g 0) fa (eX x o' A' q (eM (x + 51) s' B' w' F)) nx := fun o' A' s' B' w' z1 z2 => ⟨o', A', s', B', w', q, F, rfl, z1, rScr_mv hq (fun _ _ => regQ_of z2) (Nat.le_refl _) (fun _ _ _ => rfl), hx, hF0⟩
      have hG : ∃ fs, gO (eX x o A q (eM (x + 51) s B w F)) (some (x + 51)) 7 = some (x + 51, fs) := by
        rw [sw]
        exact ⟨_, mgO⟩
      obtain ⟨fs0, hG⟩ := hG
      by_cases c0 : xs i &&& 15 = 0
      · obtain ⟨v, E1, o', A', s', B', w', u1, ⟨fs, u2⟩, u3, u4, u5⟩ := Alk_use (x := x) (o := o) (A := A) (q := q) (s := s) (B := B) (w := w) (F := F) (rS := f_S_text N x (((xs (i + 1)).toInt64 <<< ((32 : Int32).toInt64 &&& 63)) ||| ((xs (i + 2)).toInt64 &&& 4294967295)) (eX x o A q (eM (x + 51) s B w F))) (rM := fun E => f_M_text N (x + 51) (((xs (i + 1)).toInt64 <<< ((32 : Int32).toInt64 &&& 63)) ||| ((xs (i + 2)).toInt64 &&& 4294967295)) E) (fun G => L_text (N := N) (by omega) hR (((xs (i + 1)).toInt64 <<< ((32 : Int32).toInt64 &&& 63)) ||| ((xs (i + 2)).toInt64 &&& 4294967295)))
        obtain ⟨bq, hbq⟩ := nxt _ nx (inv' o' A' s' B' w' u4 u5)
        refine ⟨bq, ?_⟩
        have u3 : f_M_text N (x + 51) (((xs (i + 1)).toInt64 <<< ((32 : Int32).toInt64 &&& 63)) ||| ((xs (i + 2)).toInt64 &&& 4294967295)) E1 = _ := u3
        rw [f_law_b18, xL_at, Option.bind_some, if_neg hno]
        simp only [a0, Option.bind_some]
        rw [if_pos c0]
        simp only [a1, a2, a3, a4, Option.bind_some, x0_O, u1, u2, u3]
        rw [if_pos trivial]
        exact hbq
      · by_cases c1 : xs i &&& 15 = 1
        · obtain ⟨bo, v, o', A', q', F', nx', l1, l2, l3, l4, l5⟩ := L_load (m := x + 51) (w := w) (N := N) (by omega) hc hx hg (F := eM (x + 51) s B w F) (by rw [eM_out (by omega)]; exact hF0) hR hq' (xs (i + 1))
          have e1 : eM (x + 51) s B w F' = F' := eM_id (F := F) (fun a h3 h4 => l4 a (by omega))
          obtain ⟨s', B', w', m1, m2, m3⟩ := l5 (eX x o' A' q' F')
          have u2 : eX x o' A' q' F' = eM (x + 51) s B w (eX x o' A' q' F') := by rw [← sw, e1]
          have hI2 : Inv x (g 0) fa (eX x o' A' q' (eM (x + 51) s' B' w' F')) nx' := ⟨o', A', s', B', w', q', F', rfl, m2, m3, by omega, by rw [l4 _ (by omega), eM_out (by omega)]; exact hF0⟩
          obtain ⟨bq, hbq⟩ := nxt _ nx' hI2
          refine ⟨va_up bq n bo, ?_⟩
          have hcg : f_law_b18 S g N (F_fol S g N 4) (va_up bq n bo) b L xs n = f_law_b18 S g N (F_fol S g N 4) bq b L xs n := law_cg n (fun j hj => va_up_ne _ _ (by omega))
          have hG2 : ∃ fs, gO (eX x o' A' q' F') (some (x + 51)) 7 = some (x + 51, fs) := by
            rw [u2]
            exact ⟨_, mgO⟩
          obtain ⟨fs2, hG2⟩ := hG2
          rw [← u2] at m1
          rw [f_law_b18, xL_at, Option.bind_some, if_neg hno]
          simp only [a0, Option.bind_some]
          rw [if_neg c0, if_pos c1]
          simp only [a1, Option.bind_some]
          rw [va_up_self, if_pos l1]
          simp only [x0_O, Option.bind_some, l2, a1, hG2, m1]
          rw [if_pos trivial, ← sw]
          unfold f_law_b517
          rw [hcg]
          exact hbq
        · by_cases c2 : xs i &&& 15 = 2
          · obtain ⟨v, E1, o', A', s', B', w', u1, ⟨fs, u2⟩, u3, u4, u5⟩ := Alk_use (x := x) (o := o) (A := A) (q := q) (s := s) (B := B) (w := w) (F := F) (rS := f_S_file N x (xs (i + 1)) (((xs (i + 2)).toInt64 <<< ((32 : Int32).toInt64 &&& 63)) ||| ((xs (i + 3)).toInt64 &&& 4294967295)) (xs (i + 4)) (eX x o A q (eM (x + 51) s B w F))) (rM := fun E => f_M_file N (x + 51) (xs (i + 1)) (((xs (i + 2)).toInt64 <<< ((32 : Int32).toInt64 &&& 63)) ||| ((xs (i + 3)).toInt64 &&& 4294967295)) (xs (i + 4)) E) (fun G => L_file N (by omega) hR (xs (i + 1)) (((xs (i + 2)).toInt64 <<< ((32 : Int32).toInt64 &&& 63)) ||| ((xs (i + 3)).toInt64 &&& 4294967295)) (xs (i + 4)))
            obtain ⟨bq, hbq⟩ := nxt _ nx (inv' o' A' s' B' w' u4 u5)
            refine ⟨bq, ?_⟩
            have u3 : f_M_file N (x + 51) (xs (i + 1)) (((xs (i + 2)).toInt64 <<< ((32 : Int32).toInt64 &&& 63)) ||| ((xs (i + 3)).toInt64 &&& 4294967295)) (xs (i + 4)) E1 = _ := u3
            rw [f_law_b18, xL_at, Option.bind_some, if_neg hno]
            simp only [a0, Option.bind_some]
            rw [if_neg c0, if_neg c1, if_pos c2]
            simp only [a1, a2, a3, a4, Option.bind_some, x0_O, u1, u2, u3]
            rw [if_pos trivial]
            exact hbq
          · by_cases c3 : xs i &&& 15 = 3
            · obtain ⟨bb, hbb, hz⟩ : ∃ bb : Int32, isB bb ∧ bb = (if xs (i + 2) = 0 then 0 else 1) := by
                by_cases z : xs (i + 2) = 0
                · exact ⟨0, Or.inl rfl, by rw [if_pos z]⟩
                · exact ⟨1, Or.inr rfl, by rw [if_neg z]⟩
              obtain ⟨v, E1, o', A', s', B', w', u1, ⟨fs, u2⟩, u3, u4, u5⟩ := Alk_use (x := x) (o := o) (A := A) (q := q) (s := s) (B := B) (w := w) (F := F) (rS := f_S_clear x (xs (i + 1)) bb (eX x o A q (eM (x + 51) s B w F))) (rM := fun E => f_M_clear (x + 51) (xs (i + 1)) bb E) (fun G => L_clear hR (xs (i + 1)) bb hbb)
              obtain ⟨bq, hbq⟩ := nxt _ nx (inv' o' A' s' B' w' u4 u5)
              refine ⟨bq, ?_⟩
              have u3 : f_M_clear (x + 51) (xs (i + 1)) bb E1 = _ := u3
              rw [f_law_b18, xL_at, Option.bind_some, if_neg hno]
              simp only [a0, Option.bind_some]
              rw [if_neg c0, if_neg c1, if_neg c2, if_pos c3]
              simp only [a1, a2, Option.bind_some]
              unfold f_law_b260 f_law_b282
              by_cases z : xs (i + 2) = 0
              · rw [if_pos z] at hz
                subst hz
                rw [if_pos z]
                simp only [x0_O, Option.bind_some, u1, a1, a2]
                rw [if_pos z]
                simp only [u2, u3, Option.bind_some]
                rw [if_pos trivial]
                exact hbq
              · rw [if_neg z] at hz
                subst hz
                rw [if_neg z]
                simp only [x0_O, Option.bind_some, u1, a1, a2]
                rw [if_neg z]
                simp only [u2, u3, Option.bind_some]
                rw [if_pos trivial]
                exact hbq
            · by_cases c4 : xs i &&& 15 = 4
              · obtain ⟨bb, hbb, hz⟩ : ∃ bb : Int32, isB bb ∧ bb = (if xs (i + 2) = 0 then 0 else 1) := by
                  by_cases z : xs (i + 2) = 0
                  · exact ⟨0, Or.inl rfl, by rw [if_pos z]⟩
                  · exact ⟨1, Or.inr rfl, by rw [if_neg z]⟩
                obtain ⟨v, E1, o', A', s', B', w', u1, ⟨fs, u2⟩, u3, u4, u5⟩ := Alk_use (x := x) (o := o) (A := A) (q := q) (s := s) (B := B) (w := w) (F := F) (rS := f_S_plant x (xs (i + 1)) bb (eX x o A q (eM (x + 51) s B w F))) (rM := fun E => f_M_plant (x + 51) (xs (i + 1)) bb E) (fun G => L_plant hR (xs (i + 1)) bb hbb)
                obtain ⟨bq, hbq⟩ := nxt _ nx (inv' o' A' s' B' w' u4 u5)
                refine ⟨bq, ?_⟩
                have u3 : f_M_plant (x + 51) (xs (i + 1)) bb E1 = _ := u3
                rw [f_law_b18, xL_at, Option.bind_some, if_neg hno]
                simp only [a0, Option.bind_some]
                rw [if_neg c0, if_neg c1, if_neg c2, if_neg c3, if_pos c4]
                simp only [a1, a2, Option.bind_some]
                unfold f_law_b309 f_law_b331
                by_cases z : xs (i + 2) = 0
                · rw [if_pos z] at hz
                  subst hz
                  rw [if_pos z]
                  simp only [x0_O, Option.bind_some, u1, a1, a2]
                  rw [if_pos z]
                  simp only [u2, u3, Option.bind_some]
                  rw [if_pos trivial]
                  exact hbq
                · rw [if_neg z] at hz
                  subst hz
                  rw [if_neg z]
                  simp only [x0_O, Option.bind_some, u1, a1, a2]
                  rw [if_neg z]
                  simp only [u2, u3, Option.bind_some]
                  rw [if_pos trivial]
                  exact hbq
              · by_cases c5 : xs i &&& 15 = 5
                · obtain ⟨v, E1, o', A', s', B', w', u1, ⟨fs, u2⟩, u3, u4, u5⟩ := Alk_use (x := x) (o := o) (A := A) (q := q) (s := s) (B := B) (w := w) (F := F) (rS := f_S_run N (F_fol S g N 4) x (xs (i + 1)) (xs (i + 2)) (xs (i + 3)) (eX x o A q (eM (x + 51) s B w F))) (rM := fun E => f_M_run N (x + 51) (xs (i + 1)) (xs (i + 2)) (xs (i + 3)) E) (fun G => L_run hN hc hR hq' (xs (i + 1)) (xs (i + 2)) (xs (i + 3)))
                  obtain ⟨bq, hbq⟩ := nxt _ nx (inv' o' A' s' B' w' u4 u5)
                  refine ⟨bq, ?_⟩
                  have u3 : f_M_run N (x + 51) (xs (i + 1)) (xs (i + 2)) (xs (i + 3)) E1 = _ := u3
                  rw [f_law_b18, xL_at, Option.bind_some, if_neg hno]
                  simp only [a0, Option.bind_some]
                  rw [if_neg c0, if_neg c1, if_neg c2, if_neg c3, if_neg c4, if_pos c5]
                  simp only [a1, a2, a3, a4, Option.bind_some, x0_O, u1, u2, u3]
                  rw [if_pos trivial]
                  exact hbq
                · by_cases c6 : xs i &&& 15 = 6
                  · obtain ⟨v, u1, u2⟩ := L_about (x := x) (m := x + 51) (w := w) (q := q) (F := eM (x + 51) s B w F) (G := eX x o A q F) hR (xs (i + 1))
                    rw [← sw] at u2
                    obtain ⟨bq, hbq⟩ := nxt _ nx (inv' o A s B w hR (fun _ _ _ => rfl))
                    refine ⟨bq, ?_⟩
                    rw [f_law_b18, xL_at, Option.bind_some, if_neg hno]
                    simp only [a0, Option.bind_some]
                    rw [if_neg c0, if_neg c1, if_neg c2, if_neg c3, if_neg c4, if_neg c5, if_pos c6]
                    simp only [a1, a2, Option.bind_some, x0_O, u1, hG, u2]
                    rw [if_pos trivial]
                    exact hbq
                  · by_cases c7 : xs i &&& 15 = 7
                    · obtain ⟨v, u1, u2⟩ := L_said (x := x) (m := x + 51) (w := w) (q := q) (F := eM (x + 51) s B w F) (G := eX x o A q F) hR (xs (i + 1)) (xs (i + 2))
                      rw [← sw] at u2
                      obtain ⟨bq, hbq⟩ := nxt _ nx (inv' o A s B w hR (fun _ _ _ => rfl))
                      refine ⟨bq, ?_⟩
                      rw [f_law_b18, xL_at, Option.bind_some, if_neg hno]
                      simp only [a0, Option.bind_some]
                      rw [if_neg c0, if_neg c1, if_neg c2, if_neg c3, if_neg c4, if_neg c5, if_neg c6, if_pos c7]
                      simp only [a1, a2, Option.bind_some, x0_O, u1, hG, u2]
                      rw [if_pos trivial]
                      exact hbq
                    · by_cases c8 : xs i &&& 15 = 8
                      · obtain ⟨v, u1, u2⟩ := L_register (x := x) (m := x + 51) (w := w) (q := q) (F := eM (x + 51) s B w F) (G := eX x o A q F) hR (xs (i + 1))
                        rw [← sw] at u2
                        obtain ⟨bq, hbq⟩ := nxt _ nx (inv' o A s B w hR (fun _ _ _ => rfl))
                        refine ⟨bq, ?_⟩
                        rw [f_law_b18, xL_at, Option.bind_some, if_neg hno]
                        simp only [a0, Option.bind_some]
                        rw [if_neg c0, if_neg c1, if_neg c2, if_neg c3, if_neg c4, if_neg c5, if_neg c6, if_neg c7, if_pos c8]
                        simp only [a1, a2, Option.bind_some, x0_O, u1, hG, u2]
                        rw [if_pos trivial]
                        exact hbq
                      · by_cases c9 : xs i &&& 15 = 9
                        · obtain ⟨v, u1, u2⟩ := L_size (x := x) (m := x + 51) (w := w) (q := q) (F := eM (x + 51) s B w F) (G := eX x o A q F) hR (xs (i + 1))
                          rw [← sw] at u2
                          obtain ⟨bq, hbq⟩ := nxt _ nx (inv' o A s B w hR (fun _ _ _ => rfl))
                          refine ⟨bq, ?_⟩
                          rw [f_law_b18, xL_at, Option.bind_some, if_neg hno]
                          simp only [a0, Option.bind_some]
                          rw [if_neg c0, if_neg c1, if_neg c2, if_neg c3, if_neg c4, if_neg c5, if_neg c6, if_neg c7, if_neg c8, if_pos c9]
                          simp only [a1, a2, Option.bind_some, x0_O, u1, hG, u2]
                          rw [if_pos trivial]
                          exact hbq
                        · by_cases c10 : xs i &&& 15 = 10
                          · obtain ⟨v, u1, u2⟩ := L_byteOf (x := x) (m := x + 51) (w := w) (q := q) (F := eM (x + 51) s B w F) (G := eX x o A q F) hR (xs (i + 1)) (xs (i + 2))
                            rw [← sw] at u2
                            obtain ⟨bq, hbq⟩ := nxt _ nx (inv' o A s B w hR (fun _ _ _ => rfl))
                            refine ⟨bq, ?_⟩
                            rw [f_law_b18, xL_at, Option.bind_some, if_neg hno]
                            simp only [a0, Option.bind_some]
                            rw [if_neg c0, if_neg c1, if_neg c2, if_neg c3, if_neg c4, if_neg c5, if_neg c6, if_neg c7, if_neg c8, if_neg c9, if_pos c10]
                            simp only [a1, a2, Option.bind_some, x0_O, u1, hG, u2]
                            rw [if_pos trivial]
                            exact hbq
                          · obtain ⟨bq, hbq⟩ := nxt _ nx (inv' o A s B w hR (fun _ _ _ => rfl))
                            refine ⟨bq, ?_⟩
                            rw [f_law_b18, xL_at, Option.bind_some, if_neg hno]
                            simp only [a0, Option.bind_some]
                            rw [if_neg c0, if_neg c1, if_neg c2, if_neg c3, if_neg c4, if_neg c5, if_neg c6, if_neg c7, if_neg c8, if_neg c9, if_neg c10]
                            exact hbq
theorem law_ok (hN : 4100 < N) (hc : conS S g fa wa ka) (hg : g 0 < x) (hL : L ≤ 2560) : ∃ bq : Nat → Nat → Nat, f_law S g N (F_fol S g N 4) bq b L xs (fun _ => none) x = some () := by
  have hI : Inv x (g 0) fa (eM (x + 51) (fun _ => 0) (fun _ _ => 0) (fun _ => 0) (eX x (fun _ _ => 0) (fun _ _ => 0) (fun _ => none) (fun _ => none))) (x + 51 + 24) := by
    refine ⟨fun _ _ => 0, fun _ _ => 0, fun _ => 0, fun _ _ => 0, fun _ => 0, fun _ => none, fun _ => none, sw.symm, ⟨⟨0, by decide, rfl, rfl, fun i hi => absurd hi (Nat.not_lt_zero i)⟩, fun f hf => ⟨0, by decide, rfl, rfl, rfl, Or.inl rfl, fun _ => rfl, fun i hi => absurd hi (Nat.not_lt_zero i)⟩, ⟨0, by decide, rfl, rfl, fun i hi => absurd hi (Nat.not_lt_zero i)⟩, ⟨0, by decide, rfl, rfl, fun i hi => absurd hi (Nat.not_lt_zero i)⟩, fun i hi => ⟨rfl, Or.inl rfl⟩, rfl, Or.inl rfl, rfl, rfl, rfl, rfl, fun i hi => ⟨rfl, fun _ => rfl⟩⟩, fun p hp => Or.inl ⟨rfl, rfl⟩, by omega, rfl⟩
  obtain ⟨bq, hbq⟩ := L_law (b := b) (xs := xs) hN hc hg hL 513 0 _ _ hI (by omega) (by omega)
  refine ⟨bq, ?_⟩
  unfold f_law
  rw [Option.bind_some, S_ini, Option.bind_some, Option.bind_some, M_ini, Option.bind_some]
  exact hbq
end LWL
