/-! ===== what a statement does, alike on both sides ===== -/
theorem div_m1 (X : Int32) : X / (-1) = -X := by
  apply Int32.toInt_inj.mp
  have e : ((-1 : Int32)).toInt = -1 := rfl
  rw [Int32.toInt_div, e, Int.tdiv_neg, Int.tdiv_one, Int32.toInt_neg]
theorem rem_m1 (X : Int32) : X - X / (-1) * (-1) = 0 := by
  rw [div_m1, Int32.neg_mul_neg, Int32.mul_one, Int32.sub_self]
def mid (bd st d p k : Nat) (t : Nat → Int32) (l : Nat × (Nat → Nat) × (Nat → Nat)) (o A : Nat → Nat → Int32) (s : Nat → Int32) (B : Nat → Nat → Int32) : Prop := jR bd st 0 o A s B ∧ fR d p k (k + 1) t l o A B ∧ o (fo d) 6 = nI k ∧ k < l.1 ∧ s 25 = nI d ∧ d < 4
def okS (x m : Nat) (q : Nat → Option Nat) (F G : hE) (w : Nat → Int64) (bd st d p : Nat) (t : Nat → Int32) (l : Nat × (Nat → Nat) × (Nat → Nat)) (o A B : Nat → Nat → Int32) (rS rM : Option (Int32 × hE)) : Prop :=
  ∃ (v : Int32) (o' A' : Nat → Nat → Int32) (s' : Nat → Int32) (B' : Nat → Nat → Int32), rS = some (v, eX x o' A' q F) ∧ rM = some (v, eM m s' B' w G) ∧ jR bd st 0 o' A' s' B' ∧ (∀ k, k ≤ 7 → B' k = B k) ∧ loFr d o A B o' A' B' ∧ fG d A' B' ∧ s' 25 = nI d ∧ ((v = -1 ∧ ∃ k', k' ≤ l.1 ∧ fR d p k' k' t l o' A' B') ∨ (¬ v = -1 ∧ o' (fo d) 6 = B' 18 d))
section OKS
variable {x m bd st d p k r : Nat} {o A B o' A' B' B1 : Nat → Nat → Int32} {s s' : Nat → Int32} {w : Nat → Int64} {q : Nat → Option Nat} {F G : hE} {t : Nat → Int32} {l : Nat × (Nat → Nat) × (Nat → Nat)} {v : Int32} {rS rM : Option (Int32 × hE)}
theorem ok_exit (h : mid bd st d p k t l o A s B) (hv : ¬ v = -1) (hS : rS = some (v, eX x o A q F)) (hM : rM = some (v, eM m s B w G)) : okS x m q F G w bd st d p t l o A B rS rM :=
  ⟨v, o, A, s, B, hS, hM, h.1, fun _ _ => rfl, loFr_refl, h.2.1.1, h.2.2.2.2.1, Or.inr ⟨hv, by rw [h.2.2.1, h.2.1.2.2.2.1]⟩⟩
theorem ok_gen (h : mid bd st d p k t l o A s B) {k' : Nat} (hS : rS = some (-1, eX x o' A' q F)) (hM : rM = some (-1, eM m s B' w G)) (ho : ∀ j, j ≠ fo d → o' j = o j) (hA : ∀ j, j ≠ fo d + 1 → j ≠ fo d + 2 → j ≠ fo d + 3 → A' j = A j) (hB : ∀ j, j ≤ 17 → B' j = B j) (hB9 : B' 19 = B 19) (h20 : ∀ j, j < 8 * d → B' 20 j = B 20 j ∧ B' 23 j = B 23 j) (h21 : ∀ j, j < 32 * d → B' 21 j = B 21 j) (h18 : ∀ e, e < d → B' 18 e = B 18 e ∧ B' 22 e = B 22 e) (hk : k' ≤ l.1) (hf : fR d p k' k' t l o' A' B') : okS x m q F G w bd st d p t l o A B rS rM := by
  have hd := h.2.2.2.2.2
  have hfo := fo_eq hd
  refine ⟨-1, o', A', s, B', hS, hM, jR_mv h.1 (fun j hj => ho j (by omega)) (fun j hj => hA j (by omega) (by omega) (by omega)) (fun _ _ _ _ => rfl) (fun j hj _ _ => hB j (by omega)), fun j hj => hB j (by omega), ⟨fun e he => ?_, h20, h21, fun e he => ⟨by rw [hB 17 (by decide)], (h18 e he).1, by rw [hB9], (h18 e he).2⟩⟩, hf.1, h.2.2.2.2.1, Or.inl ⟨rfl, k', hk, hf⟩⟩
  have hfe := fo_eq (show e < 4 by omega)
  exact ⟨ho _ (by omega), hA _ (by omega) (by omega) (by omega), hA _ (by omega) (by omega) (by omega), hA _ (by omega) (by omega) (by omega)⟩
theorem ok_give (h : mid bd st d p k t l o A s B) (hr : r < 8) (hS : rS = some (-1, eX x o (va_up A (fo d + 1) (upd (A (fo d + 1)) r v)) q F)) (hM : rM = some (-1, eM m s (va_up (va_up B 20 (upd (B 20) (8 * d + r) v)) 18 (upd (B 18) d (nI (k + 1)))) w G)) : okS x m q F G w bd st d p t l o A B rS rM := by
  obtain ⟨B', hB'⟩ : ∃ B', B' = va_up (va_up B 20 (upd (B 20) (8 * d + r) v)) 18 (upd (B 18) d (nI (k + 1))) := ⟨_, rfl⟩
  obtain ⟨A', hA'⟩ : ∃ A', A' = va_up A (fo d + 1) (upd (A (fo d + 1)) r v) := ⟨_, rfl⟩
  rw [← hB'] at hM
  rw [← hA'] at hS
  have e18 : B' 18 = upd (B 18) d (nI (k + 1)) := by rw [hB', va_up_self]
  have e20 : B' 20 = upd (B 20) (8 * d + r) v := by rw [hB', va_up_ne _ _ (by decide), va_up_self]
  have eo : ∀ j, j ≠ 18 → j ≠ 20 → B' j = B j := fun j h1 h2 => by rw [hB', va_up_ne _ _ h1, va_up_ne _ _ h2]
  have a1 : A' (fo d + 1) = upd (A (fo d + 1)) r v := by rw [hA', va_up_self]
  have ao : ∀ j, j ≠ fo d + 1 → A' j = A j := fun j h1 => by rw [hA', va_up_ne _ _ h1]
  obtain ⟨⟨g1, g2⟩, ⟨c, c1, c2, c3, c4⟩, f3, f4, f5⟩ := h.2.1
  have hkl := h.2.2.2.1
  refine ok_gen h hS hM (fun _ _ => rfl) (fun j h1 _ _ => ao j h1) (fun j hj => eo j (by omega) (by omega)) (eo 19 (by decide) (by decide)) (fun j hj => ⟨by rw [e20, upd_ne _ _ (by omega)], by rw [eo 23 (by decide) (by decide)]⟩) (fun j _ => by rw [eo 21 (by decide) (by decide)]) (fun e he => ⟨by rw [e18, upd_ne _ _ (by omega)], by rw [eo 22 (by decide) (by decide)]⟩) (k' := k + 1) (by omega) ⟨⟨fun i hi => ?_, fun i hi => ?_⟩, ⟨c, c1, c2, by rw [eo 22 (by decide) (by decide)]; exact c3, fun i hi => ?_⟩, ?_, ?_, f5⟩
  · rw [a1, e20]
    by_cases hir : i = r
    · subst hir
      rw [upd_self, upd_self]
    · rw [upd_ne _ _ hir, upd_ne _ _ (by omega)]
      exact g1 i hi
  · rw [ao _ (by omega), eo 21 (by decide) (by decide)]
    exact g2 i hi
  · obtain ⟨k', b1, b2, b3⟩ := c4 i hi
    exact ⟨k', b1, by rw [eo 23 (by decide) (by decide)]; exact b2, by rw [ao _ (by omega)]; exact b3⟩
  · rw [eo 17 (by decide) (by decide)]; exact f3
  · rw [e18, upd_self]
theorem ok_put (h : mid bd st d p k t l o A s B) {c : Nat} (hc : c < 32) (hS : rS = some (-1, eX x o (va_up A (fo d + 2) (upd (A (fo d + 2)) c v)) q F)) (hM : rM = some (-1, eM m s (va_up (va_up B 21 (upd (B 21) (32 * d + c) v)) 18 (upd (B 18) d (nI (k + 1)))) w G)) : okS x m q F G w bd st d p t l o A B rS rM := by
  obtain ⟨B', hB'⟩ : ∃ B', B' = va_up (va_up B 21 (upd (B 21) (32 * d + c) v)) 18 (upd (B 18) d (nI (k + 1))) := ⟨_, rfl⟩
  obtain ⟨A', hA'⟩ : ∃ A', A' = va_up A (fo d + 2) (upd (A (fo d + 2)) c v) := ⟨_, rfl⟩
  rw [← hB'] at hM
  rw [← hA'] at hS
  have e18 : B' 18 = upd (B 18) d (nI (k + 1)) := by rw [hB', va_up_self]
  have e21 : B' 21 = upd (B 21) (32 * d + c) v := by rw [hB', va_up_ne _ _ (by decide), va_up_self]
  have eo : ∀ j, j ≠ 18 → j ≠ 21 → B' j = B j := fun j h1 h2 => by rw [hB', va_up_ne _ _ h1, va_up_ne _ _ h2]
  have a1 : A' (fo d + 2) = upd (A (fo d + 2)) c v := by rw [hA', va_up_self]
  have ao : ∀ j, j ≠ fo d + 2 → A' j = A j := fun j h1 => by rw [hA', va_up_ne _ _ h1]
  obtain ⟨⟨g1, g2⟩, ⟨c', c1, c2, c3, c4⟩, f3, f4, f5⟩ := h.2.1
  have hkl := h.2.2.2.1
  refine ok_gen h hS hM (fun _ _ => rfl) (fun j _ h1 _ => ao j h1) (fun j hj => eo j (by omega) (by omega)) (eo 19 (by decide) (by decide)) (fun j hj => ⟨by rw [eo 20 (by decide) (by decide)], by rw [eo 23 (by decide) (by decide)]⟩) (fun j _ => by rw [e21, upd_ne _ _ (by omega)]) (fun e he => ⟨by rw [e18, upd_ne _ _ (by omega)], by rw [eo 22 (by decide) (by decide)]⟩) (k' := k + 1) (by omega) ⟨⟨fun i hi => ?_, fun i hi => ?_⟩, ⟨c', c1, c2, by rw [eo 22 (by decide) (by decide)]; exact c3, fun i hi => ?_⟩, ?_, ?_, f5⟩
  · rw [ao _ (by omega), eo 20 (by decide) (by decide)]
    exact g1 i hi
  · rw [a1, e21]
    by_cases hir : i = c
    · subst hir
      rw [upd_self, upd_self]
    · rw [upd_ne _ _ hir, upd_ne _ _ (by omega)]
      exact g2 i hi
  · obtain ⟨k', b1, b2, b3⟩ := c4 i hi
    exact ⟨k', b1, by rw [eo 23 (by decide) (by decide)]; exact b2, by rw [ao _ (by omega)]; exact b3⟩
  · rw [eo 17 (by decide) (by decide)]; exact f3
  · rw [e18, upd_self]
theorem ok_jump (h : mid bd st d p k t l o A s B) {k' : Nat} (hk : k' ≤ l.1) (hS : rS = some (-1, eX x (u2 o (fo d) 5 (nI (cst t l k'))) A q F)) (hM : rM = some (-1, eM m s (va_up B 18 (upd (B 18) d (nI k'))) w G)) : okS x m q F G w bd st d p t l o A B rS rM := by
  obtain ⟨B', hB'⟩ : ∃ B', B' = va_up B 18 (upd (B 18) d (nI k')) := ⟨_, rfl⟩
  rw [← hB'] at hM
  have e18 : B' 18 = upd (B 18) d (nI k') := by rw [hB', va_up_self]
  have eo : ∀ j, j ≠ 18 → B' j = B j := fun j h1 => by rw [hB', va_up_ne _ _ h1]
  obtain ⟨⟨g1, g2⟩, ⟨c', c1, c2, c3, c4⟩, f3, f4, f5⟩ := h.2.1
  refine ok_gen h hS hM (fun j hj => u2_n _ _ _ hj) (fun _ _ _ _ => rfl) (fun j hj => eo j (by omega)) (eo 19 (by decide)) (fun j hj => ⟨by rw [eo 20 (by decide)], by rw [eo 23 (by decide)]⟩) (fun j _ => by rw [eo 21 (by decide)]) (fun e he => ⟨by rw [e18, upd_ne _ _ (by omega)], by rw [eo 22 (by decide)]⟩) hk ⟨⟨fun i hi => ?_, fun i hi => ?_⟩, ⟨c', c1, ?_, by rw [eo 22 (by decide)]; exact c3, fun i hi => ?_⟩, ?_, ?_, ?_⟩
  · rw [eo 20 (by decide)]; exact g1 i hi
  · rw [eo 21 (by decide)]; exact g2 i hi
  · rw [u2_ne _ _ (by decide)]; exact c2
  · rw [eo 23 (by decide)]; exact c4 i hi
  · rw [eo 17 (by decide)]; exact f3
  · rw [e18, upd_self]
  · rw [u2_self]
theorem ok_on (h : mid bd st d p k t l o A s B) (hS : rS = some (-1, eX x o' A' q F)) (hM : rM = some (-1, eM m s' (va_up B1 18 (upd (B 18) d (nI (k + 1)))) w G)) (hj : jR bd st 0 o' A' s' B1) (ho : ∀ j, ((13 ≤ j ∧ j < 17) ∨ 39 ≤ j) → o' j = o j) (hA : ∀ j, ((13 ≤ j ∧ j < 17) ∨ 39 ≤ j) → A' j = A j) (hs : s' 25 = s 25) (hB : ∀ j, (j ≤ 7 ∨ 17 ≤ j) → B1 j = B j) : okS x m q F G w bd st d p t l o A B rS rM := by
  obtain ⟨B', hB'⟩ : ∃ B', B' = va_up B1 18 (upd (B 18) d (nI (k + 1))) := ⟨_, rfl⟩
  rw [← hB'] at hM
  have e18 : B' 18 = upd (B 18) d (nI (k + 1)) := by rw [hB', va_up_self]
  have eo : ∀ j, j ≠ 18 → B' j = B1 j := fun j h1 => by rw [hB', va_up_ne _ _ h1]
  have eb : ∀ j, (j ≤ 7 ∨ 17 ≤ j) → j ≠ 18 → B' j = B j := fun j h1 h2 => by rw [eo j h2, hB j h1]
  obtain ⟨⟨g1, g2⟩, ⟨c', c1, c2, c3, c4⟩, f3, f4, f5⟩ := h.2.1
  have hd := h.2.2.2.2.2
  have hkl := h.2.2.2.1
  have hfo := fo_eq hd
  have hg : fG d A' B' := ⟨fun i hi => by rw [hA _ (by omega), eb 20 (by omega) (by decide)]; exact g1 i hi, fun i hi => by rw [hA _ (by omega), eb 21 (by omega) (by decide)]; exact g2 i hi⟩
  refine ⟨-1, o', A', s', B', hS, hM, jR_mv hj (fun _ _ => rfl) (fun _ _ => rfl) (fun _ _ _ _ => rfl) (fun j h1 _ _ => eo j (by omega)), fun j hj => eb j (by omega) (by omega), ⟨fun e he => ?_, fun j hj => ⟨by rw [eb 20 (by omega) (by decide)], by rw [eb 23 (by omega) (by decide)]⟩, fun j hj => by rw [eb 21 (by omega) (by decide)], fun e he => ⟨by rw [eb 17 (by omega) (by decide)], by rw [e18, upd_ne _ _ (by omega)], by rw [eb 19 (by omega) (by decide)], by rw [eb 22 (by omega) (by decide)]⟩⟩, hg, hs.trans h.2.2.2.2.1, Or.inl ⟨rfl, k + 1, by omega, hg, ⟨c', c1, ?_, ?_, fun i hi => ?_⟩, ?_, ?_, ?_⟩⟩
  · have hfe := fo_eq (show e < 4 by omega)
    exact ⟨ho _ (by omega), hA _ (by omega), hA _ (by omega), hA _ (by omega)⟩
  · rw [ho _ (by omega)]; exact c2
  · rw [eb 22 (by omega) (by decide)]; exact c3
  · rw [eb 23 (by omega) (by decide), hA _ (by omega)]; exact c4 i hi
  · rw [eb 17 (by omega) (by decide)]; exact f3
  · rw [e18, upd_self]
  · rw [ho _ (by omega)]; exact f5
end OKS
/-! reading a statement -/
theorem st_rd {E : hE} {fa : Nat → Nat} {a k i : Nat} {v1 v2 v3 v4 v5 : Int32} (ha : E a = some (.inr (4, stL fa (k, i, v1, v2, v3, v4, v5)))) : gI E (some a) 4 0 = some (nI k) ∧ gR E (some a) 4 1 = some (some (fa i)) ∧ gI E (some a) 4 2 = some v1 ∧ gI E (some a) 4 3 = some v2 ∧ gI E (some a) 4 4 = some v3 ∧ gI E (some a) 4 5 = some v4 ∧ gI E (some a) 4 6 = some v5 := ⟨gI_at ha rfl, gR_at ha rfl, gI_at ha rfl, gI_at ha rfl, gI_at ha rfl, gI_at ha rfl, gI_at ha rfl⟩
theorem con_f {S : hE} {g fa wa ka : Nat → Nat} (hc : conS S g fa wa ka) {i : Nat} (hi : i < 18) : gI (So S) (some (fa i)) 101 0 = some (nI i) := gI_at (hc.2.2.2.2.1 i hi).1 rfl
theorem con_s {S : hE} {g fa wa ka : Nat → Nat} (hc : conS S g fa wa ka) {i : Nat} (hi : i < 18) : aI (Sa S) (some (g 2)) 102 (nI i) = some (nI (i + 1)) := by
  obtain ⟨f, h1, h2⟩ := hc.2.2.2.2.2.1
  rw [aI_at h1 hi (by decide), h2 i hi]
theorem reg1 {base : Nat} {B : Nat → Nat → Int32} {s : Nat → Int32} {w : Nat → Int64} {t : Nat → Int32} {W : Nat × (Nat → Nat) × (Nat → Nat)} (h : lSt s B w t base W) (hk : 1 < W.1) (hr : isRg (ol t (W.2.1 1) (W.2.2 1)) = true) : ∃ r, r < 8 ∧ ol t (W.2.1 1) (W.2.2 1) - 97 = nI r ∧ (w 1).toInt32 - 97 = nI r := by
  obtain ⟨r, hr, hv⟩ := isRg_i.mp hr
  obtain ⟨o1, o2⟩ := ol_one (t := t) (f := W.2.1 1) (e := W.2.2 1) (by rw [hv]; exact neg2 (by omega))
  have e : ol t (W.2.1 1) (W.2.2 1) - 97 = nI r := by rw [hv, show (97 : Int32) = nI 97 from rfl, pk_sub (by omega), show 97 + r - 97 = r by omega]
  refine ⟨r, hr, e, ?_⟩
  rw [lSt_w h hk (by decide), pk_i32 (lSt_ok h hk (by decide)) o1, ← o2]
  exact e
theorem wd_i {base : Nat} {B : Nat → Nat → Int32} {s : Nat → Int32} {w : Nat → Int64} {t : Nat → Int32} {W : Nat × (Nat → Nat) × (Nat → Nat)} {k : Nat} (h : lSt s B w t base W) (hk : k < W.1) (h7 : k < 7) (hr : ¬ ol t (W.2.1 k) (W.2.2 k) = -1) : (w k).toInt32 = ol t (W.2.1 k) (W.2.2 k) := by
  obtain ⟨o1, o2⟩ := ol_one (t := t) (f := W.2.1 k) (e := W.2.2 k) hr
  rw [lSt_w h hk h7, pk_i32 (lSt_ok h hk h7) o1, o2]
theorem isSg_cs {v : Int32} (h : isSg v = true) : v = 43 ∨ v = 45 ∨ v = 42 ∨ v = 47 ∨ v = 37 ∨ v = 38 ∨ v = 124 ∨ v = 94 ∨ v = 60 ∨ v = 61 := by
  simp only [isSg, Bool.or_eq_true, decide_eq_true_eq, or_assoc] at h
  exact h
theorem isCp_cs {v : Int32} (h : isCp v = true) : v = 60 ∨ v = 61 ∨ v = 62 := by
  simp only [isCp, Bool.or_eq_true, decide_eq_true_eq, or_assoc] at h
  exact h
