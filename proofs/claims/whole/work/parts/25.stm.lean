/-! ===== labels and statements ===== -/
def isWl (t : Nat → Int32) : Nat → List Nat → Bool
  | _, [] => true
  | f, c :: cs => decide (t f = nI c) && isWl t (f + 1) cs
def isWb (t : Nat → Int32) (f e : Nat) (kw : List Nat) : Bool := decide (e - f = kw.length) && isWl t f kw
theorem isWl_iff {t : Nat → Int32} : ∀ (kw : List Nat) (f : Nat), isWl t f kw = true ↔ ∀ i, i < kw.length → t (f + i) = nI (kw.getD i 0) := by
  intro kw
  induction kw with
  | nil => intro f; simp [isWl]
  | cons c cs ih =>
    intro f
    rw [isWl, Bool.and_eq_true, decide_eq_true_eq, ih (f + 1)]
    constructor
    · rintro ⟨h1, h2⟩ i hi
      cases i with
      | zero => simpa using h1
      | succ i =>
        have := h2 i (by simpa using hi)
        rw [show f + (i + 1) = f + 1 + i from by omega, this]
        simp
    · intro h
      refine ⟨by simpa using h 0 (by simp), fun i hi => ?_⟩
      have := h (i + 1) (by simpa using hi)
      rw [show f + 1 + i = f + (i + 1) from by omega, this]
      simp
theorem isWb_iff {t : Nat → Int32} {f e : Nat} {kw : List Nat} : isWb t f e kw = true ↔ isW t f e kw := by
  unfold isWb isW
  rw [Bool.and_eq_true, decide_eq_true_eq, isWl_iff]
theorem isW_one {t : Nat → Int32} {f e : Nat} {k1 k2 : List Nat} (h1 : isW t f e k1) (h2 : isW t f e k2) (b1 : ∀ d ∈ k1, d < 2 ^ 31) (b2 : ∀ d ∈ k2, d < 2 ^ 31) : k1 = k2 := by
  obtain ⟨a1, a2⟩ := h1
  obtain ⟨c1, c2⟩ := h2
  apply List.ext_getElem (by omega)
  intro i h1 h2
  have e := (a2 i h1).symm.trans (c2 i h2)
  have g1 : k1.getD i 0 = k1[i] := by simp [List.getD, h1]
  have g2 : k2.getD i 0 = k2[i] := by simp [List.getD, h2]
  rw [g1, g2] at e
  exact (nI_eq (b1 _ (List.getElem_mem _)) (b2 _ (List.getElem_mem _))).mp e
abbrev vSt : Type := Int32 × Int32 × Int32 × Int32 × Int32
def opd (t : Nat → Int32) (f e : Nat) : Int32 := if isRg (ol t f e) = true then 1000000 + (ol t f e - 97) else (opv t f e).getD (-1000000)
def tw (t : Nat → Int32) (f e k : Nat) (st : vSt) : Option vSt :=
  if k = 82 then (if isRg (ol t f e) = true then some (ol t f e - 97, st.2) else none)
  else if k = 88 then (if isVl t f e = true then some (st.1, opd t f e, st.2.2) else none)
  else if k = 89 then (if isVl t f e = true then some (st.1, st.2.1, st.2.2.1, opd t f e, st.2.2.2.2) else none)
  else if k = 79 then (if isSg (ol t f e) = true then some (st.1, st.2.1, ol t f e, st.2.2.2) else none)
  else if k = 67 then (if isCp (ol t f e) = true then some (st.1, st.2.1, ol t f e, st.2.2.2) else none)
  else if k = 76 then (if isLt (ol t f e) = true then some (st.1, st.2.1, st.2.2.1, st.2.2.2.1, ol t f e - 65) else none)
  else if isWb t f e [103, 111] = true then some st else none
def pf (t : Nat → Int32) (W : Nat × (Nat → Nat) × (Nat → Nat)) : List Nat → Nat → vSt → Option vSt
  | [], _, st => some st
  | k :: ks, j, st => (tw t (W.2.1 j) (W.2.2 j) k st).bind (pf t W ks (j + 1))
def kwL : List (List Nat) := [[108, 101, 116], [108, 101, 116], [103, 101, 116], [112, 117, 116], [115, 105, 122, 101], [114, 101, 97, 100], [119, 114, 105, 116, 101], [100, 114, 111, 112], [99, 111, 112, 121], [111, 117, 116], [101, 114, 114], [103, 111], [105, 102], [99, 97, 108, 108], [98, 97, 99, 107], [114, 117, 110], [97, 115, 107], [101, 120, 105, 116]]
def kdL : List (List Nat) := [[82, 88], [82, 88, 79, 89], [82, 88], [88, 89], [82, 88], [82, 88, 89], [88, 89], [88], [88, 89], [88], [88], [76], [88, 67, 89, 103, 76], [76], [], [82, 88, 89], [82, 88], [88]]
def st0 : vSt := (-1, -1000000, -1, -1000000, -1)
def fit (t : Nat → Int32) (W : Nat × (Nat → Nat) × (Nat → Nat)) (i : Nat) : Option vSt := if W.1 = (kdL.getD i []).length + 1 ∧ isWb t (W.2.1 0) (W.2.2 0) (kwL.getD i []) = true then pf t W (kdL.getD i []) 1 st0 else none
def anyFit (t : Nat → Int32) (W : Nat × (Nat → Nat) × (Nat → Nat)) : Bool := (List.range 18).any (fun i => (fit t W i).isSome)
def isLb (t : Nat → Int32) (f e : Nat) : Bool := decide (e - f = 2) && decide (t (f + 1) = 58) && isLt (t f)
section MS
variable {m N base : Nat} {s : Nat → Int32} {B : Nat → Nat → Int32} {w : Nat → Int64} {t : Nat → Int32} {W : Nat × (Nat → Nat) × (Nat → Nat)} {G : hE}
theorem mg_w0 : aJ (eM m s B w G) (some (m + 8)) 2 0 = some (w 0) := mg_w (i := 0) (by decide)
theorem mg_w1 : aJ (eM m s B w G) (some (m + 8)) 2 1 = some (w 1) := mg_w (i := 1) (by decide)
theorem mg_w2 : aJ (eM m s B w G) (some (m + 8)) 2 2 = some (w 2) := mg_w (i := 2) (by decide)
theorem mg_w3 : aJ (eM m s B w G) (some (m + 8)) 2 3 = some (w 3) := mg_w (i := 3) (by decide)
theorem mg_w4 : aJ (eM m s B w G) (some (m + 8)) 2 4 = some (w 4) := mg_w (i := 4) (by decide)
theorem mg_w5 : aJ (eM m s B w G) (some (m + 8)) 2 5 = some (w 5) := mg_w (i := 5) (by decide)
theorem pk_lo {f e : Nat} (h : wok t f e) (h7 : e - f ≤ 7) : pk t f (e - f) &&& 255 = lN (cN (t (e - 1))) ∧ pk t f (e - f) >>> ((8 : Int32).toInt64 &&& 63) = lN (pn t f (e - f - 1)) := by
  have hf := h.1
  have hn := pn_lt _ (wok_i h)
  have hq : (256 : Nat) ^ (e - f) ≤ 256 ^ 7 := Nat.pow_le_pow_right (by decide) h7
  have hp7 : (256 : Nat) ^ 7 = 72057594037927936 := by decide
  obtain ⟨j, hj⟩ : ∃ j, e - f = j + 1 := ⟨e - f - 1, by omega⟩
  obtain ⟨-, -, hc⟩ := wch_c (h.2 (e - 1) (by omega) (by omega))
  have e1 : pn t f (e - f) = pn t f j * 256 + cN (t (e - 1)) := by rw [hj, pn, show f + j = e - 1 from by omega]
  rw [pk_pn _ h7 (wok_i h)]
  constructor
  · rw [show (255 : Int64) = lN (256 - 1) from rfl, g_mask (s := 8) (by decide) (by decide) (by omega), e1]
    congr 1
    omega
  · rw [pf_shr (d := 8) (by decide +kernel) (by omega), e1, hj]
    congr 1
    simp only [Nat.add_sub_cancel]
    omega
theorem M_lab (h : lSt s B w t base W) (h0 : 0 < W.1) (hW : W.1 < 2 ^ 31) : f_M_isLabel (eM m s B w G) m = some (bI (decide (W.1 = 1) && isLb t (W.2.1 0) (W.2.2 0))) := by
  have hok := lSt_ok h h0 (by decide)
  have hw := lSt_w h h0 (by decide)
  unfold f_M_isLabel
  simp only [mg_8, h.1.1, mg_9, mg_w0, Option.bind_some, lg_cmp_eq, lg_cmp_lt, lg_cmp_gt]
  by_cases h1 : W.1 = 1
  · rw [if_pos (by rw [h1]; rfl), show decide (W.1 = 1) = true from decide_eq_true h1, Bool.true_and, hw]
    by_cases h7 : W.2.2 0 - W.2.1 0 ≤ 7
    · obtain ⟨a1, a2⟩ := pk_lo hok h7
      obtain ⟨c1, c2, c3⟩ := wch_c (hok.2 (W.2.2 0 - 1) (by have := hok.1; omega) (by have := hok.1; omega))
      rw [a1, a2]
      unfold isLb
      by_cases h2 : W.2.2 0 - W.2.1 0 = 2
      · rw [h2, show decide (2 = 2) = true from rfl, Bool.true_and]
        obtain ⟨b1, b2, b3⟩ := wch_c (hok.2 (W.2.1 0) (Nat.le_refl _) hok.1)
        have e1 : W.2.2 0 - 1 = W.2.1 0 + 1 := by have := hok.1; omega
        rw [e1] at c1 c2 c3 ⊢
        have ep : pn t (W.2.1 0) (2 - 1) = cN (t (W.2.1 0)) := by simp [pn]
        rw [ep]
        have q1 : (lN (cN (t (W.2.1 0 + 1))) = 58) ↔ t (W.2.1 0 + 1) = 58 := by
          rw [show (58 : Int64) = lN 58 from rfl, pk_lEQ (by omega) (by omega), c1, cN_nI (by omega), show (58 : Int32) = nI 58 from rfl, nI_eq (by omega) (by omega)]
        have q2 : (lN (cN (t (W.2.1 0))) < 65) ↔ t (W.2.1 0) < 65 := by
          rw [show (65 : Int64) = lN 65 from rfl, pk_lLT (by omega) (by omega), b1, cN_nI (by omega), show (65 : Int32) = nI 65 from rfl, nI_ltI (by omega) (by omega)]
        have q3 : (90 < lN (cN (t (W.2.1 0)))) ↔ 90 < t (W.2.1 0) := by
          rw [show (90 : Int64) = lN 90 from rfl, pk_lLT (by omega) (by omega), b1, cN_nI (by omega), show (90 : Int32) = nI 90 from rfl, nI_ltI (by omega) (by omega)]
        simp only [q1, q2, q3]
        unfold isLt
        by_cases z1 : t (W.2.1 0 + 1) = 58
        · rw [if_pos z1]
          by_cases z2 : t (W.2.1 0) < 65
          · rw [if_pos z2, show decide (65 ≤ t (W.2.1 0)) = false from decide_eq_false (Int32.not_le.mpr z2)]
            simp [f_M_isLabel_b61, f_M_isLabel_b62, bZ, bI]
          · by_cases z3 : 90 < t (W.2.1 0)
            · rw [if_neg z2, if_pos z3, show decide (t (W.2.1 0) ≤ 90) = false from decide_eq_false (Int32.not_le.mpr z3)]
              simp [f_M_isLabel_b61, f_M_isLabel_b62, bZ, bI]
            · rw [if_neg z2, if_neg z3, show decide (t (W.2.1 0) ≤ 90) = true from decide_eq_true (Int32.not_lt.mp z3), show decide (65 ≤ t (W.2.1 0)) = true from decide_eq_true (Int32.not_lt.mp z2)]
              simp [f_M_isLabel_b62, bZ, bI, z1]
        · rw [if_neg z1, show decide (t (W.2.1 0 + 1) = 58) = false from decide_eq_false z1]
          rfl
      · rw [show decide (W.2.2 0 - W.2.1 0 = 2) = false from decide_eq_false h2]
        simp only [Bool.false_and]
        have hne : lN (pn t (W.2.1 0) (W.2.2 0 - W.2.1 0 - 1)) < 65 ∨ 90 < lN (pn t (W.2.1 0) (W.2.2 0 - W.2.1 0 - 1)) := by
          have hf := hok.1
          by_cases h3 : W.2.2 0 - W.2.1 0 = 1
          · left
            rw [h3]
            show lN 0 < 65
            decide
          · right
            have hg := pn_ge (t := t) (f := W.2.1 0) (W.2.2 0 - W.2.1 0 - 1) (by omega) (fun i hi => hok.2 _ (by omega) (by omega))
            have hn := pn_lt (t := t) (f := W.2.1 0) (W.2.2 0 - W.2.1 0 - 1) (fun i hi => hok.2 _ (by omega) (by omega))
            have hq : (256 : Nat) ^ (W.2.2 0 - W.2.1 0 - 1) ≤ 256 ^ 7 := Nat.pow_le_pow_right (by decide) (by omega)
            have hp7 : (256 : Nat) ^ 7 = 72057594037927936 := by decide
            exact (pk_lLT (a := 90) (by decide) (by omega)).mpr (by omega)
        split
        · rcases hne with z | z
          · rw [if_pos z]
            rfl
          · split
            · rfl
            · first | rfl | (rw [if_pos z]; rfl)
        · rfl
    · rw [pk_big (by omega)]
      unfold isLb
      rw [show decide (W.2.2 0 - W.2.1 0 = 2) = false from decide_eq_false (by omega), if_neg (by decide)]
      rfl
  · rw [if_neg (show ¬ nI W.1 = 1 from fun z => h1 ((nI_eq (b := 1) hW (by decide)).mp z)), show decide (W.1 = 1) = false from decide_eq_false h1]
    rfl
theorem M_labc (h : lSt s B w t base W) (h0 : 0 < W.1) (hl : isLb t (W.2.1 0) (W.2.2 0) = true) : ((w 0) >>> ((8 : Int32).toInt64 &&& 63)).toInt32 = t (W.2.1 0) := by
  have hok := lSt_ok h h0 (by decide)
  unfold isLb at hl
  have h2 : W.2.2 0 - W.2.1 0 = 2 := by
    have := Bool.and_eq_true_iff.mp hl
    have := Bool.and_eq_true_iff.mp this.1
    exact of_decide_eq_true this.1
  obtain ⟨b1, b2, b3⟩ := wch_c (hok.2 (W.2.1 0) (Nat.le_refl _) hok.1)
  rw [lSt_w h h0 (by decide), (pk_lo hok (by omega)).2, h2, show pn t (W.2.1 0) (2 - 1) = cN (t (W.2.1 0)) from by simp [pn], lN_i, ← b1]
theorem kw_w (h : lSt s B w t base W) (h0 : 0 < W.1) (l : List Nat) (hl : ∀ d ∈ l, 33 ≤ d ∧ d ≤ 126) (h7 : l.length ≤ 7) : w 0 = lN (valL l) ↔ isWb t (W.2.1 0) (W.2.2 0) l = true := by
  rw [lSt_w h h0 (by decide), isWb_iff]
  exact pk_W (lSt_ok h h0 (by decide)) l hl h7
theorem kw_n {f e : Nat} {l : List Nat} (h : isWb t f e l = true) (l' : List Nat) (hl : ∀ d ∈ l, d < 2 ^ 31) (hl' : ∀ d ∈ l', d < 2 ^ 31) (hn : l ≠ l') : isWb t f e l' = false := by
  cases hz : isWb t f e l' with
  | false => rfl
  | true => exact absurd (isW_one (isWb_iff.mp h) (isWb_iff.mp hz) hl hl') hn
end MS
