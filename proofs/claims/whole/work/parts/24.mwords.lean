/-! ===== what the reference says of a line's words ===== -/
def bI (b : Bool) : Int32 := cond b 1 0
def isRg (v : Int32) : Bool := decide (97 ≤ v) && decide (v ≤ 104)
def isLt (v : Int32) : Bool := decide (65 ≤ v) && decide (v ≤ 90)
def isSg (v : Int32) : Bool := decide (v = 43) || decide (v = 45) || decide (v = 42) || decide (v = 47) || decide (v = 37) || decide (v = 38) || decide (v = 124) || decide (v = 94) || decide (v = 60) || decide (v = 61)
def isCp (v : Int32) : Bool := decide (v = 60) || decide (v = 61) || decide (v = 62)
def nv (t : Nat → Int32) : Nat → Nat → Int32 → Option Int32
  | _, 0, a => some a
  | p, r + 1, a => if 48 ≤ t p ∧ t p ≤ 57 then nv t (p + 1) r (10 * a + t p - 48) else none
def sgz (t : Nat → Int32) (f : Nat) : Nat := if t f = 45 then 1 else 0
def opv (t : Nat → Int32) (f e : Nat) : Option Int32 := if e - f - sgz t f < 1 ∨ 6 < e - f - sgz t f then none else (nv t (f + sgz t f) (e - f - sgz t f) 0).map (fun v => if t f = 45 then -v else v)
def isVl (t : Nat → Int32) (f e : Nat) : Bool := isRg (ol t f e) || (opv t f e).isSome
def lSt (s : Nat → Int32) (B : Nat → Nat → Int32) (w : Nat → Int64) (t : Nat → Int32) (base : Nat) (W : Nat × (Nat → Nat) × (Nat → Nat)) : Prop := spl s B w t base W ∧ ∀ k, k < W.1 → k < 7 → wok t (W.2.1 k) (W.2.2 k) ∧ base + W.2.2 k ≤ 2000 ∧ ∀ i, W.2.1 k ≤ i → i < W.2.2 k → B 2 (base + i) = t i
theorem pk_is {t : Nat → Int32} {f e : Nat} (h : wok t f e) {c : Nat} (h1 : 33 ≤ c) (h2 : c ≤ 126) : pk t f (e - f) = lN c ↔ ol t f e = nI c := by
  have hr := pk_rng h (lo := c) (hi := c) (by omega) (by omega) (by omega)
  constructor
  · intro z
    obtain ⟨a, b⟩ := hr.mp ⟨by rw [z]; exact Int64.le_refl _, by rw [z]; exact Int64.le_refl _⟩
    exact Int32.le_antisymm b a
  · intro z
    obtain ⟨a, b⟩ := hr.mpr ⟨by rw [z]; exact Int32.le_refl _, by rw [z]; exact Int32.le_refl _⟩
    exact Int64.le_antisymm b a
theorem ol_one {t : Nat → Int32} {f e : Nat} (h : ¬ ol t f e = -1) : e - f = 1 ∧ ol t f e = t f := by
  unfold ol at h ⊢
  by_cases h1 : e - f = 1
  · exact ⟨h1, if_pos h1⟩
  · exact absurd (if_neg h1) h
theorem isRg_i {v : Int32} : isRg v = true ↔ ∃ r : Nat, r < 8 ∧ v = nI (97 + r) := by
  unfold isRg
  constructor
  · intro h
    have h1 : (97 : Int32) ≤ v := by have := Bool.and_eq_true_iff.mp h; exact of_decide_eq_true this.1
    have h2 : v ≤ 104 := by have := Bool.and_eq_true_iff.mp h; exact of_decide_eq_true this.2
    have h0 : ¬ v < 0 := fun z => by
      have a := Int32.lt_iff_toInt_lt.mp z
      have b := Int32.le_iff_toInt_le.mp h1
      simp at a b
      omega
    obtain ⟨j, hj, rfl⟩ := nI_of2 (M := 104) (n := 104) (by decide) h0 h2
    have := (nI_leI (a := 97) (b := j) (by decide) (by omega)).mp h1
    exact ⟨j - 97, by omega, by congr 1; omega⟩
  · rintro ⟨r, hr, rfl⟩
    simp only [Bool.and_eq_true, decide_eq_true_eq]
    exact ⟨nI_le (a := 97) (by omega) (by omega), nI_le (b := 104) (by omega) (by decide)⟩
theorem isLt_i {v : Int32} : isLt v = true ↔ ∃ r : Nat, r < 26 ∧ v = nI (65 + r) := by
  unfold isLt
  constructor
  · intro h
    have h1 : (65 : Int32) ≤ v := by have := Bool.and_eq_true_iff.mp h; exact of_decide_eq_true this.1
    have h2 : v ≤ 90 := by have := Bool.and_eq_true_iff.mp h; exact of_decide_eq_true this.2
    have h0 : ¬ v < 0 := fun z => by
      have a := Int32.lt_iff_toInt_lt.mp z
      have b := Int32.le_iff_toInt_le.mp h1
      simp at a b
      omega
    obtain ⟨j, hj, rfl⟩ := nI_of2 (M := 90) (n := 90) (by decide) h0 h2
    have := (nI_leI (a := 65) (b := j) (by decide) (by omega)).mp h1
    exact ⟨j - 65, by omega, by congr 1; omega⟩
  · rintro ⟨r, hr, rfl⟩
    simp only [Bool.and_eq_true, decide_eq_true_eq]
    exact ⟨nI_le (a := 65) (by omega) (by omega), nI_le (b := 90) (by omega) (by decide)⟩
section MW
variable {m N base : Nat} {s : Nat → Int32} {B : Nat → Nat → Int32} {w : Nat → Int64} {t : Nat → Int32} {W : Nat × (Nat → Nat) × (Nat → Nat)} {G : hE} {i : Int32} {k : Nat}
theorem lSt_w (h : lSt s B w t base W) (hk : k < W.1) (h7 : k < 7) : w k = pk t (W.2.1 k) (W.2.2 k - W.2.1 k) := (h.1.2 k hk h7).1
theorem lSt_ok (h : lSt s B w t base W) (hk : k < W.1) (h7 : k < 7) : wok t (W.2.1 k) (W.2.2 k) := (h.2 k hk h7).1
theorem M_rng (h : lSt s B w t base W) (hk : k < W.1) (h7 : k < 7) {lo hi : Nat} (hlo : 1 ≤ lo) (hlo2 : lo ≤ 255) (hhi : hi ≤ 255) : ((¬ lg_cmp (w k) (lN lo) < 0) ∧ ¬ 0 < lg_cmp (w k) (lN hi)) ↔ (nI lo ≤ ol t (W.2.1 k) (W.2.2 k) ∧ ol t (W.2.1 k) (W.2.2 k) ≤ nI hi) := by
  rw [lg_cmp_lt, lg_cmp_gt, Int64.not_lt, Int64.not_lt, lSt_w h hk h7]
  exact pk_rng (lSt_ok h hk h7) hlo hlo2 hhi
theorem M_isReg (h : lSt s B w t base W) (hi : i = nI k) (hk : k < W.1) (h7 : k < 7) : f_M_isRegister (eM m s B w G) m i = some (bI (isRg (ol t (W.2.1 k) (W.2.2 k)))) := by
  subst hi
  unfold f_M_isRegister
  have hr : ((¬ lg_cmp (w k) 97 < 0) ∧ ¬ 0 < lg_cmp (w k) 104) ↔ (97 ≤ ol t (W.2.1 k) (W.2.2 k) ∧ ol t (W.2.1 k) (W.2.2 k) ≤ 104) := M_rng h hk h7 (lo := 97) (hi := 104) (by decide) (by decide) (by decide)
  simp only [mg_9, mg_w h7, Option.bind_some]
  cases hz : isRg (ol t (W.2.1 k) (W.2.2 k)) with
  | true =>
    obtain ⟨a, b⟩ := Bool.and_eq_true_iff.mp hz
    obtain ⟨c, d⟩ := hr.mpr ⟨of_decide_eq_true a, of_decide_eq_true b⟩
    rw [if_neg c, if_neg d]
    rfl
  | false =>
    by_cases c : lg_cmp (w k) 97 < 0
    · rw [if_pos c]
      rfl
    · by_cases d : 0 < lg_cmp (w k) 104
      · rw [if_neg c, if_pos d]
        rfl
      · obtain ⟨a, b⟩ := hr.mp ⟨c, d⟩
        have : isRg (ol t (W.2.1 k) (W.2.2 k)) = true := Bool.and_eq_true_iff.mpr ⟨decide_eq_true a, decide_eq_true b⟩
        rw [hz] at this
        cases this
theorem M_isLet (h : lSt s B w t base W) (hi : i = nI k) (hk : k < W.1) (h7 : k < 7) : f_M_isLetter (eM m s B w G) m i = some (bI (isLt (ol t (W.2.1 k) (W.2.2 k)))) := by
  subst hi
  unfold f_M_isLetter
  have hr : ((¬ lg_cmp (w k) 65 < 0) ∧ ¬ 0 < lg_cmp (w k) 90) ↔ (65 ≤ ol t (W.2.1 k) (W.2.2 k) ∧ ol t (W.2.1 k) (W.2.2 k) ≤ 90) := M_rng h hk h7 (lo := 65) (hi := 90) (by decide) (by decide) (by decide)
  simp only [mg_9, mg_w h7, Option.bind_some]
  cases hz : isLt (ol t (W.2.1 k) (W.2.2 k)) with
  | true =>
    obtain ⟨a, b⟩ := Bool.and_eq_true_iff.mp hz
    obtain ⟨c, d⟩ := hr.mpr ⟨of_decide_eq_true a, of_decide_eq_true b⟩
    rw [if_neg c, if_neg d]
    rfl
  | false =>
    by_cases c : lg_cmp (w k) 65 < 0
    · rw [if_pos c]
      rfl
    · by_cases d : 0 < lg_cmp (w k) 90
      · rw [if_neg c, if_pos d]
        rfl
      · obtain ⟨a, b⟩ := hr.mp ⟨c, d⟩
        have : isLt (ol t (W.2.1 k) (W.2.2 k)) = true := Bool.and_eq_true_iff.mpr ⟨decide_eq_true a, decide_eq_true b⟩
        rw [hz] at this
        cases this
theorem M_eqc (h : lSt s B w t base W) (hk : k < W.1) (h7 : k < 7) (c : Nat) (h1 : 33 ≤ c) (h2 : c ≤ 126) : (lg_cmp (w k) (lN c) = 0) = (ol t (W.2.1 k) (W.2.2 k) = nI c) := by
  rw [lg_cmp_eq, lSt_w h hk h7]
  exact propext (pk_is (lSt_ok h hk h7) h1 h2)
theorem M_isSgn (h : lSt s B w t base W) (hi : i = nI k) (hk : k < W.1) (h7 : k < 7) : f_M_isSign (eM m s B w G) m i = some (bI (isSg (ol t (W.2.1 k) (W.2.2 k)))) := by
  subst hi
  unfold f_M_isSign
  simp only [mg_9, mg_w h7, Option.bind_some]
  have e : ∀ c : Nat, 33 ≤ c → c ≤ 126 → (lg_cmp (w k) (lN c) = 0) = (ol t (W.2.1 k) (W.2.2 k) = nI c) := M_eqc h hk h7
  have e43 := e 43 (by decide) (by decide)
  have e45 := e 45 (by decide) (by decide)
  have e42 := e 42 (by decide) (by decide)
  have e47 := e 47 (by decide) (by decide)
  have e37 := e 37 (by decide) (by decide)
  have e38 := e 38 (by decide) (by decide)
  have e124 := e 124 (by decide) (by decide)
  have e94 := e 94 (by decide) (by decide)
  have e60 := e 60 (by decide) (by decide)
  have e61 := e 61 (by decide) (by decide)
  generalize ol t (W.2.1 k) (W.2.2 k) = v at *
  simp only [show (43 : Int64) = lN 43 from rfl, show (45 : Int64) = lN 45 from rfl, show (42 : Int64) = lN 42 from rfl, show (47 : Int64) = lN 47 from rfl, show (37 : Int64) = lN 37 from rfl, show (38 : Int64) = lN 38 from rfl, show (124 : Int64) = lN 124 from rfl, show (94 : Int64) = lN 94 from rfl, show (60 : Int64) = lN 60 from rfl, show (61 : Int64) = lN 61 from rfl, e43, e45, e42, e47, e37, e38, e124, e94, e60, e61]
  unfold isSg
  repeat' split
  all_goals first | (simp_all [f_M_isSign_b87, f_M_isSign_b92, bZ, bI, nI]; done) | (rename_i q; subst q; rfl)
theorem M_isCmp (h : lSt s B w t base W) (hi : i = nI k) (hk : k < W.1) (h7 : k < 7) : f_M_isComparison (eM m s B w G) m i = some (bI (isCp (ol t (W.2.1 k) (W.2.2 k)))) := by
  subst hi
  unfold f_M_isComparison
  simp only [mg_9, mg_w h7, Option.bind_some]
  have e60 := M_eqc h hk h7 60 (by decide) (by decide)
  have e61 := M_eqc h hk h7 61 (by decide) (by decide)
  have e62 := M_eqc h hk h7 62 (by decide) (by decide)
  generalize ol t (W.2.1 k) (W.2.2 k) = v at *
  simp only [show (62 : Int64) = lN 62 from rfl, show (60 : Int64) = lN 60 from rfl, show (61 : Int64) = lN 61 from rfl, e60, e61, e62]
  unfold isCp
  repeat' split
  all_goals first | (simp_all [f_M_isComparison_b39, f_M_isComparison_b44, bZ, bI, nI]; done) | (rename_i q; subst q; rfl)
theorem M_num55 (hb : base + W.2.2 k ≤ 2000) (hB : B 10 k = nI (base + W.2.2 k)) (h7 : k < 7) : ∀ (r p fuel : Nat) (a : Int32), p + r = W.2.2 k → r < fuel → (∀ i, p ≤ i → i < W.2.2 k → B 2 (base + i) = t i) → f_M_isNumber_b55 N (eM m s B w G) fuel (some m) (nI k) (nI (base + p)) = some (bI (nv t p r a).isSome) := by
  intro r
  induction r with
  | zero =>
    intro p fuel a hp hf ht
    obtain ⟨fuel, rfl⟩ : ∃ j, fuel = j + 1 := ⟨fuel - 1, by omega⟩
    rw [f_M_isNumber_b55, mg_11, Option.bind_some, ma_10 h7, Option.bind_some, hB, if_pos (nI_le (by omega) (by omega))]
    rfl
  | succ r ih =>
    intro p fuel a hp hf ht
    obtain ⟨fuel, rfl⟩ : ∃ j, fuel = j + 1 := ⟨fuel - 1, by omega⟩
    rw [f_M_isNumber_b55, mg_11, Option.bind_some, ma_10 h7, Option.bind_some, hB, if_neg (nI_ge (by omega) (by omega)), mg_2, Option.bind_some, ma_2 (by omega), Option.bind_some, ht p (Nat.le_refl _) (by omega), nv]
    by_cases hd : 48 ≤ t p ∧ t p ≤ 57
    · rw [M_in1 hd.1 hd.2, Option.bind_some, if_neg (by decide), if_pos hd, nI_1]
      exact ih (p + 1) fuel _ (by omega) (by omega) (fun i h1 h2 => ht i (by omega) h2)
    · rw [M_in0 (by
        rcases Classical.em (t p < 48) with z | z
        · exact Or.inl z
        · rcases Classical.em (57 < t p) with z' | z'
          · exact Or.inr z'
          · exact absurd ⟨Int32.not_lt.mp z, Int32.not_lt.mp z'⟩ hd), Option.bind_some, if_pos rfl, if_neg hd]
      rfl
theorem M_isNum (hN : 400 < N) (h : lSt s B w t base W) (hi : i = nI k) (hk : k < W.1) (h7 : k < 7) (he : W.2.2 k ≤ 400) : f_M_isNumber N (eM m s B w G) m i = some (bI (opv t (W.2.1 k) (W.2.2 k)).isSome) := by
  subst hi
  obtain ⟨⟨a1, a2⟩, a3, a4⟩ := h.2 k hk h7
  obtain ⟨b1, b2, b3⟩ := h.1.2 k hk h7
  unfold f_M_isNumber
  simp only [mg_2, mg_10, Option.bind_some, ma_9 h7, b2, ma_2 (show base + W.2.1 k < 2000 by omega), a4 _ (Nat.le_refl _) a1]
  have key : f_M_isNumber_b33 N (eM m s B w G) (some m) (nI k) (nI (base + (W.2.1 k + sgz t (W.2.1 k)))) = some (bI (opv t (W.2.1 k) (W.2.2 k)).isSome) := by
    have hz : sgz t (W.2.1 k) ≤ 1 := by unfold sgz; split <;> omega
    unfold f_M_isNumber_b33
    rw [mg_11, Option.bind_some, ma_10 h7, Option.bind_some, b3, pk_sub (by omega), show base + W.2.2 k - (base + (W.2.1 k + sgz t (W.2.1 k))) = W.2.2 k - W.2.1 k - sgz t (W.2.1 k) from by omega]
    unfold opv
    by_cases hl : W.2.2 k - W.2.1 k - sgz t (W.2.1 k) < 1 ∨ 6 < W.2.2 k - W.2.1 k - sgz t (W.2.1 k)
    · rw [if_pos hl, M_in0 (by
        rcases hl with z | z
        · exact Or.inl (nI_lt (b := 1) z (by decide))
        · exact Or.inr (nI_lt (a := 6) z (by omega))), Option.bind_some, if_pos rfl]
      rfl
    · rw [if_neg hl, M_in1 (show 1 ≤ nI (W.2.2 k - W.2.1 k - sgz t (W.2.1 k)) from nI_le (a := 1) (by omega) (by omega)) (show nI (W.2.2 k - W.2.1 k - sgz t (W.2.1 k)) ≤ 6 from nI_le (b := 6) (by omega) (by decide)), Option.bind_some, if_neg (by decide), M_num55 a3 b3 h7 (W.2.2 k - W.2.1 k - sgz t (W.2.1 k)) _ N 0 (by omega) (by omega) (fun i h1 h2 => a4 i (by omega) h2)]
      simp
  unfold sgz at key
  by_cases h45 : t (W.2.1 k) = 45
  · rw [if_pos h45] at key ⊢
    rw [nI_1]
    exact key
  · rw [if_neg h45] at key ⊢
    exact key
theorem M_isVal (hN : 400 < N) (h : lSt s B w t base W) (hi : i = nI k) (hk : k < W.1) (h7 : k < 7) (he : W.2.2 k ≤ 400) : f_M_isValue N (eM m s B w G) m i = some (bI (isVl t (W.2.1 k) (W.2.2 k))) := by
  unfold f_M_isValue isVl
  rw [mgO, Option.bind_some, M_isReg h hi hk h7, Option.bind_some, Option.bind_some, M_isNum hN h hi hk h7 he]
  cases isRg (ol t (W.2.1 k) (W.2.2 k)) <;> cases (opv t (W.2.1 k) (W.2.2 k)).isSome <;> rfl
end MW
