/-! pasted from kit/laws/BITS.to-paste -/
theorem u_tn {n : Nat} (h : n < 2 ^ 64) : (UInt64.ofNat n).toNat = n := Nat.mod_eq_of_lt h
theorem g_and {a b c : Nat} (ha : a < 2 ^ 64) (hb : b < 2 ^ 64) (hc : a &&& b = c) : lN a &&& lN b = lN c := by
  subst hc
  have h : UInt64.ofNat a &&& UInt64.ofNat b = UInt64.ofNat (a &&& b) := UInt64.toNat_inj.mp (by rw [UInt64.toNat_and, u_tn ha, u_tn hb, u_tn (Nat.and_lt_two_pow a hb)])
  have h2 := congrArg UInt64.toInt64 h
  exact h2
theorem g_mask {a s p : Nat} (hp : 2 ^ s = p) (hs : s < 64) (ha : a < 2 ^ 64) : lN a &&& lN (p - 1) = lN (a % p) := by
  subst hp
  have := Nat.pow_lt_pow_right (show 1 < 2 by decide) hs
  exact g_and ha (by omega) (Nat.and_two_pow_sub_one_eq_mod a s)
theorem g_or {k p a b : Nat} (hp : 2 ^ k = p) (ha : a < p) (h : b * p + a < 2 ^ 64) : lN (b * p) ||| lN a = lN (b * p + a) := by
  subst hp
  have h1 : b * 2 ^ k ||| a = b * 2 ^ k + a := by rw [← Nat.shiftLeft_eq, Nat.shiftLeft_add_eq_or_of_lt ha]
  have h3 : UInt64.ofNat (b * 2 ^ k) ||| UInt64.ofNat a = UInt64.ofNat (b * 2 ^ k + a) := UInt64.toNat_inj.mp (by rw [UInt64.toNat_or, u_tn (by omega), u_tn (by omega), u_tn h, h1])
  have h2 := congrArg UInt64.toInt64 h3
  exact h2
theorem g_shl {a k p : Nat} {y : Int64} (hy : y.toBitVec.smod 64 = BitVec.ofNat 64 k) (hk : k < 64) (hp : 2 ^ k = p) (ha : a < 2 ^ 64) : lN a <<< y = lN (a * p) := by
  subst hp
  apply Int64.toBitVec_inj.mp
  rw [Int64.toBitVec_shiftLeft, hy]
  apply BitVec.eq_of_toNat_eq
  have hb : (lN a).toBitVec.toNat = a := Nat.mod_eq_of_lt ha
  have hk' : (BitVec.ofNat 64 k).toNat = k := Nat.mod_eq_of_lt (by omega)
  have h : ((lN a).toBitVec <<< BitVec.ofNat 64 k).toNat = (a * 2 ^ k) % 2 ^ 64 := by simp only [BitVec.shiftLeft_eq', BitVec.toNat_shiftLeft, hb, hk', Nat.shiftLeft_eq]
  exact h
theorem pf_lI {a : Nat} (h : a < 2 ^ 63) : (lN a).toInt = (a : Int) := lg_ofNat_toInt h
theorem pf_shr {a d : Nat} {D : Int64} (hD : (D.toBitVec.smod 64).toNat = d) (h : a < 2 ^ 62) : lN a >>> D = lN (a / 2 ^ d) := by
  have hd : a / 2 ^ d ≤ a := Nat.div_le_self _ _
  apply Int64.toInt_inj.mp
  have e : (lN a >>> D).toInt = (lN a).toInt >>> d := by
    rw [← hD]
    exact BitVec.toInt_sshiftRight ..
  rw [e, Int.shiftRight_eq_div_pow, pf_lI (by omega), pf_lI (by omega)]
  rfl
/-! ===== a word as a number, and as letters ===== -/
def wch (v : Int32) : Prop := ∃ c : Nat, v = nI c ∧ 33 ≤ c ∧ c ≤ 126
def cN (v : Int32) : Nat := v.toNatClampNeg
theorem cN_nI {c : Nat} (h : c < 2 ^ 31) : cN (nI c) = c := nI_clamp h
theorem wch_c {v : Int32} (h : wch v) : v = nI (cN v) ∧ 33 ≤ cN v ∧ cN v ≤ 126 := by
  obtain ⟨c, rfl, h1, h2⟩ := h
  rw [cN_nI (by omega)]
  exact ⟨rfl, h1, h2⟩
def pn (t : Nat → Int32) (f : Nat) : Nat → Nat
  | 0 => 0
  | j + 1 => pn t f j * 256 + cN (t (f + j))
def valL (l : List Nat) : Nat := l.foldl (fun a d => a * 256 + d) 0
theorem pn_lt {t : Nat → Int32} {f : Nat} : ∀ j, (∀ i, i < j → wch (t (f + i))) → pn t f j < 256 ^ j := by
  intro j
  induction j with
  | zero => intro _; simp [pn]
  | succ j ih =>
    intro h
    have h1 := ih (fun i hi => h i (by omega))
    obtain ⟨-, -, h2⟩ := wch_c (h j (by omega))
    rw [pn, Nat.pow_succ]
    omega
theorem pk_pn {t : Nat → Int32} {f : Nat} : ∀ j, j ≤ 7 → (∀ i, i < j → wch (t (f + i))) → pk t f j = lN (pn t f j) := by
  intro j
  induction j with
  | zero => intro _ _; rfl
  | succ j ih =>
    intro hj h
    obtain ⟨h1, h2, h3⟩ := wch_c (h j (by omega))
    have hl := pn_lt (t := t) (f := f) j (fun i hi => h i (by omega))
    have hp : (256 : Nat) ^ j ≤ 256 ^ 6 := Nat.pow_le_pow_right (by decide) (by omega)
    have hp6 : (256 : Nat) ^ 6 = 281474976710656 := by decide
    rw [pk, if_pos (by omega), ih (by omega) (fun i hi => h i (by omega)), h1, nI_l (by omega), g_shl (k := 8) (p := 256) (by decide +kernel) (by decide) (by decide) (by omega), g_or (k := 8) (by decide) (by omega) (by omega), pn]
theorem pk_big {t : Nat → Int32} {f j : Nat} (h : 8 ≤ j) : pk t f j = -1 := by
  obtain ⟨j, rfl⟩ : ∃ k, j = k + 1 := ⟨j - 1, by omega⟩
  rw [pk, if_neg (by omega)]
theorem gD_app {l m : List Nat} {i : Nat} (h : i < l.length) : (l ++ m).getD i 0 = l.getD i 0 := by
  simp [List.getD, List.getElem?_append_left h]
theorem pn_iff {t : Nat → Int32} {f : Nat} : ∀ j (l : List Nat), (∀ i, i < j → wch (t (f + i))) → (∀ d ∈ l, 1 ≤ d ∧ d ≤ 255) → (pn t f j = valL l ↔ j = l.length ∧ ∀ i, i < j → cN (t (f + i)) = l.getD i 0) := by
  intro j
  induction j with
  | zero =>
    intro l _ hl
    rcases List.eq_nil_or_concat l with rfl | ⟨l', d, rfl⟩
    · exact ⟨fun _ => ⟨rfl, fun i hi => absurd hi (Nat.not_lt_zero i)⟩, fun _ => rfl⟩
    · have := (hl d (by simp)).1
      simp [pn, valL, List.foldl_append]
      omega
  | succ j ih =>
    intro l h hl
    obtain ⟨h1, h2, h3⟩ := wch_c (h j (by omega))
    rcases List.eq_nil_or_concat l with rfl | ⟨l', d, rfl⟩
    · simp [pn, valL]
      omega
    · have hd := hl d (by simp)
      have hi := ih l' (fun i hi => h i (by omega)) (fun d hd => hl d (by simp [hd]))
      have e : valL (l' ++ [d]) = valL l' * 256 + d := by simp [valL, List.foldl_append]
      rw [List.concat_eq_append, e, pn]
      constructor
      · intro z
        have z1 : pn t f j = valL l' := by omega
        have z2 : cN (t (f + j)) = d := by omega
        obtain ⟨q1, q2⟩ := hi.mp z1
        refine ⟨by simp [q1], fun i hi => ?_⟩
        by_cases hij : i = j
        · rw [hij, z2, q1]
          simp
        · rw [q2 i (by omega), gD_app (by omega)]
      · rintro ⟨q1, q2⟩
        have q1' : j = l'.length := by simpa using q1
        have z1 := hi.mpr ⟨q1', fun i hi => by rw [q2 i (by omega), gD_app (by omega)]⟩
        have z2 := q2 j (by omega)
        rw [q1'] at z2
        simp at z2
        rw [z1, ← z2, q1']
theorem gD_app2 {l : List Nat} {d : Nat} : (l ++ [d]).getD l.length 0 = d := by simp
def isW (t : Nat → Int32) (f e : Nat) (kw : List Nat) : Prop := e - f = kw.length ∧ ∀ i, i < kw.length → t (f + i) = nI (kw.getD i 0)
def wok (t : Nat → Int32) (f e : Nat) : Prop := f < e ∧ ∀ i, f ≤ i → i < e → wch (t i)
theorem wok_i {t : Nat → Int32} {f e : Nat} (h : wok t f e) : ∀ i, i < e - f → wch (t (f + i)) := fun i hi => h.2 _ (by omega) (by omega)
theorem valL_lt : ∀ (n : Nat) (l : List Nat), l.length = n → (∀ d ∈ l, 1 ≤ d ∧ d ≤ 255) → valL l < 256 ^ n := by
  intro n
  induction n with
  | zero =>
    intro l h _
    rw [List.length_eq_zero_iff.mp h]
    decide
  | succ n ih =>
    intro l h hl
    rcases List.eq_nil_or_concat l with rfl | ⟨l', d, rfl⟩
    · simp at h
    · have h1 := ih l' (by simpa using h) (fun x hx => hl x (by simp [hx]))
      have h2 := hl d (by simp)
      have e : valL (l'.concat d) = valL l' * 256 + d := by simp [valL, List.foldl_append]
      rw [e, Nat.pow_succ]
      omega
theorem pk_W {t : Nat → Int32} {f e : Nat} (h : wok t f e) (l : List Nat) (hl : ∀ d ∈ l, 33 ≤ d ∧ d ≤ 126) (h7 : l.length ≤ 7) : pk t f (e - f) = lN (valL l) ↔ isW t f e l := by
  have hl' : ∀ d ∈ l, 1 ≤ d ∧ d ≤ 255 := fun d hd => by have := hl d hd; omega
  have hv := valL_lt _ l rfl hl'
  have hp : (256 : Nat) ^ l.length ≤ 256 ^ 7 := Nat.pow_le_pow_right (by decide) h7
  have hp7 : (256 : Nat) ^ 7 = 72057594037927936 := by decide
  by_cases hlen : e - f ≤ 7
  · have hn := pn_lt _ (wok_i h)
    have hq : (256 : Nat) ^ (e - f) ≤ 256 ^ 7 := Nat.pow_le_pow_right (by decide) hlen
    rw [pk_pn _ hlen (wok_i h), pk_lEQ (by omega) (by omega), pn_iff _ l (wok_i h) hl']
    constructor
    · rintro ⟨a1, a2⟩
      refine ⟨a1, fun i hi => ?_⟩
      rw [← a2 i (by omega)]
      exact (wch_c (wok_i h i (by omega))).1
    · rintro ⟨a1, a2⟩
      refine ⟨a1, fun i hi => ?_⟩
      have hg : l.getD i 0 ≤ 126 := by
        have hi' : i < l.length := by omega
        have : l.getD i 0 = l[i] := by simp [List.getD, hi']
        rw [this]
        exact (hl _ (List.getElem_mem _)).2
      rw [a2 i (by omega), cN_nI (by omega)]
  · rw [pk_big (by omega)]
    constructor
    · intro z
      have z1 := congrArg Int64.toInt z
      rw [pk_lT (by omega)] at z1
      rw [show (-1 : Int64).toInt = -1 from by decide] at z1
      omega
    · rintro ⟨a1, -⟩
      omega
/-- the only letter of a word -/
def ol (t : Nat → Int32) (f e : Nat) : Int32 := if e - f = 1 then t f else -1
theorem pk_one {t : Nat → Int32} {f e : Nat} (h : wok t f e) (h1 : e - f = 1) : pk t f (e - f) = lN (cN (t f)) ∧ t f = nI (cN (t f)) ∧ 33 ≤ cN (t f) ∧ cN (t f) ≤ 126 := by
  refine ⟨?_, wch_c (h.2 f (Nat.le_refl _) h.1)⟩
  rw [pk_pn _ (by omega) (wok_i h), h1]
  simp [pn]
theorem pn_ge {t : Nat → Int32} {f : Nat} : ∀ j, 2 ≤ j → (∀ i, i < j → wch (t (f + i))) → 256 ≤ pn t f j := by
  intro j h2 h
  obtain ⟨j, rfl⟩ : ∃ k, j = k + 2 := ⟨j - 2, by omega⟩
  obtain ⟨-, h3, -⟩ := wch_c (h j (by omega))
  rw [pn, pn]
  omega
theorem pk_rng {t : Nat → Int32} {f e : Nat} (h : wok t f e) {lo hi : Nat} (hlo : 1 ≤ lo) (hlo2 : lo ≤ 255) (hhi : hi ≤ 255) : (lN lo ≤ pk t f (e - f) ∧ pk t f (e - f) ≤ lN hi) ↔ (nI lo ≤ ol t f e ∧ ol t f e ≤ nI hi) := by
  unfold ol
  by_cases h1 : e - f = 1
  · obtain ⟨a1, a2, a3, a4⟩ := pk_one h h1
    rw [if_pos h1, a1, a2, cN_nI (by omega), pk_lLE (by omega) (by omega), pk_lLE (by omega) (by omega), nI_leI (by omega) (by omega), nI_leI (by omega) (by omega)]
  · rw [if_neg h1]
    have hf := h.1
    constructor
    · rintro ⟨b1, b2⟩
      exfalso
      by_cases hlen : e - f ≤ 7
      · have hn := pn_lt _ (wok_i h)
        have hq : (256 : Nat) ^ (e - f) ≤ 256 ^ 7 := Nat.pow_le_pow_right (by decide) hlen
        have hp7 : (256 : Nat) ^ 7 = 72057594037927936 := by decide
        have := pn_ge _ (by omega) (wok_i h)
        rw [pk_pn _ hlen (wok_i h), pk_lLE (by omega) (by omega)] at b2
        omega
      · rw [pk_big (by omega)] at b1
        have b3 := Int64.le_iff_toInt_le.mp b1
        rw [pk_lT (by omega), show (-1 : Int64).toInt = -1 from by decide] at b3
        omega
    · rintro ⟨b1, -⟩
      exfalso
      have b3 := Int32.le_iff_toInt_le.mp b1
      rw [nI_toInt (by omega), show (-1 : Int32).toInt = -1 from by decide] at b3
      omega
theorem pk_i32 {t : Nat → Int32} {f e : Nat} (h : wok t f e) (h1 : e - f = 1) : (pk t f (e - f)).toInt32 = t f := by
  obtain ⟨a1, a2, a3, a4⟩ := pk_one h h1
  rw [a1, lN_i, ← a2]
