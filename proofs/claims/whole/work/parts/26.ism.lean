/-! ===== isStatement, goal ===== -/
section MT
variable {m N base : Nat} {s : Nat → Int32} {B : Nat → Nat → Int32} {w : Nat → Int64} {t : Nat → Int32} {W : Nat × (Nat → Nat) × (Nat → Nat)} {G : hE}
theorem cnt_if {n c : Nat} {v : Int32} (hv : v = nI c) (hn : n < 2 ^ 31) (hc : c < 2 ^ 31) : (nI n = v) = (n = c) := by
  rw [hv]
  exact propext (nI_eq hn hc)
theorem bI_0 (b : Bool) : (bI b = 0) = (b = false) := by cases b <;> simp [bI]
theorem bIf {α : Type} (b : Bool) (x y : α) : (if bI b = 0 then x else y) = cond b y x := by cases b <;> rfl
/-! the word let -/
theorem any_let (hk : isWb t (W.2.1 0) (W.2.2 0) [108, 101, 116] = true) : anyFit t W = ((fit t W 0).isSome || (fit t W 1).isSome) := by
  have n0 := kw_n hk [97, 115, 107] (by decide) (by decide) (by decide)
  have n1 := kw_n hk [98, 97, 99, 107] (by decide) (by decide) (by decide)
  have n2 := kw_n hk [99, 97, 108, 108] (by decide) (by decide) (by decide)
  have n3 := kw_n hk [99, 111, 112, 121] (by decide) (by decide) (by decide)
  have n4 := kw_n hk [100, 114, 111, 112] (by decide) (by decide) (by decide)
  have n5 := kw_n hk [101, 114, 114] (by decide) (by decide) (by decide)
  have n6 := kw_n hk [101, 120, 105, 116] (by decide) (by decide) (by decide)
  have n7 := kw_n hk [103, 101, 116] (by decide) (by decide) (by decide)
  have n8 := kw_n hk [103, 111] (by decide) (by decide) (by decide)
  have n9 := kw_n hk [105, 102] (by decide) (by decide) (by decide)
  have n11 := kw_n hk [111, 117, 116] (by decide) (by decide) (by decide)
  have n12 := kw_n hk [112, 117, 116] (by decide) (by decide) (by decide)
  have n13 := kw_n hk [114, 101, 97, 100] (by decide) (by decide) (by decide)
  have n14 := kw_n hk [114, 117, 110] (by decide) (by decide) (by decide)
  have n15 := kw_n hk [115, 105, 122, 101] (by decide) (by decide) (by decide)
  have n16 := kw_n hk [119, 114, 105, 116, 101] (by decide) (by decide) (by decide)
  have e2 : fit t W 2 = none := if_neg (fun z => by have z2 := z.2; change isWb t (W.2.1 0) (W.2.2 0) [103, 101, 116] = true at z2; rw [n7] at z2; cases z2)
  have e3 : fit t W 3 = none := if_neg (fun z => by have z2 := z.2; change isWb t (W.2.1 0) (W.2.2 0) [112, 117, 116] = true at z2; rw [n12] at z2; cases z2)
  have e4 : fit t W 4 = none := if_neg (fun z => by have z2 := z.2; change isWb t (W.2.1 0) (W.2.2 0) [115, 105, 122, 101] = true at z2; rw [n15] at z2; cases z2)
  have e5 : fit t W 5 = none := if_neg (fun z => by have z2 := z.2; change isWb t (W.2.1 0) (W.2.2 0) [114, 101, 97, 100] = true at z2; rw [n13] at z2; cases z2)
  have e6 : fit t W 6 = none := if_neg (fun z => by have z2 := z.2; change isWb t (W.2.1 0) (W.2.2 0) [119, 114, 105, 116, 101] = true at z2; rw [n16] at z2; cases z2)
  have e7 : fit t W 7 = none := if_neg (fun z => by have z2 := z.2; change isWb t (W.2.1 0) (W.2.2 0) [100, 114, 111, 112] = true at z2; rw [n4] at z2; cases z2)
  have e8 : fit t W 8 = none := if_neg (fun z => by have z2 := z.2; change isWb t (W.2.1 0) (W.2.2 0) [99, 111, 112, 121] = true at z2; rw [n3] at z2; cases z2)
  have e9 : fit t W 9 = none := if_neg (fun z => by have z2 := z.2; change isWb t (W.2.1 0) (W.2.2 0) [111, 117, 116] = true at z2; rw [n11] at z2; cases z2)
  have e10 : fit t W 10 = none := if_neg (fun z => by have z2 := z.2; change isWb t (W.2.1 0) (W.2.2 0) [101, 114, 114] = true at z2; rw [n5] at z2; cases z2)
  have e11 : fit t W 11 = none := if_neg (fun z => by have z2 := z.2; change isWb t (W.2.1 0) (W.2.2 0) [103, 111] = true at z2; rw [n8] at z2; cases z2)
  have e12 : fit t W 12 = none := if_neg (fun z => by have z2 := z.2; change isWb t (W.2.1 0) (W.2.2 0) [105, 102] = true at z2; rw [n9] at z2; cases z2)
  have e13 : fit t W 13 = none := if_neg (fun z => by have z2 := z.2; change isWb t (W.2.1 0) (W.2.2 0) [99, 97, 108, 108] = true at z2; rw [n2] at z2; cases z2)
  have e14 : fit t W 14 = none := if_neg (fun z => by have z2 := z.2; change isWb t (W.2.1 0) (W.2.2 0) [98, 97, 99, 107] = true at z2; rw [n1] at z2; cases z2)
  have e15 : fit t W 15 = none := if_neg (fun z => by have z2 := z.2; change isWb t (W.2.1 0) (W.2.2 0) [114, 117, 110] = true at z2; rw [n14] at z2; cases z2)
  have e16 : fit t W 16 = none := if_neg (fun z => by have z2 := z.2; change isWb t (W.2.1 0) (W.2.2 0) [97, 115, 107] = true at z2; rw [n0] at z2; cases z2)
  have e17 : fit t W 17 = none := if_neg (fun z => by have z2 := z.2; change isWb t (W.2.1 0) (W.2.2 0) [101, 120, 105, 116] = true at z2; rw [n6] at z2; cases z2)
  unfold anyFit
  rw [show List.range 18 = [0, 1, 2, 3, 4, 5, 6, 7, 8, 9, 10, 11, 12, 13, 14, 15, 16, 17] from rfl]
  simp only [List.any_cons, List.any_nil, e2, e3, e4, e5, e6, e7, e8, e9, e10, e11, e12, e13, e14, e15, e16, e17, Option.isSome_none, Bool.or_false, Bool.false_or]
/-! the word get -/
theorem any_get (hk : isWb t (W.2.1 0) (W.2.2 0) [103, 101, 116] = true) : anyFit t W = ((fit t W 2).isSome) := by
  have n0 := kw_n hk [97, 115, 107] (by decide) (by decide) (by decide)
  have n1 := kw_n hk [98, 97, 99, 107] (by decide) (by decide) (by decide)
  have n2 := kw_n hk [99, 97, 108, 108] (by decide) (by decide) (by decide)
  have n3 := kw_n hk [99, 111, 112, 121] (by decide) (by decide) (by decide)
  have n4 := kw_n hk [100, 114, 111, 112] (by decide) (by decide) (by decide)
  have n5 := kw_n hk [101, 114, 114] (by decide) (by decide) (by decide)
  have n6 := kw_n hk [101, 120, 105, 116] (by decide) (by decide) (by decide)
  have n8 := kw_n hk [103, 111] (by decide) (by decide) (by decide)
  have n9 := kw_n hk [105, 102] (by decide) (by decide) (by decide)
  have n10 := kw_n hk [108, 101, 116] (by decide) (by decide) (by decide)
  have n11 := kw_n hk [111, 117, 116] (by decide) (by decide) (by decide)
  have n12 := kw_n hk [112, 117, 116] (by decide) (by decide) (by decide)
  have n13 := kw_n hk [114, 101, 97, 100] (by decide) (by decide) (by decide)
  have n14 := kw_n hk [114, 117, 110] (by decide) (by decide) (by decide)
  have n15 := kw_n hk [115, 105, 122, 101] (by decide) (by decide) (by decide)
  have n16 := kw_n hk [119, 114, 105, 116, 101] (by decide) (by decide) (by decide)
  have e0 : fit t W 0 = none := if_neg (fun z => by have z2 := z.2; change isWb t (W.2.1 0) (W.2.2 0) [108, 101, 116] = true at z2; rw [n10] at z2; cases z2)
  have e1 : fit t W 1 = none := if_neg (fun z => by have z2 := z.2; change isWb t (W.2.1 0) (W.2.2 0) [108, 101, 116] = true at z2; rw [n10] at z2; cases z2)
  have e3 : fit t W 3 = none := if_neg (fun z => by have z2 := z.2; change isWb t (W.2.1 0) (W.2.2 0) [112, 117, 116] = true at z2; rw [n12] at z2; cases z2)
  have e4 : fit t W 4 = none := if_neg (fun z => by have z2 := z.2; change isWb t (W.2.1 0) (W.2.2 0) [115, 105, 122, 101] = true at z2; rw [n15] at z2; cases z2)
  have e5 : fit t W 5 = none := if_neg (fun z => by have z2 := z.2; change isWb t (W.2.1 0) (W.2.2 0) [114, 101, 97, 100] = true at z2; rw [n13] at z2; cases z2)
  have e6 : fit t W 6 = none := if_neg (fun z => by have z2 := z.2; change isWb t (W.2.1 0) (W.2.2 0) [119, 114, 105, 116, 101] = true at z2; rw [n16] at z2; cases z2)
  have e7 : fit t W 7 = none := if_neg (fun z => by have z2 := z.2; change isWb t (W.2.1 0) (W.2.2 0) [100, 114, 111, 112] = true at z2; rw [n4] at z2; cases z2)
  have e8 : fit t W 8 = none := if_neg (fun z => by have z2 := z.2; change isWb t (W.2.1 0) (W.2.2 0) [99, 111, 112, 121] = true at z2; rw [n3] at z2; cases z2)
  have e9 : fit t W 9 = none := if_neg (fun z => by have z2 := z.2; change isWb t (W.2.1 0) (W.2.2 0) [111, 117, 116] = true at z2; rw [n11] at z2; cases z2)
  have e10 : fit t W 10 = none := if_neg (fun z => by have z2 := z.2; change isWb t (W.2.1 0) (W.2.2 0) [101, 114, 114] = true at z2; rw [n5] at z2; cases z2)
  have e11 : fit t W 11 = none := if_neg (fun z => by have z2 := z.2; change isWb t (W.2.1 0) (W.2.2 0) [103, 111] = true at z2; rw [n8] at z2; cases z2)
  have e12 : fit t W 12 = none := if_neg (fun z => by have z2 := z.2; change isWb t (W.2.1 0) (W.2.2 0) [105, 102] = true at z2; rw [n9] at z2; cases z2)
  have e13 : fit t W 13 = none := if_neg (fun z => by have z2 := z.2; change isWb t (W.2.1 0) (W.2.2 0) [99, 97, 108, 108] = true at z2; rw [n2] at z2; cases z2)
  have e14 : fit t W 14 = none := if_neg (fun z => by have z2 := z.2; change isWb t (W.2.1 0) (W.2.2 0) [98, 97, 99, 107] = true at z2; rw [n1] at z2; cases z2)
  have e15 : fit t W 15 = none := if_neg (fun z => by have z2 := z.2; change isWb t (W.2.1 0) (W.2.2 0) [114, 117, 110] = true at z2; rw [n14] at z2; cases z2)
  have e16 : fit t W 16 = none := if_neg (fun z => by have z2 := z.2; change isWb t (W.2.1 0) (W.2.2 0) [97, 115, 107] = true at z2; rw [n0] at z2; cases z2)
  have e17 : fit t W 17 = none := if_neg (fun z => by have z2 := z.2; change isWb t (W.2.1 0) (W.2.2 0) [101, 120, 105, 116] = true at z2; rw [n6] at z2; cases z2)
  unfold anyFit
  rw [show List.range 18 = [0, 1, 2, 3, 4, 5, 6, 7, 8, 9, 10, 11, 12, 13, 14, 15, 16, 17] from rfl]
  simp only [List.any_cons, List.any_nil, e0, e1, e3, e4, e5, e6, e7, e8, e9, e10, e11, e12, e13, e14, e15, e16, e17, Option.isSome_none, Bool.or_false, Bool.false_or]
/-! the word size -/
theorem any_size (hk : isWb t (W.2.1 0) (W.2.2 0) [115, 105, 122, 101] = true) : anyFit t W = ((fit t W 4).isSome) := by
  have n0 := kw_n hk [97, 115, 107] (by decide) (by decide) (by decide)
  have n1 := kw_n hk [98, 97, 99, 107] (by decide) (by decide) (by decide)
  have n2 := kw_n hk [99, 97, 108, 108] (by decide) (by decide) (by decide)
  have n3 := kw_n hk [99, 111, 112, 121] (by decide) (by decide) (by decide)
  have n4 := kw_n hk [100, 114, 111, 112] (by decide) (by decide) (by decide)
  have n5 := kw_n hk [101, 114, 114] (by decide) (by decide) (by decide)
  have n6 := kw_n hk [101, 120, 105, 116] (by decide) (by decide) (by decide)
  have n7 := kw_n hk [103, 101, 116] (by decide) (by decide) (by decide)
  have n8 := kw_n hk [103, 111] (by decide) (by decide) (by decide)
  have n9 := kw_n hk [105, 102] (by decide) (by decide) (by decide)
  have n10 := kw_n hk [108, 101, 116] (by decide) (by decide) (by decide)
  have n11 := kw_n hk [111, 117, 116] (by decide) (by decide) (by decide)
  have n12 := kw_n hk [112, 117, 116] (by decide) (by decide) (by decide)
  have n13 := kw_n hk [114, 101, 97, 100] (by decide) (by decide) (by decide)
  have n14 := kw_n hk [114, 117, 110] (by decide) (by decide) (by decide)
  have n16 := kw_n hk [119, 114, 105, 116, 101] (by decide) (by decide) (by decide)
  have e0 : fit t W 0 = none := if_neg (fun z => by have z2 := z.2; change isWb t (W.2.1 0) (W.2.2 0) [108, 101, 116] = true at z2; rw [n10] at z2; cases z2)
  have e1 : fit t W 1 = none := if_neg (fun z => by have z2 := z.2; change isWb t (W.2.1 0) (W.2.2 0) [108, 101, 116] = true at z2; rw [n10] at z2; cases z2)
  have e2 : fit t W 2 = none := if_neg (fun z => by have z2 := z.2; change isWb t (W.2.1 0) (W.2.2 0) [103, 101, 116] = true at z2; rw [n7] at z2; cases z2)
  have e3 : fit t W 3 = none := if_neg (fun z => by have z2 := z.2; change isWb t (W.2.1 0) (W.2.2 0) [112, 117, 116] = true at z2; rw [n12] at z2; cases z2)
  have e5 : fit t W 5 = none := if_neg (fun z => by have z2 := z.2; change isWb t (W.2.1 0) (W.2.2 0) [114, 101, 97, 100] = true at z2; rw [n13] at z2; cases z2)
  have e6 : fit t W 6 = none := if_neg (fun z => by have z2 := z.2; change isWb t (W.2.1 0) (W.2.2 0) [119, 114, 105, 116, 101] = true at z2; rw [n16] at z2; cases z2)
  have e7 : fit t W 7 = none := if_neg (fun z => by have z2 := z.2; change isWb t (W.2.1 0) (W.2.2 0) [100, 114, 111, 112] = true at z2; rw [n4] at z2; cases z2)
  have e8 : fit t W 8 = none := if_neg (fun z => by have z2 := z.2; change isWb t (W.2.1 0) (W.2.2 0) [99, 111, 112, 121] = true at z2; rw [n3] at z2; cases z2)
  have e9 : fit t W 9 = none := if_neg (fun z => by have z2 := z.2; change isWb t (W.2.1 0) (W.2.2 0) [111, 117, 116] = true at z2; rw [n11] at z2; cases z2)
  have e10 : fit t W 10 = none := if_neg (fun z => by have z2 := z.2; change isWb t (W.2.1 0) (W.2.2 0) [101, 114, 114] = true at z2; rw [n5] at z2; cases z2)
  have e11 : fit t W 11 = none := if_neg (fun z => by have z2 := z.2; change isWb t (W.2.1 0) (W.2.2 0) [103, 111] = true at z2; rw [n8] at z2; cases z2)
  have e12 : fit t W 12 = none := if_neg (fun z => by have z2 := z.2; change isWb t (W.2.1 0) (W.2.2 0) [105, 102] = true at z2; rw [n9] at z2; cases z2)
  have e13 : fit t W 13 = none := if_neg (fun z => by have z2 := z.2; change isWb t (W.2.1 0) (W.2.2 0) [99, 97, 108, 108] = true at z2; rw [n2] at z2; cases z2)
  have e14 : fit t W 14 = none := if_neg (fun z => by have z2 := z.2; change isWb t (W.2.1 0) (W.2.2 0) [98, 97, 99, 107] = true at z2; rw [n1] at z2; cases z2)
  have e15 : fit t W 15 = none := if_neg (fun z => by have z2 := z.2; change isWb t (W.2.1 0) (W.2.2 0) [114, 117, 110] = true at z2; rw [n14] at z2; cases z2)
  have e16 : fit t W 16 = none := if_neg (fun z => by have z2 := z.2; change isWb t (W.2.1 0) (W.2.2 0) [97, 115, 107] = true at z2; rw [n0] at z2; cases z2)
  have e17 : fit t W 17 = none := if_neg (fun z => by have z2 := z.2; change isWb t (W.2.1 0) (W.2.2 0) [101, 120, 105, 116] = true at z2; rw [n6] at z2; cases z2)
  unfold anyFit
  rw [show List.range 18 = [0, 1, 2, 3, 4, 5, 6, 7, 8, 9, 10, 11, 12, 13, 14, 15, 16, 17] from rfl]
  simp only [List.any_cons, List.any_nil, e0, e1, e2, e3, e5, e6, e7, e8, e9, e10, e11, e12, e13, e14, e15, e16, e17, Option.isSome_none, Bool.or_false, Bool.false_or]
/-! the word ask -/
theorem any_ask (hk : isWb t (W.2.1 0) (W.2.2 0) [97, 115, 107] = true) : anyFit t W = ((fit t W 16).isSome) := by
  have n1 := kw_n hk [98, 97, 99, 107] (by decide) (by decide) (by decide)
  have n2 := kw_n hk [99, 97, 108, 108] (by decide) (by decide) (by decide)
  have n3 := kw_n hk [99, 111, 112, 121] (by decide) (by decide) (by decide)
  have n4 := kw_n hk [100, 114, 111, 112] (by decide) (by decide) (by decide)
  have n5 := kw_n hk [101, 114, 114] (by decide) (by decide) (by decide)
  have n6 := kw_n hk [101, 120, 105, 116] (by decide) (by decide) (by decide)
  have n7 := kw_n hk [103, 101, 116] (by decide) (by decide) (by decide)
  have n8 := kw_n hk [103, 111] (by decide) (by decide) (by decide)
  have n9 := kw_n hk [105, 102] (by decide) (by decide) (by decide)
  have n10 := kw_n hk [108, 101, 116] (by decide) (by decide) (by decide)
  have n11 := kw_n hk [111, 117, 116] (by decide) (by decide) (by decide)
  have n12 := kw_n hk [112, 117, 116] (by decide) (by decide) (by decide)
  have n13 := kw_n hk [114, 101, 97, 100] (by decide) (by decide) (by decide)
  have n14 := kw_n hk [114, 117, 110] (by decide) (by decide) (by decide)
  have n15 := kw_n hk [115, 105, 122, 101] (by decide) (by decide) (by decide)
  have n16 := kw_n hk [119, 114, 105, 116, 101] (by decide) (by decide) (by decide)
  have e0 : fit t W 0 = none := if_neg (fun z => by have z2 := z.2; change isWb t (W.2.1 0) (W.2.2 0) [108, 101, 116] = true at z2; rw [n10] at z2; cases z2)
  have e1 : fit t W 1 = none := if_neg (fun z => by have z2 := z.2; change isWb t (W.2.1 0) (W.2.2 0) [108, 101, 116] = true at z2; rw [n10] at z2; cases z2)
  have e2 : fit t W 2 = none := if_neg (fun z => by have z2 := z.2; change isWb t (W.2.1 0) (W.2.2 0) [103, 101, 116] = true at z2; rw [n7] at z2; cases z2)
  have e3 : fit t W 3 = none := if_neg (fun z => by have z2 := z.2; change isWb t (W.2.1 0) (W.2.2 0) [112, 117, 116] = true at z2; rw [n12] at z2; cases z2)
  have e4 : fit t W 4 = none := if_neg (fun z => by have z2 := z.2; change isWb t (W.2.1 0) (W.2.2 0) [115, 105, 122, 101] = true at z2; rw [n15] at z2; cases z2)
  have e5 : fit t W 5 = none := if_neg (fun z => by have z2 := z.2; change isWb t (W.2.1 0) (W.2.2 0) [114, 101, 97, 100] = true at z2; rw [n13] at z2; cases z2)
  have e6 : fit t W 6 = none := if_neg (fun z => by have z2 := z.2; change isWb t (W.2.1 0) (W.2.2 0) [119, 114, 105, 116, 101] = true at z2; rw [n16] at z2; cases z2)
  have e7 : fit t W 7 = none := if_neg (fun z => by have z2 := z.2; change isWb t (W.2.1 0) (W.2.2 0) [100, 114, 111, 112] = true at z2; rw [n4] at z2; cases z2)
  have e8 : fit t W 8 = none := if_neg (fun z => by have z2 := z.2; change isWb t (W.2.1 0) (W.2.2 0) [99, 111, 112, 121] = true at z2; rw [n3] at z2; cases z2)
  have e9 : fit t W 9 = none := if_neg (fun z => by have z2 := z.2; change isWb t (W.2.1 0) (W.2.2 0) [111, 117, 116] = true at z2; rw [n11] at z2; cases z2)
  have e10 : fit t W 10 = none := if_neg (fun z => by have z2 := z.2; change isWb t (W.2.1 0) (W.2.2 0) [101, 114, 114] = true at z2; rw [n5] at z2; cases z2)
  have e11 : fit t W 11 = none := if_neg (fun z => by have z2 := z.2; change isWb t (W.2.1 0) (W.2.2 0) [103, 111] = true at z2; rw [n8] at z2; cases z2)
  have e12 : fit t W 12 = none := if_neg (fun z => by have z2 := z.2; change isWb t (W.2.1 0) (W.2.2 0) [105, 102] = true at z2; rw [n9] at z2; cases z2)
  have e13 : fit t W 13 = none := if_neg (fun z => by have z2 := z.2; change isWb t (W.2.1 0) (W.2.2 0) [99, 97, 108, 108] = true at z2; rw [n2] at z2; cases z2)
  have e14 : fit t W 14 = none := if_neg (fun z => by have z2 := z.2; change isWb t (W.2.1 0) (W.2.2 0) [98, 97, 99, 107] = true at z2; rw [n1] at z2; cases z2)
  have e15 : fit t W 15 = none := if_neg (fun z => by have z2 := z.2; change isWb t (W.2.1 0) (W.2.2 0) [114, 117, 110] = true at z2; rw [n14] at z2; cases z2)
  have e17 : fit t W 17 = none := if_neg (fun z => by have z2 := z.2; change isWb t (W.2.1 0) (W.2.2 0) [101, 120, 105, 116] = true at z2; rw [n6] at z2; cases z2)
  unfold anyFit
  rw [show List.range 18 = [0, 1, 2, 3, 4, 5, 6, 7, 8, 9, 10, 11, 12, 13, 14, 15, 16, 17] from rfl]
  simp only [List.any_cons, List.any_nil, e0, e1, e2, e3, e4, e5, e6, e7, e8, e9, e10, e11, e12, e13, e14, e15, e17, Option.isSome_none, Bool.or_false, Bool.false_or]
/-! the word put -/
theorem any_put (hk : isWb t (W.2.1 0) (W.2.2 0) [112, 117, 116] = true) : anyFit t W = ((fit t W 3).isSome) := by
  have n0 := kw_n hk [97, 115, 107] (by decide) (by decide) (by decide)
  have n1 := kw_n hk [98, 97, 99, 107] (by decide) (by decide) (by decide)
  have n2 := kw_n hk [99, 97, 108, 108] (by decide) (by decide) (by decide)
  have n3 := kw_n hk [99, 111, 112, 121] (by decide) (by decide) (by decide)
  have n4 := kw_n hk [100, 114, 111, 112] (by decide) (by decide) (by decide)
  have n5 := kw_n hk [101, 114, 114] (by decide) (by decide) (by decide)
  have n6 := kw_n hk [101, 120, 105, 116] (by decide) (by decide) (by decide)
  have n7 := kw_n hk [103, 101, 116] (by decide) (by decide) (by decide)
  have n8 := kw_n hk [103, 111] (by decide) (by decide) (by decide)
  have n9 := kw_n hk [105, 102] (by decide) (by decide) (by decide)
  have n10 := kw_n hk [108, 101, 116] (by decide) (by decide) (by decide)
  have n11 := kw_n hk [111, 117, 116] (by decide) (by decide) (by decide)
  have n13 := kw_n hk [114, 101, 97, 100] (by decide) (by decide) (by decide)
  have n14 := kw_n hk [114, 117, 110] (by decide) (by decide) (by decide)
  have n15 := kw_n hk [115, 105, 122, 101] (by decide) (by decide) (by decide)
  have n16 := kw_n hk [119, 114, 105, 116, 101] (by decide) (by decide) (by decide)
  have e0 : fit t W 0 = none := if_neg (fun z => by have z2 := z.2; change isWb t (W.2.1 0) (W.2.2 0) [108, 101, 116] = true at z2; rw [n10] at z2; cases z2)
  have e1 : fit t W 1 = none := if_neg (fun z => by have z2 := z.2; change isWb t (W.2.1 0) (W.2.2 0) [108, 101, 116] = true at z2; rw [n10] at z2; cases z2)
  have e2 : fit t W 2 = none := if_neg (fun z => by have z2 := z.2; change isWb t (W.2.1 0) (W.2.2 0) [103, 101, 116] = true at z2; rw [n7] at z2; cases z2)
  have e4 : fit t W 4 = none := if_neg (fun z => by have z2 := z.2; change isWb t (W.2.1 0) (W.2.2 0) [115, 105, 122, 101] = true at z2; rw [n15] at z2; cases z2)
  have e5 : fit t W 5 = none := if_neg (fun z => by have z2 := z.2; change isWb t (W.2.1 0) (W.2.2 0) [114, 101, 97, 100] = true at z2; rw [n13] at z2; cases z2)
  have e6 : fit t W 6 = none := if_neg (fun z => by have z2 := z.2; change isWb t (W.2.1 0) (W.2.2 0) [119, 114, 105, 116, 101] = true at z2; rw [n16] at z2; cases z2)
  have e7 : fit t W 7 = none := if_neg (fun z => by have z2 := z.2; change isWb t (W.2.1 0) (W.2.2 0) [100, 114, 111, 112] = true at z2; rw [n4] at z2; cases z2)
  have e8 : fit t W 8 = none := if_neg (fun z => by have z2 := z.2; change isWb t (W.2.1 0) (W.2.2 0) [99, 111, 112, 121] = true at z2; rw [n3] at z2; cases z2)
  have e9 : fit t W 9 = none := if_neg (fun z => by have z2 := z.2; change isWb t (W.2.1 0) (W.2.2 0) [111, 117, 116] = true at z2; rw [n11] at z2; cases z2)
  have e10 : fit t W 10 = none := if_neg (fun z => by have z2 := z.2; change isWb t (W.2.1 0) (W.2.2 0) [101, 114, 114] = true at z2; rw [n5] at z2; cases z2)
  have e11 : fit t W 11 = none := if_neg (fun z => by have z2 := z.2; change isWb t (W.2.1 0) (W.2.2 0) [103, 111] = true at z2; rw [n8] at z2; cases z2)
  have e12 : fit t W 12 = none := if_neg (fun z => by have z2 := z.2; change isWb t (W.2.1 0) (W.2.2 0) [105, 102] = true at z2; rw [n9] at z2; cases z2)
  have e13 : fit t W 13 = none := if_neg (fun z => by have z2 := z.2; change isWb t (W.2.1 0) (W.2.2 0) [99, 97, 108, 108] = true at z2; rw [n2] at z2; cases z2)
  have e14 : fit t W 14 = none := if_neg (fun z => by have z2 := z.2; change isWb t (W.2.1 0) (W.2.2 0) [98, 97, 99, 107] = true at z2; rw [n1] at z2; cases z2)
  have e15 : fit t W 15 = none := if_neg (fun z => by have z2 := z.2; change isWb t (W.2.1 0) (W.2.2 0) [114, 117, 110] = true at z2; rw [n14] at z2; cases z2)
  have e16 : fit t W 16 = none := if_neg (fun z => by have z2 := z.2; change isWb t (W.2.1 0) (W.2.2 0) [97, 115, 107] = true at z2; rw [n0] at z2; cases z2)
  have e17 : fit t W 17 = none := if_neg (fun z => by have z2 := z.2; change isWb t (W.2.1 0) (W.2.2 0) [101, 120, 105, 116] = true at z2; rw [n6] at z2; cases z2)
  unfold anyFit
  rw [show List.range 18 = [0, 1, 2, 3, 4, 5, 6, 7, 8, 9, 10, 11, 12, 13, 14, 15, 16, 17] from rfl]
  simp only [List.any_cons, List.any_nil, e0, e1, e2, e4, e5, e6, e7, e8, e9, e10, e11, e12, e13, e14, e15, e16, e17, Option.isSome_none, Bool.or_false, Bool.false_or]
/-! the word write -/
theorem any_write (hk : isWb t (W.2.1 0) (W.2.2 0) [119, 114, 105, 116, 101] = true) : anyFit t W = ((fit t W 6).isSome) := by
  have n0 := kw_n hk [97, 115, 107] (by decide) (by decide) (by decide)
  have n1 := kw_n hk [98, 97, 99, 107] (by decide) (by decide) (by decide)
  have n2 := kw_n hk [99, 97, 108, 108] (by decide) (by decide) (by decide)
  have n3 := kw_n hk [99, 111, 112, 121] (by decide) (by decide) (by decide)
  have n4 := kw_n hk [100, 114, 111, 112] (by decide) (by decide) (by decide)
  have n5 := kw_n hk [101, 114, 114] (by decide) (by decide) (by decide)
  have n6 := kw_n hk [101, 120, 105, 116] (by decide) (by decide) (by decide)
  have n7 := kw_n hk [103, 101, 116] (by decide) (by decide) (by decide)
  have n8 := kw_n hk [103, 111] (by decide) (by decide) (by decide)
  have n9 := kw_n hk [105, 102] (by decide) (by decide) (by decide)
  have n10 := kw_n hk [108, 101, 116] (by decide) (by decide) (by decide)
  have n11 := kw_n hk [111, 117, 116] (by decide) (by decide) (by decide)
  have n12 := kw_n hk [112, 117, 116] (by decide) (by decide) (by decide)
  have n13 := kw_n hk [114, 101, 97, 100] (by decide) (by decide) (by decide)
  have n14 := kw_n hk [114, 117, 110] (by decide) (by decide) (by decide)
  have n15 := kw_n hk [115, 105, 122, 101] (by decide) (by decide) (by decide)
  have e0 : fit t W 0 = none := if_neg (fun z => by have z2 := z.2; change isWb t (W.2.1 0) (W.2.2 0) [108, 101, 116] = true at z2; rw [n10] at z2; cases z2)
  have e1 : fit t W 1 = none := if_neg (fun z => by have z2 := z.2; change isWb t (W.2.1 0) (W.2.2 0) [108, 101, 116] = true at z2; rw [n10] at z2; cases z2)
  have e2 : fit t W 2 = none := if_neg (fun z => by have z2 := z.2; change isWb t (W.2.1 0) (W.2.2 0) [103, 101, 116] = true at z2; rw [n7] at z2; cases z2)
  have e3 : fit t W 3 = none := if_neg (fun z => by have z2 := z.2; change isWb t (W.2.1 0) (W.2.2 0) [112, 117, 116] = true at z2; rw [n12] at z2; cases z2)
  have e4 : fit t W 4 = none := if_neg (fun z => by have z2 := z.2; change isWb t (W.2.1 0) (W.2.2 0) [115, 105, 122, 101] = true at z2; rw [n15] at z2; cases z2)
  have e5 : fit t W 5 = none := if_neg (fun z => by have z2 := z.2; change isWb t (W.2.1 0) (W.2.2 0) [114, 101, 97, 100] = true at z2; rw [n13] at z2; cases z2)
  have e7 : fit t W 7 = none := if_neg (fun z => by have z2 := z.2; change isWb t (W.2.1 0) (W.2.2 0) [100, 114, 111, 112] = true at z2; rw [n4] at z2; cases z2)
  have e8 : fit t W 8 = none := if_neg (fun z => by have z2 := z.2; change isWb t (W.2.1 0) (W.2.2 0) [99, 111, 112, 121] = true at z2; rw [n3] at z2; cases z2)
  have e9 : fit t W 9 = none := if_neg (fun z => by have z2 := z.2; change isWb t (W.2.1 0) (W.2.2 0) [111, 117, 116] = true at z2; rw [n11] at z2; cases z2)
  have e10 : fit t W 10 = none := if_neg (fun z => by have z2 := z.2; change isWb t (W.2.1 0) (W.2.2 0) [101, 114, 114] = true at z2; rw [n5] at z2; cases z2)
  have e11 : fit t W 11 = none := if_neg (fun z => by have z2 := z.2; change isWb t (W.2.1 0) (W.2.2 0) [103, 111] = true at z2; rw [n8] at z2; cases z2)
  have e12 : fit t W 12 = none := if_neg (fun z => by have z2 := z.2; change isWb t (W.2.1 0) (W.2.2 0) [105, 102] = true at z2; rw [n9] at z2; cases z2)
  have e13 : fit t W 13 = none := if_neg (fun z => by have z2 := z.2; change isWb t (W.2.1 0) (W.2.2 0) [99, 97, 108, 108] = true at z2; rw [n2] at z2; cases z2)
  have e14 : fit t W 14 = none := if_neg (fun z => by have z2 := z.2; change isWb t (W.2.1 0) (W.2.2 0) [98, 97, 99, 107] = true at z2; rw [n1] at z2; cases z2)
  have e15 : fit t W 15 = none := if_neg (fun z => by have z2 := z.2; change isWb t (W.2.1 0) (W.2.2 0) [114, 117, 110] = true at z2; rw [n14] at z2; cases z2)
  have e16 : fit t W 16 = none := if_neg (fun z => by have z2 := z.2; change isWb t (W.2.1 0) (W.2.2 0) [97, 115, 107] = true at z2; rw [n0] at z2; cases z2)
  have e17 : fit t W 17 = none := if_neg (fun z => by have z2 := z.2; change isWb t (W.2.1 0) (W.2.2 0) [101, 120, 105, 116] = true at z2; rw [n6] at z2; cases z2)
  unfold anyFit
  rw [show List.range 18 = [0, 1, 2, 3, 4, 5, 6, 7, 8, 9, 10, 11, 12, 13, 14, 15, 16, 17] from rfl]
  simp only [List.any_cons, List.any_nil, e0, e1, e2, e3, e4, e5, e7, e8, e9, e10, e11, e12, e13, e14, e15, e16, e17, Option.isSome_none, Bool.or_false, Bool.false_or]
/-! the word copy -/
theorem any_copy (hk : isWb t (W.2.1 0) (W.2.2 0) [99, 111, 112, 121] = true) : anyFit t W = ((fit t W 8).isSome) := by
  have n0 := kw_n hk [97, 115, 107] (by decide) (by decide) (by decide)
  have n1 := kw_n hk [98, 97, 99, 107] (by decide) (by decide) (by decide)
  have n2 := kw_n hk [99, 97, 108, 108] (by decide) (by decide) (by decide)
  have n4 := kw_n hk [100, 114, 111, 112] (by decide) (by decide) (by decide)
  have n5 := kw_n hk [101, 114, 114] (by decide) (by decide) (by decide)
  have n6 := kw_n hk [101, 120, 105, 116] (by decide) (by decide) (by decide)
  have n7 := kw_n hk [103, 101, 116] (by decide) (by decide) (by decide)
  have n8 := kw_n hk [103, 111] (by decide) (by decide) (by decide)
  have n9 := kw_n hk [105, 102] (by decide) (by decide) (by decide)
  have n10 := kw_n hk [108, 101, 116] (by decide) (by decide) (by decide)
  have n11 := kw_n hk [111, 117, 116] (by decide) (by decide) (by decide)
  have n12 := kw_n hk [112, 117, 116] (by decide) (by decide) (by decide)
  have n13 := kw_n hk [114, 101, 97, 100] (by decide) (by decide) (by decide)
  have n14 := kw_n hk [114, 117, 110] (by decide) (by decide) (by decide)
  have n15 := kw_n hk [115, 105, 122, 101] (by decide) (by decide) (by decide)
  have n16 := kw_n hk [119, 114, 105, 116, 101] (by decide) (by decide) (by decide)
  have e0 : fit t W 0 = none := if_neg (fun z => by have z2 := z.2; change isWb t (W.2.1 0) (W.2.2 0) [108, 101, 116] = true at z2; rw [n10] at z2; cases z2)
  have e1 : fit t W 1 = none := if_neg (fun z => by have z2 := z.2; change isWb t (W.2.1 0) (W.2.2 0) [108, 101, 116] = true at z2; rw [n10] at z2; cases z2)
  have e2 : fit t W 2 = none := if_neg (fun z => by have z2 := z.2; change isWb t (W.2.1 0) (W.2.2 0) [103, 101, 116] = true at z2; rw [n7] at z2; cases z2)
  have e3 : fit t W 3 = none := if_neg (fun z => by have z2 := z.2; change isWb t (W.2.1 0) (W.2.2 0) [112, 117, 116] = true at z2; rw [n12] at z2; cases z2)
  have e4 : fit t W 4 = none := if_neg (fun z => by have z2 := z.2; change isWb t (W.2.1 0) (W.2.2 0) [115, 105, 122, 101] = true at z2; rw [n15] at z2; cases z2)
  have e5 : fit t W 5 = none := if_neg (fun z => by have z2 := z.2; change isWb t (W.2.1 0) (W.2.2 0) [114, 101, 97, 100] = true at z2; rw [n13] at z2; cases z2)
  have e6 : fit t W 6 = none := if_neg (fun z => by have z2 := z.2; change isWb t (W.2.1 0) (W.2.2 0) [119, 114, 105, 116, 101] = true at z2; rw [n16] at z2; cases z2)
  have e7 : fit t W 7 = none := if_neg (fun z => by have z2 := z.2; change isWb t (W.2.1 0) (W.2.2 0) [100, 114, 111, 112] = true at z2; rw [n4] at z2; cases z2)
  have e9 : fit t W 9 = none := if_neg (fun z => by have z2 := z.2; change isWb t (W.2.1 0) (W.2.2 0) [111, 117, 116] = true at z2; rw [n11] at z2; cases z2)
  have e10 : fit t W 10 = none := if_neg (fun z => by have z2 := z.2; change isWb t (W.2.1 0) (W.2.2 0) [101, 114, 114] = true at z2; rw [n5] at z2; cases z2)
  have e11 : fit t W 11 = none := if_neg (fun z => by have z2 := z.2; change isWb t (W.2.1 0) (W.2.2 0) [103, 111] = true at z2; rw [n8] at z2; cases z2)
  have e12 : fit t W 12 = none := if_neg (fun z => by have z2 := z.2; change isWb t (W.2.1 0) (W.2.2 0) [105, 102] = true at z2; rw [n9] at z2; cases z2)
  have e13 : fit t W 13 = none := if_neg (fun z => by have z2 := z.2; change isWb t (W.2.1 0) (W.2.2 0) [99, 97, 108, 108] = true at z2; rw [n2] at z2; cases z2)
  have e14 : fit t W 14 = none := if_neg (fun z => by have z2 := z.2; change isWb t (W.2.1 0) (W.2.2 0) [98, 97, 99, 107] = true at z2; rw [n1] at z2; cases z2)
  have e15 : fit t W 15 = none := if_neg (fun z => by have z2 := z.2; change isWb t (W.2.1 0) (W.2.2 0) [114, 117, 110] = true at z2; rw [n14] at z2; cases z2)
  have e16 : fit t W 16 = none := if_neg (fun z => by have z2 := z.2; change isWb t (W.2.1 0) (W.2.2 0) [97, 115, 107] = true at z2; rw [n0] at z2; cases z2)
  have e17 : fit t W 17 = none := if_neg (fun z => by have z2 := z.2; change isWb t (W.2.1 0) (W.2.2 0) [101, 120, 105, 116] = true at z2; rw [n6] at z2; cases z2)
  unfold anyFit
  rw [show List.range 18 = [0, 1, 2, 3, 4, 5, 6, 7, 8, 9, 10, 11, 12, 13, 14, 15, 16, 17] from rfl]
  simp only [List.any_cons, List.any_nil, e0, e1, e2, e3, e4, e5, e6, e7, e9, e10, e11, e12, e13, e14, e15, e16, e17, Option.isSome_none, Bool.or_false, Bool.false_or]
/-! the word read -/
theorem any_read (hk : isWb t (W.2.1 0) (W.2.2 0) [114, 101, 97, 100] = true) : anyFit t W = ((fit t W 5).isSome) := by
  have n0 := kw_n hk [97, 115, 107] (by decide) (by decide) (by decide)
  have n1 := kw_n hk [98, 97, 99, 107] (by decide) (by decide) (by decide)
  have n2 := kw_n hk [99, 97, 108, 108] (by decide) (by decide) (by decide)
  have n3 := kw_n hk [99, 111, 112, 121] (by decide) (by decide) (by decide)
  have n4 := kw_n hk [100, 114, 111, 112] (by decide) (by decide) (by decide)
  have n5 := kw_n hk [101, 114, 114] (by decide) (by decide) (by decide)
  have n6 := kw_n hk [101, 120, 105, 116] (by decide) (by decide) (by decide)
  have n7 := kw_n hk [103, 101, 116] (by decide) (by decide) (by decide)
  have n8 := kw_n hk [103, 111] (by decide) (by decide) (by decide)
  have n9 := kw_n hk [105, 102] (by decide) (by decide) (by decide)
  have n10 := kw_n hk [108, 101, 116] (by decide) (by decide) (by decide)
  have n11 := kw_n hk [111, 117, 116] (by decide) (by decide) (by decide)
  have n12 := kw_n hk [112, 117, 116] (by decide) (by decide) (by decide)
  have n14 := kw_n hk [114, 117, 110] (by decide) (by decide) (by decide)
  have n15 := kw_n hk [115, 105, 122, 101] (by decide) (by decide) (by decide)
  have n16 := kw_n hk [119, 114, 105, 116, 101] (by decide) (by decide) (by decide)
  have e0 : fit t W 0 = none := if_neg (fun z => by have z2 := z.2; change isWb t (W.2.1 0) (W.2.2 0) [108, 101, 116] = true at z2; rw [n10] at z2; cases z2)
  have e1 : fit t W 1 = none := if_neg (fun z => by have z2 := z.2; change isWb t (W.2.1 0) (W.2.2 0) [108, 101, 116] = true at z2; rw [n10] at z2; cases z2)
  have e2 : fit t W 2 = none := if_neg (fun z => by have z2 := z.2; change isWb t (W.2.1 0) (W.2.2 0) [103, 101, 116] = true at z2; rw [n7] at z2; cases z2)
  have e3 : fit t W 3 = none := if_neg (fun z => by have z2 := z.2; change isWb t (W.2.1 0) (W.2.2 0) [112, 117, 116] = true at z2; rw [n12] at z2; cases z2)
  have e4 : fit t W 4 = none := if_neg (fun z => by have z2 := z.2; change isWb t (W.2.1 0) (W.2.2 0) [115, 105, 122, 101] = true at z2; rw [n15] at z2; cases z2)
  have e6 : fit t W 6 = none := if_neg (fun z => by have z2 := z.2; change isWb t (W.2.1 0) (W.2.2 0) [119, 114, 105, 116, 101] = true at z2; rw [n16] at z2; cases z2)
  have e7 : fit t W 7 = none := if_neg (fun z => by have z2 := z.2; change isWb t (W.2.1 0) (W.2.2 0) [100, 114, 111, 112] = true at z2; rw [n4] at z2; cases z2)
  have e8 : fit t W 8 = none := if_neg (fun z => by have z2 := z.2; change isWb t (W.2.1 0) (W.2.2 0) [99, 111, 112, 121] = true at z2; rw [n3] at z2; cases z2)
  have e9 : fit t W 9 = none := if_neg (fun z => by have z2 := z.2; change isWb t (W.2.1 0) (W.2.2 0) [111, 117, 116] = true at z2; rw [n11] at z2; cases z2)
  have e10 : fit t W 10 = none := if_neg (fun z => by have z2 := z.2; change isWb t (W.2.1 0) (W.2.2 0) [101, 114, 114] = true at z2; rw [n5] at z2; cases z2)
  have e11 : fit t W 11 = none := if_neg (fun z => by have z2 := z.2; change isWb t (W.2.1 0) (W.2.2 0) [103, 111] = true at z2; rw [n8] at z2; cases z2)
  have e12 : fit t W 12 = none := if_neg (fun z => by have z2 := z.2; change isWb t (W.2.1 0) (W.2.2 0) [105, 102] = true at z2; rw [n9] at z2; cases z2)
  have e13 : fit t W 13 = none := if_neg (fun z => by have z2 := z.2; change isWb t (W.2.1 0) (W.2.2 0) [99, 97, 108, 108] = true at z2; rw [n2] at z2; cases z2)
  have e14 : fit t W 14 = none := if_neg (fun z => by have z2 := z.2; change isWb t (W.2.1 0) (W.2.2 0) [98, 97, 99, 107] = true at z2; rw [n1] at z2; cases z2)
  have e15 : fit t W 15 = none := if_neg (fun z => by have z2 := z.2; change isWb t (W.2.1 0) (W.2.2 0) [114, 117, 110] = true at z2; rw [n14] at z2; cases z2)
  have e16 : fit t W 16 = none := if_neg (fun z => by have z2 := z.2; change isWb t (W.2.1 0) (W.2.2 0) [97, 115, 107] = true at z2; rw [n0] at z2; cases z2)
  have e17 : fit t W 17 = none := if_neg (fun z => by have z2 := z.2; change isWb t (W.2.1 0) (W.2.2 0) [101, 120, 105, 116] = true at z2; rw [n6] at z2; cases z2)
  unfold anyFit
  rw [show List.range 18 = [0, 1, 2, 3, 4, 5, 6, 7, 8, 9, 10, 11, 12, 13, 14, 15, 16, 17] from rfl]
  simp only [List.any_cons, List.any_nil, e0, e1, e2, e3, e4, e6, e7, e8, e9, e10, e11, e12, e13, e14, e15, e16, e17, Option.isSome_none, Bool.or_false, Bool.false_or]
/-! the word run -/
theorem any_run (hk : isWb t (W.2.1 0) (W.2.2 0) [114, 117, 110] = true) : anyFit t W = ((fit t W 15).isSome) := by
  have n0 := kw_n hk [97, 115, 107] (by decide) (by decide) (by decide)
  have n1 := kw_n hk [98, 97, 99, 107] (by decide) (by decide) (by decide)
  have n2 := kw_n hk [99, 97, 108, 108] (by decide) (by decide) (by decide)
  have n3 := kw_n hk [99, 111, 112, 121] (by decide) (by decide) (by decide)
  have n4 := kw_n hk [100, 114, 111, 112] (by decide) (by decide) (by decide)
  have n5 := kw_n hk [101, 114, 114] (by decide) (by decide) (by decide)
  have n6 := kw_n hk [101, 120, 105, 116] (by decide) (by decide) (by decide)
  have n7 := kw_n hk [103, 101, 116] (by decide) (by decide) (by decide)
  have n8 := kw_n hk [103, 111] (by decide) (by decide) (by decide)
  have n9 := kw_n hk [105, 102] (by decide) (by decide) (by decide)
  have n10 := kw_n hk [108, 101, 116] (by decide) (by decide) (by decide)
  have n11 := kw_n hk [111, 117, 116] (by decide) (by decide) (by decide)
  have n12 := kw_n hk [112, 117, 116] (by decide) (by decide) (by decide)
  have n13 := kw_n hk [114, 101, 97, 100] (by decide) (by decide) (by decide)
  have n15 := kw_n hk [115, 105, 122, 101] (by decide) (by decide) (by decide)
  have n16 := kw_n hk [119, 114, 105, 116, 101] (by decide) (by decide) (by decide)
  have e0 : fit t W 0 = none := if_neg (fun z => by have z2 := z.2; change isWb t (W.2.1 0) (W.2.2 0) [108, 101, 116] = true at z2; rw [n10] at z2; cases z2)
  have e1 : fit t W 1 = none := if_neg (fun z => by have z2 := z.2; change isWb t (W.2.1 0) (W.2.2 0) [108, 101, 116] = true at z2; rw [n10] at z2; cases z2)
  have e2 : fit t W 2 = none := if_neg (fun z => by have z2 := z.2; change isWb t (W.2.1 0) (W.2.2 0) [103, 101, 116] = true at z2; rw [n7] at z2; cases z2)
  have e3 : fit t W 3 = none := if_neg (fun z => by have z2 := z.2; change isWb t (W.2.1 0) (W.2.2 0) [112, 117, 116] = true at z2; rw [n12] at z2; cases z2)
  have e4 : fit t W 4 = none := if_neg (fun z => by have z2 := z.2; change isWb t (W.2.1 0) (W.2.2 0) [115, 105, 122, 101] = true at z2; rw [n15] at z2; cases z2)
  have e5 : fit t W 5 = none := if_neg (fun z => by have z2 := z.2; change isWb t (W.2.1 0) (W.2.2 0) [114, 101, 97, 100] = true at z2; rw [n13] at z2; cases z2)
  have e6 : fit t W 6 = none := if_neg (fun z => by have z2 := z.2; change isWb t (W.2.1 0) (W.2.2 0) [119, 114, 105, 116, 101] = true at z2; rw [n16] at z2; cases z2)
  have e7 : fit t W 7 = none := if_neg (fun z => by have z2 := z.2; change isWb t (W.2.1 0) (W.2.2 0) [100, 114, 111, 112] = true at z2; rw [n4] at z2; cases z2)
  have e8 : fit t W 8 = none := if_neg (fun z => by have z2 := z.2; change isWb t (W.2.1 0) (W.2.2 0) [99, 111, 112, 121] = true at z2; rw [n3] at z2; cases z2)
  have e9 : fit t W 9 = none := if_neg (fun z => by have z2 := z.2; change isWb t (W.2.1 0) (W.2.2 0) [111, 117, 116] = true at z2; rw [n11] at z2; cases z2)
  have e10 : fit t W 10 = none := if_neg (fun z => by have z2 := z.2; change isWb t (W.2.1 0) (W.2.2 0) [101, 114, 114] = true at z2; rw [n5] at z2; cases z2)
  have e11 : fit t W 11 = none := if_neg (fun z => by have z2 := z.2; change isWb t (W.2.1 0) (W.2.2 0) [103, 111] = true at z2; rw [n8] at z2; cases z2)
  have e12 : fit t W 12 = none := if_neg (fun z => by have z2 := z.2; change isWb t (W.2.1 0) (W.2.2 0) [105, 102] = true at z2; rw [n9] at z2; cases z2)
  have e13 : fit t W 13 = none := if_neg (fun z => by have z2 := z.2; change isWb t (W.2.1 0) (W.2.2 0) [99, 97, 108, 108] = true at z2; rw [n2] at z2; cases z2)
  have e14 : fit t W 14 = none := if_neg (fun z => by have z2 := z.2; change isWb t (W.2.1 0) (W.2.2 0) [98, 97, 99, 107] = true at z2; rw [n1] at z2; cases z2)
  have e16 : fit t W 16 = none := if_neg (fun z => by have z2 := z.2; change isWb t (W.2.1 0) (W.2.2 0) [97, 115, 107] = true at z2; rw [n0] at z2; cases z2)
  have e17 : fit t W 17 = none := if_neg (fun z => by have z2 := z.2; change isWb t (W.2.1 0) (W.2.2 0) [101, 120, 105, 116] = true at z2; rw [n6] at z2; cases z2)
  unfold anyFit
  rw [show List.range 18 = [0, 1, 2, 3, 4, 5, 6, 7, 8, 9, 10, 11, 12, 13, 14, 15, 16, 17] from rfl]
  simp only [List.any_cons, List.any_nil, e0, e1, e2, e3, e4, e5, e6, e7, e8, e9, e10, e11, e12, e13, e14, e16, e17, Option.isSome_none, Bool.or_false, Bool.false_or]
/-! the word drop -/
theorem any_drop (hk : isWb t (W.2.1 0) (W.2.2 0) [100, 114, 111, 112] = true) : anyFit t W = ((fit t W 7).isSome) := by
  have n0 := kw_n hk [97, 115, 107] (by decide) (by decide) (by decide)
  have n1 := kw_n hk [98, 97, 99, 107] (by decide) (by decide) (by decide)
  have n2 := kw_n hk [99, 97, 108, 108] (by decide) (by decide) (by decide)
  have n3 := kw_n hk [99, 111, 112, 121] (by decide) (by decide) (by decide)
  have n5 := kw_n hk [101, 114, 114] (by decide) (by decide) (by decide)
  have n6 := kw_n hk [101, 120, 105, 116] (by decide) (by decide) (by decide)
  have n7 := kw_n hk [103, 101, 116] (by decide) (by decide) (by decide)
  have n8 := kw_n hk [103, 111] (by decide) (by decide) (by decide)
  have n9 := kw_n hk [105, 102] (by decide) (by decide) (by decide)
  have n10 := kw_n hk [108, 101, 116] (by decide) (by decide) (by decide)
  have n11 := kw_n hk [111, 117, 116] (by decide) (by decide) (by decide)
  have n12 := kw_n hk [112, 117, 116] (by decide) (by decide) (by decide)
  have n13 := kw_n hk [114, 101, 97, 100] (by decide) (by decide) (by decide)
  have n14 := kw_n hk [114, 117, 110] (by decide) (by decide) (by decide)
  have n15 := kw_n hk [115, 105, 122, 101] (by decide) (by decide) (by decide)
  have n16 := kw_n hk [119, 114, 105, 116, 101] (by decide) (by decide) (by decide)
  have e0 : fit t W 0 = none := if_neg (fun z => by have z2 := z.2; change isWb t (W.2.1 0) (W.2.2 0) [108, 101, 116] = true at z2; rw [n10] at z2; cases z2)
  have e1 : fit t W 1 = none := if_neg (fun z => by have z2 := z.2; change isWb t (W.2.1 0) (W.2.2 0) [108, 101, 116] = true at z2; rw [n10] at z2; cases z2)
  have e2 : fit t W 2 = none := if_neg (fun z => by have z2 := z.2; change isWb t (W.2.1 0) (W.2.2 0) [103, 101, 116] = true at z2; rw [n7] at z2; cases z2)
  have e3 : fit t W 3 = none := if_neg (fun z => by have z2 := z.2; change isWb t (W.2.1 0) (W.2.2 0) [112, 117, 116] = true at z2; rw [n12] at z2; cases z2)
  have e4 : fit t W 4 = none := if_neg (fun z => by have z2 := z.2; change isWb t (W.2.1 0) (W.2.2 0) [115, 105, 122, 101] = true at z2; rw [n15] at z2; cases z2)
  have e5 : fit t W 5 = none := if_neg (fun z => by have z2 := z.2; change isWb t (W.2.1 0) (W.2.2 0) [114, 101, 97, 100] = true at z2; rw [n13] at z2; cases z2)
  have e6 : fit t W 6 = none := if_neg (fun z => by have z2 := z.2; change isWb t (W.2.1 0) (W.2.2 0) [119, 114, 105, 116, 101] = true at z2; rw [n16] at z2; cases z2)
  have e8 : fit t W 8 = none := if_neg (fun z => by have z2 := z.2; change isWb t (W.2.1 0) (W.2.2 0) [99, 111, 112, 121] = true at z2; rw [n3] at z2; cases z2)
  have e9 : fit t W 9 = none := if_neg (fun z => by have z2 := z.2; change isWb t (W.2.1 0) (W.2.2 0) [111, 117, 116] = true at z2; rw [n11] at z2; cases z2)
  have e10 : fit t W 10 = none := if_neg (fun z => by have z2 := z.2; change isWb t (W.2.1 0) (W.2.2 0) [101, 114, 114] = true at z2; rw [n5] at z2; cases z2)
  have e11 : fit t W 11 = none := if_neg (fun z => by have z2 := z.2; change isWb t (W.2.1 0) (W.2.2 0) [103, 111] = true at z2; rw [n8] at z2; cases z2)
  have e12 : fit t W 12 = none := if_neg (fun z => by have z2 := z.2; change isWb t (W.2.1 0) (W.2.2 0) [105, 102] = true at z2; rw [n9] at z2; cases z2)
  have e13 : fit t W 13 = none := if_neg (fun z => by have z2 := z.2; change isWb t (W.2.1 0) (W.2.2 0) [99, 97, 108, 108] = true at z2; rw [n2] at z2; cases z2)
  have e14 : fit t W 14 = none := if_neg (fun z => by have z2 := z.2; change isWb t (W.2.1 0) (W.2.2 0) [98, 97, 99, 107] = true at z2; rw [n1] at z2; cases z2)
  have e15 : fit t W 15 = none := if_neg (fun z => by have z2 := z.2; change isWb t (W.2.1 0) (W.2.2 0) [114, 117, 110] = true at z2; rw [n14] at z2; cases z2)
  have e16 : fit t W 16 = none := if_neg (fun z => by have z2 := z.2; change isWb t (W.2.1 0) (W.2.2 0) [97, 115, 107] = true at z2; rw [n0] at z2; cases z2)
  have e17 : fit t W 17 = none := if_neg (fun z => by have z2 := z.2; change isWb t (W.2.1 0) (W.2.2 0) [101, 120, 105, 116] = true at z2; rw [n6] at z2; cases z2)
  unfold anyFit
  rw [show List.range 18 = [0, 1, 2, 3, 4, 5, 6, 7, 8, 9, 10, 11, 12, 13, 14, 15, 16, 17] from rfl]
  simp only [List.any_cons, List.any_nil, e0, e1, e2, e3, e4, e5, e6, e8, e9, e10, e11, e12, e13, e14, e15, e16, e17, Option.isSome_none, Bool.or_false, Bool.false_or]
/-! the word out -/
theorem any_out (hk : isWb t (W.2.1 0) (W.2.2 0) [111, 117, 116] = true) : anyFit t W = ((fit t W 9).isSome) := by
  have n0 := kw_n hk [97, 115, 107] (by decide) (by decide) (by decide)
  have n1 := kw_n hk [98, 97, 99, 107] (by decide) (by decide) (by decide)
  have n2 := kw_n hk [99, 97, 108, 108] (by decide) (by decide) (by decide)
  have n3 := kw_n hk [99, 111, 112, 121] (by decide) (by decide) (by decide)
  have n4 := kw_n hk [100, 114, 111, 112] (by decide) (by decide) (by decide)
  have n5 := kw_n hk [101, 114, 114] (by decide) (by decide) (by decide)
  have n6 := kw_n hk [101, 120, 105, 116] (by decide) (by decide) (by decide)
  have n7 := kw_n hk [103, 101, 116] (by decide) (by decide) (by decide)
  have n8 := kw_n hk [103, 111] (by decide) (by decide) (by decide)
  have n9 := kw_n hk [105, 102] (by decide) (by decide) (by decide)
  have n10 := kw_n hk [108, 101, 116] (by decide) (by decide) (by decide)
  have n12 := kw_n hk [112, 117, 116] (by decide) (by decide) (by decide)
  have n13 := kw_n hk [114, 101, 97, 100] (by decide) (by decide) (by decide)
  have n14 := kw_n hk [114, 117, 110] (by decide) (by decide) (by decide)
  have n15 := kw_n hk [115, 105, 122, 101] (by decide) (by decide) (by decide)
  have n16 := kw_n hk [119, 114, 105, 116, 101] (by decide) (by decide) (by decide)
  have e0 : fit t W 0 = none := if_neg (fun z => by have z2 := z.2; change isWb t (W.2.1 0) (W.2.2 0) [108, 101, 116] = true at z2; rw [n10] at z2; cases z2)
  have e1 : fit t W 1 = none := if_neg (fun z => by have z2 := z.2; change isWb t (W.2.1 0) (W.2.2 0) [108, 101, 116] = true at z2; rw [n10] at z2; cases z2)
  have e2 : fit t W 2 = none := if_neg (fun z => by have z2 := z.2; change isWb t (W.2.1 0) (W.2.2 0) [103, 101, 116] = true at z2; rw [n7] at z2; cases z2)
  have e3 : fit t W 3 = none := if_neg (fun z => by have z2 := z.2; change isWb t (W.2.1 0) (W.2.2 0) [112, 117, 116] = true at z2; rw [n12] at z2; cases z2)
  have e4 : fit t W 4 = none := if_neg (fun z => by have z2 := z.2; change isWb t (W.2.1 0) (W.2.2 0) [115, 105, 122, 101] = true at z2; rw [n15] at z2; cases z2)
  have e5 : fit t W 5 = none := if_neg (fun z => by have z2 := z.2; change isWb t (W.2.1 0) (W.2.2 0) [114, 101, 97, 100] = true at z2; rw [n13] at z2; cases z2)
  have e6 : fit t W 6 = none := if_neg (fun z => by have z2 := z.2; change isWb t (W.2.1 0) (W.2.2 0) [119, 114, 105, 116, 101] = true at z2; rw [n16] at z2; cases z2)
  have e7 : fit t W 7 = none := if_neg (fun z => by have z2 := z.2; change isWb t (W.2.1 0) (W.2.2 0) [100, 114, 111, 112] = true at z2; rw [n4] at z2; cases z2)
  have e8 : fit t W 8 = none := if_neg (fun z => by have z2 := z.2; change isWb t (W.2.1 0) (W.2.2 0) [99, 111, 112, 121] = true at z2; rw [n3] at z2; cases z2)
  have e10 : fit t W 10 = none := if_neg (fun z => by have z2 := z.2; change isWb t (W.2.1 0) (W.2.2 0) [101, 114, 114] = true at z2; rw [n5] at z2; cases z2)
  have e11 : fit t W 11 = none := if_neg (fun z => by have z2 := z.2; change isWb t (W.2.1 0) (W.2.2 0) [103, 111] = true at z2; rw [n8] at z2; cases z2)
  have e12 : fit t W 12 = none := if_neg (fun z => by have z2 := z.2; change isWb t (W.2.1 0) (W.2.2 0) [105, 102] = true at z2; rw [n9] at z2; cases z2)
  have e13 : fit t W 13 = none := if_neg (fun z => by have z2 := z.2; change isWb t (W.2.1 0) (W.2.2 0) [99, 97, 108, 108] = true at z2; rw [n2] at z2; cases z2)
  have e14 : fit t W 14 = none := if_neg (fun z => by have z2 := z.2; change isWb t (W.2.1 0) (W.2.2 0) [98, 97, 99, 107] = true at z2; rw [n1] at z2; cases z2)
  have e15 : fit t W 15 = none := if_neg (fun z => by have z2 := z.2; change isWb t (W.2.1 0) (W.2.2 0) [114, 117, 110] = true at z2; rw [n14] at z2; cases z2)
  have e16 : fit t W 16 = none := if_neg (fun z => by have z2 := z.2; change isWb t (W.2.1 0) (W.2.2 0) [97, 115, 107] = true at z2; rw [n0] at z2; cases z2)
  have e17 : fit t W 17 = none := if_neg (fun z => by have z2 := z.2; change isWb t (W.2.1 0) (W.2.2 0) [101, 120, 105, 116] = true at z2; rw [n6] at z2; cases z2)
  unfold anyFit
  rw [show List.range 18 = [0, 1, 2, 3, 4, 5, 6, 7, 8, 9, 10, 11, 12, 13, 14, 15, 16, 17] from rfl]
  simp only [List.any_cons, List.any_nil, e0, e1, e2, e3, e4, e5, e6, e7, e8, e10, e11, e12, e13, e14, e15, e16, e17, Option.isSome_none, Bool.or_false, Bool.false_or]
/-! the word err -/
theorem any_err (hk : isWb t (W.2.1 0) (W.2.2 0) [101, 114, 114] = true) : anyFit t W = ((fit t W 10).isSome) := by
  have n0 := kw_n hk [97, 115, 107] (by decide) (by decide) (by decide)
  have n1 := kw_n hk [98, 97, 99, 107] (by decide) (by decide) (by decide)
  have n2 := kw_n hk [99, 97, 108, 108] (by decide) (by decide) (by decide)
  have n3 := kw_n hk [99, 111, 112, 121] (by decide) (by decide) (by decide)
  have n4 := kw_n hk [100, 114, 111, 112] (by decide) (by decide) (by decide)
  have n6 := kw_n hk [101, 120, 105, 116] (by decide) (by decide) (by decide)
  have n7 := kw_n hk [103, 101, 116] (by decide) (by decide) (by decide)
  have n8 := kw_n hk [103, 111] (by decide) (by decide) (by decide)
  have n9 := kw_n hk [105, 102] (by decide) (by decide) (by decide)
  have n10 := kw_n hk [108, 101, 116] (by decide) (by decide) (by decide)
  have n11 := kw_n hk [111, 117, 116] (by decide) (by decide) (by decide)
  have n12 := kw_n hk [112, 117, 116] (by decide) (by decide) (by decide)
  have n13 := kw_n hk [114, 101, 97, 100] (by decide) (by decide) (by decide)
  have n14 := kw_n hk [114, 117, 110] (by decide) (by decide) (by decide)
  have n15 := kw_n hk [115, 105, 122, 101] (by decide) (by decide) (by decide)
  have n16 := kw_n hk [119, 114, 105, 116, 101] (by decide) (by decide) (by decide)
  have e0 : fit t W 0 = none := if_neg (fun z => by have z2 := z.2; change isWb t (W.2.1 0) (W.2.2 0) [108, 101, 116] = true at z2; rw [n10] at z2; cases z2)
  have e1 : fit t W 1 = none := if_neg (fun z => by have z2 := z.2; change isWb t (W.2.1 0) (W.2.2 0) [108, 101, 116] = true at z2; rw [n10] at z2; cases z2)
  have e2 : fit t W 2 = none := if_neg (fun z => by have z2 := z.2; change isWb t (W.2.1 0) (W.2.2 0) [103, 101, 116] = true at z2; rw [n7] at z2; cases z2)
  have e3 : fit t W 3 = none := if_neg (fun z => by have z2 := z.2; change isWb t (W.2.1 0) (W.2.2 0) [112, 117, 116] = true at z2; rw [n12] at z2; cases z2)
  have e4 : fit t W 4 = none := if_neg (fun z => by have z2 := z.2; change isWb t (W.2.1 0) (W.2.2 0) [115, 105, 122, 101] = true at z2; rw [n15] at z2; cases z2)
  have e5 : fit t W 5 = none := if_neg (fun z => by have z2 := z.2; change isWb t (W.2.1 0) (W.2.2 0) [114, 101, 97, 100] = true at z2; rw [n13] at z2; cases z2)
  have e6 : fit t W 6 = none := if_neg (fun z => by have z2 := z.2; change isWb t (W.2.1 0) (W.2.2 0) [119, 114, 105, 116, 101] = true at z2; rw [n16] at z2; cases z2)
  have e7 : fit t W 7 = none := if_neg (fun z => by have z2 := z.2; change isWb t (W.2.1 0) (W.2.2 0) [100, 114, 111, 112] = true at z2; rw [n4] at z2; cases z2)
  have e8 : fit t W 8 = none := if_neg (fun z => by have z2 := z.2; change isWb t (W.2.1 0) (W.2.2 0) [99, 111, 112, 121] = true at z2; rw [n3] at z2; cases z2)
  have e9 : fit t W 9 = none := if_neg (fun z => by have z2 := z.2; change isWb t (W.2.1 0) (W.2.2 0) [111, 117, 116] = true at z2; rw [n11] at z2; cases z2)
  have e11 : fit t W 11 = none := if_neg (fun z => by have z2 := z.2; change isWb t (W.2.1 0) (W.2.2 0) [103, 111] = true at z2; rw [n8] at z2; cases z2)
  have e12 : fit t W 12 = none := if_neg (fun z => by have z2 := z.2; change isWb t (W.2.1 0) (W.2.2 0) [105, 102] = true at z2; rw [n9] at z2; cases z2)
  have e13 : fit t W 13 = none := if_neg (fun z => by have z2 := z.2; change isWb t (W.2.1 0) (W.2.2 0) [99, 97, 108, 108] = true at z2; rw [n2] at z2; cases z2)
  have e14 : fit t W 14 = none := if_neg (fun z => by have z2 := z.2; change isWb t (W.2.1 0) (W.2.2 0) [98, 97, 99, 107] = true at z2; rw [n1] at z2; cases z2)
  have e15 : fit t W 15 = none := if_neg (fun z => by have z2 := z.2; change isWb t (W.2.1 0) (W.2.2 0) [114, 117, 110] = true at z2; rw [n14] at z2; cases z2)
  have e16 : fit t W 16 = none := if_neg (fun z => by have z2 := z.2; change isWb t (W.2.1 0) (W.2.2 0) [97, 115, 107] = true at z2; rw [n0] at z2; cases z2)
  have e17 : fit t W 17 = none := if_neg (fun z => by have z2 := z.2; change isWb t (W.2.1 0) (W.2.2 0) [101, 120, 105, 116] = true at z2; rw [n6] at z2; cases z2)
  unfold anyFit
  rw [show List.range 18 = [0, 1, 2, 3, 4, 5, 6, 7, 8, 9, 10, 11, 12, 13, 14, 15, 16, 17] from rfl]
  simp only [List.any_cons, List.any_nil, e0, e1, e2, e3, e4, e5, e6, e7, e8, e9, e11, e12, e13, e14, e15, e16, e17, Option.isSome_none, Bool.or_false, Bool.false_or]
/-! the word exit -/
theorem any_exit (hk : isWb t (W.2.1 0) (W.2.2 0) [101, 120, 105, 116] = true) : anyFit t W = ((fit t W 17).isSome) := by
  have n0 := kw_n hk [97, 115, 107] (by decide) (by decide) (by decide)
  have n1 := kw_n hk [98, 97, 99, 107] (by decide) (by decide) (by decide)
  have n2 := kw_n hk [99, 97, 108, 108] (by decide) (by decide) (by decide)
  have n3 := kw_n hk [99, 111, 112, 121] (by decide) (by decide) (by decide)
  have n4 := kw_n hk [100, 114, 111, 112] (by decide) (by decide) (by decide)
  have n5 := kw_n hk [101, 114, 114] (by decide) (by decide) (by decide)
  have n7 := kw_n hk [103, 101, 116] (by decide) (by decide) (by decide)
  have n8 := kw_n hk [103, 111] (by decide) (by decide) (by decide)
  have n9 := kw_n hk [105, 102] (by decide) (by decide) (by decide)
  have n10 := kw_n hk [108, 101, 116] (by decide) (by decide) (by decide)
  have n11 := kw_n hk [111, 117, 116] (by decide) (by decide) (by decide)
  have n12 := kw_n hk [112, 117, 116] (by decide) (by decide) (by decide)
  have n13 := kw_n hk [114, 101, 97, 100] (by decide) (by decide) (by decide)
  have n14 := kw_n hk [114, 117, 110] (by decide) (by decide) (by decide)
  have n15 := kw_n hk [115, 105, 122, 101] (by decide) (by decide) (by decide)
  have n16 := kw_n hk [119, 114, 105, 116, 101] (by decide) (by decide) (by decide)
  have e0 : fit t W 0 = none := if_neg (fun z => by have z2 := z.2; change isWb t (W.2.1 0) (W.2.2 0) [108, 101, 116] = true at z2; rw [n10] at z2; cases z2)
  have e1 : fit t W 1 = none := if_neg (fun z => by have z2 := z.2; change isWb t (W.2.1 0) (W.2.2 0) [108, 101, 116] = true at z2; rw [n10] at z2; cases z2)
  have e2 : fit t W 2 = none := if_neg (fun z => by have z2 := z.2; change isWb t (W.2.1 0) (W.2.2 0) [103, 101, 116] = true at z2; rw [n7] at z2; cases z2)
  have e3 : fit t W 3 = none := if_neg (fun z => by have z2 := z.2; change isWb t (W.2.1 0) (W.2.2 0) [112, 117, 116] = true at z2; rw [n12] at z2; cases z2)
  have e4 : fit t W 4 = none := if_neg (fun z => by have z2 := z.2; change isWb t (W.2.1 0) (W.2.2 0) [115, 105, 122, 101] = true at z2; rw [n15] at z2; cases z2)
  have e5 : fit t W 5 = none := if_neg (fun z => by have z2 := z.2; change isWb t (W.2.1 0) (W.2.2 0) [114, 101, 97, 100] = true at z2; rw [n13] at z2; cases z2)
  have e6 : fit t W 6 = none := if_neg (fun z => by have z2 := z.2; change isWb t (W.2.1 0) (W.2.2 0) [119, 114, 105, 116, 101] = true at z2; rw [n16] at z2; cases z2)
  have e7 : fit t W 7 = none := if_neg (fun z => by have z2 := z.2; change isWb t (W.2.1 0) (W.2.2 0) [100, 114, 111, 112] = true at z2; rw [n4] at z2; cases z2)
  have e8 : fit t W 8 = none := if_neg (fun z => by have z2 := z.2; change isWb t (W.2.1 0) (W.2.2 0) [99, 111, 112, 121] = true at z2; rw [n3] at z2; cases z2)
  have e9 : fit t W 9 = none := if_neg (fun z => by have z2 := z.2; change isWb t (W.2.1 0) (W.2.2 0) [111, 117, 116] = true at z2; rw [n11] at z2; cases z2)
  have e10 : fit t W 10 = none := if_neg (fun z => by have z2 := z.2; change isWb t (W.2.1 0) (W.2.2 0) [101, 114, 114] = true at z2; rw [n5] at z2; cases z2)
  have e11 : fit t W 11 = none := if_neg (fun z => by have z2 := z.2; change isWb t (W.2.1 0) (W.2.2 0) [103, 111] = true at z2; rw [n8] at z2; cases z2)
  have e12 : fit t W 12 = none := if_neg (fun z => by have z2 := z.2; change isWb t (W.2.1 0) (W.2.2 0) [105, 102] = true at z2; rw [n9] at z2; cases z2)
  have e13 : fit t W 13 = none := if_neg (fun z => by have z2 := z.2; change isWb t (W.2.1 0) (W.2.2 0) [99, 97, 108, 108] = true at z2; rw [n2] at z2; cases z2)
  have e14 : fit t W 14 = none := if_neg (fun z => by have z2 := z.2; change isWb t (W.2.1 0) (W.2.2 0) [98, 97, 99, 107] = true at z2; rw [n1] at z2; cases z2)
  have e15 : fit t W 15 = none := if_neg (fun z => by have z2 := z.2; change isWb t (W.2.1 0) (W.2.2 0) [114, 117, 110] = true at z2; rw [n14] at z2; cases z2)
  have e16 : fit t W 16 = none := if_neg (fun z => by have z2 := z.2; change isWb t (W.2.1 0) (W.2.2 0) [97, 115, 107] = true at z2; rw [n0] at z2; cases z2)
  unfold anyFit
  rw [show List.range 18 = [0, 1, 2, 3, 4, 5, 6, 7, 8, 9, 10, 11, 12, 13, 14, 15, 16, 17] from rfl]
  simp only [List.any_cons, List.any_nil, e0, e1, e2, e3, e4, e5, e6, e7, e8, e9, e10, e11, e12, e13, e14, e15, e16, Option.isSome_none, Bool.or_false, Bool.false_or]
/-! the word go -/
theorem any_go (hk : isWb t (W.2.1 0) (W.2.2 0) [103, 111] = true) : anyFit t W = ((fit t W 11).isSome) := by
  have n0 := kw_n hk [97, 115, 107] (by decide) (by decide) (by decide)
  have n1 := kw_n hk [98, 97, 99, 107] (by decide) (by decide) (by decide)
  have n2 := kw_n hk [99, 97, 108, 108] (by decide) (by decide) (by decide)
  have n3 := kw_n hk [99, 111, 112, 121] (by decide) (by decide) (by decide)
  have n4 := kw_n hk [100, 114, 111, 112] (by decide) (by decide) (by decide)
  have n5 := kw_n hk [101, 114, 114] (by decide) (by decide) (by decide)
  have n6 := kw_n hk [101, 120, 105, 116] (by decide) (by decide) (by decide)
  have n7 := kw_n hk [103, 101, 116] (by decide) (by decide) (by decide)
  have n9 := kw_n hk [105, 102] (by decide) (by decide) (by decide)
  have n10 := kw_n hk [108, 101, 116] (by decide) (by decide) (by decide)
  have n11 := kw_n hk [111, 117, 116] (by decide) (by decide) (by decide)
  have n12 := kw_n hk [112, 117, 116] (by decide) (by decide) (by decide)
  have n13 := kw_n hk [114, 101, 97, 100] (by decide) (by decide) (by decide)
  have n14 := kw_n hk [114, 117, 110] (by decide) (by decide) (by decide)
  have n15 := kw_n hk [115, 105, 122, 101] (by decide) (by decide) (by decide)
  have n16 := kw_n hk [119, 114, 105, 116, 101] (by decide) (by decide) (by decide)
  have e0 : fit t W 0 = none := if_neg (fun z => by have z2 := z.2; change isWb t (W.2.1 0) (W.2.2 0) [108, 101, 116] = true at z2; rw [n10] at z2; cases z2)
  have e1 : fit t W 1 = none := if_neg (fun z => by have z2 := z.2; change isWb t (W.2.1 0) (W.2.2 0) [108, 101, 116] = true at z2; rw [n10] at z2; cases z2)
  have e2 : fit t W 2 = none := if_neg (fun z => by have z2 := z.2; change isWb t (W.2.1 0) (W.2.2 0) [103, 101, 116] = true at z2; rw [n7] at z2; cases z2)
  have e3 : fit t W 3 = none := if_neg (fun z => by have z2 := z.2; change isWb t (W.2.1 0) (W.2.2 0) [112, 117, 116] = true at z2; rw [n12] at z2; cases z2)
  have e4 : fit t W 4 = none := if_neg (fun z => by have z2 := z.2; change isWb t (W.2.1 0) (W.2.2 0) [115, 105, 122, 101] = true at z2; rw [n15] at z2; cases z2)
  have e5 : fit t W 5 = none := if_neg (fun z => by have z2 := z.2; change isWb t (W.2.1 0) (W.2.2 0) [114, 101, 97, 100] = true at z2; rw [n13] at z2; cases z2)
  have e6 : fit t W 6 = none := if_neg (fun z => by have z2 := z.2; change isWb t (W.2.1 0) (W.2.2 0) [119, 114, 105, 116, 101] = true at z2; rw [n16] at z2; cases z2)
  have e7 : fit t W 7 = none := if_neg (fun z => by have z2 := z.2; change isWb t (W.2.1 0) (W.2.2 0) [100, 114, 111, 112] = true at z2; rw [n4] at z2; cases z2)
  have e8 : fit t W 8 = none := if_neg (fun z => by have z2 := z.2; change isWb t (W.2.1 0) (W.2.2 0) [99, 111, 112, 121] = true at z2; rw [n3] at z2; cases z2)
  have e9 : fit t W 9 = none := if_neg (fun z => by have z2 := z.2; change isWb t (W.2.1 0) (W.2.2 0) [111, 117, 116] = true at z2; rw [n11] at z2; cases z2)
  have e10 : fit t W 10 = none := if_neg (fun z => by have z2 := z.2; change isWb t (W.2.1 0) (W.2.2 0) [101, 114, 114] = true at z2; rw [n5] at z2; cases z2)
  have e12 : fit t W 12 = none := if_neg (fun z => by have z2 := z.2; change isWb t (W.2.1 0) (W.2.2 0) [105, 102] = true at z2; rw [n9] at z2; cases z2)
  have e13 : fit t W 13 = none := if_neg (fun z => by have z2 := z.2; change isWb t (W.2.1 0) (W.2.2 0) [99, 97, 108, 108] = true at z2; rw [n2] at z2; cases z2)
  have e14 : fit t W 14 = none := if_neg (fun z => by have z2 := z.2; change isWb t (W.2.1 0) (W.2.2 0) [98, 97, 99, 107] = true at z2; rw [n1] at z2; cases z2)
  have e15 : fit t W 15 = none := if_neg (fun z => by have z2 := z.2; change isWb t (W.2.1 0) (W.2.2 0) [114, 117, 110] = true at z2; rw [n14] at z2; cases z2)
  have e16 : fit t W 16 = none := if_neg (fun z => by have z2 := z.2; change isWb t (W.2.1 0) (W.2.2 0) [97, 115, 107] = true at z2; rw [n0] at z2; cases z2)
  have e17 : fit t W 17 = none := if_neg (fun z => by have z2 := z.2; change isWb t (W.2.1 0) (W.2.2 0) [101, 120, 105, 116] = true at z2; rw [n6] at z2; cases z2)
  unfold anyFit
  rw [show List.range 18 = [0, 1, 2, 3, 4, 5, 6, 7, 8, 9, 10, 11, 12, 13, 14, 15, 16, 17] from rfl]
  simp only [List.any_cons, List.any_nil, e0, e1, e2, e3, e4, e5, e6, e7, e8, e9, e10, e12, e13, e14, e15, e16, e17, Option.isSome_none, Bool.or_false, Bool.false_or]
/-! the word call -/
theorem any_call (hk : isWb t (W.2.1 0) (W.2.2 0) [99, 97, 108, 108] = true) : anyFit t W = ((fit t W 13).isSome) := by
  have n0 := kw_n hk [97, 115, 107] (by decide) (by decide) (by decide)
  have n1 := kw_n hk [98, 97, 99, 107] (by decide) (by decide) (by decide)
  have n3 := kw_n hk [99, 111, 112, 121] (by decide) (by decide) (by decide)
  have n4 := kw_n hk [100, 114, 111, 112] (by decide) (by decide) (by decide)
  have n5 := kw_n hk [101, 114, 114] (by decide) (by decide) (by decide)
  have n6 := kw_n hk [101, 120, 105, 116] (by decide) (by decide) (by decide)
  have n7 := kw_n hk [103, 101, 116] (by decide) (by decide) (by decide)
  have n8 := kw_n hk [103, 111] (by decide) (by decide) (by decide)
  have n9 := kw_n hk [105, 102] (by decide) (by decide) (by decide)
  have n10 := kw_n hk [108, 101, 116] (by decide) (by decide) (by decide)
  have n11 := kw_n hk [111, 117, 116] (by decide) (by decide) (by decide)
  have n12 := kw_n hk [112, 117, 116] (by decide) (by decide) (by decide)
  have n13 := kw_n hk [114, 101, 97, 100] (by decide) (by decide) (by decide)
  have n14 := kw_n hk [114, 117, 110] (by decide) (by decide) (by decide)
  have n15 := kw_n hk [115, 105, 122, 101] (by decide) (by decide) (by decide)
  have n16 := kw_n hk [119, 114, 105, 116, 101] (by decide) (by decide) (by decide)
  have e0 : fit t W 0 = none := if_neg (fun z => by have z2 := z.2; change isWb t (W.2.1 0) (W.2.2 0) [108, 101, 116] = true at z2; rw [n10] at z2; cases z2)
  have e1 : fit t W 1 = none := if_neg (fun z => by have z2 := z.2; change isWb t (W.2.1 0) (W.2.2 0) [108, 101, 116] = true at z2; rw [n10] at z2; cases z2)
  have e2 : fit t W 2 = none := if_neg (fun z => by have z2 := z.2; change isWb t (W.2.1 0) (W.2.2 0) [103, 101, 116] = true at z2; rw [n7] at z2; cases z2)
  have e3 : fit t W 3 = none := if_neg (fun z => by have z2 := z.2; change isWb t (W.2.1 0) (W.2.2 0) [112, 117, 116] = true at z2; rw [n12] at z2; cases z2)
  have e4 : fit t W 4 = none := if_neg (fun z => by have z2 := z.2; change isWb t (W.2.1 0) (W.2.2 0) [115, 105, 122, 101] = true at z2; rw [n15] at z2; cases z2)
  have e5 : fit t W 5 = none := if_neg (fun z => by have z2 := z.2; change isWb t (W.2.1 0) (W.2.2 0) [114, 101, 97, 100] = true at z2; rw [n13] at z2; cases z2)
  have e6 : fit t W 6 = none := if_neg (fun z => by have z2 := z.2; change isWb t (W.2.1 0) (W.2.2 0) [119, 114, 105, 116, 101] = true at z2; rw [n16] at z2; cases z2)
  have e7 : fit t W 7 = none := if_neg (fun z => by have z2 := z.2; change isWb t (W.2.1 0) (W.2.2 0) [100, 114, 111, 112] = true at z2; rw [n4] at z2; cases z2)
  have e8 : fit t W 8 = none := if_neg (fun z => by have z2 := z.2; change isWb t (W.2.1 0) (W.2.2 0) [99, 111, 112, 121] = true at z2; rw [n3] at z2; cases z2)
  have e9 : fit t W 9 = none := if_neg (fun z => by have z2 := z.2; change isWb t (W.2.1 0) (W.2.2 0) [111, 117, 116] = true at z2; rw [n11] at z2; cases z2)
  have e10 : fit t W 10 = none := if_neg (fun z => by have z2 := z.2; change isWb t (W.2.1 0) (W.2.2 0) [101, 114, 114] = true at z2; rw [n5] at z2; cases z2)
  have e11 : fit t W 11 = none := if_neg (fun z => by have z2 := z.2; change isWb t (W.2.1 0) (W.2.2 0) [103, 111] = true at z2; rw [n8] at z2; cases z2)
  have e12 : fit t W 12 = none := if_neg (fun z => by have z2 := z.2; change isWb t (W.2.1 0) (W.2.2 0) [105, 102] = true at z2; rw [n9] at z2; cases z2)
  have e14 : fit t W 14 = none := if_neg (fun z => by have z2 := z.2; change isWb t (W.2.1 0) (W.2.2 0) [98, 97, 99, 107] = true at z2; rw [n1] at z2; cases z2)
  have e15 : fit t W 15 = none := if_neg (fun z => by have z2 := z.2; change isWb t (W.2.1 0) (W.2.2 0) [114, 117, 110] = true at z2; rw [n14] at z2; cases z2)
  have e16 : fit t W 16 = none := if_neg (fun z => by have z2 := z.2; change isWb t (W.2.1 0) (W.2.2 0) [97, 115, 107] = true at z2; rw [n0] at z2; cases z2)
  have e17 : fit t W 17 = none := if_neg (fun z => by have z2 := z.2; change isWb t (W.2.1 0) (W.2.2 0) [101, 120, 105, 116] = true at z2; rw [n6] at z2; cases z2)
  unfold anyFit
  rw [show List.range 18 = [0, 1, 2, 3, 4, 5, 6, 7, 8, 9, 10, 11, 12, 13, 14, 15, 16, 17] from rfl]
  simp only [List.any_cons, List.any_nil, e0, e1, e2, e3, e4, e5, e6, e7, e8, e9, e10, e11, e12, e14, e15, e16, e17, Option.isSome_none, Bool.or_false, Bool.false_or]
/-! the word if -/
theorem any_if (hk : isWb t (W.2.1 0) (W.2.2 0) [105, 102] = true) : anyFit t W = ((fit t W 12).isSome) := by
  have n0 := kw_n hk [97, 115, 107] (by decide) (by decide) (by decide)
  have n1 := kw_n hk [98, 97, 99, 107] (by decide) (by decide) (by decide)
  have n2 := kw_n hk [99, 97, 108, 108] (by decide) (by decide) (by decide)
  have n3 := kw_n hk [99, 111, 112, 121] (by decide) (by decide) (by decide)
  have n4 := kw_n hk [100, 114, 111, 112] (by decide) (by decide) (by decide)
  have n5 := kw_n hk [101, 114, 114] (by decide) (by decide) (by decide)
  have n6 := kw_n hk [101, 120, 105, 116] (by decide) (by decide) (by decide)
  have n7 := kw_n hk [103, 101, 116] (by decide) (by decide) (by decide)
  have n8 := kw_n hk [103, 111] (by decide) (by decide) (by decide)
  have n10 := kw_n hk [108, 101, 116] (by decide) (by decide) (by decide)
  have n11 := kw_n hk [111, 117, 116] (by decide) (by decide) (by decide)
  have n12 := kw_n hk [112, 117, 116] (by decide) (by decide) (by decide)
  have n13 := kw_n hk [114, 101, 97, 100] (by decide) (by decide) (by decide)
  have n14 := kw_n hk [114, 117, 110] (by decide) (by decide) (by decide)
  have n15 := kw_n hk [115, 105, 122, 101] (by decide) (by decide) (by decide)
  have n16 := kw_n hk [119, 114, 105, 116, 101] (by decide) (by decide) (by decide)
  have e0 : fit t W 0 = none := if_neg (fun z => by have z2 := z.2; change isWb t (W.2.1 0) (W.2.2 0) [108, 101, 116] = true at z2; rw [n10] at z2; cases z2)
  have e1 : fit t W 1 = none := if_neg (fun z => by have z2 := z.2; change isWb t (W.2.1 0) (W.2.2 0) [108, 101, 116] = true at z2; rw [n10] at z2; cases z2)
  have e2 : fit t W 2 = none := if_neg (fun z => by have z2 := z.2; change isWb t (W.2.1 0) (W.2.2 0) [103, 101, 116] = true at z2; rw [n7] at z2; cases z2)
  have e3 : fit t W 3 = none := if_neg (fun z => by have z2 := z.2; change isWb t (W.2.1 0) (W.2.2 0) [112, 117, 116] = true at z2; rw [n12] at z2; cases z2)
  have e4 : fit t W 4 = none := if_neg (fun z => by have z2 := z.2; change isWb t (W.2.1 0) (W.2.2 0) [115, 105, 122, 101] = true at z2; rw [n15] at z2; cases z2)
  have e5 : fit t W 5 = none := if_neg (fun z => by have z2 := z.2; change isWb t (W.2.1 0) (W.2.2 0) [114, 101, 97, 100] = true at z2; rw [n13] at z2; cases z2)
  have e6 : fit t W 6 = none := if_neg (fun z => by have z2 := z.2; change isWb t (W.2.1 0) (W.2.2 0) [119, 114, 105, 116, 101] = true at z2; rw [n16] at z2; cases z2)
  have e7 : fit t W 7 = none := if_neg (fun z => by have z2 := z.2; change isWb t (W.2.1 0) (W.2.2 0) [100, 114, 111, 112] = true at z2; rw [n4] at z2; cases z2)
  have e8 : fit t W 8 = none := if_neg (fun z => by have z2 := z.2; change isWb t (W.2.1 0) (W.2.2 0) [99, 111, 112, 121] = true at z2; rw [n3] at z2; cases z2)
  have e9 : fit t W 9 = none := if_neg (fun z => by have z2 := z.2; change isWb t (W.2.1 0) (W.2.2 0) [111, 117, 116] = true at z2; rw [n11] at z2; cases z2)
  have e10 : fit t W 10 = none := if_neg (fun z => by have z2 := z.2; change isWb t (W.2.1 0) (W.2.2 0) [101, 114, 114] = true at z2; rw [n5] at z2; cases z2)
  have e11 : fit t W 11 = none := if_neg (fun z => by have z2 := z.2; change isWb t (W.2.1 0) (W.2.2 0) [103, 111] = true at z2; rw [n8] at z2; cases z2)
  have e13 : fit t W 13 = none := if_neg (fun z => by have z2 := z.2; change isWb t (W.2.1 0) (W.2.2 0) [99, 97, 108, 108] = true at z2; rw [n2] at z2; cases z2)
  have e14 : fit t W 14 = none := if_neg (fun z => by have z2 := z.2; change isWb t (W.2.1 0) (W.2.2 0) [98, 97, 99, 107] = true at z2; rw [n1] at z2; cases z2)
  have e15 : fit t W 15 = none := if_neg (fun z => by have z2 := z.2; change isWb t (W.2.1 0) (W.2.2 0) [114, 117, 110] = true at z2; rw [n14] at z2; cases z2)
  have e16 : fit t W 16 = none := if_neg (fun z => by have z2 := z.2; change isWb t (W.2.1 0) (W.2.2 0) [97, 115, 107] = true at z2; rw [n0] at z2; cases z2)
  have e17 : fit t W 17 = none := if_neg (fun z => by have z2 := z.2; change isWb t (W.2.1 0) (W.2.2 0) [101, 120, 105, 116] = true at z2; rw [n6] at z2; cases z2)
  unfold anyFit
  rw [show List.range 18 = [0, 1, 2, 3, 4, 5, 6, 7, 8, 9, 10, 11, 12, 13, 14, 15, 16, 17] from rfl]
  simp only [List.any_cons, List.any_nil, e0, e1, e2, e3, e4, e5, e6, e7, e8, e9, e10, e11, e13, e14, e15, e16, e17, Option.isSome_none, Bool.or_false, Bool.false_or]
/-! the word back -/
theorem any_back (hk : isWb t (W.2.1 0) (W.2.2 0) [98, 97, 99, 107] = true) : anyFit t W = ((fit t W 14).isSome) := by
  have n0 := kw_n hk [97, 115, 107] (by decide) (by decide) (by decide)
  have n2 := kw_n hk [99, 97, 108, 108] (by decide) (by decide) (by decide)
  have n3 := kw_n hk [99, 111, 112, 121] (by decide) (by decide) (by decide)
  have n4 := kw_n hk [100, 114, 111, 112] (by decide) (by decide) (by decide)
  have n5 := kw_n hk [101, 114, 114] (by decide) (by decide) (by decide)
  have n6 := kw_n hk [101, 120, 105, 116] (by decide) (by decide) (by decide)
  have n7 := kw_n hk [103, 101, 116] (by decide) (by decide) (by decide)
  have n8 := kw_n hk [103, 111] (by decide) (by decide) (by decide)
  have n9 := kw_n hk [105, 102] (by decide) (by decide) (by decide)
  have n10 := kw_n hk [108, 101, 116] (by decide) (by decide) (by decide)
  have n11 := kw_n hk [111, 117, 116] (by decide) (by decide) (by decide)
  have n12 := kw_n hk [112, 117, 116] (by decide) (by decide) (by decide)
  have n13 := kw_n hk [114, 101, 97, 100] (by decide) (by decide) (by decide)
  have n14 := kw_n hk [114, 117, 110] (by decide) (by decide) (by decide)
  have n15 := kw_n hk [115, 105, 122, 101] (by decide) (by decide) (by decide)
  have n16 := kw_n hk [119, 114, 105, 116, 101] (by decide) (by decide) (by decide)
  have e0 : fit t W 0 = none := if_neg (fun z => by have z2 := z.2; change isWb t (W.2.1 0) (W.2.2 0) [108, 101, 116] = true at z2; rw [n10] at z2; cases z2)
  have e1 : fit t W 1 = none := if_neg (fun z => by have z2 := z.2; change isWb t (W.2.1 0) (W.2.2 0) [108, 101, 116] = true at z2; rw [n10] at z2; cases z2)
  have e2 : fit t W 2 = none := if_neg (fun z => by have z2 := z.2; change isWb t (W.2.1 0) (W.2.2 0) [103, 101, 116] = true at z2; rw [n7] at z2; cases z2)
  have e3 : fit t W 3 = none := if_neg (fun z => by have z2 := z.2; change isWb t (W.2.1 0) (W.2.2 0) [112, 117, 116] = true at z2; rw [n12] at z2; cases z2)
  have e4 : fit t W 4 = none := if_neg (fun z => by have z2 := z.2; change isWb t (W.2.1 0) (W.2.2 0) [115, 105, 122, 101] = true at z2; rw [n15] at z2; cases z2)
  have e5 : fit t W 5 = none := if_neg (fun z => by have z2 := z.2; change isWb t (W.2.1 0) (W.2.2 0) [114, 101, 97, 100] = true at z2; rw [n13] at z2; cases z2)
  have e6 : fit t W 6 = none := if_neg (fun z => by have z2 := z.2; change isWb t (W.2.1 0) (W.2.2 0) [119, 114, 105, 116, 101] = true at z2; rw [n16] at z2; cases z2)
  have e7 : fit t W 7 = none := if_neg (fun z => by have z2 := z.2; change isWb t (W.2.1 0) (W.2.2 0) [100, 114, 111, 112] = true at z2; rw [n4] at z2; cases z2)
  have e8 : fit t W 8 = none := if_neg (fun z => by have z2 := z.2; change isWb t (W.2.1 0) (W.2.2 0) [99, 111, 112, 121] = true at z2; rw [n3] at z2; cases z2)
  have e9 : fit t W 9 = none := if_neg (fun z => by have z2 := z.2; change isWb t (W.2.1 0) (W.2.2 0) [111, 117, 116] = true at z2; rw [n11] at z2; cases z2)
  have e10 : fit t W 10 = none := if_neg (fun z => by have z2 := z.2; change isWb t (W.2.1 0) (W.2.2 0) [101, 114, 114] = true at z2; rw [n5] at z2; cases z2)
  have e11 : fit t W 11 = none := if_neg (fun z => by have z2 := z.2; change isWb t (W.2.1 0) (W.2.2 0) [103, 111] = true at z2; rw [n8] at z2; cases z2)
  have e12 : fit t W 12 = none := if_neg (fun z => by have z2 := z.2; change isWb t (W.2.1 0) (W.2.2 0) [105, 102] = true at z2; rw [n9] at z2; cases z2)
  have e13 : fit t W 13 = none := if_neg (fun z => by have z2 := z.2; change isWb t (W.2.1 0) (W.2.2 0) [99, 97, 108, 108] = true at z2; rw [n2] at z2; cases z2)
  have e15 : fit t W 15 = none := if_neg (fun z => by have z2 := z.2; change isWb t (W.2.1 0) (W.2.2 0) [114, 117, 110] = true at z2; rw [n14] at z2; cases z2)
  have e16 : fit t W 16 = none := if_neg (fun z => by have z2 := z.2; change isWb t (W.2.1 0) (W.2.2 0) [97, 115, 107] = true at z2; rw [n0] at z2; cases z2)
  have e17 : fit t W 17 = none := if_neg (fun z => by have z2 := z.2; change isWb t (W.2.1 0) (W.2.2 0) [101, 120, 105, 116] = true at z2; rw [n6] at z2; cases z2)
  unfold anyFit
  rw [show List.range 18 = [0, 1, 2, 3, 4, 5, 6, 7, 8, 9, 10, 11, 12, 13, 14, 15, 16, 17] from rfl]
  simp only [List.any_cons, List.any_nil, e0, e1, e2, e3, e4, e5, e6, e7, e8, e9, e10, e11, e12, e13, e15, e16, e17, Option.isSome_none, Bool.or_false, Bool.false_or]
theorem fit_some {i c : Nat} {kw kd : List Nat} (hi : kwL.getD i [] = kw) (hd : kdL.getD i [] = kd) (hk : isWb t (W.2.1 0) (W.2.2 0) kw = true) (hc : W.1 = c) (hl : c = kd.length + 1) : fit t W i = pf t W kd 1 st0 := by
  unfold fit
  rw [hi, hd, if_pos ⟨by omega, hk⟩]
theorem fit_none {i c : Nat} {kd : List Nat} (hd : kdL.getD i [] = kd) (hc : ¬ W.1 = c) (hl : c = kd.length + 1) : fit t W i = none := by
  unfold fit
  rw [hd, if_neg (fun z => hc (by omega))]
theorem pf_nil : (pf t W [] 1 st0).isSome = (true) := by
  rfl
theorem pf_L : (pf t W [76] 1 st0).isSome = ((isLt (ol t (W.2.1 1) (W.2.2 1)))) := by
  simp only [pf, tw, st0, if_true, if_false, show ¬ (88 : Nat) = 82 from by decide, show ¬ (89 : Nat) = 82 from by decide, show ¬ (89 : Nat) = 88 from by decide, show ¬ (79 : Nat) = 82 from by decide, show ¬ (79 : Nat) = 88 from by decide, show ¬ (79 : Nat) = 89 from by decide, show ¬ (67 : Nat) = 82 from by decide, show ¬ (67 : Nat) = 88 from by decide, show ¬ (67 : Nat) = 89 from by decide, show ¬ (67 : Nat) = 79 from by decide, show ¬ (76 : Nat) = 82 from by decide, show ¬ (76 : Nat) = 88 from by decide, show ¬ (76 : Nat) = 89 from by decide, show ¬ (76 : Nat) = 79 from by decide, show ¬ (76 : Nat) = 67 from by decide, show ¬ (103 : Nat) = 82 from by decide, show ¬ (103 : Nat) = 88 from by decide, show ¬ (103 : Nat) = 89 from by decide, show ¬ (103 : Nat) = 79 from by decide, show ¬ (103 : Nat) = 67 from by decide, show ¬ (103 : Nat) = 76 from by decide]
  cases (isLt (ol t (W.2.1 1) (W.2.2 1))) <;> rfl
theorem pf_RX : (pf t W [82, 88] 1 st0).isSome = ((isRg (ol t (W.2.1 1) (W.2.2 1))) && (isVl t (W.2.1 2) (W.2.2 2))) := by
  simp only [pf, tw, st0, if_true, if_false, show ¬ (88 : Nat) = 82 from by decide, show ¬ (89 : Nat) = 82 from by decide, show ¬ (89 : Nat) = 88 from by decide, show ¬ (79 : Nat) = 82 from by decide, show ¬ (79 : Nat) = 88 from by decide, show ¬ (79 : Nat) = 89 from by decide, show ¬ (67 : Nat) = 82 from by decide, show ¬ (67 : Nat) = 88 from by decide, show ¬ (67 : Nat) = 89 from by decide, show ¬ (67 : Nat) = 79 from by decide, show ¬ (76 : Nat) = 82 from by decide, show ¬ (76 : Nat) = 88 from by decide, show ¬ (76 : Nat) = 89 from by decide, show ¬ (76 : Nat) = 79 from by decide, show ¬ (76 : Nat) = 67 from by decide, show ¬ (103 : Nat) = 82 from by decide, show ¬ (103 : Nat) = 88 from by decide, show ¬ (103 : Nat) = 89 from by decide, show ¬ (103 : Nat) = 79 from by decide, show ¬ (103 : Nat) = 67 from by decide, show ¬ (103 : Nat) = 76 from by decide]
  cases (isRg (ol t (W.2.1 1) (W.2.2 1))) <;> cases (isVl t (W.2.1 2) (W.2.2 2)) <;> rfl
theorem pf_RXOY : (pf t W [82, 88, 79, 89] 1 st0).isSome = ((isRg (ol t (W.2.1 1) (W.2.2 1))) && (isVl t (W.2.1 2) (W.2.2 2)) && (isSg (ol t (W.2.1 3) (W.2.2 3))) && (isVl t (W.2.1 4) (W.2.2 4))) := by
  simp only [pf, tw, st0, if_true, if_false, show ¬ (88 : Nat) = 82 from by decide, show ¬ (89 : Nat) = 82 from by decide, show ¬ (89 : Nat) = 88 from by decide, show ¬ (79 : Nat) = 82 from by decide, show ¬ (79 : Nat) = 88 from by decide, show ¬ (79 : Nat) = 89 from by decide, show ¬ (67 : Nat) = 82 from by decide, show ¬ (67 : Nat) = 88 from by decide, show ¬ (67 : Nat) = 89 from by decide, show ¬ (67 : Nat) = 79 from by decide, show ¬ (76 : Nat) = 82 from by decide, show ¬ (76 : Nat) = 88 from by decide, show ¬ (76 : Nat) = 89 from by decide, show ¬ (76 : Nat) = 79 from by decide, show ¬ (76 : Nat) = 67 from by decide, show ¬ (103 : Nat) = 82 from by decide, show ¬ (103 : Nat) = 88 from by decide, show ¬ (103 : Nat) = 89 from by decide, show ¬ (103 : Nat) = 79 from by decide, show ¬ (103 : Nat) = 67 from by decide, show ¬ (103 : Nat) = 76 from by decide]
  cases (isRg (ol t (W.2.1 1) (W.2.2 1))) <;> cases (isVl t (W.2.1 2) (W.2.2 2)) <;> cases (isSg (ol t (W.2.1 3) (W.2.2 3))) <;> cases (isVl t (W.2.1 4) (W.2.2 4)) <;> rfl
theorem pf_RXY : (pf t W [82, 88, 89] 1 st0).isSome = ((isRg (ol t (W.2.1 1) (W.2.2 1))) && (isVl t (W.2.1 2) (W.2.2 2)) && (isVl t (W.2.1 3) (W.2.2 3))) := by
  simp only [pf, tw, st0, if_true, if_false, show ¬ (88 : Nat) = 82 from by decide, show ¬ (89 : Nat) = 82 from by decide, show ¬ (89 : Nat) = 88 from by decide, show ¬ (79 : Nat) = 82 from by decide, show ¬ (79 : Nat) = 88 from by decide, show ¬ (79 : Nat) = 89 from by decide, show ¬ (67 : Nat) = 82 from by decide, show ¬ (67 : Nat) = 88 from by decide, show ¬ (67 : Nat) = 89 from by decide, show ¬ (67 : Nat) = 79 from by decide, show ¬ (76 : Nat) = 82 from by decide, show ¬ (76 : Nat) = 88 from by decide, show ¬ (76 : Nat) = 89 from by decide, show ¬ (76 : Nat) = 79 from by decide, show ¬ (76 : Nat) = 67 from by decide, show ¬ (103 : Nat) = 82 from by decide, show ¬ (103 : Nat) = 88 from by decide, show ¬ (103 : Nat) = 89 from by decide, show ¬ (103 : Nat) = 79 from by decide, show ¬ (103 : Nat) = 67 from by decide, show ¬ (103 : Nat) = 76 from by decide]
  cases (isRg (ol t (W.2.1 1) (W.2.2 1))) <;> cases (isVl t (W.2.1 2) (W.2.2 2)) <;> cases (isVl t (W.2.1 3) (W.2.2 3)) <;> rfl
theorem pf_X : (pf t W [88] 1 st0).isSome = ((isVl t (W.2.1 1) (W.2.2 1))) := by
  simp only [pf, tw, st0, if_true, if_false, show ¬ (88 : Nat) = 82 from by decide, show ¬ (89 : Nat) = 82 from by decide, show ¬ (89 : Nat) = 88 from by decide, show ¬ (79 : Nat) = 82 from by decide, show ¬ (79 : Nat) = 88 from by decide, show ¬ (79 : Nat) = 89 from by decide, show ¬ (67 : Nat) = 82 from by decide, show ¬ (67 : Nat) = 88 from by decide, show ¬ (67 : Nat) = 89 from by decide, show ¬ (67 : Nat) = 79 from by decide, show ¬ (76 : Nat) = 82 from by decide, show ¬ (76 : Nat) = 88 from by decide, show ¬ (76 : Nat) = 89 from by decide, show ¬ (76 : Nat) = 79 from by decide, show ¬ (76 : Nat) = 67 from by decide, show ¬ (103 : Nat) = 82 from by decide, show ¬ (103 : Nat) = 88 from by decide, show ¬ (103 : Nat) = 89 from by decide, show ¬ (103 : Nat) = 79 from by decide, show ¬ (103 : Nat) = 67 from by decide, show ¬ (103 : Nat) = 76 from by decide]
  cases (isVl t (W.2.1 1) (W.2.2 1)) <;> rfl
theorem pf_XCYgL : (pf t W [88, 67, 89, 103, 76] 1 st0).isSome = ((isVl t (W.2.1 1) (W.2.2 1)) && (isCp (ol t (W.2.1 2) (W.2.2 2))) && (isVl t (W.2.1 3) (W.2.2 3)) && (isWb t (W.2.1 4) (W.2.2 4) [103, 111]) && (isLt (ol t (W.2.1 5) (W.2.2 5)))) := by
  simp only [pf, tw, st0, if_true, if_false, show ¬ (88 : Nat) = 82 from by decide, show ¬ (89 : Nat) = 82 from by decide, show ¬ (89 : Nat) = 88 from by decide, show ¬ (79 : Nat) = 82 from by decide, show ¬ (79 : Nat) = 88 from by decide, show ¬ (79 : Nat) = 89 from by decide, show ¬ (67 : Nat) = 82 from by decide, show ¬ (67 : Nat) = 88 from by decide, show ¬ (67 : Nat) = 89 from by decide, show ¬ (67 : Nat) = 79 from by decide, show ¬ (76 : Nat) = 82 from by decide, show ¬ (76 : Nat) = 88 from by decide, show ¬ (76 : Nat) = 89 from by decide, show ¬ (76 : Nat) = 79 from by decide, show ¬ (76 : Nat) = 67 from by decide, show ¬ (103 : Nat) = 82 from by decide, show ¬ (103 : Nat) = 88 from by decide, show ¬ (103 : Nat) = 89 from by decide, show ¬ (103 : Nat) = 79 from by decide, show ¬ (103 : Nat) = 67 from by decide, show ¬ (103 : Nat) = 76 from by decide]
  cases (isVl t (W.2.1 1) (W.2.2 1)) <;> cases (isCp (ol t (W.2.1 2) (W.2.2 2))) <;> cases (isVl t (W.2.1 3) (W.2.2 3)) <;> cases (isWb t (W.2.1 4) (W.2.2 4) [103, 111]) <;> cases (isLt (ol t (W.2.1 5) (W.2.2 5))) <;> rfl
theorem pf_XY : (pf t W [88, 89] 1 st0).isSome = ((isVl t (W.2.1 1) (W.2.2 1)) && (isVl t (W.2.1 2) (W.2.2 2))) := by
  simp only [pf, tw, st0, if_true, if_false, show ¬ (88 : Nat) = 82 from by decide, show ¬ (89 : Nat) = 82 from by decide, show ¬ (89 : Nat) = 88 from by decide, show ¬ (79 : Nat) = 82 from by decide, show ¬ (79 : Nat) = 88 from by decide, show ¬ (79 : Nat) = 89 from by decide, show ¬ (67 : Nat) = 82 from by decide, show ¬ (67 : Nat) = 88 from by decide, show ¬ (67 : Nat) = 89 from by decide, show ¬ (67 : Nat) = 79 from by decide, show ¬ (76 : Nat) = 82 from by decide, show ¬ (76 : Nat) = 88 from by decide, show ¬ (76 : Nat) = 89 from by decide, show ¬ (76 : Nat) = 79 from by decide, show ¬ (76 : Nat) = 67 from by decide, show ¬ (103 : Nat) = 82 from by decide, show ¬ (103 : Nat) = 88 from by decide, show ¬ (103 : Nat) = 89 from by decide, show ¬ (103 : Nat) = 79 from by decide, show ¬ (103 : Nat) = 67 from by decide, show ¬ (103 : Nat) = 76 from by decide]
  cases (isVl t (W.2.1 1) (W.2.2 1)) <;> cases (isVl t (W.2.1 2) (W.2.2 2)) <;> rfl
theorem br_b93 (hN : 400 < N) (h : lSt s B w t base W) (he : ∀ k, k < W.1 → W.2.2 k ≤ 400) (hW : W.1 < 2 ^ 31) {i : Nat} {kw : List Nat} (hi : kwL.getD i [] = kw) (hd : kdL.getD i [] = [82, 88]) (hk : isWb t (W.2.1 0) (W.2.2 0) kw = true) : f_M_isStatement_b93 N (eM m s B w G) (some m) = some (bI (fit t W i).isSome) := by
  unfold f_M_isStatement_b93
  rw [mg_8, Option.bind_some, h.1.1]
  by_cases hc : W.1 = 3
  · rw [if_pos (show nI W.1 = 3 from by rw [hc]; rfl), fit_some hi hd hk hc rfl, pf_RX]
    simp only [mgO, Option.bind_some, M_isReg h (i := 1) (k := 1) rfl (by omega) (by decide), M_isVal hN h (i := 2) (k := 2) rfl (by omega) (by decide) (he _ (by omega))]
    cases (isRg (ol t (W.2.1 1) (W.2.2 1))) <;> cases (isVl t (W.2.1 2) (W.2.2 2)) <;> rfl
  · rw [if_neg (show ¬ nI W.1 = 3 from fun z => hc ((nI_eq (b := 3) hW (by decide)).mp z)), fit_none hd hc rfl]
    rfl
theorem br_b147 (hN : 400 < N) (h : lSt s B w t base W) (he : ∀ k, k < W.1 → W.2.2 k ≤ 400) (hW : W.1 < 2 ^ 31) {i : Nat} {kw : List Nat} (hi : kwL.getD i [] = kw) (hd : kdL.getD i [] = [88, 89]) (hk : isWb t (W.2.1 0) (W.2.2 0) kw = true) : f_M_isStatement_b147 N (eM m s B w G) (some m) = some (bI (fit t W i).isSome) := by
  unfold f_M_isStatement_b147
  rw [mg_8, Option.bind_some, h.1.1]
  by_cases hc : W.1 = 3
  · rw [if_pos (show nI W.1 = 3 from by rw [hc]; rfl), fit_some hi hd hk hc rfl, pf_XY]
    simp only [mgO, Option.bind_some, M_isVal hN h (i := 1) (k := 1) rfl (by omega) (by decide) (he _ (by omega)), M_isVal hN h (i := 2) (k := 2) rfl (by omega) (by decide) (he _ (by omega))]
    cases (isVl t (W.2.1 1) (W.2.2 1)) <;> cases (isVl t (W.2.1 2) (W.2.2 2)) <;> rfl
  · rw [if_neg (show ¬ nI W.1 = 3 from fun z => hc ((nI_eq (b := 3) hW (by decide)).mp z)), fit_none hd hc rfl]
    rfl
theorem br_b193 (hN : 400 < N) (h : lSt s B w t base W) (he : ∀ k, k < W.1 → W.2.2 k ≤ 400) (hW : W.1 < 2 ^ 31) {i : Nat} {kw : List Nat} (hi : kwL.getD i [] = kw) (hd : kdL.getD i [] = [82, 88, 89]) (hk : isWb t (W.2.1 0) (W.2.2 0) kw = true) : f_M_isStatement_b193 N (eM m s B w G) (some m) = some (bI (fit t W i).isSome) := by
  unfold f_M_isStatement_b193
  rw [mg_8, Option.bind_some, h.1.1]
  by_cases hc : W.1 = 4
  · rw [if_pos (show nI W.1 = 4 from by rw [hc]; rfl), fit_some hi hd hk hc rfl, pf_RXY]
    simp only [mgO, Option.bind_some, M_isReg h (i := 1) (k := 1) rfl (by omega) (by decide), M_isVal hN h (i := 2) (k := 2) rfl (by omega) (by decide) (he _ (by omega)), M_isVal hN h (i := 3) (k := 3) rfl (by omega) (by decide) (he _ (by omega))]
    cases (isRg (ol t (W.2.1 1) (W.2.2 1))) <;> cases (isVl t (W.2.1 2) (W.2.2 2)) <;> cases (isVl t (W.2.1 3) (W.2.2 3)) <;> rfl
  · rw [if_neg (show ¬ nI W.1 = 4 from fun z => hc ((nI_eq (b := 4) hW (by decide)).mp z)), fit_none hd hc rfl]
    rfl
theorem br_b263 (hN : 400 < N) (h : lSt s B w t base W) (he : ∀ k, k < W.1 → W.2.2 k ≤ 400) (hW : W.1 < 2 ^ 31) {i : Nat} {kw : List Nat} (hi : kwL.getD i [] = kw) (hd : kdL.getD i [] = [88]) (hk : isWb t (W.2.1 0) (W.2.2 0) kw = true) : f_M_isStatement_b263 N (eM m s B w G) (some m) = some (bI (fit t W i).isSome) := by
  unfold f_M_isStatement_b263
  rw [mg_8, Option.bind_some, h.1.1]
  by_cases hc : W.1 = 2
  · rw [if_pos (show nI W.1 = 2 from by rw [hc]; rfl), fit_some hi hd hk hc rfl, pf_X]
    simp only [mgO, Option.bind_some, M_isVal hN h (i := 1) (k := 1) rfl (by omega) (by decide) (he _ (by omega))]
    cases (isVl t (W.2.1 1) (W.2.2 1)) <;> rfl
  · rw [if_neg (show ¬ nI W.1 = 2 from fun z => hc ((nI_eq (b := 2) hW (by decide)).mp z)), fit_none hd hc rfl]
    rfl
theorem br_b301 (hN : 400 < N) (h : lSt s B w t base W) (he : ∀ k, k < W.1 → W.2.2 k ≤ 400) (hW : W.1 < 2 ^ 31) {i : Nat} {kw : List Nat} (hi : kwL.getD i [] = kw) (hd : kdL.getD i [] = [76]) (hk : isWb t (W.2.1 0) (W.2.2 0) kw = true) : f_M_isStatement_b301 N (eM m s B w G) (some m) = some (bI (fit t W i).isSome) := by
  unfold f_M_isStatement_b301
  rw [mg_8, Option.bind_some, h.1.1]
  by_cases hc : W.1 = 2
  · rw [if_pos (show nI W.1 = 2 from by rw [hc]; rfl), fit_some hi hd hk hc rfl, pf_L]
    simp only [mgO, Option.bind_some, M_isLet h (i := 1) (k := 1) rfl (by omega) (by decide)]
    cases (isLt (ol t (W.2.1 1) (W.2.2 1))) <;> rfl
  · rw [if_neg (show ¬ nI W.1 = 2 from fun z => hc ((nI_eq (b := 2) hW (by decide)).mp z)), fit_none hd hc rfl]
    rfl
set_option maxRecDepth 10000 in
theorem is_let (hN : 400 < N) (h : lSt s B w t base W) (h0 : 0 < W.1) (he : ∀ k, k < W.1 → W.2.2 k ≤ 400) (hW : W.1 < 2 ^ 31) (hk : isWb t (W.2.1 0) (W.2.2 0) [108, 101, 116] = true) : f_M_isStatement N (eM m s B w G) m = some (bI (anyFit t W)) := by
  have hw : w 0 = 7103860 := (kw_w h h0 [108, 101, 116] (by decide) (by decide)).mpr hk
  unfold f_M_isStatement
  rw [any_let hk, mg_9, Option.bind_some, mg_w0, Option.bind_some, hw, if_pos (by decide)]
  simp only [mg_8, Option.bind_some, h.1.1]
  by_cases h3 : W.1 = 3
  · rw [if_pos (show nI W.1 = 3 from by rw [h3]; rfl), fit_some (i := 0) (kd := [82, 88]) rfl rfl hk h3 rfl, fit_none (i := 1) (kd := [82, 88, 79, 89]) rfl (c := 5) (by omega) rfl, pf_RX]
    unfold f_M_isStatement_b47
    simp only [mgO, Option.bind_some, M_isReg h (i := 1) (k := 1) rfl (by omega) (by decide), M_isVal hN h (i := 2) (k := 2) rfl (by omega) (by decide) (he _ (by omega)), Option.isSome_none, Bool.or_false]
    cases (isRg (ol t (W.2.1 1) (W.2.2 1))) <;> cases (isVl t (W.2.1 2) (W.2.2 2)) <;> rfl
  · rw [if_neg (show ¬ nI W.1 = 3 from fun z => h3 ((nI_eq (b := 3) hW (by decide)).mp z)), fit_none (i := 0) rfl h3 rfl]
    by_cases h5 : W.1 = 5
    · rw [if_pos (show nI W.1 = 5 from by rw [h5]; rfl), fit_some (i := 1) (kd := [82, 88, 79, 89]) rfl rfl hk h5 rfl, pf_RXOY]
      unfold f_M_isStatement_b47
      simp only [mgO, Option.bind_some, M_isReg h (i := 1) (k := 1) rfl (by omega) (by decide), M_isVal hN h (i := 2) (k := 2) rfl (by omega) (by decide) (he _ (by omega)), M_isSgn h (i := 3) (k := 3) rfl (by omega) (by decide), M_isVal hN h (i := 4) (k := 4) rfl (by omega) (by decide) (he _ (by omega)), Option.isSome_none, Bool.false_or]
      cases (isRg (ol t (W.2.1 1) (W.2.2 1))) <;> cases (isVl t (W.2.1 2) (W.2.2 2)) <;> cases (isSg (ol t (W.2.1 3) (W.2.2 3))) <;> cases (isVl t (W.2.1 4) (W.2.2 4)) <;> rfl
    · rw [if_neg (show ¬ nI W.1 = 5 from fun z => h5 ((nI_eq (b := 5) hW (by decide)).mp z)), fit_none (i := 1) rfl h5 rfl]
      rfl
set_option maxRecDepth 10000 in
theorem is_get (hN : 400 < N) (h : lSt s B w t base W) (h0 : 0 < W.1) (he : ∀ k, k < W.1 → W.2.2 k ≤ 400) (hW : W.1 < 2 ^ 31) (hk : isWb t (W.2.1 0) (W.2.2 0) [103, 101, 116] = true) : f_M_isStatement N (eM m s B w G) m = some (bI (anyFit t W)) := by
  have hw : w 0 = 6776180 := (kw_w h h0 [103, 101, 116] (by decide) (by decide)).mpr hk
  unfold f_M_isStatement
  rw [any_get hk, mg_9, Option.bind_some, mg_w0, Option.bind_some, hw, if_neg (by decide), if_pos (by decide)]
  exact br_b93 hN h he hW rfl rfl hk
set_option maxRecDepth 10000 in
theorem is_size (hN : 400 < N) (h : lSt s B w t base W) (h0 : 0 < W.1) (he : ∀ k, k < W.1 → W.2.2 k ≤ 400) (hW : W.1 < 2 ^ 31) (hk : isWb t (W.2.1 0) (W.2.2 0) [115, 105, 122, 101] = true) : f_M_isStatement N (eM m s B w G) m = some (bI (anyFit t W)) := by
  have hw : w 0 = 1936292453 := (kw_w h h0 [115, 105, 122, 101] (by decide) (by decide)).mpr hk
  unfold f_M_isStatement
  rw [any_size hk, mg_9, Option.bind_some, mg_w0, Option.bind_some, hw, if_neg (by decide), if_neg (by decide), if_pos (by decide)]
  exact br_b93 hN h he hW rfl rfl hk
set_option maxRecDepth 10000 in
theorem is_ask (hN : 400 < N) (h : lSt s B w t base W) (h0 : 0 < W.1) (he : ∀ k, k < W.1 → W.2.2 k ≤ 400) (hW : W.1 < 2 ^ 31) (hk : isWb t (W.2.1 0) (W.2.2 0) [97, 115, 107] = true) : f_M_isStatement N (eM m s B w G) m = some (bI (anyFit t W)) := by
  have hw : w 0 = 6386539 := (kw_w h h0 [97, 115, 107] (by decide) (by decide)).mpr hk
  unfold f_M_isStatement
  rw [any_ask hk, mg_9, Option.bind_some, mg_w0, Option.bind_some, hw, if_neg (by decide), if_neg (by decide), if_neg (by decide), if_pos (by decide)]
  exact br_b93 hN h he hW rfl rfl hk
set_option maxRecDepth 10000 in
theorem is_put (hN : 400 < N) (h : lSt s B w t base W) (h0 : 0 < W.1) (he : ∀ k, k < W.1 → W.2.2 k ≤ 400) (hW : W.1 < 2 ^ 31) (hk : isWb t (W.2.1 0) (W.2.2 0) [112, 117, 116] = true) : f_M_isStatement N (eM m s B w G) m = some (bI (anyFit t W)) := by
  have hw : w 0 = 7370100 := (kw_w h h0 [112, 117, 116] (by decide) (by decide)).mpr hk
  unfold f_M_isStatement
  rw [any_put hk, mg_9, Option.bind_some, mg_w0, Option.bind_some, hw, if_neg (by decide), if_neg (by decide), if_neg (by decide), if_neg (by decide), if_pos (by decide)]
  exact br_b147 hN h he hW rfl rfl hk
set_option maxRecDepth 10000 in
theorem is_write (hN : 400 < N) (h : lSt s B w t base W) (h0 : 0 < W.1) (he : ∀ k, k < W.1 → W.2.2 k ≤ 400) (hW : W.1 < 2 ^ 31) (hk : isWb t (W.2.1 0) (W.2.2 0) [119, 114, 105, 116, 101] = true) : f_M_isStatement N (eM m s B w G) m = some (bI (anyFit t W)) := by
  have hw : w 0 = 513020621925 := (kw_w h h0 [119, 114, 105, 116, 101] (by decide) (by decide)).mpr hk
  unfold f_M_isStatement
  rw [any_write hk, mg_9, Option.bind_some, mg_w0, Option.bind_some, hw, if_neg (by decide), if_neg (by decide), if_neg (by decide), if_neg (by decide), if_neg (by decide), if_pos (by decide)]
  exact br_b147 hN h he hW rfl rfl hk
set_option maxRecDepth 10000 in
theorem is_copy (hN : 400 < N) (h : lSt s B w t base W) (h0 : 0 < W.1) (he : ∀ k, k < W.1 → W.2.2 k ≤ 400) (hW : W.1 < 2 ^ 31) (hk : isWb t (W.2.1 0) (W.2.2 0) [99, 111, 112, 121] = true) : f_M_isStatement N (eM m s B w G) m = some (bI (anyFit t W)) := by
  have hw : w 0 = 1668247673 := (kw_w h h0 [99, 111, 112, 121] (by decide) (by decide)).mpr hk
  unfold f_M_isStatement
  rw [any_copy hk, mg_9, Option.bind_some, mg_w0, Option.bind_some, hw, if_neg (by decide), if_neg (by decide), if_neg (by decide), if_neg (by decide), if_neg (by decide), if_neg (by decide), if_pos (by decide)]
  exact br_b147 hN h he hW rfl rfl hk
set_option maxRecDepth 10000 in
theorem is_read (hN : 400 < N) (h : lSt s B w t base W) (h0 : 0 < W.1) (he : ∀ k, k < W.1 → W.2.2 k ≤ 400) (hW : W.1 < 2 ^ 31) (hk : isWb t (W.2.1 0) (W.2.2 0) [114, 101, 97, 100] = true) : f_M_isStatement N (eM m s B w G) m = some (bI (anyFit t W)) := by
  have hw : w 0 = 1919246692 := (kw_w h h0 [114, 101, 97, 100] (by decide) (by decide)).mpr hk
  unfold f_M_isStatement
  rw [any_read hk, mg_9, Option.bind_some, mg_w0, Option.bind_some, hw, if_neg (by decide), if_neg (by decide), if_neg (by decide), if_neg (by decide), if_neg (by decide), if_neg (by decide), if_neg (by decide), if_pos (by decide)]
  exact br_b193 hN h he hW rfl rfl hk
set_option maxRecDepth 10000 in
theorem is_run (hN : 400 < N) (h : lSt s B w t base W) (h0 : 0 < W.1) (he : ∀ k, k < W.1 → W.2.2 k ≤ 400) (hW : W.1 < 2 ^ 31) (hk : isWb t (W.2.1 0) (W.2.2 0) [114, 117, 110] = true) : f_M_isStatement N (eM m s B w G) m = some (bI (anyFit t W)) := by
  have hw : w 0 = 7501166 := (kw_w h h0 [114, 117, 110] (by decide) (by decide)).mpr hk
  unfold f_M_isStatement
  rw [any_run hk, mg_9, Option.bind_some, mg_w0, Option.bind_some, hw, if_neg (by decide), if_neg (by decide), if_neg (by decide), if_neg (by decide), if_neg (by decide), if_neg (by decide), if_neg (by decide), if_neg (by decide), if_pos (by decide)]
  exact br_b193 hN h he hW rfl rfl hk
set_option maxRecDepth 10000 in
theorem is_drop (hN : 400 < N) (h : lSt s B w t base W) (h0 : 0 < W.1) (he : ∀ k, k < W.1 → W.2.2 k ≤ 400) (hW : W.1 < 2 ^ 31) (hk : isWb t (W.2.1 0) (W.2.2 0) [100, 114, 111, 112] = true) : f_M_isStatement N (eM m s B w G) m = some (bI (anyFit t W)) := by
  have hw : w 0 = 1685221232 := (kw_w h h0 [100, 114, 111, 112] (by decide) (by decide)).mpr hk
  unfold f_M_isStatement
  rw [any_drop hk, mg_9, Option.bind_some, mg_w0, Option.bind_some, hw, if_neg (by decide), if_neg (by decide), if_neg (by decide), if_neg (by decide), if_neg (by decide), if_neg (by decide), if_neg (by decide), if_neg (by decide), if_neg (by decide), if_pos (by decide)]
  exact br_b263 hN h he hW rfl rfl hk
set_option maxRecDepth 10000 in
theorem is_out (hN : 400 < N) (h : lSt s B w t base W) (h0 : 0 < W.1) (he : ∀ k, k < W.1 → W.2.2 k ≤ 400) (hW : W.1 < 2 ^ 31) (hk : isWb t (W.2.1 0) (W.2.2 0) [111, 117, 116] = true) : f_M_isStatement N (eM m s B w G) m = some (bI (anyFit t W)) := by
  have hw : w 0 = 7304564 := (kw_w h h0 [111, 117, 116] (by decide) (by decide)).mpr hk
  unfold f_M_isStatement
  rw [any_out hk, mg_9, Option.bind_some, mg_w0, Option.bind_some, hw, if_neg (by decide), if_neg (by decide), if_neg (by decide), if_neg (by decide), if_neg (by decide), if_neg (by decide), if_neg (by decide), if_neg (by decide), if_neg (by decide), if_neg (by decide), if_pos (by decide)]
  exact br_b263 hN h he hW rfl rfl hk
set_option maxRecDepth 10000 in
theorem is_err (hN : 400 < N) (h : lSt s B w t base W) (h0 : 0 < W.1) (he : ∀ k, k < W.1 → W.2.2 k ≤ 400) (hW : W.1 < 2 ^ 31) (hk : isWb t (W.2.1 0) (W.2.2 0) [101, 114, 114] = true) : f_M_isStatement N (eM m s B w G) m = some (bI (anyFit t W)) := by
  have hw : w 0 = 6648434 := (kw_w h h0 [101, 114, 114] (by decide) (by decide)).mpr hk
  unfold f_M_isStatement
  rw [any_err hk, mg_9, Option.bind_some, mg_w0, Option.bind_some, hw, if_neg (by decide), if_neg (by decide), if_neg (by decide), if_neg (by decide), if_neg (by decide), if_neg (by decide), if_neg (by decide), if_neg (by decide), if_neg (by decide), if_neg (by decide), if_neg (by decide), if_pos (by decide)]
  exact br_b263 hN h he hW rfl rfl hk
set_option maxRecDepth 10000 in
theorem is_exit (hN : 400 < N) (h : lSt s B w t base W) (h0 : 0 < W.1) (he : ∀ k, k < W.1 → W.2.2 k ≤ 400) (hW : W.1 < 2 ^ 31) (hk : isWb t (W.2.1 0) (W.2.2 0) [101, 120, 105, 116] = true) : f_M_isStatement N (eM m s B w G) m = some (bI (anyFit t W)) := by
  have hw : w 0 = 1702390132 := (kw_w h h0 [101, 120, 105, 116] (by decide) (by decide)).mpr hk
  unfold f_M_isStatement
  rw [any_exit hk, mg_9, Option.bind_some, mg_w0, Option.bind_some, hw, if_neg (by decide), if_neg (by decide), if_neg (by decide), if_neg (by decide), if_neg (by decide), if_neg (by decide), if_neg (by decide), if_neg (by decide), if_neg (by decide), if_neg (by decide), if_neg (by decide), if_neg (by decide), if_pos (by decide)]
  exact br_b263 hN h he hW rfl rfl hk
set_option maxRecDepth 10000 in
theorem is_go (hN : 400 < N) (h : lSt s B w t base W) (h0 : 0 < W.1) (he : ∀ k, k < W.1 → W.2.2 k ≤ 400) (hW : W.1 < 2 ^ 31) (hk : isWb t (W.2.1 0) (W.2.2 0) [103, 111] = true) : f_M_isStatement N (eM m s B w G) m = some (bI (anyFit t W)) := by
  have hw : w 0 = 26479 := (kw_w h h0 [103, 111] (by decide) (by decide)).mpr hk
  unfold f_M_isStatement
  rw [any_go hk, mg_9, Option.bind_some, mg_w0, Option.bind_some, hw, if_neg (by decide), if_neg (by decide), if_neg (by decide), if_neg (by decide), if_neg (by decide), if_neg (by decide), if_neg (by decide), if_neg (by decide), if_neg (by decide), if_neg (by decide), if_neg (by decide), if_neg (by decide), if_neg (by decide), if_pos (by decide)]
  exact br_b301 hN h he hW rfl rfl hk
set_option maxRecDepth 10000 in
theorem is_call (hN : 400 < N) (h : lSt s B w t base W) (h0 : 0 < W.1) (he : ∀ k, k < W.1 → W.2.2 k ≤ 400) (hW : W.1 < 2 ^ 31) (hk : isWb t (W.2.1 0) (W.2.2 0) [99, 97, 108, 108] = true) : f_M_isStatement N (eM m s B w G) m = some (bI (anyFit t W)) := by
  have hw : w 0 = 1667329132 := (kw_w h h0 [99, 97, 108, 108] (by decide) (by decide)).mpr hk
  unfold f_M_isStatement
  rw [any_call hk, mg_9, Option.bind_some, mg_w0, Option.bind_some, hw, if_neg (by decide), if_neg (by decide), if_neg (by decide), if_neg (by decide), if_neg (by decide), if_neg (by decide), if_neg (by decide), if_neg (by decide), if_neg (by decide), if_neg (by decide), if_neg (by decide), if_neg (by decide), if_neg (by decide), if_neg (by decide), if_pos (by decide)]
  exact br_b301 hN h he hW rfl rfl hk
set_option maxRecDepth 10000 in
theorem is_if (hN : 400 < N) (h : lSt s B w t base W) (h0 : 0 < W.1) (he : ∀ k, k < W.1 → W.2.2 k ≤ 400) (hW : W.1 < 2 ^ 31) (hk : isWb t (W.2.1 0) (W.2.2 0) [105, 102] = true) : f_M_isStatement N (eM m s B w G) m = some (bI (anyFit t W)) := by
  have hw : w 0 = 26982 := (kw_w h h0 [105, 102] (by decide) (by decide)).mpr hk
  unfold f_M_isStatement
  rw [any_if hk, mg_9, Option.bind_some, mg_w0, Option.bind_some, hw, if_neg (by decide), if_neg (by decide), if_neg (by decide), if_neg (by decide), if_neg (by decide), if_neg (by decide), if_neg (by decide), if_neg (by decide), if_neg (by decide), if_neg (by decide), if_neg (by decide), if_neg (by decide), if_neg (by decide), if_neg (by decide), if_neg (by decide), if_pos (by decide)]
  simp only [mg_8, Option.bind_some, h.1.1]
  by_cases h6 : W.1 = 6
  · have hg : (lg_cmp (w 4) 26479 = 0) = (isWb t (W.2.1 4) (W.2.2 4) [103, 111] = true) := by
      rw [lg_cmp_eq, lSt_w h (by omega) (by decide), isWb_iff]
      exact propext (pk_W (lSt_ok h (by omega) (by decide)) [103, 111] (by decide) (by decide))
    rw [if_pos (show nI W.1 = 6 from by rw [h6]; rfl), fit_some (i := 12) (kd := [88, 67, 89, 103, 76]) rfl rfl hk h6 rfl, pf_XCYgL]
    simp only [mgO, Option.bind_some, mg_9, mg_w4, M_isVal hN h (i := 1) (k := 1) rfl (by omega) (by decide) (he _ (by omega)), M_isCmp h (i := 2) (k := 2) rfl (by omega) (by decide), M_isVal hN h (i := 3) (k := 3) rfl (by omega) (by decide) (he _ (by omega)), M_isLet h (i := 5) (k := 5) rfl (by omega) (by decide), hg]
    cases (isVl t (W.2.1 1) (W.2.2 1)) <;> cases (isCp (ol t (W.2.1 2) (W.2.2 2))) <;> cases (isVl t (W.2.1 3) (W.2.2 3)) <;> cases (isWb t (W.2.1 4) (W.2.2 4) [103, 111]) <;> cases (isLt (ol t (W.2.1 5) (W.2.2 5))) <;> rfl
  · rw [if_neg (show ¬ nI W.1 = 6 from fun z => h6 ((nI_eq (b := 6) hW (by decide)).mp z)), fit_none (i := 12) rfl h6 rfl]
    rfl
set_option maxRecDepth 10000 in
theorem is_back (hN : 400 < N) (h : lSt s B w t base W) (h0 : 0 < W.1) (he : ∀ k, k < W.1 → W.2.2 k ≤ 400) (hW : W.1 < 2 ^ 31) (hk : isWb t (W.2.1 0) (W.2.2 0) [98, 97, 99, 107] = true) : f_M_isStatement N (eM m s B w G) m = some (bI (anyFit t W)) := by
  have hw : w 0 = 1650549611 := (kw_w h h0 [98, 97, 99, 107] (by decide) (by decide)).mpr hk
  unfold f_M_isStatement
  rw [any_back hk, mg_9, Option.bind_some, mg_w0, Option.bind_some, hw, if_neg (by decide), if_neg (by decide), if_neg (by decide), if_neg (by decide), if_neg (by decide), if_neg (by decide), if_neg (by decide), if_neg (by decide), if_neg (by decide), if_neg (by decide), if_neg (by decide), if_neg (by decide), if_neg (by decide), if_neg (by decide), if_neg (by decide), if_neg (by decide), if_pos (by decide)]
  simp only [mg_8, Option.bind_some, h.1.1]
  by_cases h6 : W.1 = 1
  · rw [if_pos (show nI W.1 = 1 from by rw [h6]; rfl), fit_some (i := 14) (kd := []) rfl rfl hk h6 rfl, pf_nil]
    rfl
  · rw [if_neg (show ¬ nI W.1 = 1 from fun z => h6 ((nI_eq (b := 1) hW (by decide)).mp z)), fit_none (i := 14) rfl h6 rfl]
    rfl
set_option maxRecDepth 10000 in
theorem M_isStm (hN : 400 < N) (h : lSt s B w t base W) (h0 : 0 < W.1) (he : ∀ k, k < W.1 → W.2.2 k ≤ 400) (hW : W.1 < 2 ^ 31) : f_M_isStatement N (eM m s B w G) m = some (bI (anyFit t W)) := by
  by_cases k0 : isWb t (W.2.1 0) (W.2.2 0) [108, 101, 116] = true
  · exact is_let hN h h0 he hW k0
  by_cases k1 : isWb t (W.2.1 0) (W.2.2 0) [103, 101, 116] = true
  · exact is_get hN h h0 he hW k1
  by_cases k2 : isWb t (W.2.1 0) (W.2.2 0) [115, 105, 122, 101] = true
  · exact is_size hN h h0 he hW k2
  by_cases k3 : isWb t (W.2.1 0) (W.2.2 0) [97, 115, 107] = true
  · exact is_ask hN h h0 he hW k3
  by_cases k4 : isWb t (W.2.1 0) (W.2.2 0) [112, 117, 116] = true
  · exact is_put hN h h0 he hW k4
  by_cases k5 : isWb t (W.2.1 0) (W.2.2 0) [119, 114, 105, 116, 101] = true
  · exact is_write hN h h0 he hW k5
  by_cases k6 : isWb t (W.2.1 0) (W.2.2 0) [99, 111, 112, 121] = true
  · exact is_copy hN h h0 he hW k6
  by_cases k7 : isWb t (W.2.1 0) (W.2.2 0) [114, 101, 97, 100] = true
  · exact is_read hN h h0 he hW k7
  by_cases k8 : isWb t (W.2.1 0) (W.2.2 0) [114, 117, 110] = true
  · exact is_run hN h h0 he hW k8
  by_cases k9 : isWb t (W.2.1 0) (W.2.2 0) [100, 114, 111, 112] = true
  · exact is_drop hN h h0 he hW k9
  by_cases k10 : isWb t (W.2.1 0) (W.2.2 0) [111, 117, 116] = true
  · exact is_out hN h h0 he hW k10
  by_cases k11 : isWb t (W.2.1 0) (W.2.2 0) [101, 114, 114] = true
  · exact is_err hN h h0 he hW k11
  by_cases k12 : isWb t (W.2.1 0) (W.2.2 0) [101, 120, 105, 116] = true
  · exact is_exit hN h h0 he hW k12
  by_cases k13 : isWb t (W.2.1 0) (W.2.2 0) [103, 111] = true
  · exact is_go hN h h0 he hW k13
  by_cases k14 : isWb t (W.2.1 0) (W.2.2 0) [99, 97, 108, 108] = true
  · exact is_call hN h h0 he hW k14
  by_cases k15 : isWb t (W.2.1 0) (W.2.2 0) [105, 102] = true
  · exact is_if hN h h0 he hW k15
  by_cases k16 : isWb t (W.2.1 0) (W.2.2 0) [98, 97, 99, 107] = true
  · exact is_back hN h h0 he hW k16
  have z0 : ¬ lg_cmp (w 0) 7103860 = 0 := fun z => k0 ((kw_w h h0 [108, 101, 116] (by decide) (by decide)).mp ((lg_cmp_eq _ _).mp z))
  have z1 : ¬ lg_cmp (w 0) 6776180 = 0 := fun z => k1 ((kw_w h h0 [103, 101, 116] (by decide) (by decide)).mp ((lg_cmp_eq _ _).mp z))
  have z2 : ¬ lg_cmp (w 0) 1936292453 = 0 := fun z => k2 ((kw_w h h0 [115, 105, 122, 101] (by decide) (by decide)).mp ((lg_cmp_eq _ _).mp z))
  have z3 : ¬ lg_cmp (w 0) 6386539 = 0 := fun z => k3 ((kw_w h h0 [97, 115, 107] (by decide) (by decide)).mp ((lg_cmp_eq _ _).mp z))
  have z4 : ¬ lg_cmp (w 0) 7370100 = 0 := fun z => k4 ((kw_w h h0 [112, 117, 116] (by decide) (by decide)).mp ((lg_cmp_eq _ _).mp z))
  have z5 : ¬ lg_cmp (w 0) 513020621925 = 0 := fun z => k5 ((kw_w h h0 [119, 114, 105, 116, 101] (by decide) (by decide)).mp ((lg_cmp_eq _ _).mp z))
  have z6 : ¬ lg_cmp (w 0) 1668247673 = 0 := fun z => k6 ((kw_w h h0 [99, 111, 112, 121] (by decide) (by decide)).mp ((lg_cmp_eq _ _).mp z))
  have z7 : ¬ lg_cmp (w 0) 1919246692 = 0 := fun z => k7 ((kw_w h h0 [114, 101, 97, 100] (by decide) (by decide)).mp ((lg_cmp_eq _ _).mp z))
  have z8 : ¬ lg_cmp (w 0) 7501166 = 0 := fun z => k8 ((kw_w h h0 [114, 117, 110] (by decide) (by decide)).mp ((lg_cmp_eq _ _).mp z))
  have z9 : ¬ lg_cmp (w 0) 1685221232 = 0 := fun z => k9 ((kw_w h h0 [100, 114, 111, 112] (by decide) (by decide)).mp ((lg_cmp_eq _ _).mp z))
  have z10 : ¬ lg_cmp (w 0) 7304564 = 0 := fun z => k10 ((kw_w h h0 [111, 117, 116] (by decide) (by decide)).mp ((lg_cmp_eq _ _).mp z))
  have z11 : ¬ lg_cmp (w 0) 6648434 = 0 := fun z => k11 ((kw_w h h0 [101, 114, 114] (by decide) (by decide)).mp ((lg_cmp_eq _ _).mp z))
  have z12 : ¬ lg_cmp (w 0) 1702390132 = 0 := fun z => k12 ((kw_w h h0 [101, 120, 105, 116] (by decide) (by decide)).mp ((lg_cmp_eq _ _).mp z))
  have z13 : ¬ lg_cmp (w 0) 26479 = 0 := fun z => k13 ((kw_w h h0 [103, 111] (by decide) (by decide)).mp ((lg_cmp_eq _ _).mp z))
  have z14 : ¬ lg_cmp (w 0) 1667329132 = 0 := fun z => k14 ((kw_w h h0 [99, 97, 108, 108] (by decide) (by decide)).mp ((lg_cmp_eq _ _).mp z))
  have z15 : ¬ lg_cmp (w 0) 26982 = 0 := fun z => k15 ((kw_w h h0 [105, 102] (by decide) (by decide)).mp ((lg_cmp_eq _ _).mp z))
  have z16 : ¬ lg_cmp (w 0) 1650549611 = 0 := fun z => k16 ((kw_w h h0 [98, 97, 99, 107] (by decide) (by decide)).mp ((lg_cmp_eq _ _).mp z))
  have e0 : fit t W 0 = none := if_neg (fun z => k0 z.2)
  have e1 : fit t W 1 = none := if_neg (fun z => k0 z.2)
  have e2 : fit t W 2 = none := if_neg (fun z => k1 z.2)
  have e3 : fit t W 3 = none := if_neg (fun z => k4 z.2)
  have e4 : fit t W 4 = none := if_neg (fun z => k2 z.2)
  have e5 : fit t W 5 = none := if_neg (fun z => k7 z.2)
  have e6 : fit t W 6 = none := if_neg (fun z => k5 z.2)
  have e7 : fit t W 7 = none := if_neg (fun z => k9 z.2)
  have e8 : fit t W 8 = none := if_neg (fun z => k6 z.2)
  have e9 : fit t W 9 = none := if_neg (fun z => k10 z.2)
  have e10 : fit t W 10 = none := if_neg (fun z => k11 z.2)
  have e11 : fit t W 11 = none := if_neg (fun z => k13 z.2)
  have e12 : fit t W 12 = none := if_neg (fun z => k15 z.2)
  have e13 : fit t W 13 = none := if_neg (fun z => k14 z.2)
  have e14 : fit t W 14 = none := if_neg (fun z => k16 z.2)
  have e15 : fit t W 15 = none := if_neg (fun z => k8 z.2)
  have e16 : fit t W 16 = none := if_neg (fun z => k3 z.2)
  have e17 : fit t W 17 = none := if_neg (fun z => k12 z.2)
  unfold f_M_isStatement anyFit
  rw [mg_9, Option.bind_some, mg_w0, Option.bind_some, if_neg z0, if_neg z1, if_neg z2, if_neg z3, if_neg z4, if_neg z5, if_neg z6, if_neg z7, if_neg z8, if_neg z9, if_neg z10, if_neg z11, if_neg z12, if_neg z13, if_neg z14, if_neg z15, if_neg z16, show List.range 18 = [0, 1, 2, 3, 4, 5, 6, 7, 8, 9, 10, 11, 12, 13, 14, 15, 16, 17] from rfl]
  simp only [List.any_cons, List.any_nil, e0, e1, e2, e3, e4, e5, e6, e7, e8, e9, e10, e11, e12, e13, e14, e15, e16, e17, Option.isSome_none, Bool.or_false]
  rfl
theorem fi_0 {st : vSt} (h : fit t W 0 = some st) : W.1 = 3 ∧ isWb t (W.2.1 0) (W.2.2 0) [108, 101, 116] = true ∧ isRg (ol t (W.2.1 1) (W.2.2 1)) = true ∧ isVl t (W.2.1 2) (W.2.2 2) = true ∧ st = (ol t (W.2.1 1) (W.2.2 1) - 97, opd t (W.2.1 2) (W.2.2 2), -1, -1000000, -1) := by
  unfold fit at h
  split at h
  · rename_i hc
    obtain ⟨h1, h2⟩ := hc
    have h3 : pf t W [82, 88] 1 st0 = some st := h
    simp only [pf, tw, st0, if_true, if_false, show ¬ (88 : Nat) = 82 from by decide, show ¬ (89 : Nat) = 82 from by decide, show ¬ (89 : Nat) = 88 from by decide, show ¬ (79 : Nat) = 82 from by decide, show ¬ (79 : Nat) = 88 from by decide, show ¬ (79 : Nat) = 89 from by decide, show ¬ (67 : Nat) = 82 from by decide, show ¬ (67 : Nat) = 88 from by decide, show ¬ (67 : Nat) = 89 from by decide, show ¬ (67 : Nat) = 79 from by decide, show ¬ (76 : Nat) = 82 from by decide, show ¬ (76 : Nat) = 88 from by decide, show ¬ (76 : Nat) = 89 from by decide, show ¬ (76 : Nat) = 79 from by decide, show ¬ (76 : Nat) = 67 from by decide, show ¬ (103 : Nat) = 82 from by decide, show ¬ (103 : Nat) = 88 from by decide, show ¬ (103 : Nat) = 89 from by decide, show ¬ (103 : Nat) = 79 from by decide, show ¬ (103 : Nat) = 67 from by decide, show ¬ (103 : Nat) = 76 from by decide] at h3
    cases b0 : isRg (ol t (W.2.1 1) (W.2.2 1)) <;> cases b1 : isVl t (W.2.1 2) (W.2.2 2) <;> simp [b0, b1] at h3
    exact ⟨h1, h2, rfl, rfl, h3.symm⟩
  · cases h
theorem fi_1 {st : vSt} (h : fit t W 1 = some st) : W.1 = 5 ∧ isWb t (W.2.1 0) (W.2.2 0) [108, 101, 116] = true ∧ isRg (ol t (W.2.1 1) (W.2.2 1)) = true ∧ isVl t (W.2.1 2) (W.2.2 2) = true ∧ isSg (ol t (W.2.1 3) (W.2.2 3)) = true ∧ isVl t (W.2.1 4) (W.2.2 4) = true ∧ st = (ol t (W.2.1 1) (W.2.2 1) - 97, opd t (W.2.1 2) (W.2.2 2), ol t (W.2.1 3) (W.2.2 3), opd t (W.2.1 4) (W.2.2 4), -1) := by
  unfold fit at h
  split at h
  · rename_i hc
    obtain ⟨h1, h2⟩ := hc
    have h3 : pf t W [82, 88, 79, 89] 1 st0 = some st := h
    simp only [pf, tw, st0, if_true, if_false, show ¬ (88 : Nat) = 82 from by decide, show ¬ (89 : Nat) = 82 from by decide, show ¬ (89 : Nat) = 88 from by decide, show ¬ (79 : Nat) = 82 from by decide, show ¬ (79 : Nat) = 88 from by decide, show ¬ (79 : Nat) = 89 from by decide, show ¬ (67 : Nat) = 82 from by decide, show ¬ (67 : Nat) = 88 from by decide, show ¬ (67 : Nat) = 89 from by decide, show ¬ (67 : Nat) = 79 from by decide, show ¬ (76 : Nat) = 82 from by decide, show ¬ (76 : Nat) = 88 from by decide, show ¬ (76 : Nat) = 89 from by decide, show ¬ (76 : Nat) = 79 from by decide, show ¬ (76 : Nat) = 67 from by decide, show ¬ (103 : Nat) = 82 from by decide, show ¬ (103 : Nat) = 88 from by decide, show ¬ (103 : Nat) = 89 from by decide, show ¬ (103 : Nat) = 79 from by decide, show ¬ (103 : Nat) = 67 from by decide, show ¬ (103 : Nat) = 76 from by decide] at h3
    cases b0 : isRg (ol t (W.2.1 1) (W.2.2 1)) <;> cases b1 : isVl t (W.2.1 2) (W.2.2 2) <;> cases b2 : isSg (ol t (W.2.1 3) (W.2.2 3)) <;> cases b3 : isVl t (W.2.1 4) (W.2.2 4) <;> simp [b0, b1, b2, b3] at h3
    exact ⟨h1, h2, rfl, rfl, rfl, rfl, h3.symm⟩
  · cases h
theorem fi_2 {st : vSt} (h : fit t W 2 = some st) : W.1 = 3 ∧ isWb t (W.2.1 0) (W.2.2 0) [103, 101, 116] = true ∧ isRg (ol t (W.2.1 1) (W.2.2 1)) = true ∧ isVl t (W.2.1 2) (W.2.2 2) = true ∧ st = (ol t (W.2.1 1) (W.2.2 1) - 97, opd t (W.2.1 2) (W.2.2 2), -1, -1000000, -1) := by
  unfold fit at h
  split at h
  · rename_i hc
    obtain ⟨h1, h2⟩ := hc
    have h3 : pf t W [82, 88] 1 st0 = some st := h
    simp only [pf, tw, st0, if_true, if_false, show ¬ (88 : Nat) = 82 from by decide, show ¬ (89 : Nat) = 82 from by decide, show ¬ (89 : Nat) = 88 from by decide, show ¬ (79 : Nat) = 82 from by decide, show ¬ (79 : Nat) = 88 from by decide, show ¬ (79 : Nat) = 89 from by decide, show ¬ (67 : Nat) = 82 from by decide, show ¬ (67 : Nat) = 88 from by decide, show ¬ (67 : Nat) = 89 from by decide, show ¬ (67 : Nat) = 79 from by decide, show ¬ (76 : Nat) = 82 from by decide, show ¬ (76 : Nat) = 88 from by decide, show ¬ (76 : Nat) = 89 from by decide, show ¬ (76 : Nat) = 79 from by decide, show ¬ (76 : Nat) = 67 from by decide, show ¬ (103 : Nat) = 82 from by decide, show ¬ (103 : Nat) = 88 from by decide, show ¬ (103 : Nat) = 89 from by decide, show ¬ (103 : Nat) = 79 from by decide, show ¬ (103 : Nat) = 67 from by decide, show ¬ (103 : Nat) = 76 from by decide] at h3
    cases b0 : isRg (ol t (W.2.1 1) (W.2.2 1)) <;> cases b1 : isVl t (W.2.1 2) (W.2.2 2) <;> simp [b0, b1] at h3
    exact ⟨h1, h2, rfl, rfl, h3.symm⟩
  · cases h
theorem fi_3 {st : vSt} (h : fit t W 3 = some st) : W.1 = 3 ∧ isWb t (W.2.1 0) (W.2.2 0) [112, 117, 116] = true ∧ isVl t (W.2.1 1) (W.2.2 1) = true ∧ isVl t (W.2.1 2) (W.2.2 2) = true ∧ st = (-1, opd t (W.2.1 1) (W.2.2 1), -1, opd t (W.2.1 2) (W.2.2 2), -1) := by
  unfold fit at h
  split at h
  · rename_i hc
    obtain ⟨h1, h2⟩ := hc
    have h3 : pf t W [88, 89] 1 st0 = some st := h
    simp only [pf, tw, st0, if_true, if_false, show ¬ (88 : Nat) = 82 from by decide, show ¬ (89 : Nat) = 82 from by decide, show ¬ (89 : Nat) = 88 from by decide, show ¬ (79 : Nat) = 82 from by decide, show ¬ (79 : Nat) = 88 from by decide, show ¬ (79 : Nat) = 89 from by decide, show ¬ (67 : Nat) = 82 from by decide, show ¬ (67 : Nat) = 88 from by decide, show ¬ (67 : Nat) = 89 from by decide, show ¬ (67 : Nat) = 79 from by decide, show ¬ (76 : Nat) = 82 from by decide, show ¬ (76 : Nat) = 88 from by decide, show ¬ (76 : Nat) = 89 from by decide, show ¬ (76 : Nat) = 79 from by decide, show ¬ (76 : Nat) = 67 from by decide, show ¬ (103 : Nat) = 82 from by decide, show ¬ (103 : Nat) = 88 from by decide, show ¬ (103 : Nat) = 89 from by decide, show ¬ (103 : Nat) = 79 from by decide, show ¬ (103 : Nat) = 67 from by decide, show ¬ (103 : Nat) = 76 from by decide] at h3
    cases b0 : isVl t (W.2.1 1) (W.2.2 1) <;> cases b1 : isVl t (W.2.1 2) (W.2.2 2) <;> simp [b0, b1] at h3
    exact ⟨h1, h2, rfl, rfl, h3.symm⟩
  · cases h
theorem fi_4 {st : vSt} (h : fit t W 4 = some st) : W.1 = 3 ∧ isWb t (W.2.1 0) (W.2.2 0) [115, 105, 122, 101] = true ∧ isRg (ol t (W.2.1 1) (W.2.2 1)) = true ∧ isVl t (W.2.1 2) (W.2.2 2) = true ∧ st = (ol t (W.2.1 1) (W.2.2 1) - 97, opd t (W.2.1 2) (W.2.2 2), -1, -1000000, -1) := by
  unfold fit at h
  split at h
  · rename_i hc
    obtain ⟨h1, h2⟩ := hc
    have h3 : pf t W [82, 88] 1 st0 = some st := h
    simp only [pf, tw, st0, if_true, if_false, show ¬ (88 : Nat) = 82 from by decide, show ¬ (89 : Nat) = 82 from by decide, show ¬ (89 : Nat) = 88 from by decide, show ¬ (79 : Nat) = 82 from by decide, show ¬ (79 : Nat) = 88 from by decide, show ¬ (79 : Nat) = 89 from by decide, show ¬ (67 : Nat) = 82 from by decide, show ¬ (67 : Nat) = 88 from by decide, show ¬ (67 : Nat) = 89 from by decide, show ¬ (67 : Nat) = 79 from by decide, show ¬ (76 : Nat) = 82 from by decide, show ¬ (76 : Nat) = 88 from by decide, show ¬ (76 : Nat) = 89 from by decide, show ¬ (76 : Nat) = 79 from by decide, show ¬ (76 : Nat) = 67 from by decide, show ¬ (103 : Nat) = 82 from by decide, show ¬ (103 : Nat) = 88 from by decide, show ¬ (103 : Nat) = 89 from by decide, show ¬ (103 : Nat) = 79 from by decide, show ¬ (103 : Nat) = 67 from by decide, show ¬ (103 : Nat) = 76 from by decide] at h3
    cases b0 : isRg (ol t (W.2.1 1) (W.2.2 1)) <;> cases b1 : isVl t (W.2.1 2) (W.2.2 2) <;> simp [b0, b1] at h3
    exact ⟨h1, h2, rfl, rfl, h3.symm⟩
  · cases h
theorem fi_5 {st : vSt} (h : fit t W 5 = some st) : W.1 = 4 ∧ isWb t (W.2.1 0) (W.2.2 0) [114, 101, 97, 100] = true ∧ isRg (ol t (W.2.1 1) (W.2.2 1)) = true ∧ isVl t (W.2.1 2) (W.2.2 2) = true ∧ isVl t (W.2.1 3) (W.2.2 3) = true ∧ st = (ol t (W.2.1 1) (W.2.2 1) - 97, opd t (W.2.1 2) (W.2.2 2), -1, opd t (W.2.1 3) (W.2.2 3), -1) := by
  unfold fit at h
  split at h
  · rename_i hc
    obtain ⟨h1, h2⟩ := hc
    have h3 : pf t W [82, 88, 89] 1 st0 = some st := h
    simp only [pf, tw, st0, if_true, if_false, show ¬ (88 : Nat) = 82 from by decide, show ¬ (89 : Nat) = 82 from by decide, show ¬ (89 : Nat) = 88 from by decide, show ¬ (79 : Nat) = 82 from by decide, show ¬ (79 : Nat) = 88 from by decide, show ¬ (79 : Nat) = 89 from by decide, show ¬ (67 : Nat) = 82 from by decide, show ¬ (67 : Nat) = 88 from by decide, show ¬ (67 : Nat) = 89 from by decide, show ¬ (67 : Nat) = 79 from by decide, show ¬ (76 : Nat) = 82 from by decide, show ¬ (76 : Nat) = 88 from by decide, show ¬ (76 : Nat) = 89 from by decide, show ¬ (76 : Nat) = 79 from by decide, show ¬ (76 : Nat) = 67 from by decide, show ¬ (103 : Nat) = 82 from by decide, show ¬ (103 : Nat) = 88 from by decide, show ¬ (103 : Nat) = 89 from by decide, show ¬ (103 : Nat) = 79 from by decide, show ¬ (103 : Nat) = 67 from by decide, show ¬ (103 : Nat) = 76 from by decide] at h3
    cases b0 : isRg (ol t (W.2.1 1) (W.2.2 1)) <;> cases b1 : isVl t (W.2.1 2) (W.2.2 2) <;> cases b2 : isVl t (W.2.1 3) (W.2.2 3) <;> simp [b0, b1, b2] at h3
    exact ⟨h1, h2, rfl, rfl, rfl, h3.symm⟩
  · cases h
theorem fi_6 {st : vSt} (h : fit t W 6 = some st) : W.1 = 3 ∧ isWb t (W.2.1 0) (W.2.2 0) [119, 114, 105, 116, 101] = true ∧ isVl t (W.2.1 1) (W.2.2 1) = true ∧ isVl t (W.2.1 2) (W.2.2 2) = true ∧ st = (-1, opd t (W.2.1 1) (W.2.2 1), -1, opd t (W.2.1 2) (W.2.2 2), -1) := by
  unfold fit at h
  split at h
  · rename_i hc
    obtain ⟨h1, h2⟩ := hc
    have h3 : pf t W [88, 89] 1 st0 = some st := h
    simp only [pf, tw, st0, if_true, if_false, show ¬ (88 : Nat) = 82 from by decide, show ¬ (89 : Nat) = 82 from by decide, show ¬ (89 : Nat) = 88 from by decide, show ¬ (79 : Nat) = 82 from by decide, show ¬ (79 : Nat) = 88 from by decide, show ¬ (79 : Nat) = 89 from by decide, show ¬ (67 : Nat) = 82 from by decide, show ¬ (67 : Nat) = 88 from by decide, show ¬ (67 : Nat) = 89 from by decide, show ¬ (67 : Nat) = 79 from by decide, show ¬ (76 : Nat) = 82 from by decide, show ¬ (76 : Nat) = 88 from by decide, show ¬ (76 : Nat) = 89 from by decide, show ¬ (76 : Nat) = 79 from by decide, show ¬ (76 : Nat) = 67 from by decide, show ¬ (103 : Nat) = 82 from by decide, show ¬ (103 : Nat) = 88 from by decide, show ¬ (103 : Nat) = 89 from by decide, show ¬ (103 : Nat) = 79 from by decide, show ¬ (103 : Nat) = 67 from by decide, show ¬ (103 : Nat) = 76 from by decide] at h3
    cases b0 : isVl t (W.2.1 1) (W.2.2 1) <;> cases b1 : isVl t (W.2.1 2) (W.2.2 2) <;> simp [b0, b1] at h3
    exact ⟨h1, h2, rfl, rfl, h3.symm⟩
  · cases h
theorem fi_7 {st : vSt} (h : fit t W 7 = some st) : W.1 = 2 ∧ isWb t (W.2.1 0) (W.2.2 0) [100, 114, 111, 112] = true ∧ isVl t (W.2.1 1) (W.2.2 1) = true ∧ st = (-1, opd t (W.2.1 1) (W.2.2 1), -1, -1000000, -1) := by
  unfold fit at h
  split at h
  · rename_i hc
    obtain ⟨h1, h2⟩ := hc
    have h3 : pf t W [88] 1 st0 = some st := h
    simp only [pf, tw, st0, if_true, if_false, show ¬ (88 : Nat) = 82 from by decide, show ¬ (89 : Nat) = 82 from by decide, show ¬ (89 : Nat) = 88 from by decide, show ¬ (79 : Nat) = 82 from by decide, show ¬ (79 : Nat) = 88 from by decide, show ¬ (79 : Nat) = 89 from by decide, show ¬ (67 : Nat) = 82 from by decide, show ¬ (67 : Nat) = 88 from by decide, show ¬ (67 : Nat) = 89 from by decide, show ¬ (67 : Nat) = 79 from by decide, show ¬ (76 : Nat) = 82 from by decide, show ¬ (76 : Nat) = 88 from by decide, show ¬ (76 : Nat) = 89 from by decide, show ¬ (76 : Nat) = 79 from by decide, show ¬ (76 : Nat) = 67 from by decide, show ¬ (103 : Nat) = 82 from by decide, show ¬ (103 : Nat) = 88 from by decide, show ¬ (103 : Nat) = 89 from by decide, show ¬ (103 : Nat) = 79 from by decide, show ¬ (103 : Nat) = 67 from by decide, show ¬ (103 : Nat) = 76 from by decide] at h3
    cases b0 : isVl t (W.2.1 1) (W.2.2 1) <;> simp [b0] at h3
    exact ⟨h1, h2, rfl, h3.symm⟩
  · cases h
theorem fi_8 {st : vSt} (h : fit t W 8 = some st) : W.1 = 3 ∧ isWb t (W.2.1 0) (W.2.2 0) [99, 111, 112, 121] = true ∧ isVl t (W.2.1 1) (W.2.2 1) = true ∧ isVl t (W.2.1 2) (W.2.2 2) = true ∧ st = (-1, opd t (W.2.1 1) (W.2.2 1), -1, opd t (W.2.1 2) (W.2.2 2), -1) := by
  unfold fit at h
  split at h
  · rename_i hc
    obtain ⟨h1, h2⟩ := hc
    have h3 : pf t W [88, 89] 1 st0 = some st := h
    simp only [pf, tw, st0, if_true, if_false, show ¬ (88 : Nat) = 82 from by decide, show ¬ (89 : Nat) = 82 from by decide, show ¬ (89 : Nat) = 88 from by decide, show ¬ (79 : Nat) = 82 from by decide, show ¬ (79 : Nat) = 88 from by decide, show ¬ (79 : Nat) = 89 from by decide, show ¬ (67 : Nat) = 82 from by decide, show ¬ (67 : Nat) = 88 from by decide, show ¬ (67 : Nat) = 89 from by decide, show ¬ (67 : Nat) = 79 from by decide, show ¬ (76 : Nat) = 82 from by decide, show ¬ (76 : Nat) = 88 from by decide, show ¬ (76 : Nat) = 89 from by decide, show ¬ (76 : Nat) = 79 from by decide, show ¬ (76 : Nat) = 67 from by decide, show ¬ (103 : Nat) = 82 from by decide, show ¬ (103 : Nat) = 88 from by decide, show ¬ (103 : Nat) = 89 from by decide, show ¬ (103 : Nat) = 79 from by decide, show ¬ (103 : Nat) = 67 from by decide, show ¬ (103 : Nat) = 76 from by decide] at h3
    cases b0 : isVl t (W.2.1 1) (W.2.2 1) <;> cases b1 : isVl t (W.2.1 2) (W.2.2 2) <;> simp [b0, b1] at h3
    exact ⟨h1, h2, rfl, rfl, h3.symm⟩
  · cases h
theorem fi_9 {st : vSt} (h : fit t W 9 = some st) : W.1 = 2 ∧ isWb t (W.2.1 0) (W.2.2 0) [111, 117, 116] = true ∧ isVl t (W.2.1 1) (W.2.2 1) = true ∧ st = (-1, opd t (W.2.1 1) (W.2.2 1), -1, -1000000, -1) := by
  unfold fit at h
  split at h
  · rename_i hc
    obtain ⟨h1, h2⟩ := hc
    have h3 : pf t W [88] 1 st0 = some st := h
    simp only [pf, tw, st0, if_true, if_false, show ¬ (88 : Nat) = 82 from by decide, show ¬ (89 : Nat) = 82 from by decide, show ¬ (89 : Nat) = 88 from by decide, show ¬ (79 : Nat) = 82 from by decide, show ¬ (79 : Nat) = 88 from by decide, show ¬ (79 : Nat) = 89 from by decide, show ¬ (67 : Nat) = 82 from by decide, show ¬ (67 : Nat) = 88 from by decide, show ¬ (67 : Nat) = 89 from by decide, show ¬ (67 : Nat) = 79 from by decide, show ¬ (76 : Nat) = 82 from by decide, show ¬ (76 : Nat) = 88 from by decide, show ¬ (76 : Nat) = 89 from by decide, show ¬ (76 : Nat) = 79 from by decide, show ¬ (76 : Nat) = 67 from by decide, show ¬ (103 : Nat) = 82 from by decide, show ¬ (103 : Nat) = 88 from by decide, show ¬ (103 : Nat) = 89 from by decide, show ¬ (103 : Nat) = 79 from by decide, show ¬ (103 : Nat) = 67 from by decide, show ¬ (103 : Nat) = 76 from by decide] at h3
    cases b0 : isVl t (W.2.1 1) (W.2.2 1) <;> simp [b0] at h3
    exact ⟨h1, h2, rfl, h3.symm⟩
  · cases h
theorem fi_10 {st : vSt} (h : fit t W 10 = some st) : W.1 = 2 ∧ isWb t (W.2.1 0) (W.2.2 0) [101, 114, 114] = true ∧ isVl t (W.2.1 1) (W.2.2 1) = true ∧ st = (-1, opd t (W.2.1 1) (W.2.2 1), -1, -1000000, -1) := by
  unfold fit at h
  split at h
  · rename_i hc
    obtain ⟨h1, h2⟩ := hc
    have h3 : pf t W [88] 1 st0 = some st := h
    simp only [pf, tw, st0, if_true, if_false, show ¬ (88 : Nat) = 82 from by decide, show ¬ (89 : Nat) = 82 from by decide, show ¬ (89 : Nat) = 88 from by decide, show ¬ (79 : Nat) = 82 from by decide, show ¬ (79 : Nat) = 88 from by decide, show ¬ (79 : Nat) = 89 from by decide, show ¬ (67 : Nat) = 82 from by decide, show ¬ (67 : Nat) = 88 from by decide, show ¬ (67 : Nat) = 89 from by decide, show ¬ (67 : Nat) = 79 from by decide, show ¬ (76 : Nat) = 82 from by decide, show ¬ (76 : Nat) = 88 from by decide, show ¬ (76 : Nat) = 89 from by decide, show ¬ (76 : Nat) = 79 from by decide, show ¬ (76 : Nat) = 67 from by decide, show ¬ (103 : Nat) = 82 from by decide, show ¬ (103 : Nat) = 88 from by decide, show ¬ (103 : Nat) = 89 from by decide, show ¬ (103 : Nat) = 79 from by decide, show ¬ (103 : Nat) = 67 from by decide, show ¬ (103 : Nat) = 76 from by decide] at h3
    cases b0 : isVl t (W.2.1 1) (W.2.2 1) <;> simp [b0] at h3
    exact ⟨h1, h2, rfl, h3.symm⟩
  · cases h
theorem fi_11 {st : vSt} (h : fit t W 11 = some st) : W.1 = 2 ∧ isWb t (W.2.1 0) (W.2.2 0) [103, 111] = true ∧ isLt (ol t (W.2.1 1) (W.2.2 1)) = true ∧ st = (-1, -1000000, -1, -1000000, ol t (W.2.1 1) (W.2.2 1) - 65) := by
  unfold fit at h
  split at h
  · rename_i hc
    obtain ⟨h1, h2⟩ := hc
    have h3 : pf t W [76] 1 st0 = some st := h
    simp only [pf, tw, st0, if_true, if_false, show ¬ (88 : Nat) = 82 from by decide, show ¬ (89 : Nat) = 82 from by decide, show ¬ (89 : Nat) = 88 from by decide, show ¬ (79 : Nat) = 82 from by decide, show ¬ (79 : Nat) = 88 from by decide, show ¬ (79 : Nat) = 89 from by decide, show ¬ (67 : Nat) = 82 from by decide, show ¬ (67 : Nat) = 88 from by decide, show ¬ (67 : Nat) = 89 from by decide, show ¬ (67 : Nat) = 79 from by decide, show ¬ (76 : Nat) = 82 from by decide, show ¬ (76 : Nat) = 88 from by decide, show ¬ (76 : Nat) = 89 from by decide, show ¬ (76 : Nat) = 79 from by decide, show ¬ (76 : Nat) = 67 from by decide, show ¬ (103 : Nat) = 82 from by decide, show ¬ (103 : Nat) = 88 from by decide, show ¬ (103 : Nat) = 89 from by decide, show ¬ (103 : Nat) = 79 from by decide, show ¬ (103 : Nat) = 67 from by decide, show ¬ (103 : Nat) = 76 from by decide] at h3
    cases b0 : isLt (ol t (W.2.1 1) (W.2.2 1)) <;> simp [b0] at h3
    exact ⟨h1, h2, rfl, h3.symm⟩
  · cases h
theorem fi_12 {st : vSt} (h : fit t W 12 = some st) : W.1 = 6 ∧ isWb t (W.2.1 0) (W.2.2 0) [105, 102] = true ∧ isVl t (W.2.1 1) (W.2.2 1) = true ∧ isCp (ol t (W.2.1 2) (W.2.2 2)) = true ∧ isVl t (W.2.1 3) (W.2.2 3) = true ∧ isWb t (W.2.1 4) (W.2.2 4) [103, 111] = true ∧ isLt (ol t (W.2.1 5) (W.2.2 5)) = true ∧ st = (-1, opd t (W.2.1 1) (W.2.2 1), ol t (W.2.1 2) (W.2.2 2), opd t (W.2.1 3) (W.2.2 3), ol t (W.2.1 5) (W.2.2 5) - 65) := by
  unfold fit at h
  split at h
  · rename_i hc
    obtain ⟨h1, h2⟩ := hc
    have h3 : pf t W [88, 67, 89, 103, 76] 1 st0 = some st := h
    simp only [pf, tw, st0, if_true, if_false, show ¬ (88 : Nat) = 82 from by decide, show ¬ (89 : Nat) = 82 from by decide, show ¬ (89 : Nat) = 88 from by decide, show ¬ (79 : Nat) = 82 from by decide, show ¬ (79 : Nat) = 88 from by decide, show ¬ (79 : Nat) = 89 from by decide, show ¬ (67 : Nat) = 82 from by decide, show ¬ (67 : Nat) = 88 from by decide, show ¬ (67 : Nat) = 89 from by decide, show ¬ (67 : Nat) = 79 from by decide, show ¬ (76 : Nat) = 82 from by decide, show ¬ (76 : Nat) = 88 from by decide, show ¬ (76 : Nat) = 89 from by decide, show ¬ (76 : Nat) = 79 from by decide, show ¬ (76 : Nat) = 67 from by decide, show ¬ (103 : Nat) = 82 from by decide, show ¬ (103 : Nat) = 88 from by decide, show ¬ (103 : Nat) = 89 from by decide, show ¬ (103 : Nat) = 79 from by decide, show ¬ (103 : Nat) = 67 from by decide, show ¬ (103 : Nat) = 76 from by decide] at h3
    cases b0 : isVl t (W.2.1 1) (W.2.2 1) <;> cases b1 : isCp (ol t (W.2.1 2) (W.2.2 2)) <;> cases b2 : isVl t (W.2.1 3) (W.2.2 3) <;> cases b3 : isWb t (W.2.1 4) (W.2.2 4) [103, 111] <;> cases b4 : isLt (ol t (W.2.1 5) (W.2.2 5)) <;> simp [b0, b1, b2, b3, b4] at h3
    exact ⟨h1, h2, rfl, rfl, rfl, rfl, rfl, h3.symm⟩
  · cases h
theorem fi_13 {st : vSt} (h : fit t W 13 = some st) : W.1 = 2 ∧ isWb t (W.2.1 0) (W.2.2 0) [99, 97, 108, 108] = true ∧ isLt (ol t (W.2.1 1) (W.2.2 1)) = true ∧ st = (-1, -1000000, -1, -1000000, ol t (W.2.1 1) (W.2.2 1) - 65) := by
  unfold fit at h
  split at h
  · rename_i hc
    obtain ⟨h1, h2⟩ := hc
    have h3 : pf t W [76] 1 st0 = some st := h
    simp only [pf, tw, st0, if_true, if_false, show ¬ (88 : Nat) = 82 from by decide, show ¬ (89 : Nat) = 82 from by decide, show ¬ (89 : Nat) = 88 from by decide, show ¬ (79 : Nat) = 82 from by decide, show ¬ (79 : Nat) = 88 from by decide, show ¬ (79 : Nat) = 89 from by decide, show ¬ (67 : Nat) = 82 from by decide, show ¬ (67 : Nat) = 88 from by decide, show ¬ (67 : Nat) = 89 from by decide, show ¬ (67 : Nat) = 79 from by decide, show ¬ (76 : Nat) = 82 from by decide, show ¬ (76 : Nat) = 88 from by decide, show ¬ (76 : Nat) = 89 from by decide, show ¬ (76 : Nat) = 79 from by decide, show ¬ (76 : Nat) = 67 from by decide, show ¬ (103 : Nat) = 82 from by decide, show ¬ (103 : Nat) = 88 from by decide, show ¬ (103 : Nat) = 89 from by decide, show ¬ (103 : Nat) = 79 from by decide, show ¬ (103 : Nat) = 67 from by decide, show ¬ (103 : Nat) = 76 from by decide] at h3
    cases b0 : isLt (ol t (W.2.1 1) (W.2.2 1)) <;> simp [b0] at h3
    exact ⟨h1, h2, rfl, h3.symm⟩
  · cases h
theorem fi_14 {st : vSt} (h : fit t W 14 = some st) : W.1 = 1 ∧ isWb t (W.2.1 0) (W.2.2 0) [98, 97, 99, 107] = true ∧ st = (-1, -1000000, -1, -1000000, -1) := by
  unfold fit at h
  split at h
  · rename_i hc
    obtain ⟨h1, h2⟩ := hc
    have h3 : pf t W [] 1 st0 = some st := h
    exact ⟨h1, h2, (Option.some.inj h3).symm⟩
  · cases h
theorem fi_15 {st : vSt} (h : fit t W 15 = some st) : W.1 = 4 ∧ isWb t (W.2.1 0) (W.2.2 0) [114, 117, 110] = true ∧ isRg (ol t (W.2.1 1) (W.2.2 1)) = true ∧ isVl t (W.2.1 2) (W.2.2 2) = true ∧ isVl t (W.2.1 3) (W.2.2 3) = true ∧ st = (ol t (W.2.1 1) (W.2.2 1) - 97, opd t (W.2.1 2) (W.2.2 2), -1, opd t (W.2.1 3) (W.2.2 3), -1) := by
  unfold fit at h
  split at h
  · rename_i hc
    obtain ⟨h1, h2⟩ := hc
    have h3 : pf t W [82, 88, 89] 1 st0 = some st := h
    simp only [pf, tw, st0, if_true, if_false, show ¬ (88 : Nat) = 82 from by decide, show ¬ (89 : Nat) = 82 from by decide, show ¬ (89 : Nat) = 88 from by decide, show ¬ (79 : Nat) = 82 from by decide, show ¬ (79 : Nat) = 88 from by decide, show ¬ (79 : Nat) = 89 from by decide, show ¬ (67 : Nat) = 82 from by decide, show ¬ (67 : Nat) = 88 from by decide, show ¬ (67 : Nat) = 89 from by decide, show ¬ (67 : Nat) = 79 from by decide, show ¬ (76 : Nat) = 82 from by decide, show ¬ (76 : Nat) = 88 from by decide, show ¬ (76 : Nat) = 89 from by decide, show ¬ (76 : Nat) = 79 from by decide, show ¬ (76 : Nat) = 67 from by decide, show ¬ (103 : Nat) = 82 from by decide, show ¬ (103 : Nat) = 88 from by decide, show ¬ (103 : Nat) = 89 from by decide, show ¬ (103 : Nat) = 79 from by decide, show ¬ (103 : Nat) = 67 from by decide, show ¬ (103 : Nat) = 76 from by decide] at h3
    cases b0 : isRg (ol t (W.2.1 1) (W.2.2 1)) <;> cases b1 : isVl t (W.2.1 2) (W.2.2 2) <;> cases b2 : isVl t (W.2.1 3) (W.2.2 3) <;> simp [b0, b1, b2] at h3
    exact ⟨h1, h2, rfl, rfl, rfl, h3.symm⟩
  · cases h
theorem fi_16 {st : vSt} (h : fit t W 16 = some st) : W.1 = 3 ∧ isWb t (W.2.1 0) (W.2.2 0) [97, 115, 107] = true ∧ isRg (ol t (W.2.1 1) (W.2.2 1)) = true ∧ isVl t (W.2.1 2) (W.2.2 2) = true ∧ st = (ol t (W.2.1 1) (W.2.2 1) - 97, opd t (W.2.1 2) (W.2.2 2), -1, -1000000, -1) := by
  unfold fit at h
  split at h
  · rename_i hc
    obtain ⟨h1, h2⟩ := hc
    have h3 : pf t W [82, 88] 1 st0 = some st := h
    simp only [pf, tw, st0, if_true, if_false, show ¬ (88 : Nat) = 82 from by decide, show ¬ (89 : Nat) = 82 from by decide, show ¬ (89 : Nat) = 88 from by decide, show ¬ (79 : Nat) = 82 from by decide, show ¬ (79 : Nat) = 88 from by decide, show ¬ (79 : Nat) = 89 from by decide, show ¬ (67 : Nat) = 82 from by decide, show ¬ (67 : Nat) = 88 from by decide, show ¬ (67 : Nat) = 89 from by decide, show ¬ (67 : Nat) = 79 from by decide, show ¬ (76 : Nat) = 82 from by decide, show ¬ (76 : Nat) = 88 from by decide, show ¬ (76 : Nat) = 89 from by decide, show ¬ (76 : Nat) = 79 from by decide, show ¬ (76 : Nat) = 67 from by decide, show ¬ (103 : Nat) = 82 from by decide, show ¬ (103 : Nat) = 88 from by decide, show ¬ (103 : Nat) = 89 from by decide, show ¬ (103 : Nat) = 79 from by decide, show ¬ (103 : Nat) = 67 from by decide, show ¬ (103 : Nat) = 76 from by decide] at h3
    cases b0 : isRg (ol t (W.2.1 1) (W.2.2 1)) <;> cases b1 : isVl t (W.2.1 2) (W.2.2 2) <;> simp [b0, b1] at h3
    exact ⟨h1, h2, rfl, rfl, h3.symm⟩
  · cases h
theorem fi_17 {st : vSt} (h : fit t W 17 = some st) : W.1 = 2 ∧ isWb t (W.2.1 0) (W.2.2 0) [101, 120, 105, 116] = true ∧ isVl t (W.2.1 1) (W.2.2 1) = true ∧ st = (-1, opd t (W.2.1 1) (W.2.2 1), -1, -1000000, -1) := by
  unfold fit at h
  split at h
  · rename_i hc
    obtain ⟨h1, h2⟩ := hc
    have h3 : pf t W [88] 1 st0 = some st := h
    simp only [pf, tw, st0, if_true, if_false, show ¬ (88 : Nat) = 82 from by decide, show ¬ (89 : Nat) = 82 from by decide, show ¬ (89 : Nat) = 88 from by decide, show ¬ (79 : Nat) = 82 from by decide, show ¬ (79 : Nat) = 88 from by decide, show ¬ (79 : Nat) = 89 from by decide, show ¬ (67 : Nat) = 82 from by decide, show ¬ (67 : Nat) = 88 from by decide, show ¬ (67 : Nat) = 89 from by decide, show ¬ (67 : Nat) = 79 from by decide, show ¬ (76 : Nat) = 82 from by decide, show ¬ (76 : Nat) = 88 from by decide, show ¬ (76 : Nat) = 89 from by decide, show ¬ (76 : Nat) = 79 from by decide, show ¬ (76 : Nat) = 67 from by decide, show ¬ (103 : Nat) = 82 from by decide, show ¬ (103 : Nat) = 88 from by decide, show ¬ (103 : Nat) = 89 from by decide, show ¬ (103 : Nat) = 79 from by decide, show ¬ (103 : Nat) = 67 from by decide, show ¬ (103 : Nat) = 76 from by decide] at h3
    cases b0 : isVl t (W.2.1 1) (W.2.2 1) <;> simp [b0] at h3
    exact ⟨h1, h2, rfl, h3.symm⟩
  · cases h
theorem go_0 {st : vSt} (h : lSt s B w t base W) (hf : fit t W 0 = some st) : f_M_goal (eM m s B w G) m = some st.2.2.2.2 := by
  obtain ⟨h1, h2, b0, b1, rfl⟩ := fi_0 hf
  have hw : w 0 = 7103860 := (kw_w h (by omega) [108, 101, 116] (by decide) (by decide)).mpr h2
  unfold f_M_goal
  simp only [mg_9, Option.bind_some, mg_w0, hw]
  rw [if_neg (by decide), if_neg (by decide), if_neg (by decide)]
  rfl
theorem go_1 {st : vSt} (h : lSt s B w t base W) (hf : fit t W 1 = some st) : f_M_goal (eM m s B w G) m = some st.2.2.2.2 := by
  obtain ⟨h1, h2, b0, b1, b2, b3, rfl⟩ := fi_1 hf
  have hw : w 0 = 7103860 := (kw_w h (by omega) [108, 101, 116] (by decide) (by decide)).mpr h2
  unfold f_M_goal
  simp only [mg_9, Option.bind_some, mg_w0, hw]
  rw [if_neg (by decide), if_neg (by decide), if_neg (by decide)]
  rfl
theorem go_2 {st : vSt} (h : lSt s B w t base W) (hf : fit t W 2 = some st) : f_M_goal (eM m s B w G) m = some st.2.2.2.2 := by
  obtain ⟨h1, h2, b0, b1, rfl⟩ := fi_2 hf
  have hw : w 0 = 6776180 := (kw_w h (by omega) [103, 101, 116] (by decide) (by decide)).mpr h2
  unfold f_M_goal
  simp only [mg_9, Option.bind_some, mg_w0, hw]
  rw [if_neg (by decide), if_neg (by decide), if_neg (by decide)]
  rfl
theorem go_3 {st : vSt} (h : lSt s B w t base W) (hf : fit t W 3 = some st) : f_M_goal (eM m s B w G) m = some st.2.2.2.2 := by
  obtain ⟨h1, h2, b0, b1, rfl⟩ := fi_3 hf
  have hw : w 0 = 7370100 := (kw_w h (by omega) [112, 117, 116] (by decide) (by decide)).mpr h2
  unfold f_M_goal
  simp only [mg_9, Option.bind_some, mg_w0, hw]
  rw [if_neg (by decide), if_neg (by decide), if_neg (by decide)]
  rfl
theorem go_4 {st : vSt} (h : lSt s B w t base W) (hf : fit t W 4 = some st) : f_M_goal (eM m s B w G) m = some st.2.2.2.2 := by
  obtain ⟨h1, h2, b0, b1, rfl⟩ := fi_4 hf
  have hw : w 0 = 1936292453 := (kw_w h (by omega) [115, 105, 122, 101] (by decide) (by decide)).mpr h2
  unfold f_M_goal
  simp only [mg_9, Option.bind_some, mg_w0, hw]
  rw [if_neg (by decide), if_neg (by decide), if_neg (by decide)]
  rfl
theorem go_5 {st : vSt} (h : lSt s B w t base W) (hf : fit t W 5 = some st) : f_M_goal (eM m s B w G) m = some st.2.2.2.2 := by
  obtain ⟨h1, h2, b0, b1, b2, rfl⟩ := fi_5 hf
  have hw : w 0 = 1919246692 := (kw_w h (by omega) [114, 101, 97, 100] (by decide) (by decide)).mpr h2
  unfold f_M_goal
  simp only [mg_9, Option.bind_some, mg_w0, hw]
  rw [if_neg (by decide), if_neg (by decide), if_neg (by decide)]
  rfl
theorem go_6 {st : vSt} (h : lSt s B w t base W) (hf : fit t W 6 = some st) : f_M_goal (eM m s B w G) m = some st.2.2.2.2 := by
  obtain ⟨h1, h2, b0, b1, rfl⟩ := fi_6 hf
  have hw : w 0 = 513020621925 := (kw_w h (by omega) [119, 114, 105, 116, 101] (by decide) (by decide)).mpr h2
  unfold f_M_goal
  simp only [mg_9, Option.bind_some, mg_w0, hw]
  rw [if_neg (by decide), if_neg (by decide), if_neg (by decide)]
  rfl
theorem go_7 {st : vSt} (h : lSt s B w t base W) (hf : fit t W 7 = some st) : f_M_goal (eM m s B w G) m = some st.2.2.2.2 := by
  obtain ⟨h1, h2, b0, rfl⟩ := fi_7 hf
  have hw : w 0 = 1685221232 := (kw_w h (by omega) [100, 114, 111, 112] (by decide) (by decide)).mpr h2
  unfold f_M_goal
  simp only [mg_9, Option.bind_some, mg_w0, hw]
  rw [if_neg (by decide), if_neg (by decide), if_neg (by decide)]
  rfl
theorem go_8 {st : vSt} (h : lSt s B w t base W) (hf : fit t W 8 = some st) : f_M_goal (eM m s B w G) m = some st.2.2.2.2 := by
  obtain ⟨h1, h2, b0, b1, rfl⟩ := fi_8 hf
  have hw : w 0 = 1668247673 := (kw_w h (by omega) [99, 111, 112, 121] (by decide) (by decide)).mpr h2
  unfold f_M_goal
  simp only [mg_9, Option.bind_some, mg_w0, hw]
  rw [if_neg (by decide), if_neg (by decide), if_neg (by decide)]
  rfl
theorem go_9 {st : vSt} (h : lSt s B w t base W) (hf : fit t W 9 = some st) : f_M_goal (eM m s B w G) m = some st.2.2.2.2 := by
  obtain ⟨h1, h2, b0, rfl⟩ := fi_9 hf
  have hw : w 0 = 7304564 := (kw_w h (by omega) [111, 117, 116] (by decide) (by decide)).mpr h2
  unfold f_M_goal
  simp only [mg_9, Option.bind_some, mg_w0, hw]
  rw [if_neg (by decide), if_neg (by decide), if_neg (by decide)]
  rfl
theorem go_10 {st : vSt} (h : lSt s B w t base W) (hf : fit t W 10 = some st) : f_M_goal (eM m s B w G) m = some st.2.2.2.2 := by
  obtain ⟨h1, h2, b0, rfl⟩ := fi_10 hf
  have hw : w 0 = 6648434 := (kw_w h (by omega) [101, 114, 114] (by decide) (by decide)).mpr h2
  unfold f_M_goal
  simp only [mg_9, Option.bind_some, mg_w0, hw]
  rw [if_neg (by decide), if_neg (by decide), if_neg (by decide)]
  rfl
theorem go_11 {st : vSt} (h : lSt s B w t base W) (hf : fit t W 11 = some st) : f_M_goal (eM m s B w G) m = some st.2.2.2.2 := by
  obtain ⟨h1, h2, b0, rfl⟩ := fi_11 hf
  have hw : w 0 = 26479 := (kw_w h (by omega) [103, 111] (by decide) (by decide)).mpr h2
  unfold f_M_goal
  simp only [mg_9, Option.bind_some, mg_w0, hw]
  rw [if_pos (by decide)]
  unfold f_M_goal_b26
  simp only [mg_9, mg_w1, Option.bind_some]
  obtain ⟨r, hr, hv⟩ := isLt_i.mp b0
  obtain ⟨o1, o2⟩ := ol_one (t := t) (f := W.2.1 1) (e := W.2.2 1) (by rw [hv]; intro z; have := congrArg Int32.toInt z; rw [nI_toInt (by omega)] at this; simp at this; omega)
  rw [lSt_w h (k := 1) (by omega) (by decide), pk_i32 (lSt_ok h (by omega) (by decide)) o1, o2]
theorem go_12 {st : vSt} (h : lSt s B w t base W) (hf : fit t W 12 = some st) : f_M_goal (eM m s B w G) m = some st.2.2.2.2 := by
  obtain ⟨h1, h2, b0, b1, b2, b3, b4, rfl⟩ := fi_12 hf
  have hw : w 0 = 26982 := (kw_w h (by omega) [105, 102] (by decide) (by decide)).mpr h2
  unfold f_M_goal
  simp only [mg_9, Option.bind_some, mg_w0, hw]
  rw [if_neg (by decide), if_neg (by decide), if_pos (by decide)]
  simp only [mg_w5, Option.bind_some]
  unfold f_M_goal_b64
  obtain ⟨r, hr, hv⟩ := isLt_i.mp b4
  obtain ⟨o1, o2⟩ := ol_one (t := t) (f := W.2.1 5) (e := W.2.2 5) (by rw [hv]; intro z; have := congrArg Int32.toInt z; rw [nI_toInt (by omega)] at this; simp at this; omega)
  rw [lSt_w h (k := 5) (by omega) (by decide), pk_i32 (lSt_ok h (by omega) (by decide)) o1, o2]
theorem go_13 {st : vSt} (h : lSt s B w t base W) (hf : fit t W 13 = some st) : f_M_goal (eM m s B w G) m = some st.2.2.2.2 := by
  obtain ⟨h1, h2, b0, rfl⟩ := fi_13 hf
  have hw : w 0 = 1667329132 := (kw_w h (by omega) [99, 97, 108, 108] (by decide) (by decide)).mpr h2
  unfold f_M_goal
  simp only [mg_9, Option.bind_some, mg_w0, hw]
  rw [if_neg (by decide), if_pos (by decide)]
  unfold f_M_goal_b26
  simp only [mg_9, mg_w1, Option.bind_some]
  obtain ⟨r, hr, hv⟩ := isLt_i.mp b0
  obtain ⟨o1, o2⟩ := ol_one (t := t) (f := W.2.1 1) (e := W.2.2 1) (by rw [hv]; intro z; have := congrArg Int32.toInt z; rw [nI_toInt (by omega)] at this; simp at this; omega)
  rw [lSt_w h (k := 1) (by omega) (by decide), pk_i32 (lSt_ok h (by omega) (by decide)) o1, o2]
theorem go_14 {st : vSt} (h : lSt s B w t base W) (hf : fit t W 14 = some st) : f_M_goal (eM m s B w G) m = some st.2.2.2.2 := by
  obtain ⟨h1, h2, rfl⟩ := fi_14 hf
  have hw : w 0 = 1650549611 := (kw_w h (by omega) [98, 97, 99, 107] (by decide) (by decide)).mpr h2
  unfold f_M_goal
  simp only [mg_9, Option.bind_some, mg_w0, hw]
  rw [if_neg (by decide), if_neg (by decide), if_neg (by decide)]
  rfl
theorem go_15 {st : vSt} (h : lSt s B w t base W) (hf : fit t W 15 = some st) : f_M_goal (eM m s B w G) m = some st.2.2.2.2 := by
  obtain ⟨h1, h2, b0, b1, b2, rfl⟩ := fi_15 hf
  have hw : w 0 = 7501166 := (kw_w h (by omega) [114, 117, 110] (by decide) (by decide)).mpr h2
  unfold f_M_goal
  simp only [mg_9, Option.bind_some, mg_w0, hw]
  rw [if_neg (by decide), if_neg (by decide), if_neg (by decide)]
  rfl
theorem go_16 {st : vSt} (h : lSt s B w t base W) (hf : fit t W 16 = some st) : f_M_goal (eM m s B w G) m = some st.2.2.2.2 := by
  obtain ⟨h1, h2, b0, b1, rfl⟩ := fi_16 hf
  have hw : w 0 = 6386539 := (kw_w h (by omega) [97, 115, 107] (by decide) (by decide)).mpr h2
  unfold f_M_goal
  simp only [mg_9, Option.bind_some, mg_w0, hw]
  rw [if_neg (by decide), if_neg (by decide), if_neg (by decide)]
  rfl
theorem go_17 {st : vSt} (h : lSt s B w t base W) (hf : fit t W 17 = some st) : f_M_goal (eM m s B w G) m = some st.2.2.2.2 := by
  obtain ⟨h1, h2, b0, rfl⟩ := fi_17 hf
  have hw : w 0 = 1702390132 := (kw_w h (by omega) [101, 120, 105, 116] (by decide) (by decide)).mpr h2
  unfold f_M_goal
  simp only [mg_9, Option.bind_some, mg_w0, hw]
  rw [if_neg (by decide), if_neg (by decide), if_neg (by decide)]
  rfl
theorem M_goal {i : Nat} {st : vSt} (hi : i < 18) (h : lSt s B w t base W) (hf : fit t W i = some st) : f_M_goal (eM m s B w G) m = some st.2.2.2.2 := by
  match i, hi, hf with
  | 0, _, hf => exact go_0 h hf
  | 1, _, hf => exact go_1 h hf
  | 2, _, hf => exact go_2 h hf
  | 3, _, hf => exact go_3 h hf
  | 4, _, hf => exact go_4 h hf
  | 5, _, hf => exact go_5 h hf
  | 6, _, hf => exact go_6 h hf
  | 7, _, hf => exact go_7 h hf
  | 8, _, hf => exact go_8 h hf
  | 9, _, hf => exact go_9 h hf
  | 10, _, hf => exact go_10 h hf
  | 11, _, hf => exact go_11 h hf
  | 12, _, hf => exact go_12 h hf
  | 13, _, hf => exact go_13 h hf
  | 14, _, hf => exact go_14 h hf
  | 15, _, hf => exact go_15 h hf
  | 16, _, hf => exact go_16 h hf
  | 17, _, hf => exact go_17 h hf
  | n + 18, hi, _ => exact absurd hi (by omega)
end MT
