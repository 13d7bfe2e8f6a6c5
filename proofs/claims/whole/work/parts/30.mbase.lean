/-! THE REFERENCE's small methods -/
theorem lc_lt (x y : Int) : ((if x < y then (-1 : Int) else if x = y then 0 else 1) < 0) = (x < y) := by
  apply propext; split
  · omega
  · split <;> omega
theorem lc_gt (x y : Int) : (0 < (if x < y then (-1 : Int) else if x = y then 0 else 1)) = (y < x) := by
  apply propext; split
  · omega
  · split <;> omega
theorem lc_ge (x y : Int) : (0 ≤ (if x < y then (-1 : Int) else if x = y then 0 else 1)) = (y ≤ x) := by
  apply propext; split
  · omega
  · split <;> omega
theorem lc_le (x y : Int) : ((if x < y then (-1 : Int) else if x = y then 0 else 1) ≤ 0) = (x ≤ y) := by
  apply propext; split
  · omega
  · split <;> omega
theorem lc_eq (x y : Int) : ((if x < y then (-1 : Int) else if x = y then 0 else 1) = 0) = (x = y) := by
  apply propext; split
  · omega
  · split <;> omega
/-- 1 or 0 -/
def b1 (c : Prop) [Decidable c] : Int := if c then 1 else 0
theorem b1_01 (c : Prop) [Decidable c] : b1 c = 0 ∨ b1 c = 1 := by unfold b1; split <;> omega
theorem b1_t {c : Prop} [Decidable c] (h : c) : b1 c = 1 := if_pos h
theorem b1_f {c : Prop} [Decidable c] (h : ¬ c) : b1 c = 0 := if_neg h
theorem b1_e0 {c : Prop} [Decidable c] : (b1 c = 0) = ¬ c := by
  apply propext; unfold b1; split <;> simp_all
/-- a cell of the plate with n lanes -/
abbrev isC (n l i : Int) : Prop := (0 ≤ l ∧ l ≤ 11) ∧ (0 ≤ i ∧ i ≤ n - 2) ∧ i % 2 = l % 2
def tO (S B : Int → Int) (k : Int) : Int := if 0 ≤ S k then S k else B k
section MB
variable {n L d : Nat} {G : XG} {V : Nat → Int → Int} {μ : XM}
theorem m_isIn {v a b : Int} : run d 1106 0 [xL v, xU, xL a, xU, xL b, xU] [] μ = some (some (xI (b1 (a ≤ v ∧ v ≤ b))), μ) := by
  unfold b1
  simp (disch := first | omega | exact Nat.le_of_ble_eq_true rfl) only [bk1106_0, bk1106_17, bk1106_18, Int.reduceToNat, vA_ap, Nat.reduceEqDiff, if_true, if_false, bx_nil, isL_I, isL_R, isL_U, if_ff, bind_some, tl_some, tl_none, bx_lload_0, bx_lload_2, bx_lcmp, lc_lt, lc_gt, lc_ge, lc_le, lc_eq, bx_if_lt, bx_lload4, bx_if_gt, bx_iconst, bx_goto, bx_zret]
  repeat' split
  all_goals first | rfl | (exfalso; omega)
theorem m_fit {v : Int} : run d 1101 0 [xI v, xU] [] μ = some (some (xI (v % 97)), μ) := by
  have h1 := tm_em (x := v) (y := 97) (by omega)
  have h2 := Int.emod_nonneg v (by omega : (97 : Int) ≠ 0)
  have h3 := Int.emod_lt_of_pos v (by omega : (0 : Int) < 97)
  rw [bk1101_0]
  simp (disch := first | omega | exact Nat.le_of_ble_eq_true rfl) only [bx_iload_0, bx_bipush, bx_irem]
  generalize v.tmod 97 = t at *
  simp (disch := first | omega | exact Nat.le_of_ble_eq_true rfl) only [bk1101_0, bk1101_16, bk1101_17, Int.reduceToNat, vA_ap, Nat.reduceEqDiff, if_true, if_false, bx_nil, isL_I, isL_R, isL_U, if_ff, bind_some, tl_some, tl_none, bx_iload_0, bx_bipush, bx_irem, bx_istore_1, bx_iload_1, bx_if_ge, bx_iadd, bx_goto, bx_iret]
  repeat' split
  all_goals first | rfl | (exfalso; omega) | (congr 4; omega)
theorem m_fitTurn {v : Int} : run d 1103 0 [xI v, xU] [] μ = some (some (xI (v % 96)), μ) := by
  have h1 := tm_em (x := v) (y := 96) (by omega)
  have h2 := Int.emod_nonneg v (by omega : (96 : Int) ≠ 0)
  have h3 := Int.emod_lt_of_pos v (by omega : (0 : Int) < 96)
  rw [bk1103_0]
  simp (disch := first | omega | exact Nat.le_of_ble_eq_true rfl) only [bx_iload_0, bx_bipush, bx_irem]
  generalize v.tmod 96 = t at *
  simp (disch := first | omega | exact Nat.le_of_ble_eq_true rfl) only [bk1103_0, bk1103_16, bk1103_17, Int.reduceToNat, vA_ap, Nat.reduceEqDiff, if_true, if_false, bx_nil, isL_I, isL_R, isL_U, if_ff, bind_some, tl_some, tl_none, bx_iload_0, bx_bipush, bx_irem, bx_istore_1, bx_iload_1, bx_if_ge, bx_iadd, bx_goto, bx_iret]
  repeat' split
  all_goals first | rfl | (exfalso; omega) | (congr 4; omega)
theorem m_isLane {l : Int} (hG : Good n L G) : run d 1115 0 [xR 376, xI l] [] (V, G) = some (some (xI (b1 (0 ≤ l ∧ l < V 376 0))), (V, G)) := by
  unfold b1
  simp (disch := first | omega | exact Nat.le_of_ble_eq_true rfl) only [bk1115_0, bk1115_16, bk1115_17, Int.reduceToNat, vA_ap, Nat.reduceEqDiff, if_true, if_false, bx_nil, isL_I, isL_R, isL_U, if_ff, bind_some, tl_some, tl_none, bx_iload_1, bx_if_lt, bx_aload_0, gf376_0 hG, bx_ic_ge, bx_iconst, bx_goto, bx_zret]
  repeat' split
  all_goals first | rfl | (exfalso; omega)
theorem m_isRun {l : Int} (hG : Good n L G) : run d 1148 0 [xR 376, xI l] [] (V, G) = some (some (xI (b1 (0 ≤ l ∧ l < V 376 41))), (V, G)) := by
  unfold b1
  simp (disch := first | omega | exact Nat.le_of_ble_eq_true rfl) only [bk1148_0, bk1148_16, bk1148_17, Int.reduceToNat, vA_ap, Nat.reduceEqDiff, if_true, if_false, bx_nil, isL_I, isL_R, isL_U, if_ff, bind_some, tl_some, tl_none, bx_iload_1, bx_if_lt, bx_aload_0, gf376_41 hG, bx_ic_ge, bx_iconst, bx_goto, bx_zret]
  repeat' split
  all_goals first | rfl | (exfalso; omega)
theorem m_isDigit {b : Int} : run d 1138 0 [xI b] [] μ = some (some (xI (b1 (48 ≤ b ∧ b ≤ 57))), μ) := by
  unfold b1
  simp (disch := first | omega | exact Nat.le_of_ble_eq_true rfl) only [bk1138_0, bk1138_16, bk1138_17, Int.reduceToNat, vA_ap, Nat.reduceEqDiff, if_true, if_false, bx_nil, isL_I, isL_R, isL_U, if_ff, bind_some, tl_some, tl_none, bx_iload_0, bx_bipush, bx_ic_lt, bx_ic_gt, bx_iconst, bx_goto, bx_zret]
  repeat' split
  all_goals first | rfl | (exfalso; omega)
theorem m_isName {b : Int} : run d 1140 0 [xR 376, xI b] [] μ = some (some (xI (b1 (97 ≤ b ∧ b ≤ 102))), μ) := by
  unfold b1
  simp (disch := first | omega | exact Nat.le_of_ble_eq_true rfl) only [bk1140_0, bk1140_16, bk1140_17, Int.reduceToNat, vA_ap, Nat.reduceEqDiff, if_true, if_false, bx_nil, isL_I, isL_R, isL_U, if_ff, bind_some, tl_some, tl_none, bx_iload_1, bx_bipush, bx_ic_lt, bx_ic_gt, bx_iconst, bx_goto, bx_zret]
  repeat' split
  all_goals first | rfl | (exfalso; omega)
theorem m_more {w : Int} (h : -100000 ≤ w ∧ w ≤ 100000) : run d 1157 0 [xI w] [] μ = some (some (xI (if w < 2 then w - 2 else w - 1)), μ) := by
  simp (disch := first | omega | exact Nat.le_of_ble_eq_true rfl) only [bk1157_0, bk1157_11, bk1157_14, Int.reduceToNat, vA_ap, Nat.reduceEqDiff, if_true, if_false, bx_nil, isL_I, isL_R, isL_U, if_ff, bind_some, tl_some, tl_none, bx_iload_0, bx_iconst, bx_ic_ge, bx_isub, bx_goto, bx_iret]
  repeat' split
  all_goals first | rfl | (exfalso; omega)
theorem m_signAt (hG : Good n L G) (h : 0 ≤ V 376 31) (h2 : V 376 30 ≤ 100) : run d 1136 0 [xR 376] [] (V, G) = some (some (xI (if V 376 31 < V 376 30 then V 394 (V 376 31) else -1)), (V, G)) := by
  by_cases h3 : V 376 31 < V 376 30
  · simp (disch := first | omega | exact Nat.le_of_ble_eq_true rfl) only [bk1136_0, bk1136_23, bk1136_24, Int.reduceToNat, vA_ap, Nat.reduceEqDiff, if_true, if_false, bx_nil, isL_I, isL_R, isL_U, if_ff, bind_some, tl_some, tl_none, bx_aload_0, gf376_31 hG, gf376_30 hG, bx_ic_ge, gf376_23 hG, ia394 hG, is394 hG, bx_goto, bx_iconst, bx_iret, if_neg (show ¬ V 376 30 ≤ V 376 31 by omega), if_pos h3]
  · simp (disch := first | omega | exact Nat.le_of_ble_eq_true rfl) only [bk1136_0, bk1136_23, bk1136_24, Int.reduceToNat, vA_ap, Nat.reduceEqDiff, if_true, if_false, bx_nil, isL_I, isL_R, isL_U, if_ff, bind_some, tl_some, tl_none, bx_aload_0, gf376_31 hG, gf376_30 hG, bx_ic_ge, gf376_23 hG, ia394 hG, is394 hG, bx_goto, bx_iconst, bx_iret, if_pos (show V 376 30 ≤ V 376 31 by omega), if_neg h3]
theorem m_turnOf {k : Int} (hG : Good n L G) (h0 : 0 ≤ k) (h1 : k < 72) : run d 1112 0 [xR 376, xI k] [] (V, G) = some (some (xI (tO (V 380) (V 383) k)), (V, G)) := by
  unfold tO
  simp (disch := first | omega | exact Nat.le_of_ble_eq_true rfl) only [bk1112_0, bk1112_18, bk1112_24, Int.reduceToNat, vA_ap, Nat.reduceEqDiff, if_true, if_false, bx_nil, isL_I, isL_R, isL_U, if_ff, bind_some, tl_some, tl_none, bx_aload_0, gf376_4 hG, ia380 hG, is380 hG, bx_iload_1, bx_if_lt, bx_goto, gf376_8 hG, ia383 hG, is383 hG, bx_iret]
  repeat' split
  all_goals first | rfl | (exfalso; omega)
theorem m_isCell {l i : Int} (hG : Good n L G) (hn : V 376 0 = n) (h2 : 2 ≤ n) (h6 : n ≤ 6) : run (d + 1) 1105 0 [xR 376, xI l, xI i] [] (V, G) = some (some (xI (b1 ((0 ≤ l ∧ l ≤ 11) ∧ (0 ≤ i ∧ i ≤ (n : Int) - 2) ∧ i % 2 = l % 2))), (V, G)) := by
  simp (disch := first | omega | exact Nat.le_of_ble_eq_true rfl) only [bk1105_0, bk1105_41, bk1105_42, Int.reduceToNat, vA_ap, Nat.reduceEqDiff, if_true, if_false, bx_nil, isL_I, isL_R, isL_U, if_ff, bind_some, tl_some, tl_none, bx_iload_1, bx_i2l, bx_lconst0, bx_ldc2, cl1106, bx_if_eq, bx_iload_2, bx_aload_0, gf376_0 hG, bx_iconst, bx_isub, bx_irem, bx_ic_ne, bx_goto, bx_zret, m_isIn, b1_e0, hn]
  by_cases h1 : 0 ≤ l ∧ l ≤ 11
  · by_cases h3 : 0 ≤ i ∧ i ≤ (n : Int) - 2
    · simp only [h1, h3, not_true, if_false, and_self, true_and]
      rw [tm_pos h3.1 (by omega), tm_pos h1.1 (by omega)]
      by_cases h4 : i % 2 = l % 2
      · rw [if_pos h4, b1_t h4]
      · rw [if_neg h4, b1_f h4]
    · simp only [h1, h3, not_true, not_false_eq_true, if_false, if_true, false_and, and_false]
      rfl
  · simp only [h1, not_false_eq_true, if_true, false_and]
    rfl
end MB
