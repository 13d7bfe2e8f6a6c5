/-! PROGRAM: the class reads -/
/-- the next byte -/
def pkF (t : Int → Int) (sz a : Int) : Int := if a < sz then t a else -1
/-- a blank and a number up to most, read at a: the number (or -1) and where one is then -/
def numF (t : Int → Int) (sz a most : Int) : Int × Int := if ¬ pkF t sz a = 32 then (-1, a) else if ¬ ((48 ≤ pkF t sz (a + 1) ∧ pkF t sz (a + 1) ≤ 57) ∧ pkF t sz (a + 1) - 48 ≤ most) then (-1, a + 1) else if ¬ (48 ≤ pkF t sz (a + 2) ∧ pkF t sz (a + 2) ≤ 57) ∨ pkF t sz (a + 1) - 48 = 0 then (pkF t sz (a + 1) - 48, a + 2) else if 10 * (pkF t sz (a + 1) - 48) + (pkF t sz (a + 2) - 48) ≤ most then (10 * (pkF t sz (a + 1) - 48) + (pkF t sz (a + 2) - 48), a + 3) else (-1, a + 2)
theorem pkF_lt {t : Int → Int} {sz a c : Int} (h : pkF t sz a = c) (hc : 0 ≤ c) : a < sz := by
  unfold pkF at h
  by_cases q : a < sz
  · exact q
  · rw [if_neg q] at h; omega
theorem numF_bd {t : Int → Int} {sz a most : Int} (h : a ≤ sz) : (a ≤ (numF t sz a most).2 ∧ (numF t sz a most).2 ≤ sz) ∧ ((numF t sz a most).1 = -1 ∨ (0 ≤ (numF t sz a most).1 ∧ (numF t sz a most).1 ≤ most)) := by
  unfold numF
  by_cases q1 : pkF t sz a = 32
  · rw [if_neg (not_not_intro q1)]
    have l1 := pkF_lt q1 (by omega)
    by_cases q2 : (48 ≤ pkF t sz (a + 1) ∧ pkF t sz (a + 1) ≤ 57) ∧ pkF t sz (a + 1) - 48 ≤ most
    · rw [if_neg (not_not_intro q2)]
      have l2 := pkF_lt (c := pkF t sz (a + 1)) rfl (by omega)
      by_cases q3 : ¬ (48 ≤ pkF t sz (a + 2) ∧ pkF t sz (a + 2) ≤ 57) ∨ pkF t sz (a + 1) - 48 = 0
      · rw [if_pos q3]
        exact ⟨⟨by show a ≤ a + 2; omega, by show a + 2 ≤ sz; omega⟩, Or.inr ⟨by show 0 ≤ pkF t sz (a + 1) - 48; omega, q2.2⟩⟩
      · rw [if_neg q3]
        have l3 := pkF_lt (c := pkF t sz (a + 2)) rfl (by omega)
        by_cases q4 : 10 * (pkF t sz (a + 1) - 48) + (pkF t sz (a + 2) - 48) ≤ most
        · rw [if_pos q4]
          exact ⟨⟨by show a ≤ a + 3; omega, by show a + 3 ≤ sz; omega⟩, Or.inr ⟨by show 0 ≤ 10 * (pkF t sz (a + 1) - 48) + (pkF t sz (a + 2) - 48); omega, q4⟩⟩
        · rw [if_neg q4]
          exact ⟨⟨by show a ≤ a + 2; omega, by show a + 2 ≤ sz; omega⟩, Or.inl rfl⟩
    · rw [if_pos q2]
      exact ⟨⟨by show a ≤ a + 1; omega, by show a + 1 ≤ sz; omega⟩, Or.inl rfl⟩
  · rw [if_pos q1]
    exact ⟨⟨Int.le_refl _, h⟩, Or.inl rfl⟩
/-- the class's place is a -/
def plX (V : Nat → Int → Int) (a : Int) : Nat → Int → Int := vA V 35 (vU (V 35) 7 a)
theorem plX_pl {V : Nat → Int → Int} {a b : Int} : plX (plX V a) b = plX V b := by
  unfold plX
  rw [vA_vA, vA_same]
  refine vA_ext (fun j => ?_)
  by_cases e : j = 7
  · rw [e, vU_at, vU_at]
  · rw [vU_ne e, vU_ne e, vU_ne e]
theorem plX_self {V : Nat → Int → Int} : plX V (V 35 7) = V := by
  unfold plX
  refine vA_id (fun j => ?_)
  by_cases e : j = 7
  · rw [e, vU_at]
  · rw [vU_ne e]
section RD
variable {n L d : Nat} {G : XG} {V : Nat → Int → Int} {μ : XM}
theorem x_peek (hG : Good n L G) (h0 : 0 ≤ V 35 7) (hs : V 35 1 ≤ 100) : run d 505 0 [xR 35] [] (V, G) = some (some (xI (pkF (V 36) (V 35 1) (V 35 7))), (V, G)) := by
  unfold pkF
  by_cases a : V 35 7 < V 35 1
  · simp (disch := first | omega | exact Nat.le_of_ble_eq_true rfl) only [bk505_0, bk505_23, bk505_24, Int.reduceToNat, vA_ap, Nat.reduceEqDiff, if_true, if_false, bx_nil, isL_I, isL_R, isL_U, if_ff, bind_some, tl_some, tl_none, bx_aload_0, gf35_7 hG, gf35_1 hG, bx_ic_ge, gf35_2 hG, ia36 hG, is36 hG, bx_goto, bx_iconst, bx_iret, if_pos a, if_neg (show ¬ V 35 1 ≤ V 35 7 by omega)]
  · simp (disch := first | omega | exact Nat.le_of_ble_eq_true rfl) only [bk505_0, bk505_23, bk505_24, Int.reduceToNat, vA_ap, Nat.reduceEqDiff, if_true, if_false, bx_nil, isL_I, isL_R, isL_U, if_ff, bind_some, tl_some, tl_none, bx_aload_0, gf35_7 hG, gf35_1 hG, bx_ic_ge, gf35_2 hG, ia36 hG, is36 hG, bx_goto, bx_iconst, bx_iret, if_neg a, if_pos (show V 35 1 ≤ V 35 7 by omega)]
theorem x_isDig {b : Int} : run d 510 0 [xI b] [] μ = some (some (xI (b1 (48 ≤ b ∧ b ≤ 57))), μ) := by
  unfold b1
  simp (disch := first | omega | exact Nat.le_of_ble_eq_true rfl) only [bk510_0, bk510_16, bk510_17, Int.reduceToNat, vA_ap, Nat.reduceEqDiff, if_true, if_false, bx_nil, isL_I, isL_R, isL_U, if_ff, bind_some, tl_some, tl_none, bx_iload_0, bx_bipush, bx_ic_lt, bx_ic_gt, bx_iconst, bx_goto, bx_zret]
  repeat' split
  all_goals first | rfl | (exfalso; omega)
theorem x_takes {b : Int} (hG : Good n L G) (h0 : 0 ≤ V 35 7 ∧ V 35 7 ≤ 100) (hs : V 35 1 ≤ 100) : run (d + 1) 508 0 [xR 35, xI b] [] (V, G) = some (some (xI (b1 (pkF (V 36) (V 35 1) (V 35 7) = b))), ((if pkF (V 36) (V 35 1) (V 35 7) = b then plX V (V 35 7 + 1) else V), G)) := by
  by_cases a : pkF (V 36) (V 35 1) (V 35 7) = b
  · rw [if_pos a, b1_t a]
    simp (disch := first | omega | exact Nat.le_of_ble_eq_true rfl) only [bk508_0, bk508_10, Int.reduceToNat, vA_ap, Nat.reduceEqDiff, if_true, if_false, bx_nil, isL_I, isL_R, isL_U, if_ff, bind_some, tl_some, tl_none, bx_aload_0, cl505 hG, bx_iload_1, bx_ic_eq, bx_iconst, bx_zret, bx_dupI, bx_dupR, gf35_7 hG, bx_iadd, pf35_7 hG, x_peek hG h0.1 hs, if_pos a]
    rfl
  · rw [if_neg a, b1_f a]
    simp (disch := first | omega | exact Nat.le_of_ble_eq_true rfl) only [bk508_0, bk508_10, Int.reduceToNat, vA_ap, Nat.reduceEqDiff, if_true, if_false, bx_nil, isL_I, isL_R, isL_U, if_ff, bind_some, tl_some, tl_none, bx_aload_0, cl505 hG, bx_iload_1, bx_ic_eq, bx_iconst, bx_zret, bx_dupI, bx_dupR, gf35_7 hG, bx_iadd, pf35_7 hG, x_peek hG h0.1 hs, if_neg a]
theorem x_digit {most : Int} (hG : Good n L G) (h0 : 0 ≤ V 35 7 ∧ V 35 7 ≤ 100) (hs : V 35 1 ≤ 100) : run (d + 1) 509 0 [xR 35, xI most, xU] [] (V, G) = if (48 ≤ pkF (V 36) (V 35 1) (V 35 7) ∧ pkF (V 36) (V 35 1) (V 35 7) ≤ 57) ∧ pkF (V 36) (V 35 1) (V 35 7) - 48 ≤ most then some (some (xI (pkF (V 36) (V 35 1) (V 35 7) - 48)), (plX V (V 35 7 + 1), G)) else some (some (xI (-1)), (V, G)) := by
  have hp := x_peek (d := d) hG h0.1 hs
  generalize pkF (V 36) (V 35 1) (V 35 7) = c at *
  by_cases a : 48 ≤ c ∧ c ≤ 57
  · by_cases b : c - 48 ≤ most
    · rw [if_pos ⟨a, b⟩]
      simp (disch := first | omega | exact Nat.le_of_ble_eq_true rfl) only [bk509_0, bk509_20, bk509_22, Int.reduceToNat, vA_ap, Nat.reduceEqDiff, if_true, if_false, bx_nil, isL_I, isL_R, isL_U, if_ff, bind_some, tl_some, tl_none, bx_aload_0, cl505 hG, bx_istore_2, bx_iload_2, cl510, bx_if_eq, bx_bipush, bx_isub, bx_iload_1, bx_ic_le, bx_iconst, bx_iret, bx_dupI, bx_dupR, gf35_7 hG, bx_iadd, pf35_7 hG, hp, x_isDig, b1_t a, one_ne, if_pos b]
      rfl
    · rw [if_neg (fun y => b y.2)]
      simp (disch := first | omega | exact Nat.le_of_ble_eq_true rfl) only [bk509_0, bk509_20, bk509_22, Int.reduceToNat, vA_ap, Nat.reduceEqDiff, if_true, if_false, bx_nil, isL_I, isL_R, isL_U, if_ff, bind_some, tl_some, tl_none, bx_aload_0, cl505 hG, bx_istore_2, bx_iload_2, cl510, bx_if_eq, bx_bipush, bx_isub, bx_iload_1, bx_ic_le, bx_iconst, bx_iret, bx_dupI, bx_dupR, gf35_7 hG, bx_iadd, pf35_7 hG, hp, x_isDig, b1_t a, one_ne, if_neg b]
  · rw [if_neg (fun y => a y.1)]
    simp (disch := first | omega | exact Nat.le_of_ble_eq_true rfl) only [bk509_0, bk509_20, bk509_22, Int.reduceToNat, vA_ap, Nat.reduceEqDiff, if_true, if_false, bx_nil, isL_I, isL_R, isL_U, if_ff, bind_some, tl_some, tl_none, bx_aload_0, cl505 hG, bx_istore_2, bx_iload_2, cl510, bx_if_eq, bx_bipush, bx_isub, bx_iload_1, bx_ic_le, bx_iconst, bx_iret, bx_dupI, bx_dupR, gf35_7 hG, bx_iadd, pf35_7 hG, hp, x_isDig, b1_f a]
theorem x_number {most : Int} (hG : Good n L G) (h0 : 0 ≤ V 35 7 ∧ V 35 7 ≤ V 35 1) (hs : V 35 1 ≤ 100) (hm : 0 ≤ most ∧ most ≤ 95) : run (d + 2) 507 0 [xR 35, xI most, xU, xU] [] (V, G) = some (some (xI (numF (V 36) (V 35 1) (V 35 7) most).1), (plX V (numF (V 36) (V 35 1) (V 35 7) most).2, G)) := by
  have ht := x_takes (d := d) (b := 32) hG (V := V) (by omega) hs
  have e0 : plX V (V 35 7) = V := plX_self
  generalize hp : V 35 7 = a at *
  generalize hz : V 35 1 = sz at *
  have f : ∀ y, plX V y 35 7 = y ∧ plX V y 35 1 = sz ∧ plX V y 36 = V 36 := fun y => ⟨rfl, hz, rfl⟩
  unfold numF
  by_cases q1 : pkF (V 36) sz a = 32
  · rw [if_neg (not_not_intro q1)]
    rw [if_pos q1, b1_t q1] at ht
    have l1 := pkF_lt q1 (by omega)
    have hd := x_digit (d := d) (most := most) (V := plX V (a + 1)) hG (by rw [(f _).1]; omega) (by rw [(f _).2.1]; exact hs)
    rw [(f _).1, (f _).2.1, (f _).2.2, plX_pl] at hd
    have e2 : a + 1 + 1 = a + 2 := by omega
    rw [e2] at hd
    by_cases q2 : (48 ≤ pkF (V 36) sz (a + 1) ∧ pkF (V 36) sz (a + 1) ≤ 57) ∧ pkF (V 36) sz (a + 1) - 48 ≤ most
    · rw [if_neg (not_not_intro q2)]
      rw [if_pos q2] at hd
      have l2 := pkF_lt (c := pkF (V 36) sz (a + 1)) rfl (by omega)
      have hk := x_peek (d := d + 1) (V := plX V (a + 2)) hG (by rw [(f _).1]; omega) (by rw [(f _).2.1]; exact hs)
      rw [(f _).1, (f _).2.1, (f _).2.2] at hk
      by_cases q3 : ¬ (48 ≤ pkF (V 36) sz (a + 2) ∧ pkF (V 36) sz (a + 2) ≤ 57) ∨ pkF (V 36) sz (a + 1) - 48 = 0
      · rw [if_pos q3]
        by_cases q5 : pkF (V 36) sz (a + 1) - 48 ≤ 0
        · simp (disch := first | omega | exact Nat.le_of_ble_eq_true rfl) only [bk507_0, bk507_11, bk507_31, bk507_33, bk507_53, bk507_59, Int.reduceToNat, vA_ap, Nat.reduceEqDiff, if_true, if_false, bx_nil, isL_I, isL_R, isL_U, if_ff, bind_some, tl_some, tl_none, bx_aload_0, bx_bipush, cl508 hG, bx_if_ne, bx_iconst, bx_iret, bx_iload_1, cl509 hG, bx_istore_2, bx_iload_2, bx_if_le, cl505 hG, cl510, bx_imul, bx_isub, bx_istore_3, bx_iload_3, bx_ic_ne, bx_goto, bx_iadd, ht, one_ne, hd, if_pos q5]
        · have q6 := q3.resolve_right (by omega)
          simp (disch := first | omega | exact Nat.le_of_ble_eq_true rfl) only [bk507_0, bk507_11, bk507_31, bk507_33, bk507_53, bk507_59, Int.reduceToNat, vA_ap, Nat.reduceEqDiff, if_true, if_false, bx_nil, isL_I, isL_R, isL_U, if_ff, bind_some, tl_some, tl_none, bx_aload_0, bx_bipush, cl508 hG, bx_if_ne, bx_iconst, bx_iret, bx_iload_1, cl509 hG, bx_istore_2, bx_iload_2, bx_if_le, cl505 hG, cl510, bx_imul, bx_isub, bx_istore_3, bx_iload_3, bx_ic_ne, bx_goto, bx_iadd, ht, one_ne, hd, if_neg q5, hk, x_isDig, b1_f q6]
      · rw [if_neg q3]
        have q6 : 48 ≤ pkF (V 36) sz (a + 2) ∧ pkF (V 36) sz (a + 2) ≤ 57 := Classical.byContradiction fun y => q3 (Or.inl y)
        have q7 : ¬ pkF (V 36) sz (a + 1) - 48 = 0 := fun y => q3 (Or.inr y)
        have l3 := pkF_lt (c := pkF (V 36) sz (a + 2)) rfl (by omega)
        have hd2 := x_digit (d := d) (most := most - 10 * (pkF (V 36) sz (a + 1) - 48)) (V := plX V (a + 2)) hG (by rw [(f _).1]; omega) (by rw [(f _).2.1]; exact hs)
        rw [(f _).1, (f _).2.1, (f _).2.2, plX_pl] at hd2
        have e3 : a + 2 + 1 = a + 3 := by omega
        rw [e3] at hd2
        by_cases q4 : 10 * (pkF (V 36) sz (a + 1) - 48) + (pkF (V 36) sz (a + 2) - 48) ≤ most
        · rw [if_pos q4]
          rw [if_pos ⟨q6, by omega⟩] at hd2
          simp (disch := first | omega | exact Nat.le_of_ble_eq_true rfl) only [bk507_0, bk507_11, bk507_31, bk507_33, bk507_53, bk507_59, Int.reduceToNat, vA_ap, Nat.reduceEqDiff, if_true, if_false, bx_nil, isL_I, isL_R, isL_U, if_ff, bind_some, tl_some, tl_none, bx_aload_0, bx_bipush, cl508 hG, bx_if_ne, bx_iconst, bx_iret, bx_iload_1, cl509 hG, bx_istore_2, bx_iload_2, bx_if_le, cl505 hG, cl510, bx_imul, bx_isub, bx_istore_3, bx_iload_3, bx_ic_ne, bx_goto, bx_iadd, ht, one_ne, hd, if_neg (show ¬ pkF (V 36) sz (a + 1) - 48 ≤ 0 by omega), hk, x_isDig, b1_t q6, hd2, if_neg (show ¬ pkF (V 36) sz (a + 2) - 48 = -1 by omega)]
        · rw [if_neg q4]
          rw [if_neg (fun y => by omega)] at hd2
          simp (disch := first | omega | exact Nat.le_of_ble_eq_true rfl) only [bk507_0, bk507_11, bk507_31, bk507_33, bk507_53, bk507_59, Int.reduceToNat, vA_ap, Nat.reduceEqDiff, if_true, if_false, bx_nil, isL_I, isL_R, isL_U, if_ff, bind_some, tl_some, tl_none, bx_aload_0, bx_bipush, cl508 hG, bx_if_ne, bx_iconst, bx_iret, bx_iload_1, cl509 hG, bx_istore_2, bx_iload_2, bx_if_le, cl505 hG, cl510, bx_imul, bx_isub, bx_istore_3, bx_iload_3, bx_ic_ne, bx_goto, bx_iadd, ht, one_ne, hd, if_neg (show ¬ pkF (V 36) sz (a + 1) - 48 ≤ 0 by omega), hk, x_isDig, b1_t q6, hd2, if_pos (show (-1 : Int) = -1 from rfl)]
    · rw [if_pos q2]
      rw [if_neg q2] at hd
      simp (disch := first | omega | exact Nat.le_of_ble_eq_true rfl) only [bk507_0, bk507_11, bk507_31, bk507_33, bk507_53, bk507_59, Int.reduceToNat, vA_ap, Nat.reduceEqDiff, if_true, if_false, bx_nil, isL_I, isL_R, isL_U, if_ff, bind_some, tl_some, tl_none, bx_aload_0, bx_bipush, cl508 hG, bx_if_ne, bx_iconst, bx_iret, bx_iload_1, cl509 hG, bx_istore_2, bx_iload_2, bx_if_le, cl505 hG, cl510, bx_imul, bx_isub, bx_istore_3, bx_iload_3, bx_ic_ne, bx_goto, bx_iadd, ht, one_ne, hd, if_pos (show (-1 : Int) ≤ 0 by omega)]
  · rw [if_pos q1]
    rw [if_neg q1, b1_f q1] at ht
    simp (disch := first | omega | exact Nat.le_of_ble_eq_true rfl) only [bk507_0, bk507_11, bk507_31, bk507_33, bk507_53, bk507_59, Int.reduceToNat, vA_ap, Nat.reduceEqDiff, if_true, if_false, bx_nil, isL_I, isL_R, isL_U, if_ff, bind_some, tl_some, tl_none, bx_aload_0, bx_bipush, cl508 hG, bx_if_ne, bx_iconst, bx_iret, bx_iload_1, cl509 hG, bx_istore_2, bx_iload_2, bx_if_le, cl505 hG, cl510, bx_imul, bx_isub, bx_istore_3, bx_iload_3, bx_ic_ne, bx_goto, bx_iadd, ht]
    rw [e0]
end RD
