/-! FEED -/
def byX (w y : Int) : Int := b32 (fun a b => a &&& b) (Int64.ofInt (s64 (fun a b => (a.toUInt64 >>> (b.toInt64.toUInt64 &&& Int64.toUInt64 63)).toInt64) w y)).toInt32.toInt 255
def byM (w y : Int) : Int := (Int64.ofInt (b64 (fun a b => a &&& b) (s64 (fun a b => a >>> (b.toInt64 &&& 63)) w y) 255)).toInt32.toInt
theorem bit255 (i : Nat) : Nat.testBit 255 i = decide (i < 8) := by
  rw [show 255 = 2 ^ 8 - 1 by rfl, Nat.testBit_two_pow_sub_one]
theorem fdB (x : BitVec 64) (s : Nat) (hs : s ≤ 56) : ((x >>> s).signExtend 32) &&& 255#32 = ((x.sshiftRight s) &&& 255#64).signExtend 32 := by
  apply BitVec.eq_of_getLsbD_eq
  intro i hi
  simp only [BitVec.getLsbD_and, BitVec.getLsbD_signExtend, BitVec.getLsbD_ushiftRight, BitVec.getLsbD_sshiftRight, BitVec.getLsbD_ofNat, bit255]
  have h1 : i < 64 := by omega
  by_cases h8 : i < 8
  · have h2 : s + i < 64 := by omega
    simp [h8, hi, h1, h2]
  · simp [h8]
    intros
    omega
theorem byX_eq (w y : Int) : byX w y = ((((Int64.ofInt w).toUInt64 >>> ((Int32.ofInt y).toInt64.toUInt64 &&& Int64.toUInt64 63)).toInt64.toInt32) &&& Int32.ofInt 255).toInt := by
  unfold byX b32 s64
  rw [Int64.ofInt_toInt, Int32.ofInt_toInt]
theorem byM_eq (w y : Int) : byM w y = (((Int64.ofInt w) >>> ((Int32.ofInt y).toInt64 &&& 63)) &&& Int64.ofInt 255).toInt32.toInt := by
  unfold byM b64 s64
  rw [Int64.ofInt_toInt, Int64.ofInt_toInt]
theorem by_eq {w p : Int} (h : 0 ≤ p ∧ p ≤ 7) : byX w (8 * p) = byM w (8 * p) := by
  rw [byX_eq, byM_eq]
  have e : p = 0 ∨ p = 1 ∨ p = 2 ∨ p = 3 ∨ p = 4 ∨ p = 5 ∨ p = 6 ∨ p = 7 := by omega
  rcases e with e | e | e | e | e | e | e | e <;> subst e
  · exact congrArg BitVec.toInt (fdB (Int64.ofInt w).toBitVec 0 (by omega))
  · exact congrArg BitVec.toInt (fdB (Int64.ofInt w).toBitVec 8 (by omega))
  · exact congrArg BitVec.toInt (fdB (Int64.ofInt w).toBitVec 16 (by omega))
  · exact congrArg BitVec.toInt (fdB (Int64.ofInt w).toBitVec 24 (by omega))
  · exact congrArg BitVec.toInt (fdB (Int64.ofInt w).toBitVec 32 (by omega))
  · exact congrArg BitVec.toInt (fdB (Int64.ofInt w).toBitVec 40 (by omega))
  · exact congrArg BitVec.toInt (fdB (Int64.ofInt w).toBitVec 48 (by omega))
  · exact congrArg BitVec.toInt (fdB (Int64.ofInt w).toBitVec 56 (by omega))
theorem by_bd {w y : Int} : 0 ≤ byX w y ∧ byX w y ≤ 255 := by
  rw [byX_eq]
  generalize (((Int64.ofInt w).toUInt64 >>> ((Int32.ofInt y).toInt64.toUInt64 &&& Int64.toUInt64 63)).toInt64.toInt32) = z
  show 0 ≤ (z.toBitVec &&& 255#32).toInt ∧ (z.toBitVec &&& 255#32).toInt ≤ 255
  have h1 : (z.toBitVec &&& 255#32).toNat ≤ 255 := by
    rw [BitVec.toNat_and]
    exact Nat.and_le_right
  rw [BitVec.toInt_eq_toNat_of_lt (by omega)]
  omega
section FD
variable {n L d : Nat} {G : XG} {V : Nat → Int → Int}
/-- the tape of the class with bytes of w down to place p -/
theorem x_append {b : Int} (hG : Good n L G) (hs : 0 ≤ V 35 1 ∧ V 35 1 < 100) : run d 501 0 [xR 35, xI b] [] (V, G) = some (none, (vA (vA V 35 (vU (V 35) 1 (V 35 1 + 1))) 36 (vU (V 36) (V 35 1) b), G)) := by
  simp (disch := first | omega | exact Nat.le_of_ble_eq_true rfl) only [bk501_0, bk501_26, Int.reduceToNat, vA_ap, Nat.reduceEqDiff, if_true, if_false, bx_nil, isL_I, isL_R, isL_U, if_ff, bind_some, tl_some, tl_none, bx_aload_0, gf35_1 hG, bx_bipush, bx_ic_ge, gf35_2 hG, ia36 hG, is36 hG, bx_dupI, bx_dupR, bx_dup_x1, bx_iconst, bx_iadd, pf35_1 hG, bx_iload_1, bx_vret, if_neg (show ¬ 100 ≤ V 35 1 by omega)]
def fdX (V : Nat → Int → Int) (g : Int → Int) (k : Int) : Nat → Int → Int := vA (vA V 35 (vU (V 35) 1 (V 35 1 + k))) 36 (fl (V 36) g (V 35 1) (V 35 1 + k))
theorem fdX_up {g : Int → Int} {k : Int} (h : 0 ≤ k) : vA (vA (fdX V g k) 35 (vU (fdX V g k 35) 1 (fdX V g k 35 1 + 1))) 36 (vU (fdX V g k 36) (fdX V g k 35 1) (g (V 35 1 + k))) = fdX V g (k + 1) := by
  have e1 : fdX V g k 35 1 = V 35 1 + k := rfl
  have e2 : fdX V g k 36 = fl (V 36) g (V 35 1) (V 35 1 + k) := rfl
  have e3 : fdX V g k 35 = vU (V 35) 1 (V 35 1 + k) := rfl
  rw [e1, e2, fl_up (by omega), e3]
  unfold fdX
  funext b
  by_cases b1 : b = 36
  · subst b1
    simp [vA, Int.add_assoc]
  · by_cases b2 : b = 35
    · subst b2
      funext j
      by_cases j1 : j = 1
      · subst j1; simp [vA, vU, Int.add_assoc]
      · simp [vA, vU, j1]
    · simp [vA, b1, b2]
theorem xp_feed {w N : Int} (hG : Good n L G) (hs : 0 ≤ V 35 1 ∧ V 35 1 ≤ 100) (hN : i32 N) : run (d + 1) 1017 0 [xR 1, xL w, xU, xI N, xU] [] (V, G) = if ¬ (1 ≤ N ∧ N ≤ 8) then some (some (xI (-2)), (V, G)) else if 100 < V 35 1 + N then some (some (xI (-4)), (V, G)) else some (some (xI (V 35 1 + N)), (fdX V (fun j => byX w (8 * (N - 1 - (j - V 35 1)))) N, G)) := by
  by_cases a : 1 ≤ N ∧ N ≤ 8
  · rw [if_neg (not_not_intro a)]
    by_cases b : 100 < V 35 1 + N
    · rw [if_pos b]
      simp (disch := first | omega | exact Nat.le_of_ble_eq_true rfl) only [bk1017_0, bk1017_11, bk1017_14, bk1017_31, bk1017_66, Int.reduceToNat, vA_ap, Nat.reduceEqDiff, if_true, if_false, bx_nil, isL_I, isL_R, isL_U, if_ff, bind_some, tl_some, tl_none, bx_iload_3, bx_iconst, bx_ic_lt, bx_bipush, bx_ic_le, bx_iret, bx_aload_0, gf1_5 hG, gf35_1 hG, bx_iadd, bx_isub, bx_istore4, bx_iload4, bx_if_lt, bx_lload_1, bx_imul, bx_lushr, bx_l2i, bx_sipush, bx_iand, cl501 hG, bx_iinc4, bx_goto, if_neg (show ¬ N < 1 by omega), if_pos a.2, if_neg (show ¬ V 35 1 + N ≤ 100 by omega)]
    · rw [if_neg b]
      have h := it_dn (D := d + 1) (q := 1017) (pc := 36) (loc := fun p => [xR 1, xL w, xU, xI N, xI p]) (F := fun p => (fdX V (fun j => byX w (8 * (N - 1 - (j - V 35 1)))) (N - 1 - p), G)) (lo := -1) N.toNat (N - 1) (by omega) (fun p h1 h2 => by
        have e1 : fdX V (fun j => byX w (8 * (N - 1 - (j - V 35 1)))) (N - 1 - p) 35 1 = V 35 1 + (N - 1 - p) := rfl
        have hu := fdX_up (V := V) (g := fun j => byX w (8 * (N - 1 - (j - V 35 1)))) (k := N - 1 - p) (by omega)
        have e2 : byX w (8 * (N - 1 - (V 35 1 + (N - 1 - p) - V 35 1))) = byX w (8 * p) := by rw [show N - 1 - (V 35 1 + (N - 1 - p) - V 35 1) = p by omega]
        rw [bk1017_36, show N - 1 - (p - 1) = N - 1 - p + 1 by omega, ← hu]
        simp only [e2]
        simp (disch := first | omega | exact Nat.le_of_ble_eq_true rfl) only [bk1017_0, bk1017_11, bk1017_14, bk1017_31, bk1017_66, Int.reduceToNat, vA_ap, Nat.reduceEqDiff, if_true, if_false, bx_nil, isL_I, isL_R, isL_U, if_ff, bind_some, tl_some, tl_none, bx_iload_3, bx_iconst, bx_ic_lt, bx_bipush, bx_ic_le, bx_iret, bx_aload_0, gf1_5 hG, gf35_1 hG, bx_iadd, bx_isub, bx_istore4, bx_iload4, bx_if_lt, bx_lload_1, bx_imul, bx_lushr, bx_l2i, bx_sipush, bx_iand, cl501 hG, bx_iinc4, bx_goto, if_neg (show ¬ p < 0 by omega), x_append (V := fdX V (fun j => byX w (8 * (N - 1 - (j - V 35 1)))) (N - 1 - p)) hG (by rw [e1]; omega)]
        rw [show p + -1 = p - 1 by omega]
        rfl)
      rw [show N - 1 - (N - 1) = 0 by omega, show N - 1 - -1 = N by omega] at h
      have e0 : fdX V (fun j => byX w (8 * (N - 1 - (j - V 35 1)))) 0 = V := by
        unfold fdX
        rw [Int.add_zero, fl_nil]
        funext c
        by_cases b1 : c = 36
        · subst b1; simp [vA]
        · by_cases b2 : c = 35
          · subst b2
            funext j
            by_cases j1 : j = 1
            · subst j1; simp [vA, vU]
            · simp [vA, vU, j1]
          · simp [vA, b1, b2]
      rw [e0] at h
      have e1 : fdX V (fun j => byX w (8 * (N - 1 - (j - V 35 1)))) N 35 1 = V 35 1 + N := rfl
      simp (disch := first | omega | exact Nat.le_of_ble_eq_true rfl) only [bk1017_0, bk1017_11, bk1017_14, bk1017_31, bk1017_66, Int.reduceToNat, vA_ap, Nat.reduceEqDiff, if_true, if_false, bx_nil, isL_I, isL_R, isL_U, if_ff, bind_some, tl_some, tl_none, bx_iload_3, bx_iconst, bx_ic_lt, bx_bipush, bx_ic_le, bx_iret, bx_aload_0, gf1_5 hG, gf35_1 hG, bx_iadd, bx_isub, bx_istore4, bx_iload4, bx_if_lt, bx_lload_1, bx_imul, bx_lushr, bx_l2i, bx_sipush, bx_iand, cl501 hG, bx_iinc4, bx_goto, if_neg (show ¬ N < 1 by omega), if_pos a.2, if_pos (show V 35 1 + N ≤ 100 by omega)]
      rw [h, bk1017_36]
      simp (disch := first | omega | exact Nat.le_of_ble_eq_true rfl) only [bk1017_0, bk1017_11, bk1017_14, bk1017_31, bk1017_66, Int.reduceToNat, vA_ap, Nat.reduceEqDiff, if_true, if_false, bx_nil, isL_I, isL_R, isL_U, if_ff, bind_some, tl_some, tl_none, bx_iload_3, bx_iconst, bx_ic_lt, bx_bipush, bx_ic_le, bx_iret, bx_aload_0, gf1_5 hG, gf35_1 hG, bx_iadd, bx_isub, bx_istore4, bx_iload4, bx_if_lt, bx_lload_1, bx_imul, bx_lushr, bx_l2i, bx_sipush, bx_iand, cl501 hG, bx_iinc4, bx_goto, if_pos (show (-1 : Int) < 0 by omega), e1]
  · rw [if_pos a]
    by_cases b : N < 1
    · simp (disch := first | omega | exact Nat.le_of_ble_eq_true rfl) only [bk1017_0, bk1017_11, bk1017_14, bk1017_31, bk1017_66, Int.reduceToNat, vA_ap, Nat.reduceEqDiff, if_true, if_false, bx_nil, isL_I, isL_R, isL_U, if_ff, bind_some, tl_some, tl_none, bx_iload_3, bx_iconst, bx_ic_lt, bx_bipush, bx_ic_le, bx_iret, bx_aload_0, gf1_5 hG, gf35_1 hG, bx_iadd, bx_isub, bx_istore4, bx_iload4, bx_if_lt, bx_lload_1, bx_imul, bx_lushr, bx_l2i, bx_sipush, bx_iand, cl501 hG, bx_iinc4, bx_goto, if_pos b]
    · simp (disch := first | omega | exact Nat.le_of_ble_eq_true rfl) only [bk1017_0, bk1017_11, bk1017_14, bk1017_31, bk1017_66, Int.reduceToNat, vA_ap, Nat.reduceEqDiff, if_true, if_false, bx_nil, isL_I, isL_R, isL_U, if_ff, bind_some, tl_some, tl_none, bx_iload_3, bx_iconst, bx_ic_lt, bx_bipush, bx_ic_le, bx_iret, bx_aload_0, gf1_5 hG, gf35_1 hG, bx_iadd, bx_isub, bx_istore4, bx_iload4, bx_if_lt, bx_lload_1, bx_imul, bx_lushr, bx_l2i, bx_sipush, bx_iand, cl501 hG, bx_iinc4, bx_goto, if_neg b, if_neg (show ¬ N ≤ 8 by omega)]
def fdM (V : Nat → Int → Int) (g : Int → Int) (k : Int) : Nat → Int → Int := vA (vA V 394 (fl (V 394) g (V 376 30) (V 376 30 + k))) 376 (vU (V 376) 30 (V 376 30 + k))
theorem fdM_up {g : Int → Int} {k : Int} (h : 0 ≤ k) : vA (vA (fdM V g k) 394 (vU (fdM V g k 394) (fdM V g k 376 30) (g (V 376 30 + k)))) 376 (vU (fdM V g k 376) 30 (fdM V g k 376 30 + 1)) = fdM V g (k + 1) := by
  have e1 : fdM V g k 376 30 = V 376 30 + k := rfl
  have e2 : fdM V g k 394 = fl (V 394) g (V 376 30) (V 376 30 + k) := rfl
  have e3 : fdM V g k 376 = vU (V 376) 30 (V 376 30 + k) := rfl
  rw [e1, e2, fl_up (by omega), e3]
  unfold fdM
  funext b
  by_cases b1 : b = 394
  · subst b1
    simp [vA, Int.add_assoc]
  · by_cases b2 : b = 376
    · subst b2
      funext j
      by_cases j1 : j = 30
      · subst j1; simp [vA, vU, Int.add_assoc]
      · simp [vA, vU, j1]
    · simp [vA, b1, b2]
theorem mp_feed {w N : Int} (hG : Good n L G) (hs : 0 ≤ V 376 30 ∧ V 376 30 ≤ 100) (hN : i32 N) : run (d + 1) 1132 0 [xR 376, xL w, xU, xI N, xU] [] (V, G) = if ¬ (1 ≤ N ∧ N ≤ 8) then some (some (xI (-2)), (V, G)) else if 100 < V 376 30 + N then some (some (xI (-4)), (V, G)) else some (some (xI (V 376 30 + N)), (fdM V (fun j => byM w (8 * (N - 1 - (j - V 376 30)))) N, G)) := by
  by_cases a : 1 ≤ N ∧ N ≤ 8
  · rw [if_neg (not_not_intro a)]
    by_cases b : 100 < V 376 30 + N
    · rw [if_pos b]
      simp (disch := first | omega | exact Nat.le_of_ble_eq_true rfl) only [bk1132_0, bk1132_15, bk1132_29, bk1132_76, Int.reduceToNat, vA_ap, Nat.reduceEqDiff, if_true, if_false, bx_nil, isL_I, isL_R, isL_U, if_ff, bind_some, tl_some, tl_none, bx_iload_3, bx_i2l, bx_lconst1, bx_ldc2, cl1106, bx_if_ne, bx_bipush, bx_iret, bx_aload_0, gf376_30 hG, bx_iadd, bx_ic_le, bx_iconst, bx_isub, bx_istore4, bx_iload4, bx_if_lt, gf376_23 hG, ia394 hG, is394 hG, bx_lload_1, bx_imul, bx_lshr, bx_land, bx_l2i, bx_dupI, bx_dupR, pf376_30 hG, bx_iinc4, bx_goto, m_isIn, b1_t a, one_ne, if_neg (show ¬ V 376 30 + N ≤ 100 by omega)]
    · rw [if_neg b]
      have h := it_dn (D := d + 1) (q := 1132) (pc := 34) (loc := fun p => [xR 376, xL w, xU, xI N, xI p]) (F := fun p => (fdM V (fun j => byM w (8 * (N - 1 - (j - V 376 30)))) (N - 1 - p), G)) (lo := -1) N.toNat (N - 1) (by omega) (fun p h1 h2 => by
        have e1 : fdM V (fun j => byM w (8 * (N - 1 - (j - V 376 30)))) (N - 1 - p) 376 30 = V 376 30 + (N - 1 - p) := rfl
        have hu := fdM_up (V := V) (g := fun j => byM w (8 * (N - 1 - (j - V 376 30)))) (k := N - 1 - p) (by omega)
        have e2 : byM w (8 * (N - 1 - (V 376 30 + (N - 1 - p) - V 376 30))) = byM w (8 * p) := by rw [show N - 1 - (V 376 30 + (N - 1 - p) - V 376 30) = p by omega]
        rw [bk1132_34, show N - 1 - (p - 1) = N - 1 - p + 1 by omega, ← hu]
        simp only [e2]
        simp (disch := first | omega | exact Nat.le_of_ble_eq_true rfl) only [bk1132_0, bk1132_15, bk1132_29, bk1132_76, Int.reduceToNat, vA_ap, Nat.reduceEqDiff, if_true, if_false, bx_nil, isL_I, isL_R, isL_U, if_ff, bind_some, tl_some, tl_none, bx_iload_3, bx_i2l, bx_lconst1, bx_ldc2, cl1106, bx_if_ne, bx_bipush, bx_iret, bx_aload_0, gf376_30 hG, bx_iadd, bx_ic_le, bx_iconst, bx_isub, bx_istore4, bx_iload4, bx_if_lt, gf376_23 hG, ia394 hG, is394 hG, bx_lload_1, bx_imul, bx_lshr, bx_land, bx_l2i, bx_dupI, bx_dupR, pf376_30 hG, bx_iinc4, bx_goto, if_neg (show ¬ p < 0 by omega), e1]
        rw [show p + -1 = p - 1 by omega]
        rfl)
      rw [show N - 1 - (N - 1) = 0 by omega, show N - 1 - -1 = N by omega] at h
      have e0 : fdM V (fun j => byM w (8 * (N - 1 - (j - V 376 30)))) 0 = V := by
        unfold fdM
        rw [Int.add_zero, fl_nil]
        funext c
        by_cases b1 : c = 394
        · subst b1; simp [vA]
        · by_cases b2 : c = 376
          · subst b2
            funext j
            by_cases j1 : j = 30
            · subst j1; simp [vA, vU]
            · simp [vA, vU, j1]
          · simp [vA, b1, b2]
      rw [e0] at h
      have e1 : fdM V (fun j => byM w (8 * (N - 1 - (j - V 376 30)))) N 376 30 = V 376 30 + N := rfl
      simp (disch := first | omega | exact Nat.le_of_ble_eq_true rfl) only [bk1132_0, bk1132_15, bk1132_29, bk1132_76, Int.reduceToNat, vA_ap, Nat.reduceEqDiff, if_true, if_false, bx_nil, isL_I, isL_R, isL_U, if_ff, bind_some, tl_some, tl_none, bx_iload_3, bx_i2l, bx_lconst1, bx_ldc2, cl1106, bx_if_ne, bx_bipush, bx_iret, bx_aload_0, gf376_30 hG, bx_iadd, bx_ic_le, bx_iconst, bx_isub, bx_istore4, bx_iload4, bx_if_lt, gf376_23 hG, ia394 hG, is394 hG, bx_lload_1, bx_imul, bx_lshr, bx_land, bx_l2i, bx_dupI, bx_dupR, pf376_30 hG, bx_iinc4, bx_goto, m_isIn, b1_t a, one_ne, if_pos (show V 376 30 + N ≤ 100 by omega)]
      rw [h, bk1132_34]
      simp (disch := first | omega | exact Nat.le_of_ble_eq_true rfl) only [bk1132_0, bk1132_15, bk1132_29, bk1132_76, Int.reduceToNat, vA_ap, Nat.reduceEqDiff, if_true, if_false, bx_nil, isL_I, isL_R, isL_U, if_ff, bind_some, tl_some, tl_none, bx_iload_3, bx_i2l, bx_lconst1, bx_ldc2, cl1106, bx_if_ne, bx_bipush, bx_iret, bx_aload_0, gf376_30 hG, bx_iadd, bx_ic_le, bx_iconst, bx_isub, bx_istore4, bx_iload4, bx_if_lt, gf376_23 hG, ia394 hG, is394 hG, bx_lload_1, bx_imul, bx_lshr, bx_land, bx_l2i, bx_dupI, bx_dupR, pf376_30 hG, bx_iinc4, bx_goto, if_pos (show (-1 : Int) < 0 by omega), e1]
  · rw [if_pos a]
    simp (disch := first | omega | exact Nat.le_of_ble_eq_true rfl) only [bk1132_0, bk1132_15, bk1132_29, bk1132_76, Int.reduceToNat, vA_ap, Nat.reduceEqDiff, if_true, if_false, bx_nil, isL_I, isL_R, isL_U, if_ff, bind_some, tl_some, tl_none, bx_iload_3, bx_i2l, bx_lconst1, bx_ldc2, cl1106, bx_if_ne, bx_bipush, bx_iret, bx_aload_0, gf376_30 hG, bx_iadd, bx_ic_le, bx_iconst, bx_isub, bx_istore4, bx_iload4, bx_if_lt, gf376_23 hG, ia394 hG, is394 hG, bx_lload_1, bx_imul, bx_lshr, bx_land, bx_l2i, bx_dupI, bx_dupR, pf376_30 hG, bx_iinc4, bx_goto, m_isIn, b1_f a]
theorem pr_feed {w N : Int} (hG : Good n L G) (h : Inv n V) (hN : i32 N) : pair n G V 1017 1132 [xR 1, xL w, xU, xI N, xU] [xR 376, xL w, xU, xI N, xU] := by
  have hn := h.nn
  obtain ⟨t1, t2, t3⟩ := h.tap
  have hx := xp_feed (d := 798) (w := w) (N := N) hG t2 hN
  have hm0 := mp_feed (d := 798) (V := V) (w := w) (N := N) hG (by rw [t1]; exact t2) hN
  by_cases a : 1 ≤ N ∧ N ≤ 8
  · rw [if_neg (not_not_intro a)] at hx hm0
    by_cases b : 100 < V 35 1 + N
    · rw [if_pos b] at hx
      rw [t1, if_pos b] at hm0
      exact mkpair hx hm0 h
    · rw [if_neg b] at hx
      generalize hV : fdX V (fun j => byX w (8 * (N - 1 - (j - V 35 1)))) N = V' at hx
      have f1 : V' 376 = V 376 := by rw [← hV]; rfl
      have hm := mp_feed (d := 798) (V := V') (w := w) (N := N) hG (by rw [f1, t1]; exact t2) hN
      rw [if_neg (not_not_intro a), f1, t1, if_neg b] at hm
      refine mkpair hx hm ?_
      unfold fdM
      rw [← hV]
      unfold fdX
      refine ⟨h.nn, h.l5, h.l12, h.l35, h.lm, h.lim, h.cc, h.ss, h.rC, h.rS, h.lan, h.set, h.stk, h.off, h.own, h.cre, h.lig, tldP_tr hn.2 h.tld (fun c hc => by repeat rw [vA_ne (by omega)]) rfl, h.stp, h.spl, sgnP_tr hn.2 h.sgn (fun c hc => by repeat rw [vA_ne (by omega)]) rfl rfl, h.wrk, ?_, h.ent, h.fnd, runP_tr h.rns (fun c hc => ⟨by repeat rw [vA_ne (by omega)], by repeat rw [vA_ne (by omega)], by repeat rw [vA_ne (by omega)]⟩) ⟨rfl, rfl, rfl⟩ rfl, h.prb⟩
      refine ⟨?_, ?_, fun i i0 i1 => ?_⟩
      · show V 376 30 + N = V 35 1 + N
        rw [t1]
      · show 0 ≤ V 35 1 + N ∧ V 35 1 + N ≤ 100
        omega
      · have i2 : i < V 35 1 + N := i1
        show fl (V 394) (fun j => byM w (8 * (N - 1 - (j - V 35 1)))) (V 376 30) (V 376 30 + N) i = fl (V 36) (fun j => byX w (8 * (N - 1 - (j - V 35 1)))) (V 35 1) (V 35 1 + N) i ∧ 0 ≤ fl (V 36) (fun j => byX w (8 * (N - 1 - (j - V 35 1)))) (V 35 1) (V 35 1 + N) i ∧ fl (V 36) (fun j => byX w (8 * (N - 1 - (j - V 35 1)))) (V 35 1) (V 35 1 + N) i ≤ 255
        rw [t1]
        by_cases e : i < V 35 1
        · rw [fl_out (by omega), fl_out (by omega)]
          exact t3 i i0 e
        · rw [fl_in (by omega) i2, fl_in (by omega) i2]
          exact ⟨(by_eq (by omega)).symm, by_bd⟩
  · rw [if_pos a] at hx hm0
    exact mkpair hx hm0 h
end FD
