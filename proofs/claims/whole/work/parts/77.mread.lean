/-! PROGRAM: the reference reads -/
section MR
variable {n L d : Nat} {G : XG} {V : Nat → Int → Int} {μ : XM}
theorem m_sign {a sz : Int} (hG : Good n L G) (ea : V 376 31 = a) (es : V 376 30 = sz) (h : 0 ≤ a) (h2 : sz ≤ 100) : run d 1136 0 [xR 376] [] (V, G) = some (some (xI (pkF (V 394) sz a)), (V, G)) := by
  rw [m_signAt hG (by omega) (by omega), ea, es]
  rfl
/-- only at and number are others -/
def mvM (V W : Nat → Int → Int) (a : Int) : Prop := (∀ b, b ≠ 376 → W b = V b) ∧ (∀ k, k ≠ 31 → k ≠ 34 → W 376 k = V 376 k) ∧ W 376 31 = a
theorem mvM_at {W : Nat → Int → Int} {a b : Int} (h : mvM V W a) : mvM V (vA W 376 (vU (W 376) 31 b)) b := by
  refine ⟨fun c hc => by rw [vA_ne hc]; exact h.1 c hc, fun k k1 k2 => ?_, ?_⟩
  · rw [vA_same, vU_ne k1]; exact h.2.1 k k1 k2
  · rw [vA_same, vU_at]
theorem mvM_nm {W : Nat → Int → Int} {a b : Int} (h : mvM V W a) : mvM V (vA W 376 (vU (W 376) 34 b)) a := by
  refine ⟨fun c hc => by rw [vA_ne hc]; exact h.1 c hc, fun k k1 k2 => ?_, ?_⟩
  · rw [vA_same, vU_ne k2]; exact h.2.1 k k1 k2
  · rw [vA_same, vU_ne (by decide)]; exact h.2.2
theorem m_number {a sz most : Int} (hG : Good n L G) (ea : V 376 31 = a) (es : V 376 30 = sz) (h0 : 0 ≤ a ∧ a ≤ sz) (hs : sz ≤ 100) (hm : 0 ≤ most ∧ most ≤ 95) : ∃ W, run (d + 1) 1137 0 [xR 376, xI most] [] (V, G) = some (some (xI (b1 (¬ (numF (V 394) sz a most).1 = -1))), (W, G)) ∧ mvM V W (numF (V 394) sz a most).2 ∧ (¬ (numF (V 394) sz a most).1 = -1 → W 376 34 = (numF (V 394) sz a most).1) := by
  have k0 := m_sign (d := d) hG ea es h0.1 hs
  have v0 : mvM V V a := ⟨fun _ _ => rfl, fun _ _ _ => rfl, ea⟩
  unfold numF
  by_cases q1 : pkF (V 394) sz a = 32
  · rw [if_neg (not_not_intro q1)]
    have l1 := pkF_lt q1 (by omega)
    obtain ⟨A, hA⟩ : ∃ A, A = vA V 376 (vU (V 376) 31 (a + 1)) := ⟨_, rfl⟩
    have vA1 : mvM V A (a + 1) := by rw [hA]; exact mvM_at v0
    have k1 := m_sign (d := d) (V := A) hG vA1.2.2 ((vA1.2.1 30 (by decide) (by decide)).trans es) (by omega) hs
    rw [vA1.1 394 (by decide)] at k1
    by_cases q2 : (48 ≤ pkF (V 394) sz (a + 1) ∧ pkF (V 394) sz (a + 1) ≤ 57) ∧ pkF (V 394) sz (a + 1) - 48 ≤ most
    · rw [if_neg (not_not_intro q2)]
      have l2 := pkF_lt (c := pkF (V 394) sz (a + 1)) rfl (by omega)
      generalize hc1 : pkF (V 394) sz (a + 1) = c1 at *
      obtain ⟨B, hB⟩ : ∃ B, B = vA A 376 (vU (A 376) 34 (c1 - 48)) := ⟨_, rfl⟩
      have vB : mvM V B (a + 1) := by rw [hB]; exact mvM_nm vA1
      have nB : B 376 34 = c1 - 48 := by rw [hB, vA_same, vU_at]
      obtain ⟨C, hC⟩ : ∃ C, C = vA B 376 (vU (B 376) 31 (a + 1 + 1)) := ⟨_, rfl⟩
      have vC : mvM V C (a + 2) := by rw [hC, show a + 2 = a + 1 + 1 by omega]; exact mvM_at vB
      have nC : C 376 34 = c1 - 48 := by rw [hC, vA_same, vU_ne (by decide)]; exact nB
      have k2 := m_sign (d := d) (V := C) hG vC.2.2 ((vC.2.1 30 (by decide) (by decide)).trans es) (by omega) hs
      rw [vC.1 394 (by decide)] at k2
      have aA : A 376 31 = a + 1 := vA1.2.2
      have aB : B 376 31 = a + 1 := vB.2.2
      have aC : C 376 31 = a + 2 := vC.2.2
      generalize hc2 : pkF (V 394) sz (a + 2) = c2 at *
      by_cases q3 : ¬ (48 ≤ c2 ∧ c2 ≤ 57) ∨ c1 - 48 = 0
      · rw [if_pos q3]
        have hne : ¬ c1 - 48 = -1 := by omega
        refine ⟨C, ?_, vC, fun _ => nC⟩
        rw [b1_t (show ¬ ((c1 - 48, a + 2) : Int × Int).1 = -1 from hne)]
        by_cases q5 : 48 ≤ c2 ∧ c2 ≤ 57
        · have q6 := q3.resolve_left (not_not_intro q5)
          simp (disch := first | omega | exact Nat.le_of_ble_eq_true rfl) only [bk1137_0, bk1137_11, bk1137_42, bk1137_44, bk1137_82, bk1137_84, bk1137_105, Int.reduceToNat, vA_ap, Nat.reduceEqDiff, if_true, if_false, bx_nil, isL_I, isL_R, isL_U, if_ff, bind_some, tl_some, tl_none, bx_aload_0, cl1136 hG, bx_bipush, bx_ic_eq, bx_iconst, bx_zret, bx_dupI, bx_dupR, gf376_31 hG, bx_iadd, pf376_31 hG, cl1138, bx_if_eq, bx_isub, bx_iload_1, bx_ic_le, pf376_34 hG, gf376_34 hG, bx_if_ne, bx_imul, k0, if_pos q1, ea, ← hA, k1, m_isDigit, b1_t q2.1, one_ne, if_pos q2.2, ← hB, aB, ← hC, k2, b1_t q5, nC, if_pos q6]
        · simp (disch := first | omega | exact Nat.le_of_ble_eq_true rfl) only [bk1137_0, bk1137_11, bk1137_42, bk1137_44, bk1137_82, bk1137_84, bk1137_105, Int.reduceToNat, vA_ap, Nat.reduceEqDiff, if_true, if_false, bx_nil, isL_I, isL_R, isL_U, if_ff, bind_some, tl_some, tl_none, bx_aload_0, cl1136 hG, bx_bipush, bx_ic_eq, bx_iconst, bx_zret, bx_dupI, bx_dupR, gf376_31 hG, bx_iadd, pf376_31 hG, cl1138, bx_if_eq, bx_isub, bx_iload_1, bx_ic_le, pf376_34 hG, gf376_34 hG, bx_if_ne, bx_imul, k0, if_pos q1, ea, ← hA, k1, m_isDigit, b1_t q2.1, one_ne, if_pos q2.2, ← hB, aB, ← hC, k2, b1_f q5]
      · rw [if_neg q3]
        have q5 : 48 ≤ c2 ∧ c2 ≤ 57 := Classical.byContradiction fun y => q3 (Or.inl y)
        have q6 : ¬ c1 - 48 = 0 := fun y => q3 (Or.inr y)
        have l3 : a + 2 < sz := pkF_lt hc2 (by omega)
        by_cases q4 : 10 * (c1 - 48) + (c2 - 48) ≤ most
        · rw [if_pos q4]
          obtain ⟨E, hE⟩ : ∃ E, E = vA C 376 (vU (C 376) 34 (10 * (c1 - 48) + c2 - 48)) := ⟨_, rfl⟩
          have vE : mvM V E (a + 2) := by rw [hE]; exact mvM_nm vC
          have aE : E 376 31 = a + 2 := vE.2.2
          have nE : E 376 34 = 10 * (c1 - 48) + (c2 - 48) := by rw [hE, vA_same, vU_at]; omega
          refine ⟨vA E 376 (vU (E 376) 31 (a + 3)), ?_, mvM_at vE, fun _ => ?_⟩
          · rw [b1_t (show ¬ ((10 * (c1 - 48) + (c2 - 48), a + 3) : Int × Int).1 = -1 by show ¬ 10 * (c1 - 48) + (c2 - 48) = -1; omega), show a + 3 = a + 2 + 1 by omega]
            simp (disch := first | omega | exact Nat.le_of_ble_eq_true rfl) only [bk1137_0, bk1137_11, bk1137_42, bk1137_44, bk1137_82, bk1137_84, bk1137_105, Int.reduceToNat, vA_ap, Nat.reduceEqDiff, if_true, if_false, bx_nil, isL_I, isL_R, isL_U, if_ff, bind_some, tl_some, tl_none, bx_aload_0, cl1136 hG, bx_bipush, bx_ic_eq, bx_iconst, bx_zret, bx_dupI, bx_dupR, gf376_31 hG, bx_iadd, pf376_31 hG, cl1138, bx_if_eq, bx_isub, bx_iload_1, bx_ic_le, pf376_34 hG, gf376_34 hG, bx_if_ne, bx_imul, k0, if_pos q1, ea, ← hA, k1, m_isDigit, b1_t q2.1, one_ne, if_pos q2.2, ← hB, aB, ← hC, k2, b1_t q5, nC, if_neg q6, if_pos (show 10 * (c1 - 48) + c2 - 48 ≤ most by omega), ← hE, aE]
          · rw [vA_same, vU_ne (by decide)]; exact nE
        · rw [if_neg q4]
          refine ⟨C, ?_, vC, fun y => absurd rfl y⟩
          rw [b1_f (not_not_intro (rfl : ((-1, a + 2) : Int × Int).1 = -1))]
          simp (disch := first | omega | exact Nat.le_of_ble_eq_true rfl) only [bk1137_0, bk1137_11, bk1137_42, bk1137_44, bk1137_82, bk1137_84, bk1137_105, Int.reduceToNat, vA_ap, Nat.reduceEqDiff, if_true, if_false, bx_nil, isL_I, isL_R, isL_U, if_ff, bind_some, tl_some, tl_none, bx_aload_0, cl1136 hG, bx_bipush, bx_ic_eq, bx_iconst, bx_zret, bx_dupI, bx_dupR, gf376_31 hG, bx_iadd, pf376_31 hG, cl1138, bx_if_eq, bx_isub, bx_iload_1, bx_ic_le, pf376_34 hG, gf376_34 hG, bx_if_ne, bx_imul, k0, if_pos q1, ea, ← hA, k1, m_isDigit, b1_t q2.1, one_ne, if_pos q2.2, ← hB, aB, ← hC, k2, b1_t q5, nC, if_neg q6, if_neg (show ¬ 10 * (c1 - 48) + c2 - 48 ≤ most by omega)]
    · rw [if_pos q2]
      refine ⟨A, ?_, vA1, fun y => absurd rfl y⟩
      rw [b1_f (not_not_intro (rfl : ((-1, a + 1) : Int × Int).1 = -1))]
      by_cases q5 : 48 ≤ pkF (V 394) sz (a + 1) ∧ pkF (V 394) sz (a + 1) ≤ 57
      · simp (disch := first | omega | exact Nat.le_of_ble_eq_true rfl) only [bk1137_0, bk1137_11, bk1137_42, bk1137_44, bk1137_82, bk1137_84, bk1137_105, Int.reduceToNat, vA_ap, Nat.reduceEqDiff, if_true, if_false, bx_nil, isL_I, isL_R, isL_U, if_ff, bind_some, tl_some, tl_none, bx_aload_0, cl1136 hG, bx_bipush, bx_ic_eq, bx_iconst, bx_zret, bx_dupI, bx_dupR, gf376_31 hG, bx_iadd, pf376_31 hG, cl1138, bx_if_eq, bx_isub, bx_iload_1, bx_ic_le, pf376_34 hG, gf376_34 hG, bx_if_ne, bx_imul, k0, if_pos q1, ea, ← hA, k1, m_isDigit, b1_t q5, one_ne, if_neg (show ¬ pkF (V 394) sz (a + 1) - 48 ≤ most from fun y => q2 ⟨q5, y⟩)]
      · simp (disch := first | omega | exact Nat.le_of_ble_eq_true rfl) only [bk1137_0, bk1137_11, bk1137_42, bk1137_44, bk1137_82, bk1137_84, bk1137_105, Int.reduceToNat, vA_ap, Nat.reduceEqDiff, if_true, if_false, bx_nil, isL_I, isL_R, isL_U, if_ff, bind_some, tl_some, tl_none, bx_aload_0, cl1136 hG, bx_bipush, bx_ic_eq, bx_iconst, bx_zret, bx_dupI, bx_dupR, gf376_31 hG, bx_iadd, pf376_31 hG, cl1138, bx_if_eq, bx_isub, bx_iload_1, bx_ic_le, pf376_34 hG, gf376_34 hG, bx_if_ne, bx_imul, k0, if_pos q1, ea, ← hA, k1, m_isDigit, b1_f q5]
  · rw [if_pos q1]
    refine ⟨V, ?_, v0, fun y => absurd rfl y⟩
    rw [b1_f (not_not_intro (rfl : ((-1, a) : Int × Int).1 = -1))]
    simp (disch := first | omega | exact Nat.le_of_ble_eq_true rfl) only [bk1137_0, bk1137_11, bk1137_42, bk1137_44, bk1137_82, bk1137_84, bk1137_105, Int.reduceToNat, vA_ap, Nat.reduceEqDiff, if_true, if_false, bx_nil, isL_I, isL_R, isL_U, if_ff, bind_some, tl_some, tl_none, bx_aload_0, cl1136 hG, bx_bipush, bx_ic_eq, bx_iconst, bx_zret, bx_dupI, bx_dupR, gf376_31 hG, bx_iadd, pf376_31 hG, cl1138, bx_if_eq, bx_isub, bx_iload_1, bx_ic_le, pf376_34 hG, gf376_34 hG, bx_if_ne, bx_imul, k0, if_neg q1]
/-- the inner loop of closes -/
theorem m_closes_in {how I D r : Int} (hG : Good n L G) (hI : I ≠ D) (hI2 : 0 ≤ I ∧ I ≤ 50) (hD : 0 ≤ D ∧ D ≤ 50) (hr : 0 ≤ r ∧ r ≤ 100) {g : Int → Int} {z : Int} (hz : 0 ≤ z ∧ z ≤ 11) : ∀ (m : Nat) (j : Int) (V : Nat → Int → Int), 0 ≤ j → j + m = z → V 376 32 = D → V 396 I = z → (∀ w, 0 ≤ w → w < 11 → V 395 (13 * I + w) = g w) → (0 ≤ V 396 D ∧ V 396 D ≤ 11) → run (d + 1) 1143 110 [xR 376, xI how, xI I, xI r, xI j] [] (V, G) = run (d + 1) 1143 102 [xR 376, xI how, xI I, xI (r + 1), xI z] [] (adL g m j V, G) := by
  intro m
  induction m with
  | zero =>
    intro j V j0 hj hd hs hg hl
    rw [bk1143_110]
    simp (disch := first | omega | exact Nat.le_of_ble_eq_true rfl) only [bk1143_0, bk1143_99, bk1143_100, bk1143_143, bk1143_149, Int.reduceToNat, vA_ap, Nat.reduceEqDiff, if_true, if_false, bx_nil, isL_I, isL_R, isL_U, if_ff, bind_some, tl_some, tl_none, bx_aload_0, gf376_26 hG, ia397 hG, is397 hG, gf376_32 hG, bx_istore_1, bx_istore_2, bx_dupI, bx_dupR, bx_iconst, bx_isub, pf376_32 hG, bx_iload_1, bx_bipush, bx_ic_lt, bx_istore_3, gf376_29 hG, ia400 hG, is400 hG, bx_iload_3, gf376_28 hG, ia399 hG, is399 hG, gf376_25 hG, ia396 hG, is396 hG, bx_iload_2, bx_istore4, bx_iload4, bx_ic_ge, gf376_27 hG, ia398 hG, is398 hG, bx_imul, bx_iadd, gf376_24 hG, ia395 hG, is395 hG, bx_iinc4, bx_goto, bx_vret, cl1139 hG, bx_iinc3, hs, if_pos (show z ≤ j by omega)]
    rw [show j = z by omega]
    rfl
  | succ m ih =>
    intro j V j0 hj hd hs hg hl
    have hl' : 0 ≤ V 396 (V 376 32) ∧ V 396 (V 376 32) ≤ 11 := by rw [hd]; exact hl
    rw [bk1143_110]
    simp (disch := first | omega | exact Nat.le_of_ble_eq_true rfl) only [bk1143_0, bk1143_99, bk1143_100, bk1143_143, bk1143_149, Int.reduceToNat, vA_ap, Nat.reduceEqDiff, if_true, if_false, bx_nil, isL_I, isL_R, isL_U, if_ff, bind_some, tl_some, tl_none, bx_aload_0, gf376_26 hG, ia397 hG, is397 hG, gf376_32 hG, bx_istore_1, bx_istore_2, bx_dupI, bx_dupR, bx_iconst, bx_isub, pf376_32 hG, bx_iload_1, bx_bipush, bx_ic_lt, bx_istore_3, gf376_29 hG, ia400 hG, is400 hG, bx_iload_3, gf376_28 hG, ia399 hG, is399 hG, gf376_25 hG, ia396 hG, is396 hG, bx_iload_2, bx_istore4, bx_iload4, bx_ic_ge, gf376_27 hG, ia398 hG, is398 hG, bx_imul, bx_iadd, gf376_24 hG, ia395 hG, is395 hG, bx_iinc4, bx_goto, bx_vret, cl1139 hG, bx_iinc3, hs, if_neg (show ¬ z ≤ j by omega), hg j j0 (show j < 11 by omega), m_adds hG (show 0 ≤ V 376 32 ∧ V 376 32 ≤ 50 by omega) hl']
    have o := adM_oth (v := g j) hl'
    have e3 := o.2.2 376 (by decide) (by decide)
    have e4 := adM_sz (V := V) (v := g j)
    rw [hd] at o e4
    exact ih (j + 1) (adM V (g j)) (by omega) (by omega) (by rw [e3]; exact hd) (by rw [o.1 I hI]; exact hs) (fun w w0 w1 => by rw [o.2.1 I w hI w0 (by omega)]; exact hg w w0 w1) (by rw [e4]; split <;> omega)
def clL (g : Int → Int) (zn : Nat) : Nat → (Nat → Int → Int) → Nat → Int → Int
  | 0, V => V
  | k + 1, V => clL g zn k (adL g zn 0 V)
theorem m_closes_out {how I D : Int} (hG : Good n L G) (hI : I ≠ D) (hI2 : 0 ≤ I ∧ I ≤ 50) (hD : 0 ≤ D ∧ D ≤ 50) (hh : how ≤ 9) {g : Int → Int} {z : Int} (hz : 0 ≤ z ∧ z ≤ 11) : ∀ (k : Nat) (r : Int) (u : XV) (V : Nat → Int → Int), 0 ≤ r → r + k = how → V 376 32 = D → V 396 I = z → (∀ w, 0 ≤ w → w < 11 → V 395 (13 * I + w) = g w) → (0 ≤ V 396 D ∧ V 396 D ≤ 11) → run (d + 1) 1143 102 [xR 376, xI how, xI I, xI r, u] [] (V, G) = some (none, (clL g z.toNat k V, G)) := by
  intro k
  induction k with
  | zero =>
    intro r u V r0 hr hd hs hg hl
    rw [bk1143_102]
    simp (disch := first | omega | exact Nat.le_of_ble_eq_true rfl) only [bk1143_0, bk1143_99, bk1143_100, bk1143_143, bk1143_149, Int.reduceToNat, vA_ap, Nat.reduceEqDiff, if_true, if_false, bx_nil, isL_I, isL_R, isL_U, if_ff, bind_some, tl_some, tl_none, bx_aload_0, gf376_26 hG, ia397 hG, is397 hG, gf376_32 hG, bx_istore_1, bx_istore_2, bx_dupI, bx_dupR, bx_iconst, bx_isub, pf376_32 hG, bx_iload_1, bx_bipush, bx_ic_lt, bx_istore_3, gf376_29 hG, ia400 hG, is400 hG, bx_iload_3, gf376_28 hG, ia399 hG, is399 hG, gf376_25 hG, ia396 hG, is396 hG, bx_iload_2, bx_istore4, bx_iload4, bx_ic_ge, gf376_27 hG, ia398 hG, is398 hG, bx_imul, bx_iadd, gf376_24 hG, ia395 hG, is395 hG, bx_iinc4, bx_goto, bx_vret, cl1139 hG, bx_iinc3, if_pos (show how ≤ r by omega)]
    rfl
  | succ k ih =>
    intro r u V r0 hr hd hs hg hl
    have hl' : 0 ≤ V 396 (V 376 32) ∧ V 396 (V 376 32) ≤ 11 := by rw [hd]; exact hl
    have hin := m_closes_in (d := d) (how := how) (r := r) hG hI hI2 hD (by omega) hz z.toNat 0 V (by omega) (by omega) hd hs hg hl
    have hst : run (d + 1) 1143 102 [xR 376, xI how, xI I, xI r, u] [] (V, G) = run (d + 1) 1143 110 [xR 376, xI how, xI I, xI r, xI 0] [] (V, G) := by
      rw [bk1143_102]
      simp (disch := first | omega | exact Nat.le_of_ble_eq_true rfl) only [bx_iload_3, bx_iload_1, bx_ic_ge, if_neg (show ¬ how ≤ r by omega), bx_iconst, bx_istore4, isL_I, if_ff, bx_nil]
    obtain ⟨o, osz⟩ := adL_oth (g := g) z.toNat 0 V hl'
    have e3 := o.2.2 376 (by decide) (by decide)
    rw [hd] at o osz
    rw [hst, hin]
    exact ih (r + 1) _ (adL g z.toNat 0 V) (by omega) (by omega) (by rw [e3]; exact hd) (by rw [o.1 I hI]; exact hs) (fun w w0 w1 => by rw [o.2.1 I w hI w0 (by omega)]; exact hg w w0 w1) (by rw [osz]; split <;> omega)
def clN (V : Nat → Int → Int) (I nm : Int) : Nat → Int → Int := vA (vA (vA (vA V 376 (vU (V 376) 32 (I - 1))) 400 (vU (V 400) nm 1)) 399 (vU (V 399) nm (V 396 I))) 398 (fl (V 398) (fun j => V 395 (13 * I + (j - 11 * nm))) (11 * nm) (11 * nm + V 396 I))
theorem m_closes {I how : Int} (hG : Good n L G) (hd : V 376 32 = I) (hI : 1 ≤ I ∧ I ≤ 50) (hh : V 397 I = how) (hhb : 0 ≤ how ∧ how ≤ 15) (hz : 0 ≤ V 396 I ∧ V 396 I ≤ 11) (hl : 0 ≤ V 396 (I - 1) ∧ V 396 (I - 1) ≤ 11) : run (d + 1) 1143 0 [xR 376, xU, xU, xU, xU] [] (V, G) = some (none, ((if 10 ≤ how then clN V I (how - 10) else clL (fun w => V 395 (13 * I + w)) (V 396 I).toNat how.toNat (vA V 376 (vU (V 376) 32 (I - 1)))), G)) := by
  by_cases a : 10 ≤ how
  · rw [if_pos a]
    obtain ⟨A, hA⟩ : ∃ A, A = vA (vA (vA V 376 (vU (V 376) 32 (I - 1))) 400 (vU (V 400) (how - 10) 1)) 399 (vU (V 399) (how - 10) (V 396 I)) := ⟨_, rfl⟩
    have A1 : A 396 = V 396 := by rw [hA]; rfl
    have A2 : A 395 = V 395 := by rw [hA]; rfl
    have A3 : A 398 = V 398 := by rw [hA]; rfl
    generalize hzz : V 396 I = z at *
    have h := it_up (D := d + 1) (q := 1143) (pc := 58) (loc := fun k => [xR 376, xI how, xI I, xI (how - 10), xI k]) (F := fun k => (vA A 398 (fl (V 398) (fun j => V 395 (13 * I + (j - 11 * (how - 10)))) (11 * (how - 10)) (11 * (how - 10) + k)), G)) (hi := z) z.toNat 0 (by omega) (fun k k0 k1 => by
      have e2 : fl (V 398) (fun j => V 395 (13 * I + (j - 11 * (how - 10)))) (11 * (how - 10)) (11 * (how - 10) + (k + 1)) = vU (fl (V 398) (fun j => V 395 (13 * I + (j - 11 * (how - 10)))) (11 * (how - 10)) (11 * (how - 10) + k)) (11 * (how - 10) + k) (V 395 (13 * I + k)) := by
        rw [← Int.add_assoc, ← fl_up (by omega)]
        rw [show 11 * (how - 10) + k - 11 * (how - 10) = k by omega]
      rw [bk1143_58, e2]
      simp (disch := first | omega | exact Nat.le_of_ble_eq_true rfl) only [bk1143_0, bk1143_99, bk1143_100, bk1143_143, bk1143_149, Int.reduceToNat, vA_ap, Nat.reduceEqDiff, if_true, if_false, bx_nil, isL_I, isL_R, isL_U, if_ff, bind_some, tl_some, tl_none, bx_aload_0, gf376_26 hG, ia397 hG, is397 hG, gf376_32 hG, bx_istore_1, bx_istore_2, bx_dupI, bx_dupR, bx_iconst, bx_isub, pf376_32 hG, bx_iload_1, bx_bipush, bx_ic_lt, bx_istore_3, gf376_29 hG, ia400 hG, is400 hG, bx_iload_3, gf376_28 hG, ia399 hG, is399 hG, gf376_25 hG, ia396 hG, is396 hG, bx_iload_2, bx_istore4, bx_iload4, bx_ic_ge, gf376_27 hG, ia398 hG, is398 hG, bx_imul, bx_iadd, gf376_24 hG, ia395 hG, is395 hG, bx_iinc4, bx_goto, bx_vret, cl1139 hG, bx_iinc3, A1, A2, hzz, if_neg (show ¬ z ≤ k by omega), vA_vA])
    rw [Int.add_zero, fl_nil, ← A3, vA_self] at h
    have hst : run (d + 1) 1143 0 [xR 376, xU, xU, xU, xU] [] (V, G) = run (d + 1) 1143 58 [xR 376, xI how, xI I, xI (how - 10), xI 0] [] (A, G) := by
      have e5 : vU (V 376) 32 (I - 1) 32 = I - 1 := vU_at _ _ _
      simp (disch := first | omega | exact Nat.le_of_ble_eq_true rfl) only [bk1143_0, bk1143_99, bk1143_100, bk1143_143, bk1143_149, Int.reduceToNat, vA_ap, Nat.reduceEqDiff, if_true, if_false, bx_nil, isL_I, isL_R, isL_U, if_ff, bind_some, tl_some, tl_none, bx_aload_0, gf376_26 hG, ia397 hG, is397 hG, gf376_32 hG, bx_istore_1, bx_istore_2, bx_dupI, bx_dupR, bx_iconst, bx_isub, pf376_32 hG, bx_iload_1, bx_bipush, bx_ic_lt, bx_istore_3, gf376_29 hG, ia400 hG, is400 hG, bx_iload_3, gf376_28 hG, ia399 hG, is399 hG, gf376_25 hG, ia396 hG, is396 hG, bx_iload_2, bx_istore4, bx_iload4, bx_ic_ge, gf376_27 hG, ia398 hG, is398 hG, bx_imul, bx_iadd, gf376_24 hG, ia395 hG, is395 hG, bx_iinc4, bx_goto, bx_vret, cl1139 hG, bx_iinc3, hd, hh, if_neg (show ¬ how < 10 by omega), hzz, is400 hG (Or.inr rfl : (1 : Int) = 0 ∨ (1 : Int) = 1), ← hA]
    rw [hst, h, bk1143_58]
    simp (disch := first | omega | exact Nat.le_of_ble_eq_true rfl) only [bk1143_0, bk1143_99, bk1143_100, bk1143_143, bk1143_149, Int.reduceToNat, vA_ap, Nat.reduceEqDiff, if_true, if_false, bx_nil, isL_I, isL_R, isL_U, if_ff, bind_some, tl_some, tl_none, bx_aload_0, gf376_26 hG, ia397 hG, is397 hG, gf376_32 hG, bx_istore_1, bx_istore_2, bx_dupI, bx_dupR, bx_iconst, bx_isub, pf376_32 hG, bx_iload_1, bx_bipush, bx_ic_lt, bx_istore_3, gf376_29 hG, ia400 hG, is400 hG, bx_iload_3, gf376_28 hG, ia399 hG, is399 hG, gf376_25 hG, ia396 hG, is396 hG, bx_iload_2, bx_istore4, bx_iload4, bx_ic_ge, gf376_27 hG, ia398 hG, is398 hG, bx_imul, bx_iadd, gf376_24 hG, ia395 hG, is395 hG, bx_iinc4, bx_goto, bx_vret, cl1139 hG, bx_iinc3, A1, hzz, if_pos (show z ≤ z by omega)]
    unfold clN
    rw [hzz, ← hA, A3]
  · rw [if_neg a]
    have hst : run (d + 1) 1143 0 [xR 376, xU, xU, xU, xU] [] (V, G) = run (d + 1) 1143 102 [xR 376, xI how, xI I, xI 0, xU] [] (vA V 376 (vU (V 376) 32 (I - 1)), G) := by
      simp (disch := first | omega | exact Nat.le_of_ble_eq_true rfl) only [bk1143_0, bk1143_99, bk1143_100, bk1143_143, bk1143_149, Int.reduceToNat, vA_ap, Nat.reduceEqDiff, if_true, if_false, bx_nil, isL_I, isL_R, isL_U, if_ff, bind_some, tl_some, tl_none, bx_aload_0, gf376_26 hG, ia397 hG, is397 hG, gf376_32 hG, bx_istore_1, bx_istore_2, bx_dupI, bx_dupR, bx_iconst, bx_isub, pf376_32 hG, bx_iload_1, bx_bipush, bx_ic_lt, bx_istore_3, gf376_29 hG, ia400 hG, is400 hG, bx_iload_3, gf376_28 hG, ia399 hG, is399 hG, gf376_25 hG, ia396 hG, is396 hG, bx_iload_2, bx_istore4, bx_iload4, bx_ic_ge, gf376_27 hG, ia398 hG, is398 hG, bx_imul, bx_iadd, gf376_24 hG, ia395 hG, is395 hG, bx_iinc4, bx_goto, bx_vret, cl1139 hG, bx_iinc3, hd, hh, if_pos (show how < 10 by omega)]
    rw [hst]
    exact m_closes_out (D := I - 1) (z := V 396 I) hG (by omega) (by omega) (by omega) (by omega) hz how.toNat 0 xU _ (by omega) (by omega) (by rw [vA_same, vU_at]) rfl (fun w w0 w1 => rfl) hl
def caL (o : RS) : Nat → RS → RS
  | 0, s => s
  | k + 1, s => caL o k (addAll s o)
theorem clL_row {g : Int → Int} {o : RS} {z : Int} (ho : rowQ n o z g) : ∀ (k : Nat) (V : Nat → Int → Int) (s : RS), rowQ n s (V 396 (V 376 32)) (fun w => V 395 (13 * V 376 32 + w)) → oth (V 376 32) V (clL g z.toNat k V) ∧ rowQ n (caL o k s) (clL g z.toNat k V 396 (V 376 32)) (fun w => clL g z.toNat k V 395 (13 * V 376 32 + w))
  | 0, V, s, h => ⟨oth_rf, h⟩
  | k + 1, V, s, h => by
    have h1 := adL_all h ho
    obtain ⟨o1, _⟩ := adL_oth (g := g) z.toNat 0 V h.2.1
    have e3 := o1.2.2 376 (by decide) (by decide)
    obtain ⟨i1, i2⟩ := clL_row ho k (adL g z.toNat 0 V) (addAll s o) (by rw [e3]; exact h1)
    rw [e3] at i1 i2
    exact ⟨oth_tr o1 i1, i2⟩
end MR
