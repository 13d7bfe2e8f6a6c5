/-! STEP, CELL, TABLE, COUNT of both sides -/
def cellXa (n : Nat) (V : Nat → Int → Int) (l i w : Int) : Int := if ¬ isC n l i then -1 else if w = 0 then V 7 (xi l i) else if w = 1 then V 8 (xi l i) else if w = 2 then htX (kX (V 8) (V 7) (xi l i)) else if w = 3 then ttX (V 8) (V 7) (V 9) (V 5 6) (xi l i) else if w = 4 then V 374 (xi l i) else -1
/-- by, offsets as the plate has them now -/
def nowM (V : Nat → Int → Int) : Nat → Int → Int := vA (vA V 383 (fun j => if 0 ≤ j ∧ j < 72 then V 379 j else V 383 j)) 384 (fun j => if 0 ≤ j ∧ j < 72 then V 382 j else V 384 j)
def cellM (n : Nat) (V : Nat → Int → Int) (l i w : Int) : Int := if ¬ isC n l i then -1 else if w = 0 then V 379 (6 * l + i) else if w = 1 then V 380 (6 * l + i) else if w = 2 then hM n (V 380) (nowM V 383) l i else if w = 3 then ttM n (V 380) (nowM V 383) (nowM V 384) (V 376 7) l i else if w = 4 then V 381 (6 * l + i) else -1
theorem nowM_by {V : Nat → Int → Int} (h : rg (V 379) 72 0 95) : rg (nowM V 383) 72 0 95 := by
  intro k h0 h1
  show 0 ≤ (if 0 ≤ k ∧ k < 72 then V 379 k else V 383 k) ∧ _
  show 0 ≤ (if 0 ≤ k ∧ k < 72 then V 379 k else V 383 k) ∧ (if 0 ≤ k ∧ k < 72 then V 379 k else V 383 k) ≤ 95
  rw [if_pos ⟨h0, h1⟩]
  exact h k h0 h1
theorem nowM_of {V : Nat → Int → Int} (h : rg (V 382) 72 (-8) 8) : rg (nowM V 384) 72 (-100) 100 := by
  intro k h0 h1
  show (-100 : Int) ≤ (if 0 ≤ k ∧ k < 72 then V 382 k else V 384 k) ∧ (if 0 ≤ k ∧ k < 72 then V 382 k else V 384 k) ≤ 100
  rw [if_pos ⟨h0, h1⟩]
  have := h k h0 h1
  omega
section XW
variable {n L d : Nat} {G : XG} {V : Nat → Int → Int} {μ : XM}
theorem xp_step {i w : Int} (hG : Good n L G) (hn : V 5 0 = n) (h6 : n ≤ 6) (hs : V 12 6 ≤ 15) : run (d + 1) 1013 0 [xR 1, xI i, xI w] [] (V, G) = some (some (xI (stepXa n V i w)), (V, G)) := by
  unfold stepXa
  by_cases w0 : w = 0
  · subst w0
    by_cases a : 0 ≤ i ∧ i < V 12 6
    · simp (disch := first | omega | exact Nat.le_of_ble_eq_true rfl) only [bk1013_0, bk1013_28, bk1013_51, bk1013_52, bk1013_53, bk1013_76, bk1013_77, bk1013_78, bk1013_110, bk1013_111, bk1013_112, Int.reduceToNat, vA_ap, Nat.reduceEqDiff, if_true, if_false, bx_nil, isL_I, isL_R, isL_U, if_ff, bind_some, tl_some, tl_none, bx_iload_2, bx_aload_0, gf1_2 hG, bx_iload_1, cl806 hG, bx_if_eq, gf12_4 hG, ia13 hG, is13 hG, bx_goto, bx_iconst, bx_iret, gf12_5 hG, ia14 hG, is14 hG, gf12_7 hG, cl1008 hG, gf12_3 hG, aa22 hG, (bx_tabI (dd := 112) (lo := 0) (hi := 2) (offs := #[28, 53, 78]) (x := 0) (t := 28) (by omega) rfl), x_isStep hG, b1_t a, one_ne, if_pos a]
    · simp (disch := first | omega | exact Nat.le_of_ble_eq_true rfl) only [bk1013_0, bk1013_28, bk1013_51, bk1013_52, bk1013_53, bk1013_76, bk1013_77, bk1013_78, bk1013_110, bk1013_111, bk1013_112, Int.reduceToNat, vA_ap, Nat.reduceEqDiff, if_true, if_false, bx_nil, isL_I, isL_R, isL_U, if_ff, bind_some, tl_some, tl_none, bx_iload_2, bx_aload_0, gf1_2 hG, bx_iload_1, cl806 hG, bx_if_eq, gf12_4 hG, ia13 hG, is13 hG, bx_goto, bx_iconst, bx_iret, gf12_5 hG, ia14 hG, is14 hG, gf12_7 hG, cl1008 hG, gf12_3 hG, aa22 hG, (bx_tabI (dd := 112) (lo := 0) (hi := 2) (offs := #[28, 53, 78]) (x := 0) (t := 28) (by omega) rfl), x_isStep hG, b1_f a, if_neg a]
  · rw [if_neg w0]
    by_cases w1 : w = 1
    · subst w1
      by_cases a : 0 ≤ i ∧ i < V 12 6
      · simp (disch := first | omega | exact Nat.le_of_ble_eq_true rfl) only [bk1013_0, bk1013_28, bk1013_51, bk1013_52, bk1013_53, bk1013_76, bk1013_77, bk1013_78, bk1013_110, bk1013_111, bk1013_112, Int.reduceToNat, vA_ap, Nat.reduceEqDiff, if_true, if_false, bx_nil, isL_I, isL_R, isL_U, if_ff, bind_some, tl_some, tl_none, bx_iload_2, bx_aload_0, gf1_2 hG, bx_iload_1, cl806 hG, bx_if_eq, gf12_4 hG, ia13 hG, is13 hG, bx_goto, bx_iconst, bx_iret, gf12_5 hG, ia14 hG, is14 hG, gf12_7 hG, cl1008 hG, gf12_3 hG, aa22 hG, (bx_tabI (dd := 112) (lo := 0) (hi := 2) (offs := #[28, 53, 78]) (x := 1) (t := 53) (by omega) rfl), x_isStep hG, b1_t a, one_ne, if_pos a]
      · simp (disch := first | omega | exact Nat.le_of_ble_eq_true rfl) only [bk1013_0, bk1013_28, bk1013_51, bk1013_52, bk1013_53, bk1013_76, bk1013_77, bk1013_78, bk1013_110, bk1013_111, bk1013_112, Int.reduceToNat, vA_ap, Nat.reduceEqDiff, if_true, if_false, bx_nil, isL_I, isL_R, isL_U, if_ff, bind_some, tl_some, tl_none, bx_iload_2, bx_aload_0, gf1_2 hG, bx_iload_1, cl806 hG, bx_if_eq, gf12_4 hG, ia13 hG, is13 hG, bx_goto, bx_iconst, bx_iret, gf12_5 hG, ia14 hG, is14 hG, gf12_7 hG, cl1008 hG, gf12_3 hG, aa22 hG, (bx_tabI (dd := 112) (lo := 0) (hi := 2) (offs := #[28, 53, 78]) (x := 1) (t := 53) (by omega) rfl), x_isStep hG, b1_f a, if_neg a]
    · rw [if_neg w1]
      by_cases w2 : w = 2
      · subst w2
        by_cases a : V 12 7 = 0
        · simp (disch := first | omega | exact Nat.le_of_ble_eq_true rfl) only [bk1013_0, bk1013_28, bk1013_51, bk1013_52, bk1013_53, bk1013_76, bk1013_77, bk1013_78, bk1013_110, bk1013_111, bk1013_112, Int.reduceToNat, vA_ap, Nat.reduceEqDiff, if_true, if_false, bx_nil, isL_I, isL_R, isL_U, if_ff, bind_some, tl_some, tl_none, bx_iload_2, bx_aload_0, gf1_2 hG, bx_iload_1, cl806 hG, bx_if_eq, gf12_4 hG, ia13 hG, is13 hG, bx_goto, bx_iconst, bx_iret, gf12_5 hG, ia14 hG, is14 hG, gf12_7 hG, cl1008 hG, gf12_3 hG, aa22 hG, (bx_tabI (dd := 112) (lo := 0) (hi := 2) (offs := #[28, 53, 78]) (x := 2) (t := 78) (by omega) rfl), if_pos a, if_neg (show ¬ (¬ V 12 7 = 0 ∧ (0 ≤ i ∧ i < (n : Int))) from fun z => z.1 a)]
        · by_cases b : 0 ≤ i ∧ i < (n : Int)
          · simp (disch := first | omega | exact Nat.le_of_ble_eq_true rfl) only [bk1013_0, bk1013_28, bk1013_51, bk1013_52, bk1013_53, bk1013_76, bk1013_77, bk1013_78, bk1013_110, bk1013_111, bk1013_112, Int.reduceToNat, vA_ap, Nat.reduceEqDiff, if_true, if_false, bx_nil, isL_I, isL_R, isL_U, if_ff, bind_some, tl_some, tl_none, bx_iload_2, bx_aload_0, gf1_2 hG, bx_iload_1, cl806 hG, bx_if_eq, gf12_4 hG, ia13 hG, is13 hG, bx_goto, bx_iconst, bx_iret, gf12_5 hG, ia14 hG, is14 hG, gf12_7 hG, cl1008 hG, gf12_3 hG, aa22 hG, (bx_tabI (dd := 112) (lo := 0) (hi := 2) (offs := #[28, 53, 78]) (x := 2) (t := 78) (by omega) rfl), if_neg a, x_isLane hG, hn, b1_t b, one_ne, if_pos (And.intro a b), ia23 hG h6]
          · simp (disch := first | omega | exact Nat.le_of_ble_eq_true rfl) only [bk1013_0, bk1013_28, bk1013_51, bk1013_52, bk1013_53, bk1013_76, bk1013_77, bk1013_78, bk1013_110, bk1013_111, bk1013_112, Int.reduceToNat, vA_ap, Nat.reduceEqDiff, if_true, if_false, bx_nil, isL_I, isL_R, isL_U, if_ff, bind_some, tl_some, tl_none, bx_iload_2, bx_aload_0, gf1_2 hG, bx_iload_1, cl806 hG, bx_if_eq, gf12_4 hG, ia13 hG, is13 hG, bx_goto, bx_iconst, bx_iret, gf12_5 hG, ia14 hG, is14 hG, gf12_7 hG, cl1008 hG, gf12_3 hG, aa22 hG, (bx_tabI (dd := 112) (lo := 0) (hi := 2) (offs := #[28, 53, 78]) (x := 2) (t := 78) (by omega) rfl), if_neg a, x_isLane hG, hn, b1_f b, one_ne, if_neg (show ¬ (¬ V 12 7 = 0 ∧ (0 ≤ i ∧ i < (n : Int))) from fun z => b z.2)]
      · rw [if_neg w2]
        simp (disch := first | omega | exact Nat.le_of_ble_eq_true rfl) only [bk1013_0, bk1013_28, bk1013_51, bk1013_52, bk1013_53, bk1013_76, bk1013_77, bk1013_78, bk1013_110, bk1013_111, bk1013_112, Int.reduceToNat, vA_ap, Nat.reduceEqDiff, if_true, if_false, bx_nil, isL_I, isL_R, isL_U, if_ff, bind_some, tl_some, tl_none, bx_iload_2, bx_aload_0, gf1_2 hG, bx_iload_1, cl806 hG, bx_if_eq, gf12_4 hG, ia13 hG, is13 hG, bx_goto, bx_iconst, bx_iret, gf12_5 hG, ia14 hG, is14 hG, gf12_7 hG, cl1008 hG, gf12_3 hG, aa22 hG, bx_tabO]
theorem xp_cell {l i w : Int} (hG : Good n L G) (hn : V 5 0 = n) (h2 : 2 ≤ n) (h6 : n ≤ 6) (hs : rg (V 8) 36 (-1) 95) (hb : rg (V 7) 36 0 95) (ho : rg (V 9) 36 (-100) 100) (hcr : 1 ≤ V 5 6 ∧ V 5 6 ≤ 99) : run (d + 4) 1006 0 [xR 1, xI l, xI i, xI w, xU] [] (V, G) = some (some (xI (cellXa n V l i w)), (V, G)) := by
  unfold cellXa
  by_cases a : isC n l i
  · obtain ⟨g1, g2⟩ := xi_in (by omega) a
    have e : (if isC n l i then 3 * l + i / 2 else -1) = xi l i := if_pos a
    rw [if_neg (not_not_intro a)]
    generalize xi l i = c at *
    by_cases w0 : w = 0
    · subst w0
      simp (disch := first | omega | exact Nat.le_of_ble_eq_true rfl) only [bk1006_0, bk1006_18, bk1006_52, bk1006_63, bk1006_74, bk1006_91, bk1006_115, bk1006_126, Int.reduceToNat, vA_ap, Nat.reduceEqDiff, if_true, if_false, bx_nil, isL_I, isL_R, isL_U, if_ff, bind_some, tl_some, tl_none, bx_aload_0, gf1_1 hG, bx_iload_1, bx_iload_2, cl301 hG, bx_istore4, bx_iload4, bx_if_ge, bx_iconst, bx_iret, bx_iload_3, gf5_3 hG, ia7 hG, is7 hG, gf5_4 hG, ia8 hG, is8 hG, cl303 hG, gf5_5 hG, ia9 hG, is9 hG, cl304 hG, gf1_9 hG, gf373_1 hG, ia374 hG, is374 hG, x_cellAt hG hn h2 h6, e, if_pos g1, (bx_tabI (dd := 126) (lo := 0) (hi := 4) (offs := #[52, 63, 74, 91, 115]) (x := 0) (t := 52) (by omega) rfl)]
    · rw [if_neg w0]
      by_cases w1 : w = 1
      · subst w1
        simp (disch := first | omega | exact Nat.le_of_ble_eq_true rfl) only [bk1006_0, bk1006_18, bk1006_52, bk1006_63, bk1006_74, bk1006_91, bk1006_115, bk1006_126, Int.reduceToNat, vA_ap, Nat.reduceEqDiff, if_true, if_false, bx_nil, isL_I, isL_R, isL_U, if_ff, bind_some, tl_some, tl_none, bx_aload_0, gf1_1 hG, bx_iload_1, bx_iload_2, cl301 hG, bx_istore4, bx_iload4, bx_if_ge, bx_iconst, bx_iret, bx_iload_3, gf5_3 hG, ia7 hG, is7 hG, gf5_4 hG, ia8 hG, is8 hG, cl303 hG, gf5_5 hG, ia9 hG, is9 hG, cl304 hG, gf1_9 hG, gf373_1 hG, ia374 hG, is374 hG, x_cellAt hG hn h2 h6, e, if_pos g1, (bx_tabI (dd := 126) (lo := 0) (hi := 4) (offs := #[52, 63, 74, 91, 115]) (x := 1) (t := 63) (by omega) rfl)]
      · rw [if_neg w1]
        by_cases w2 : w = 2
        · subst w2
          simp (disch := first | omega | exact Nat.le_of_ble_eq_true rfl) only [bk1006_0, bk1006_18, bk1006_52, bk1006_63, bk1006_74, bk1006_91, bk1006_115, bk1006_126, Int.reduceToNat, vA_ap, Nat.reduceEqDiff, if_true, if_false, bx_nil, isL_I, isL_R, isL_U, if_ff, bind_some, tl_some, tl_none, bx_aload_0, gf1_1 hG, bx_iload_1, bx_iload_2, cl301 hG, bx_istore4, bx_iload4, bx_if_ge, bx_iconst, bx_iret, bx_iload_3, gf5_3 hG, ia7 hG, is7 hG, gf5_4 hG, ia8 hG, is8 hG, cl303 hG, gf5_5 hG, ia9 hG, is9 hG, cl304 hG, gf1_9 hG, gf373_1 hG, ia374 hG, is374 hG, x_cellAt hG hn h2 h6, e, if_pos g1, (bx_tabI (dd := 126) (lo := 0) (hi := 4) (offs := #[52, 63, 74, 91, 115]) (x := 2) (t := 74) (by omega) rfl), x_heat hG (gsh hG 7 rfl rfl) g1 g2 (kX_bd (hs _ g1 g2) (hb _ g1 g2))]
        · rw [if_neg w2]
          by_cases w3 : w = 3
          · subst w3
            simp (disch := first | omega | exact Nat.le_of_ble_eq_true rfl) only [bk1006_0, bk1006_18, bk1006_52, bk1006_63, bk1006_74, bk1006_91, bk1006_115, bk1006_126, Int.reduceToNat, vA_ap, Nat.reduceEqDiff, if_true, if_false, bx_nil, isL_I, isL_R, isL_U, if_ff, bind_some, tl_some, tl_none, bx_aload_0, gf1_1 hG, bx_iload_1, bx_iload_2, cl301 hG, bx_istore4, bx_iload4, bx_if_ge, bx_iconst, bx_iret, bx_iload_3, gf5_3 hG, ia7 hG, is7 hG, gf5_4 hG, ia8 hG, is8 hG, cl303 hG, gf5_5 hG, ia9 hG, is9 hG, cl304 hG, gf1_9 hG, gf373_1 hG, ia374 hG, is374 hG, x_cellAt hG hn h2 h6, e, if_pos g1, (bx_tabI (dd := 126) (lo := 0) (hi := 4) (offs := #[52, 63, 74, 91, 115]) (x := 3) (t := 91) (by omega) rfl), x_trueTurn hG (gsh hG 7 rfl rfl) (gsh hG 9 rfl rfl) g1 g2 hs hb ho hcr]
          · rw [if_neg w3]
            by_cases w4 : w = 4
            · subst w4
              simp (disch := first | omega | exact Nat.le_of_ble_eq_true rfl) only [bk1006_0, bk1006_18, bk1006_52, bk1006_63, bk1006_74, bk1006_91, bk1006_115, bk1006_126, Int.reduceToNat, vA_ap, Nat.reduceEqDiff, if_true, if_false, bx_nil, isL_I, isL_R, isL_U, if_ff, bind_some, tl_some, tl_none, bx_aload_0, gf1_1 hG, bx_iload_1, bx_iload_2, cl301 hG, bx_istore4, bx_iload4, bx_if_ge, bx_iconst, bx_iret, bx_iload_3, gf5_3 hG, ia7 hG, is7 hG, gf5_4 hG, ia8 hG, is8 hG, cl303 hG, gf5_5 hG, ia9 hG, is9 hG, cl304 hG, gf1_9 hG, gf373_1 hG, ia374 hG, is374 hG, x_cellAt hG hn h2 h6, e, if_pos g1, (bx_tabI (dd := 126) (lo := 0) (hi := 4) (offs := #[52, 63, 74, 91, 115]) (x := 4) (t := 115) (by omega) rfl)]
            · rw [if_neg w4]
              simp (disch := first | omega | exact Nat.le_of_ble_eq_true rfl) only [bk1006_0, bk1006_18, bk1006_52, bk1006_63, bk1006_74, bk1006_91, bk1006_115, bk1006_126, Int.reduceToNat, vA_ap, Nat.reduceEqDiff, if_true, if_false, bx_nil, isL_I, isL_R, isL_U, if_ff, bind_some, tl_some, tl_none, bx_aload_0, gf1_1 hG, bx_iload_1, bx_iload_2, cl301 hG, bx_istore4, bx_iload4, bx_if_ge, bx_iconst, bx_iret, bx_iload_3, gf5_3 hG, ia7 hG, is7 hG, gf5_4 hG, ia8 hG, is8 hG, cl303 hG, gf5_5 hG, ia9 hG, is9 hG, cl304 hG, gf1_9 hG, gf373_1 hG, ia374 hG, is374 hG, x_cellAt hG hn h2 h6, e, if_pos g1, bx_tabO]
  · have e : (if isC n l i then 3 * l + i / 2 else -1) = -1 := if_neg a
    simp (disch := first | omega | exact Nat.le_of_ble_eq_true rfl) only [bk1006_0, bk1006_18, bk1006_52, bk1006_63, bk1006_74, bk1006_91, bk1006_115, bk1006_126, Int.reduceToNat, vA_ap, Nat.reduceEqDiff, if_true, if_false, bx_nil, isL_I, isL_R, isL_U, if_ff, bind_some, tl_some, tl_none, bx_aload_0, gf1_1 hG, bx_iload_1, bx_iload_2, cl301 hG, bx_istore4, bx_iload4, bx_if_ge, bx_iconst, bx_iret, bx_iload_3, gf5_3 hG, ia7 hG, is7 hG, gf5_4 hG, ia8 hG, is8 hG, cl303 hG, gf5_5 hG, ia9 hG, is9 hG, cl304 hG, gf1_9 hG, gf373_1 hG, ia374 hG, is374 hG, x_cellAt hG hn h2 h6, e, if_neg (show ¬ (0 : Int) ≤ -1 by omega), if_pos a]
theorem m_now (hG : Good n L G) : run d 1110 0 [xR 376, xU] [] (V, G) = some (none, (nowM V, G)) := m_asNow hG
theorem mp_cell {l i w : Int} (hG : Good n L G) (hn : V 376 0 = n) (h2 : 2 ≤ n) (h6 : n ≤ 6) (hs : rg (V 380) 72 (-1) 95) (hb : rg (V 379) 72 0 95) (ho : rg (V 382) 72 (-8) 8) (hcr : 1 ≤ V 376 7 ∧ V 376 7 ≤ 99) : run (d + 4) 1109 0 [xR 376, xI l, xI i, xI w, xU] [] (V, G) = some (some (xI (cellM n V l i w)), ((if isC n l i then nowM V else V), G)) := by
  unfold cellM
  by_cases a : isC n l i
  · obtain ⟨g1, g2⟩ := isC_ix (by omega) a
    have a' := a
    unfold isC at a'
    rw [if_neg (not_not_intro a), if_pos a]
    by_cases w0 : w = 0
    · subst w0
      simp (disch := first | omega | exact Nat.le_of_ble_eq_true rfl) only [bk1109_0, bk1109_11, bk1109_60, bk1109_68, bk1109_76, bk1109_83, bk1109_90, bk1109_98, Int.reduceToNat, vA_ap, Nat.reduceEqDiff, if_true, if_false, bx_nil, isL_I, isL_R, isL_U, if_ff, bind_some, tl_some, tl_none, bx_aload_0, bx_iload_1, bx_iload_2, cl1105 hG, bx_if_ne, bx_iconst, bx_iret, cl1110 hG, bx_bipush, bx_imul, bx_iadd, bx_istore4, bx_iload_3, gf376_3 hG, ia379 hG, is379 hG, bx_iload4, gf376_4 hG, ia380 hG, is380 hG, cl1111 hG, cl1113 hG, gf376_5 hG, ia381 hG, is381 hG, m_isCell hG hn h2 h6, b1_t a, one_ne, m_now hG, (bx_tabI (dd := 98) (lo := 0) (hi := 4) (offs := #[60, 68, 76, 83, 90]) (x := 0) (t := 60) (by omega) rfl)]
      rfl
    · rw [if_neg w0]
      by_cases w1 : w = 1
      · subst w1
        simp (disch := first | omega | exact Nat.le_of_ble_eq_true rfl) only [bk1109_0, bk1109_11, bk1109_60, bk1109_68, bk1109_76, bk1109_83, bk1109_90, bk1109_98, Int.reduceToNat, vA_ap, Nat.reduceEqDiff, if_true, if_false, bx_nil, isL_I, isL_R, isL_U, if_ff, bind_some, tl_some, tl_none, bx_aload_0, bx_iload_1, bx_iload_2, cl1105 hG, bx_if_ne, bx_iconst, bx_iret, cl1110 hG, bx_bipush, bx_imul, bx_iadd, bx_istore4, bx_iload_3, gf376_3 hG, ia379 hG, is379 hG, bx_iload4, gf376_4 hG, ia380 hG, is380 hG, cl1111 hG, cl1113 hG, gf376_5 hG, ia381 hG, is381 hG, m_isCell hG hn h2 h6, b1_t a, one_ne, m_now hG, (bx_tabI (dd := 98) (lo := 0) (hi := 4) (offs := #[60, 68, 76, 83, 90]) (x := 1) (t := 68) (by omega) rfl)]
        rfl
      · rw [if_neg w1]
        by_cases w2 : w = 2
        · subst w2
          simp (disch := first | omega | exact Nat.le_of_ble_eq_true rfl) only [bk1109_0, bk1109_11, bk1109_60, bk1109_68, bk1109_76, bk1109_83, bk1109_90, bk1109_98, Int.reduceToNat, vA_ap, Nat.reduceEqDiff, if_true, if_false, bx_nil, isL_I, isL_R, isL_U, if_ff, bind_some, tl_some, tl_none, bx_aload_0, bx_iload_1, bx_iload_2, cl1105 hG, bx_if_ne, bx_iconst, bx_iret, cl1110 hG, bx_bipush, bx_imul, bx_iadd, bx_istore4, bx_iload_3, gf376_3 hG, ia379 hG, is379 hG, bx_iload4, gf376_4 hG, ia380 hG, is380 hG, cl1111 hG, cl1113 hG, gf376_5 hG, ia381 hG, is381 hG, m_isCell hG hn h2 h6, b1_t a, one_ne, m_now hG, (bx_tabI (dd := 98) (lo := 0) (hi := 4) (offs := #[60, 68, 76, 83, 90]) (x := 2) (t := 76) (by omega) rfl), m_heat (V := nowM V) hG hn h2 h6 hs (nowM_by hb)]
          rfl
        · rw [if_neg w2]
          by_cases w3 : w = 3
          · subst w3
            simp (disch := first | omega | exact Nat.le_of_ble_eq_true rfl) only [bk1109_0, bk1109_11, bk1109_60, bk1109_68, bk1109_76, bk1109_83, bk1109_90, bk1109_98, Int.reduceToNat, vA_ap, Nat.reduceEqDiff, if_true, if_false, bx_nil, isL_I, isL_R, isL_U, if_ff, bind_some, tl_some, tl_none, bx_aload_0, bx_iload_1, bx_iload_2, cl1105 hG, bx_if_ne, bx_iconst, bx_iret, cl1110 hG, bx_bipush, bx_imul, bx_iadd, bx_istore4, bx_iload_3, gf376_3 hG, ia379 hG, is379 hG, bx_iload4, gf376_4 hG, ia380 hG, is380 hG, cl1111 hG, cl1113 hG, gf376_5 hG, ia381 hG, is381 hG, m_isCell hG hn h2 h6, b1_t a, one_ne, m_now hG, (bx_tabI (dd := 98) (lo := 0) (hi := 4) (offs := #[60, 68, 76, 83, 90]) (x := 3) (t := 83) (by omega) rfl), m_trueTurn (V := nowM V) hG hn h2 h6 hs (nowM_by hb) (nowM_of ho) hcr a]
            rfl
          · rw [if_neg w3]
            by_cases w4 : w = 4
            · subst w4
              simp (disch := first | omega | exact Nat.le_of_ble_eq_true rfl) only [bk1109_0, bk1109_11, bk1109_60, bk1109_68, bk1109_76, bk1109_83, bk1109_90, bk1109_98, Int.reduceToNat, vA_ap, Nat.reduceEqDiff, if_true, if_false, bx_nil, isL_I, isL_R, isL_U, if_ff, bind_some, tl_some, tl_none, bx_aload_0, bx_iload_1, bx_iload_2, cl1105 hG, bx_if_ne, bx_iconst, bx_iret, cl1110 hG, bx_bipush, bx_imul, bx_iadd, bx_istore4, bx_iload_3, gf376_3 hG, ia379 hG, is379 hG, bx_iload4, gf376_4 hG, ia380 hG, is380 hG, cl1111 hG, cl1113 hG, gf376_5 hG, ia381 hG, is381 hG, m_isCell hG hn h2 h6, b1_t a, one_ne, m_now hG, (bx_tabI (dd := 98) (lo := 0) (hi := 4) (offs := #[60, 68, 76, 83, 90]) (x := 4) (t := 90) (by omega) rfl)]
              rfl
            · rw [if_neg w4]
              simp (disch := first | omega | exact Nat.le_of_ble_eq_true rfl) only [bk1109_0, bk1109_11, bk1109_60, bk1109_68, bk1109_76, bk1109_83, bk1109_90, bk1109_98, Int.reduceToNat, vA_ap, Nat.reduceEqDiff, if_true, if_false, bx_nil, isL_I, isL_R, isL_U, if_ff, bind_some, tl_some, tl_none, bx_aload_0, bx_iload_1, bx_iload_2, cl1105 hG, bx_if_ne, bx_iconst, bx_iret, cl1110 hG, bx_bipush, bx_imul, bx_iadd, bx_istore4, bx_iload_3, gf376_3 hG, ia379 hG, is379 hG, bx_iload4, gf376_4 hG, ia380 hG, is380 hG, cl1111 hG, cl1113 hG, gf376_5 hG, ia381 hG, is381 hG, m_isCell hG hn h2 h6, b1_t a, one_ne, m_now hG, bx_tabO]
  · simp (disch := first | omega | exact Nat.le_of_ble_eq_true rfl) only [bk1109_0, bk1109_11, bk1109_60, bk1109_68, bk1109_76, bk1109_83, bk1109_90, bk1109_98, Int.reduceToNat, vA_ap, Nat.reduceEqDiff, if_true, if_false, bx_nil, isL_I, isL_R, isL_U, if_ff, bind_some, tl_some, tl_none, bx_aload_0, bx_iload_1, bx_iload_2, cl1105 hG, bx_if_ne, bx_iconst, bx_iret, cl1110 hG, bx_bipush, bx_imul, bx_iadd, bx_istore4, bx_iload_3, gf376_3 hG, ia379 hG, is379 hG, bx_iload4, gf376_4 hG, ia380 hG, is380 hG, cl1111 hG, cl1113 hG, gf376_5 hG, ia381 hG, is381 hG, m_isCell hG hn h2 h6, b1_f a, if_pos a, if_neg a]
/-- light that enters at a lane -/
def entM (n : Nat) (V : Nat → Int → Int) (lane : Int) : Nat → Int → Int := vA V 385 (fun j => if 0 ≤ j ∧ j < n then (if j = lane then 1 else 0) else V 385 j)
def goM (n : Nat) (V : Nat → Int → Int) (b : Int) : Nat → Int → Int := vA V 385 (plt (V 377) (V 378) (gT n V b) n 12 0 (V 385))
/-- what the reference needs for light -/
def mB (n : Nat) (V : Nat → Int → Int) : Prop := V 376 0 = n ∧ (2 ≤ n ∧ n ≤ 6) ∧ rg (V 380) 72 (-1) 95 ∧ rg (V 379) 72 0 95 ∧ rg (V 382) 72 (-8) 8 ∧ (1 ≤ V 376 7 ∧ V 376 7 ≤ 99) ∧ rg (V 377) 96 0 96 ∧ rg (V 378) 96 0 96 ∧ ∀ j, (n : Int) ≤ j → j < 6 → V 385 j = 0
theorem entM_rg {lane : Int} (h : ∀ j, (n : Int) ≤ j → j < 6 → V 385 j = 0) : rg (entM n V lane 385) 6 0 96 := by
  intro k h0 h1
  show 0 ≤ (if 0 ≤ k ∧ k < (n : Int) then (if k = lane then (1 : Int) else 0) else V 385 k) ∧ (if 0 ≤ k ∧ k < (n : Int) then (if k = lane then (1 : Int) else 0) else V 385 k) ≤ 96
  by_cases a : 0 ≤ k ∧ k < (n : Int)
  · rw [if_pos a]
    split <;> omega
  · rw [if_neg a, h k (by omega) h1]
    omega
theorem mOK_ent {lane : Int} (h : mB n V) : mOK n (entM n (nowM V) lane) := by
  obtain ⟨a1, a2, a3, a4, a5, a6, a7, a8, a9⟩ := h
  exact ⟨a1, a2, a3, nowM_by a4, nowM_of a5, a6, a7, a8, entM_rg (V := nowM V) a9⟩
/-- the memory when a column of the table was looked at -/
def tabM (n : Nat) (V : Nat → Int → Int) (c : Int) : Nat → Int → Int := goM n (entM n (nowM V) c) 0
theorem mp_table {r c : Int} (hG : Good n L G) (h : mB n V) : run (d + 5) 1114 0 [xR 376, xI r, xI c] [] (V, G) = some (some (xI (if (0 ≤ r ∧ r < (n : Int)) ∧ (0 ≤ c ∧ c < (n : Int)) then tabM n V c 385 r else -1)), ((if (0 ≤ r ∧ r < (n : Int)) ∧ (0 ≤ c ∧ c < (n : Int)) then tabM n V c else V), G)) := by
  have hn := h.1
  have h26 := h.2.1
  by_cases a : 0 ≤ r ∧ r < (n : Int)
  · by_cases b : 0 ≤ c ∧ c < (n : Int)
    · have e1 : run (d + 4) 1116 0 [xR 376, xI c, xU] [] (nowM V, G) = some (none, (entM n (nowM V) c, G)) := m_enters hG hn h26.2
      have e2 : run (d + 4) 1117 0 [xR 376, xI 0, xU, xU] [] (entM n (nowM V) c, G) = some (none, (tabM n V c, G)) := m_goes hG (Or.inl rfl) (mOK_ent h)
      simp (disch := first | omega | exact Nat.le_of_ble_eq_true rfl) only [bk1114_0, bk1114_16, bk1114_18, Int.reduceToNat, vA_ap, Nat.reduceEqDiff, if_true, if_false, bx_nil, isL_I, isL_R, isL_U, if_ff, bind_some, tl_some, tl_none, bx_aload_0, bx_iload_1, cl1115 hG, bx_if_eq, bx_iload_2, bx_if_ne, bx_iconst, bx_iret, cl1110 hG, cl1116 hG, cl1117 hG, gf376_10 hG, ia385 hG, is385 hG, m_isLane hG, hn, b1_t a, b1_t b, one_ne, m_now hG, e1, e2, if_pos (And.intro a b)]
    · simp (disch := first | omega | exact Nat.le_of_ble_eq_true rfl) only [bk1114_0, bk1114_16, bk1114_18, Int.reduceToNat, vA_ap, Nat.reduceEqDiff, if_true, if_false, bx_nil, isL_I, isL_R, isL_U, if_ff, bind_some, tl_some, tl_none, bx_aload_0, bx_iload_1, cl1115 hG, bx_if_eq, bx_iload_2, bx_if_ne, bx_iconst, bx_iret, cl1110 hG, cl1116 hG, cl1117 hG, gf376_10 hG, ia385 hG, is385 hG, m_isLane hG, hn, b1_t a, b1_f b, one_ne, if_neg (show ¬ ((0 ≤ r ∧ r < (n : Int)) ∧ (0 ≤ c ∧ c < (n : Int))) from fun z => b z.2)]
  · simp (disch := first | omega | exact Nat.le_of_ble_eq_true rfl) only [bk1114_0, bk1114_16, bk1114_18, Int.reduceToNat, vA_ap, Nat.reduceEqDiff, if_true, if_false, bx_nil, isL_I, isL_R, isL_U, if_ff, bind_some, tl_some, tl_none, bx_aload_0, bx_iload_1, cl1115 hG, bx_if_eq, bx_iload_2, bx_if_ne, bx_iconst, bx_iret, cl1110 hG, cl1116 hG, cl1117 hG, gf376_10 hG, ia385 hG, is385 hG, m_isLane hG, hn, b1_f a, if_neg (show ¬ ((0 ≤ r ∧ r < (n : Int)) ∧ (0 ≤ c ∧ c < (n : Int))) from fun z => a z.1)]
/-- what the class needs for light -/
def xB (n : Nat) (V : Nat → Int → Int) : Prop := V 5 0 = n ∧ (2 ≤ n ∧ n ≤ 6) ∧ rg (V 8) 36 (-1) 95 ∧ rg (V 7) 36 0 95 ∧ rg (V 9) 36 (-8) 8 ∧ (1 ≤ V 5 6 ∧ V 5 6 ≤ 99) ∧ rg (V 3) 96 0 96 ∧ rg (V 4) 96 0 96 ∧ lanOK n (V 6)
def colV (V : Nat → Int → Int) (c : Int) : Nat → Int → Int := vA (vA V 10 (fun j => if 0 ≤ j ∧ j < 36 then kX (V 8) (V 7) j else V 10 j)) 11 (colX V c)
theorem x_colV {c : Int} (hG : Good n L G) (hc : 0 ≤ c ∧ c < (n : Int)) (h : xB n V) : run (d + 3) 306 0 [xR 5, xI c, xU] [] (V, G) = some (some (xR 11), (colV V c, G)) := by
  obtain ⟨a1, a2, a3, a4, a5, a6, a7, a8, a9⟩ := h
  exact x_col hG (by omega) a7 a8 (lanOK_ln (by omega) a9) a3 a4
theorem xp_table {r c : Int} (hG : Good n L G) (h : xB n V) : run (d + 4) 1007 0 [xR 1, xI r, xI c] [] (V, G) = some (some (xI (if (0 ≤ r ∧ r < (n : Int)) ∧ (0 ≤ c ∧ c < (n : Int)) then colX V c r else -1)), ((if (0 ≤ r ∧ r < (n : Int)) ∧ (0 ≤ c ∧ c < (n : Int)) then colV V c else V), G)) := by
  have hn := h.1
  have h26 := h.2.1
  by_cases a : 0 ≤ r ∧ r < (n : Int)
  · by_cases b : 0 ≤ c ∧ c < (n : Int)
    · simp (disch := first | omega | exact Nat.le_of_ble_eq_true rfl) only [bk1007_0, bk1007_16, bk1007_18, Int.reduceToNat, vA_ap, Nat.reduceEqDiff, if_true, if_false, bx_nil, isL_I, isL_R, isL_U, if_ff, bind_some, tl_some, tl_none, bx_aload_0, bx_iload_1, cl1008 hG, bx_if_eq, bx_iload_2, bx_if_ne, bx_iconst, bx_iret, gf1_1 hG, cl306 hG, x_isLane hG, hn, b1_t a, b1_t b, one_ne, x_colV hG b h, if_pos (And.intro a b), ia11 hG]
      rfl
    · simp (disch := first | omega | exact Nat.le_of_ble_eq_true rfl) only [bk1007_0, bk1007_16, bk1007_18, Int.reduceToNat, vA_ap, Nat.reduceEqDiff, if_true, if_false, bx_nil, isL_I, isL_R, isL_U, if_ff, bind_some, tl_some, tl_none, bx_aload_0, bx_iload_1, cl1008 hG, bx_if_eq, bx_iload_2, bx_if_ne, bx_iconst, bx_iret, gf1_1 hG, cl306 hG, x_isLane hG, hn, b1_t a, b1_f b, one_ne, if_neg (show ¬ ((0 ≤ r ∧ r < (n : Int)) ∧ (0 ≤ c ∧ c < (n : Int))) from fun z => b z.2)]
  · simp (disch := first | omega | exact Nat.le_of_ble_eq_true rfl) only [bk1007_0, bk1007_16, bk1007_18, Int.reduceToNat, vA_ap, Nat.reduceEqDiff, if_true, if_false, bx_nil, isL_I, isL_R, isL_U, if_ff, bind_some, tl_some, tl_none, bx_aload_0, bx_iload_1, cl1008 hG, bx_if_eq, bx_iload_2, bx_if_ne, bx_iconst, bx_iret, gf1_1 hG, cl306 hG, x_isLane hG, hn, b1_f a, if_neg (show ¬ ((0 ≤ r ∧ r < (n : Int)) ∧ (0 ≤ c ∧ c < (n : Int))) from fun z => a z.1)]
end XW
