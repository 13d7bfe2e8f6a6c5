/-! PROGRAM: the class's brackets and names -/
theorem row41 {k : Nat} (h : k < 51) : isRow (41 + 3 * k) := Or.inr (Or.inl ⟨k, h, rfl⟩)
theorem row194 {k : Nat} (h : k < 6) : isRow (194 + 3 * k) := Or.inr (Or.inr ⟨k, h, rfl⟩)
section XBR
variable {n L d : Nat} {G : XG} {V : Nat → Int → Int} {μ : XM}
/-- a bracket opens -/
def opX (V : Nat → Int → Int) (D : Nat) (a how : Int) : Nat → Int → Int := vA (vA (setRow (vA V 35 (vU (vU (V 35) 7 a) 8 ((D : Int) + 1))) (41 + 3 * (D + 1)) (0, V (41 + 3 * (D + 1) + 1), V (41 + 3 * (D + 1) + 2))) 38 (vU (V 38) ((D : Int) + 1) how)) 35 (vU (vU (vU (V 35) 7 a) 8 ((D : Int) + 1)) 10 1)
theorem x_open {D : Nat} {a sz how : Int} (hG : Good n L G) (ea : V 35 7 = a) (es : V 35 1 = sz) (h0 : 0 ≤ a ∧ a ≤ sz) (hs : sz ≤ 100) (hd : V 35 8 = D) (hD : D ≤ 49) : run (d + 2) 511 0 [xR 35, xI how] [] (V, G) = if pkF (V 36) sz a = 40 then some (some (xI 1), (opX V D (a + 1) how, G)) else some (some (xI 0), (V, G)) := by
  have ht := x_takes (d := d) (b := 40) (V := V) hG (by omega) (by omega)
  rw [ea, es] at ht
  by_cases q : pkF (V 36) sz a = 40
  · rw [if_pos q]
    rw [if_pos q, b1_t q] at ht
    obtain ⟨A, hA⟩ : ∃ A, A = plX V (a + 1) := ⟨_, rfl⟩
    rw [← hA] at ht
    have A1 : ∀ b, b ≠ 35 → A b = V b := fun b hb => by rw [hA]; exact vA_ne hb
    have A2 : A 35 = vU (V 35) 7 (a + 1) := by rw [hA]; exact vA_same _ _ _
    have A3 : A 35 8 = D := by rw [A2]; exact hd
    have tn : ((D : Int) + 1).toNat = D + 1 := by omega
    have hrw := row41 (show D + 1 < 51 by omega)
    obtain ⟨B, hB⟩ : ∃ B, B = vA A 35 (vU (A 35) 8 ((D : Int) + 1)) := ⟨_, rfl⟩
    have B3 : B 35 8 = (D : Int) + 1 := by rw [hB, vA_same, vU_at]
    obtain ⟨C, hC⟩ : ∃ C, C = setRow B (41 + 3 * (D + 1)) (0, B (41 + 3 * (D + 1) + 1), B (41 + 3 * (D + 1) + 2)) := ⟨_, rfl⟩
    have C35 : C 35 = B 35 := by rw [hC]; exact setRow_ap (by omega) (by omega) (by omega)
    have C38 : C 38 = B 38 := by rw [hC]; exact setRow_ap (by omega) (by omega) (by omega)
    have hcl : run (d + 1) 601 0 [xR (41 + 3 * (D + 1))] [] (B, G) = some (none, (C, G)) := by rw [hC]; exact w_clear hG hrw
    simp (disch := first | omega | exact Nat.le_of_ble_eq_true rfl) only [bk511_0, bk511_18, bk511_20, Int.reduceToNat, vA_ap, Nat.reduceEqDiff, if_true, if_false, bx_nil, isL_I, isL_R, isL_U, if_ff, bind_some, tl_some, tl_none, bx_aload_0, gf35_8 hG, bx_bipush, bx_ic_ge, cl508 hG, bx_if_ne, bx_iconst, bx_zret, bx_dupI, bx_dupR, bx_iadd, pf35_8 hG, gf35_3 hG, aa37 hG, gf35_4 hG, ia38 hG, is38 hG, bx_iload_1, pf35_10 hG, hd, if_neg (show ¬ (50 : Int) ≤ D by omega), ht, one_ne, A3, ← hB, B3, tn, cl601 hG hrw, hcl, C35, C38, pf35_10 hG (Or.inr rfl : (1 : Int) = 0 ∨ (1 : Int) = 1)]
    refine congrArg (fun z => some (some (xI 1), (z, G))) ?_
    unfold opX
    have hB' : B = vA V 35 (vU (vU (V 35) 7 (a + 1)) 8 ((D : Int) + 1)) := by
      rw [hB, A2, hA]
      unfold plX
      rw [vA_vA]
    rw [hC, hB', vA_same, vA_ne (show 41 + 3 * (D + 1) + 1 ≠ 35 by omega), vA_ne (show 41 + 3 * (D + 1) + 2 ≠ 35 by omega), vA_ne (show 38 ≠ 35 by decide)]
  · rw [if_neg q]
    rw [if_neg q, b1_f q] at ht
    simp (disch := first | omega | exact Nat.le_of_ble_eq_true rfl) only [bk511_0, bk511_18, bk511_20, Int.reduceToNat, vA_ap, Nat.reduceEqDiff, if_true, if_false, bx_nil, isL_I, isL_R, isL_U, if_ff, bind_some, tl_some, tl_none, bx_aload_0, gf35_8 hG, bx_bipush, bx_ic_ge, cl508 hG, bx_if_ne, bx_iconst, bx_zret, bx_dupI, bx_dupR, bx_iadd, pf35_8 hG, gf35_3 hG, aa37 hG, gf35_4 hG, ia38 hG, is38 hG, bx_iload_1, pf35_10 hG, hd, if_neg (show ¬ (50 : Int) ≤ D by omega), ht]
/-- a bracket closes -/
def csX (V : Nat → Int → Int) (D : Nat) (how : Int) : Nat → Int → Int := if 10 ≤ how then vA (setRow (vA V 35 (vU (V 35) 8 (D : Int))) (194 + 3 * (how - 10).toNat) (addAll (0, V (194 + 3 * (how - 10).toNat + 1), V (194 + 3 * (how - 10).toNat + 2)) (rowOf V (41 + 3 * (D + 1))))) 40 (vU (V 40) (how - 10) 1) else setRow (vA V 35 (vU (V 35) 8 (D : Int))) (41 + 3 * D) (caL (rowOf V (41 + 3 * (D + 1))) how.toNat (rowOf V (41 + 3 * D)))
theorem x_close_lp {D : Nat} {how : Int} {o : RS} (hG : Good n L G) (hD : D ≤ 49) (ho : 0 ≤ o.1 ∧ o.1 ≤ 11) (hh : how ≤ 9) : ∀ (k : Nat) (r : Int) (V : Nat → Int → Int), 0 ≤ r → r + k = how → V 35 8 = D → rowOf V (41 + 3 * (D + 1)) = o → (0 ≤ V (41 + 3 * D) 2 ∧ V (41 + 3 * D) 2 ≤ 11) → run (d + 2) 513 64 [xR 35, xR (41 + 3 * (D + 1)), xI how, xI r] [] (V, G) = some (none, (setRow V (41 + 3 * D) (caL o k (rowOf V (41 + 3 * D))), G)) := by
  intro k
  induction k with
  | zero =>
    intro r V r0 hr hd hb hl
    rw [bk513_64]
    simp (disch := first | omega | exact Nat.le_of_ble_eq_true rfl) only [bk513_0, bk513_62, bk513_88, Int.reduceToNat, vA_ap, Nat.reduceEqDiff, if_true, if_false, bx_nil, isL_I, isL_R, isL_U, if_ff, bind_some, tl_some, tl_none, bx_aload_0, gf35_3 hG, aa37 hG, gf35_8 hG, bx_astore_1, gf35_4 hG, ia38 hG, is38 hG, bx_istore_2, bx_dupI, bx_dupR, bx_iconst, bx_isub, pf35_8 hG, bx_iload_2, bx_bipush, bx_ic_lt, gf35_5 hG, aa39 hG, bx_aload_1, gf35_6 hG, ia40 hG, is40 hG, bx_goto, bx_istore_3, bx_iload_3, bx_ic_ge, bx_iinc3, bx_vret, if_pos (show how ≤ r by omega)]
    rw [show caL o 0 (rowOf V (41 + 3 * D)) = rowOf V (41 + 3 * D) from rfl, setRow_self]
  | succ k ih =>
    intro r V r0 hr hd hb hl
    have hrw := row41 (show D < 51 by omega)
    have hro := row41 (show D + 1 < 51 by omega)
    have hoz : 0 ≤ V (41 + 3 * (D + 1)) 2 ∧ V (41 + 3 * (D + 1)) 2 ≤ 11 := by
      have := ho
      rw [← hb] at this
      exact this
    have ha := w_addAll (d := d) (V := V) hG hrw hro (by omega) hl hoz
    rw [hb] at ha
    rw [bk513_64]
    simp (disch := first | omega | exact Nat.le_of_ble_eq_true rfl) only [bk513_0, bk513_62, bk513_88, Int.reduceToNat, vA_ap, Nat.reduceEqDiff, if_true, if_false, bx_nil, isL_I, isL_R, isL_U, if_ff, bind_some, tl_some, tl_none, bx_aload_0, gf35_3 hG, aa37 hG, gf35_8 hG, bx_astore_1, gf35_4 hG, ia38 hG, is38 hG, bx_istore_2, bx_dupI, bx_dupR, bx_iconst, bx_isub, pf35_8 hG, bx_iload_2, bx_bipush, bx_ic_lt, gf35_5 hG, aa39 hG, bx_aload_1, gf35_6 hG, ia40 hG, is40 hG, bx_goto, bx_istore_3, bx_iload_3, bx_ic_ge, bx_iinc3, bx_vret, if_neg (show ¬ how ≤ r by omega), hd, Int.toNat_natCast, cl603 hG hrw, ha]
    have e1 : rowOf (setRow V (41 + 3 * D) (addAll (rowOf V (41 + 3 * D)) o)) (41 + 3 * D) = addAll (rowOf V (41 + 3 * D)) o := rowOf_set
    have e2 : setRow V (41 + 3 * D) (addAll (rowOf V (41 + 3 * D)) o) (41 + 3 * D) 2 = (addAll (rowOf V (41 + 3 * D)) o).1 := congrArg (fun s : RS => s.1) e1
    rw [ih (r + 1) _ (by omega) (by omega) (by rw [setRow_ap (by omega) (by omega) (by omega)]; exact hd) (by rw [rowOf_ne (by omega) (by omega) (by omega)]; exact hb) (by rw [e2]; exact addAll_bd hl), setRow_set, e1]
    rfl
theorem x_close {D : Nat} {how : Int} (hG : Good n L G) (hd : V 35 8 = (D : Int) + 1) (hD : D ≤ 49) (hh : V 38 ((D : Int) + 1) = how) (hhb : 0 ≤ how ∧ how ≤ 15) (ho : 0 ≤ V (41 + 3 * (D + 1)) 2 ∧ V (41 + 3 * (D + 1)) 2 ≤ 11) (hl : 0 ≤ V (41 + 3 * D) 2 ∧ V (41 + 3 * D) 2 ≤ 11) : run (d + 3) 513 0 [xR 35, xU, xU, xU] [] (V, G) = some (none, (csX V D how, G)) := by
  have tn : ((D : Int) + 1).toNat = D + 1 := by omega
  have sb : (D : Int) + 1 - 1 = D := by omega
  obtain ⟨A, hA⟩ : ∃ A, A = vA V 35 (vU (V 35) 8 (D : Int)) := ⟨_, rfl⟩
  have A1 : ∀ b, b ≠ 35 → A b = V b := fun b hb => by rw [hA]; exact vA_ne hb
  have A2 : A 35 8 = D := by rw [hA, vA_same, vU_at]
  unfold csX
  by_cases a : 10 ≤ how
  · rw [if_pos a]
    have hrn := row194 (show (how - 10).toNat < 6 by omega)
    have hro := row41 (show D + 1 < 51 by omega)
    have hc := w_copy (d := d) (V := A) (r := 194 + 3 * (how - 10).toNat) (o := 41 + 3 * (D + 1)) hG hrn hro (by omega) (by rw [A1 _ (by omega)]; exact ho)
    rw [A1 _ (by omega), A1 _ (by omega)] at hc
    have er : rowOf A (41 + 3 * (D + 1)) = rowOf V (41 + 3 * (D + 1)) := by
      unfold rowOf
      rw [A1 _ (by omega), A1 _ (by omega), A1 _ (by omega)]
    rw [er] at hc
    obtain ⟨B, hB⟩ : ∃ B, B = setRow A (194 + 3 * (how - 10).toNat) (addAll (0, V (194 + 3 * (how - 10).toNat + 1), V (194 + 3 * (how - 10).toNat + 2)) (rowOf V (41 + 3 * (D + 1)))) := ⟨_, rfl⟩
    rw [← hB] at hc
    have B40 : B 40 = V 40 := by rw [hB, setRow_ap (by omega) (by omega) (by omega)]; exact A1 _ (by decide)
    simp (disch := first | omega | exact Nat.le_of_ble_eq_true rfl) only [bk513_0, bk513_62, bk513_88, Int.reduceToNat, vA_ap, Nat.reduceEqDiff, if_true, if_false, bx_nil, isL_I, isL_R, isL_U, if_ff, bind_some, tl_some, tl_none, bx_aload_0, gf35_3 hG, aa37 hG, gf35_8 hG, bx_astore_1, gf35_4 hG, ia38 hG, is38 hG, bx_istore_2, bx_dupI, bx_dupR, bx_iconst, bx_isub, pf35_8 hG, bx_iload_2, bx_bipush, bx_ic_lt, gf35_5 hG, aa39 hG, bx_aload_1, gf35_6 hG, ia40 hG, is40 hG, bx_goto, bx_istore_3, bx_iload_3, bx_ic_ge, bx_iinc3, bx_vret, hd, tn, hh, sb, ← hA, if_neg (show ¬ how < 10 by omega), cl605 hG hrn, hc, B40, is40 hG (Or.inr rfl : (1 : Int) = 0 ∨ (1 : Int) = 1)]
    rw [hB]
  · rw [if_neg a]
    have hlp := x_close_lp (d := d + 1) (D := D) (how := how) (o := rowOf V (41 + 3 * (D + 1))) hG hD ho (by omega) how.toNat 0 A (by omega) (by omega) A2 (by
      unfold rowOf
      rw [A1 _ (by omega), A1 _ (by omega), A1 _ (by omega)]) (by rw [A1 _ (by omega)]; exact hl)
    have er : rowOf A (41 + 3 * D) = rowOf V (41 + 3 * D) := by
      unfold rowOf
      rw [A1 _ (by omega), A1 _ (by omega), A1 _ (by omega)]
    rw [er] at hlp
    have hlp' : run (d + 3) 513 64 [xR 35, xR (41 + 3 * (D + 1)), xI how, xI 0] [] (A, G) = some (none, (setRow A (41 + 3 * D) (caL (rowOf V (41 + 3 * (D + 1))) how.toNat (rowOf V (41 + 3 * D))), G)) := hlp
    simp (disch := first | omega | exact Nat.le_of_ble_eq_true rfl) only [bk513_0, bk513_62, bk513_88, Int.reduceToNat, vA_ap, Nat.reduceEqDiff, if_true, if_false, bx_nil, isL_I, isL_R, isL_U, if_ff, bind_some, tl_some, tl_none, bx_aload_0, gf35_3 hG, aa37 hG, gf35_8 hG, bx_astore_1, gf35_4 hG, ia38 hG, is38 hG, bx_istore_2, bx_dupI, bx_dupR, bx_iconst, bx_isub, pf35_8 hG, bx_iload_2, bx_bipush, bx_ic_lt, gf35_5 hG, aa39 hG, bx_aload_1, gf35_6 hG, ia40 hG, is40 hG, bx_goto, bx_istore_3, bx_iload_3, bx_ic_ge, bx_iinc3, bx_vret, hd, tn, hh, sb, ← hA, if_pos (show how < 10 by omega), hlp']
end XBR
