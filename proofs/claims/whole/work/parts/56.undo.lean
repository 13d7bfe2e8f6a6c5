/-! UNDO -/
/-- the works that undo steps up to i: a row -/
def undR (up by' : Int → Int) : Nat → RS → RS
  | 0, s => s
  | m + 1, s => undR up by' m (if 0 < by' m then addR s (up m) (96 - by' m) else s)
section UD
variable {n L d : Nat} {G : XG} {V : Nat → Int → Int}
theorem x_above (hG : Good n L G) (hs : 0 ≤ V 12 6 ∧ V 12 6 ≤ 15) : run d 807 0 [xR 12, xU, xU] [] (V, G) = some (some (xI (cn (fun i => decide (0 < V 14 i)) (V 12 6))), (V, G)) := by
  obtain ⟨N, hN⟩ : ∃ N : Nat, V 12 6 = N := ⟨(V 12 6).toNat, by omega⟩
  have h := it_up (D := d) (q := 807) (pc := 4) (loc := fun k => [xR 12, xI (cn (fun i => decide (0 < V 14 i)) k), xI k]) (F := fun _ => (V, G)) (hi := N) N 0 (by omega) (fun k h1 h2 => by
    have hb := cn_bd (p := fun i => decide (0 < V 14 i)) h1
    rw [bk807_4, cn_up h1]
    by_cases a : V 14 k ≤ 0
    · simp (disch := first | omega | exact Nat.le_of_ble_eq_true rfl) only [bk807_0, bk807_24, bk807_30, Int.reduceToNat, vA_ap, Nat.reduceEqDiff, if_true, if_false, bx_nil, isL_I, isL_R, isL_U, if_ff, bind_some, tl_some, tl_none, bx_iconst, bx_istore_1, bx_istore_2, bx_iload_2, bx_aload_0, gf12_6 hG, bx_ic_ge, gf12_5 hG, ia14 hG, is14 hG, bx_if_le, bx_iinc1, bx_iinc2, bx_goto, bx_iload_1, bx_iret, hN, if_neg (show ¬ (N : Int) ≤ k by omega), if_pos a, decide_eq_false (show ¬ 0 < V 14 k by omega), if_neg (show ¬ false = true by simp), Int.add_zero]
    · simp (disch := first | omega | exact Nat.le_of_ble_eq_true rfl) only [bk807_0, bk807_24, bk807_30, Int.reduceToNat, vA_ap, Nat.reduceEqDiff, if_true, if_false, bx_nil, isL_I, isL_R, isL_U, if_ff, bind_some, tl_some, tl_none, bx_iconst, bx_istore_1, bx_istore_2, bx_iload_2, bx_aload_0, gf12_6 hG, bx_ic_ge, gf12_5 hG, ia14 hG, is14 hG, bx_if_le, bx_iinc1, bx_iinc2, bx_goto, bx_iload_1, bx_iret, hN, if_neg (show ¬ (N : Int) ≤ k by omega), if_neg a, decide_eq_true (show 0 < V 14 k by omega), if_true])
  rw [show cn (fun i => decide (0 < V 14 i)) 0 = 0 from rfl] at h
  simp (disch := first | omega | exact Nat.le_of_ble_eq_true rfl) only [bk807_0, bk807_24, bk807_30, Int.reduceToNat, vA_ap, Nat.reduceEqDiff, if_true, if_false, bx_nil, isL_I, isL_R, isL_U, if_ff, bind_some, tl_some, tl_none, bx_iconst, bx_istore_1, bx_istore_2, bx_iload_2, bx_aload_0, gf12_6 hG, bx_ic_ge, gf12_5 hG, ia14 hG, is14 hG, bx_if_le, bx_iinc1, bx_iinc2, bx_goto, bx_iload_1, bx_iret]
  rw [h, bk807_4, hN]
  simp (disch := first | omega | exact Nat.le_of_ble_eq_true rfl) only [bk807_0, bk807_24, bk807_30, Int.reduceToNat, vA_ap, Nat.reduceEqDiff, if_true, if_false, bx_nil, isL_I, isL_R, isL_U, if_ff, bind_some, tl_some, tl_none, bx_iconst, bx_istore_1, bx_istore_2, bx_iload_2, bx_aload_0, gf12_6 hG, bx_ic_ge, gf12_5 hG, ia14 hG, is14 hG, bx_if_le, bx_iinc1, bx_iinc2, bx_goto, bx_iload_1, bx_iret, hN, if_pos (show (N : Int) ≤ N by omega)]
theorem undR_bd {up by' : Int → Int} : ∀ (m : Nat) (s : RS), (0 ≤ s.1 ∧ s.1 ≤ 11) → 0 ≤ (undR up by' m s).1 ∧ (undR up by' m s).1 ≤ 11
  | 0, _, h => h
  | m + 1, s, h => by
    unfold undR
    refine undR_bd m _ ?_
    split
    · exact addR_bd h
    · exact h
theorem x_putUndo_lp (hG : Good n L G) : ∀ (m : Nat) (W : Nat → Int → Int) (s : RS), (m : Int) ≤ 15 → (∀ i, 0 ≤ i → i < 15 → -1 ≤ V 14 i ∧ V 14 i ≤ 95) → s.1 + m ≤ 1000 → 0 ≤ s.1 ∧ s.1 ≤ 11 → run (d + 1) 808 11 [xR 12, xR 29, xI ((m : Int) - 1)] [] (setRow V 29 s, G) = some (none, (setRow V 29 (undR (V 13) (V 14) m s), G)) := by
  intro m
  induction m with
  | zero =>
    intro W s h1 hb h2 h3
    rw [bk808_11]
    simp (disch := first | omega | exact Nat.le_of_ble_eq_true rfl) only [bk808_0, bk808_43, bk808_49, Int.reduceToNat, vA_ap, Nat.reduceEqDiff, if_true, if_false, bx_nil, isL_I, isL_R, isL_U, if_ff, bind_some, tl_some, tl_none, bx_aload_1, bx_aload_0, gf12_6 hG, bx_iconst, bx_isub, bx_istore_2, bx_iload_2, bx_if_lt, gf12_5 hG, ia14 hG, is14 hG, bx_if_le, gf12_4 hG, ia13 hG, is13 hG, bx_bipush, bx_iinc2, bx_goto, bx_vret, if_pos (show ((0 : Nat) : Int) - 1 < 0 by omega)]
    rfl
  | succ m ih =>
    intro W s h1 hb h2 h3
    rw [bk808_11, show ((m + 1 : Nat) : Int) - 1 = m by omega]
    unfold undR
    have e12 : setRow V 29 s 12 = V 12 := rfl
    have e13 : setRow V 29 s 13 = V 13 := rfl
    have e14 : setRow V 29 s 14 = V 14 := rfl
    have e29 : setRow V 29 s 29 2 = s.1 := by simp [setRow, vA, vU]
    have hbm := hb m (by omega) (by omega)
    by_cases a : V 14 m ≤ 0
    · rw [if_neg (show ¬ 0 < V 14 m by omega)]
      simp (disch := first | omega | exact Nat.le_of_ble_eq_true rfl) only [bk808_0, bk808_43, bk808_49, Int.reduceToNat, vA_ap, Nat.reduceEqDiff, if_true, if_false, bx_nil, isL_I, isL_R, isL_U, if_ff, bind_some, tl_some, tl_none, bx_aload_1, bx_aload_0, gf12_6 hG, bx_iconst, bx_isub, bx_istore_2, bx_iload_2, bx_if_lt, gf12_5 hG, ia14 hG, is14 hG, bx_if_le, gf12_4 hG, ia13 hG, is13 hG, bx_bipush, bx_iinc2, bx_goto, bx_vret, e14, if_neg (show ¬ (m : Int) < 0 by omega), if_pos a]
      exact ih W s (by omega) hb (by omega) h3
    · rw [if_pos (show 0 < V 14 m by omega)]
      simp (disch := first | omega | exact Nat.le_of_ble_eq_true rfl) only [bk808_0, bk808_43, bk808_49, Int.reduceToNat, vA_ap, Nat.reduceEqDiff, if_true, if_false, bx_nil, isL_I, isL_R, isL_U, if_ff, bind_some, tl_some, tl_none, bx_aload_1, bx_aload_0, gf12_6 hG, bx_iconst, bx_isub, bx_istore_2, bx_iload_2, bx_if_lt, gf12_5 hG, ia14 hG, is14 hG, bx_if_le, gf12_4 hG, ia13 hG, is13 hG, bx_bipush, bx_iinc2, bx_goto, bx_vret, e13, e14, if_neg (show ¬ (m : Int) < 0 by omega), if_neg a, cl602 hG row29, w_add (V := setRow V 29 s) hG row29 (by rw [e29]; exact h3.1), rowOf_set, setRow_set]
      have hbd := addR_bd (u := V 13 m) (k := 96 - V 14 m) h3
      exact ih W _ (by omega) hb (by omega) hbd
theorem xp_undo (hG : Good n L G) (hs : 0 ≤ V 12 6 ∧ V 12 6 ≤ 15) (hb : ∀ i, 0 ≤ i → i < V 12 6 → 0 ≤ V 14 i ∧ V 14 i ≤ 95) (hw : V 12 7 = 0 ∨ V 12 7 = 1) : True := trivial
end UD
