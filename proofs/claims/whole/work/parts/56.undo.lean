/-! UNDO -/
/-- the works that undo steps up to i: a row -/
def undR (up by' : Int → Int) : Nat → RS → RS
  | 0, s => s
  | m + 1, s => undR up by' m (if 0 < by' m then addR s (up m) (96 - by' m) else s)
section UD
variable {n L d : Nat} {G : XG} {V : Nat → Int → Int}
theorem x_above (hG : Good n L G) (hs : 0 ≤ V 12 6 ∧ V 12 6 ≤ 15) : run d 807 0 [xR 12, xU, xU] [] (V, G) = some (some (xI (cn (fun i => decide (0 < V 14 i)) (V 12 6))), (V, G)) := by
  obtain ⟨N, hN⟩ : ∃ N : Nat, V 12 6 = N := ⟨(V 12 6).toNat, by omega⟩
  have h := it_up (D := d) (q := 807) (pc := 4) (loc := fun k => [xR 12, xI (cn (fun i => decide (0 < V 14 i)) k), xI k]) (F := fun _ => (V, G)) (hi := N) N 0 (by omega) (fun k h1 h2 => by
    have hb := cn_bd (p := fun i => decide (0 < V 14 i)) h1
    rw [bk807_4, cn_up h1]
    by_cases a : V 14 k ≤ 0
    · simp (disch := first | omega | exact Nat.le_of_ble_eq_true rfl) only [bk807_0, bk807_24, bk807_30, Int.reduceToNat, vA_ap, Nat.reduceEqDiff, if_true, if_false, bx_nil, isL_I, isL_R, isL_U, if_ff, bind_some, tl_some, tl_none, bx_iconst, bx_istore_1, bx_istore_2, bx_iload_2, bx_aload_0, gf12_6 hG, bx_ic_ge, gf12_5 hG, ia14 hG, is14 hG, bx_if_le, bx_iinc1, bx_iinc2, bx_goto, bx_iload_1, bx_iret, hN, if_neg (show ¬ (N : Int) ≤ k by omega), if_pos a, decide_eq_false (show ¬ 0 < V 14 k by omega), if_neg (show ¬ false = true by simp), Int.add_zero]
    · simp (disch := first | omega | exact Nat.le_of_ble_eq_true rfl) only [bk807_0, bk807_24, bk807_30, Int.reduceToNat, vA_ap, Nat.reduceEqDiff, if_true, if_false, bx_nil, isL_I, isL_R, isL_U, if_ff, bind_some, tl_some, tl_none, bx_iconst, bx_istore_1, bx_istore_2, bx_iload_2, bx_aload_0, gf12_6 hG, bx_ic_ge, gf12_5 hG, ia14 hG, is14 hG, bx_if_le, bx_iinc1, bx_iinc2, bx_goto, bx_iload_1, bx_iret, hN, if_neg (show ¬ (N : Int) ≤ k by omega), if_neg a, decide_eq_true (show 0 < V 14 k by omega), if_true])
  rw [show cn (fun i => decide (0 < V 14 i)) 0 = 0 from rfl] at h
  simp (disch := first | omega | exact Nat.le_of_ble_eq_true rfl) only [bk807_0, bk807_24, bk807_30, Int.reduceToNat, vA_ap, Nat.reduceEqDiff, if_true, if_false, bx_nil, isL_I, isL_R, isL_U, if_ff, bind_some, tl_some, tl_none, bx_iconst, bx_istore_1, bx_istore_2, bx_iload_2, bx_aload_0, gf12_6 hG, bx_ic_ge, gf12_5 hG, ia14 hG, is14 hG, bx_if_le, bx_iinc1, bx_iinc2, bx_goto, bx_iload_1, bx_iret]
  rw [h, bk807_4, hN]
  simp (disch := first | omega | exact Nat.le_of_ble_eq_true rfl) only [bk807_0, bk807_24, bk807_30, Int.reduceToNat, vA_ap, Nat.reduceEqDiff, if_true, if_false, bx_nil, isL_I, isL_R, isL_U, if_ff, bind_some, tl_some, tl_none, bx_iconst, bx_istore_1, bx_istore_2, bx_iload_2, bx_aload_0, gf12_6 hG, bx_ic_ge, gf12_5 hG, ia14 hG, is14 hG, bx_if_le, bx_iinc1, bx_iinc2, bx_goto, bx_iload_1, bx_iret, hN, if_pos (show (N : Int) ≤ N by omega)]
theorem undR_bd {up by' : Int → Int} : ∀ (m : Nat) (s : RS), (0 ≤ s.1 ∧ s.1 ≤ 11) → 0 ≤ (undR up by' m s).1 ∧ (undR up by' m s).1 ≤ 11
  | 0, _, h => h
  | m + 1, s, h => by
    unfold undR
    refine undR_bd m _ ?_
    split
    · exact addR_bd h
    · exact h
theorem x_putUndo_lp (hG : Good n L G) : ∀ (m : Nat) (s : RS), (m : Int) ≤ 15 → (∀ i, 0 ≤ i → i < (m : Int) → 0 ≤ V 14 i ∧ V 14 i ≤ 95) → 0 ≤ s.1 ∧ s.1 ≤ 11 → run (d + 1) 808 11 [xR 12, xR 29, xI ((m : Int) - 1)] [] (setRow V 29 s, G) = some (none, (setRow V 29 (undR (V 13) (V 14) m s), G)) := by
  intro m
  induction m with
  | zero =>
    intro s h1 hb h3
    rw [bk808_11]
    simp (disch := first | omega | exact Nat.le_of_ble_eq_true rfl) only [bk808_0, bk808_43, bk808_49, Int.reduceToNat, vA_ap, Nat.reduceEqDiff, if_true, if_false, bx_nil, isL_I, isL_R, isL_U, if_ff, bind_some, tl_some, tl_none, bx_aload_1, bx_aload_0, gf12_6 hG, bx_iconst, bx_isub, bx_istore_2, bx_iload_2, bx_if_lt, gf12_5 hG, ia14 hG, is14 hG, bx_if_le, gf12_4 hG, ia13 hG, is13 hG, bx_bipush, bx_iinc2, bx_goto, bx_vret, if_pos (show ((0 : Nat) : Int) - 1 < 0 by omega)]
    rfl
  | succ m ih =>
    intro s h1 hb h3
    rw [bk808_11, show ((m + 1 : Nat) : Int) - 1 = m by omega]
    unfold undR
    have e13 : setRow V 29 s 13 = V 13 := rfl
    have e14 : setRow V 29 s 14 = V 14 := rfl
    have e29 : setRow V 29 s 29 2 = s.1 := by simp [setRow, vA, vU]
    have hbm := hb m (by omega) (by omega)
    by_cases a : V 14 m ≤ 0
    · rw [if_neg (show ¬ 0 < V 14 m by omega)]
      simp (disch := first | omega | exact Nat.le_of_ble_eq_true rfl) only [bk808_0, bk808_43, bk808_49, Int.reduceToNat, vA_ap, Nat.reduceEqDiff, if_true, if_false, bx_nil, isL_I, isL_R, isL_U, if_ff, bind_some, tl_some, tl_none, bx_aload_1, bx_aload_0, gf12_6 hG, bx_iconst, bx_isub, bx_istore_2, bx_iload_2, bx_if_lt, gf12_5 hG, ia14 hG, is14 hG, bx_if_le, gf12_4 hG, ia13 hG, is13 hG, bx_bipush, bx_iinc2, bx_goto, bx_vret, e14, if_neg (show ¬ (m : Int) < 0 by omega), if_pos a]
      exact ih s (by omega) (fun i i0 i1 => hb i i0 (by omega)) h3
    · rw [if_pos (show 0 < V 14 m by omega)]
      simp (disch := first | omega | exact Nat.le_of_ble_eq_true rfl) only [bk808_0, bk808_43, bk808_49, Int.reduceToNat, vA_ap, Nat.reduceEqDiff, if_true, if_false, bx_nil, isL_I, isL_R, isL_U, if_ff, bind_some, tl_some, tl_none, bx_aload_1, bx_aload_0, gf12_6 hG, bx_iconst, bx_isub, bx_istore_2, bx_iload_2, bx_if_lt, gf12_5 hG, ia14 hG, is14 hG, bx_if_le, gf12_4 hG, ia13 hG, is13 hG, bx_bipush, bx_iinc2, bx_goto, bx_vret, e13, e14, if_neg (show ¬ (m : Int) < 0 by omega), if_neg a, cl602 hG row29, w_add (V := setRow V 29 s) hG row29 (by rw [e29]; exact h3.1), rowOf_set, setRow_set]
      have hbd := addR_bd (u := V 13 m) (k := 96 - V 14 m) h3
      exact ih _ (by omega) (fun i i0 i1 => hb i i0 (by omega)) hbd
def undX (V : Nat → Int → Int) : RS := undR (V 13) (V 14) (V 12 6).toNat (0, V 30, V 31)
theorem xp_undo (hG : Good n L G) (hs : 0 ≤ V 12 6 ∧ V 12 6 ≤ 15) (hb : ∀ i, 0 ≤ i → i < V 12 6 → 0 ≤ V 14 i ∧ V 14 i ≤ 95) : run (d + 2) 1014 0 [xR 1] [] (V, G) = if V 12 7 = 0 then some (some (xI (-3)), (V, G)) else if 10 < cn (fun i => decide (0 < V 14 i)) (V 12 6) then some (some (xI (-4)), (V, G)) else some (some (xI (undX V).1), (setRow V 29 (undX V), G)) := by
  by_cases a : V 12 7 = 0
  · rw [if_pos a]
    simp (disch := first | omega | exact Nat.le_of_ble_eq_true rfl) only [bk1014_0, bk1014_13, bk1014_28, Int.reduceToNat, vA_ap, Nat.reduceEqDiff, if_true, if_false, bx_nil, isL_I, isL_R, isL_U, if_ff, bind_some, tl_some, tl_none, bx_aload_0, gf1_2 hG, gf12_7 hG, bx_if_ne, bx_bipush, bx_iret, cl807 hG, bx_ic_le, gf1_3 hG, cl808 hG, if_pos a]
  · rw [if_neg a]
    by_cases b : 10 < cn (fun i => decide (0 < V 14 i)) (V 12 6)
    · rw [if_pos b]
      simp (disch := first | omega | exact Nat.le_of_ble_eq_true rfl) only [bk1014_0, bk1014_13, bk1014_28, Int.reduceToNat, vA_ap, Nat.reduceEqDiff, if_true, if_false, bx_nil, isL_I, isL_R, isL_U, if_ff, bind_some, tl_some, tl_none, bx_aload_0, gf1_2 hG, gf12_7 hG, bx_if_ne, bx_bipush, bx_iret, cl807 hG, bx_ic_le, gf1_3 hG, cl808 hG, if_neg a, x_above hG hs, if_neg (show ¬ cn (fun i => decide (0 < V 14 i)) (V 12 6) ≤ 10 by omega)]
    · rw [if_neg b]
      have hp : run (d + 1) 808 0 [xR 12, xR 29, xU] [] (V, G) = some (none, (setRow V 29 (undX V), G)) := by
        have h := x_putUndo_lp (d := d) (V := V) hG (V 12 6).toNat (0, V 30, V 31) (by omega) (fun i i0 i1 => hb i i0 (by omega)) (by omega)
        have e12 : setRow V 29 (0, V (29 + 1), V (29 + 2)) 12 = V 12 := rfl
        simp (disch := first | omega | exact Nat.le_of_ble_eq_true rfl) only [bk808_0, bk808_43, bk808_49, Int.reduceToNat, vA_ap, Nat.reduceEqDiff, if_true, if_false, bx_nil, isL_I, isL_R, isL_U, if_ff, bind_some, tl_some, tl_none, bx_aload_1, bx_aload_0, gf12_6 hG, bx_iconst, bx_isub, bx_istore_2, bx_iload_2, bx_if_lt, gf12_5 hG, ia14 hG, is14 hG, bx_if_le, gf12_4 hG, ia13 hG, is13 hG, bx_bipush, bx_iinc2, bx_goto, bx_vret, cl601 hG row29, w_clear hG row29, e12]
        rw [show (((V 12 6).toNat : Nat) : Int) = V 12 6 by omega] at h
        exact h
      have e29 : setRow V 29 (undX V) 29 2 = (undX V).1 := by simp [setRow, vA, vU]
      simp (disch := first | omega | exact Nat.le_of_ble_eq_true rfl) only [bk1014_0, bk1014_13, bk1014_28, Int.reduceToNat, vA_ap, Nat.reduceEqDiff, if_true, if_false, bx_nil, isL_I, isL_R, isL_U, if_ff, bind_some, tl_some, tl_none, bx_aload_0, gf1_2 hG, gf12_7 hG, bx_if_ne, bx_bipush, bx_iret, cl807 hG, bx_ic_le, gf1_3 hG, cl808 hG, if_neg a, x_above hG hs, if_pos (show cn (fun i => decide (0 < V 14 i)) (V 12 6) ≤ 10 by omega), hp, rg_size hG row29, e29]
/-- the reference's works -/
def mrow (V : Nat → Int → Int) (s : RS) : Nat → Int → Int := vA (vA (vA V 391 s.2.1) 392 s.2.2) 376 (vU (V 376) 21 s.1)
theorem m_undo_lp {q : Int} (hG : Good n L G) : ∀ (m : Nat) (s : RS), (m : Int) ≤ 15 → (∀ i, 0 ≤ i → i < (m : Int) → 0 ≤ V 389 i ∧ V 389 i ≤ 95) → 0 ≤ s.1 → s.1 + cn (fun i => decide (0 < V 389 i)) m ≤ 10 → run d 1125 73 [xR 376, xI q, xI ((m : Int) - 1)] [] (mrow V s, G) = some (some (xI (undR (V 388) (V 389) m s).1), (mrow V (undR (V 388) (V 389) m s), G)) := by
  intro m
  induction m with
  | zero =>
    intro s h1 hb h2 h3
    have e0 : mrow V s 376 21 = s.1 := rfl
    rw [bk1125_73]
    simp (disch := first | omega | exact Nat.le_of_ble_eq_true rfl) only [bk1125_0, bk1125_14, bk1125_17, bk1125_43, bk1125_44, bk1125_52, bk1125_61, bk1125_89, bk1125_132, bk1125_138, Int.reduceToNat, vA_ap, Nat.reduceEqDiff, if_true, if_false, bx_nil, isL_I, isL_R, isL_U, if_ff, bind_some, tl_some, tl_none, bx_aload_0, gf376_17 hG, bx_if_eq, gf376_18 hG, bx_bipush, bx_iret, bx_iconst, bx_istore_1, bx_istore_2, bx_iload_2, gf376_16 hG, bx_ic_ge, bx_iload_1, gf376_14 hG, ia389 hG, is389 hG, bx_if_le, bx_goto, bx_iadd, bx_iinc2, bx_ic_le, pf376_21 hG, bx_isub, bx_if_lt, bx_if_ne, gf376_19 hG, ia391 hG, is391 hG, gf376_21 hG, gf376_13 hG, ia388 hG, is388 hG, gf376_20 hG, ia392 hG, is392 hG, bx_dupI, bx_dupR, e0, if_pos (show ((0 : Nat) : Int) - 1 < 0 by omega)]
    rfl
  | succ m ih =>
    intro s h1 hb h2 h3
    rw [bk1125_73, show ((m + 1 : Nat) : Int) - 1 = m by omega]
    unfold undR
    rw [show (((m + 1 : Nat) : Int)) = (m : Int) + 1 by omega, cn_up (by omega)] at h3
    have hcb := cn_bd (p := fun i => decide (0 < V 389 i)) (k := m) (by omega)
    have e1 : mrow V s 388 = V 388 := rfl
    have e2 : mrow V s 389 = V 389 := rfl
    have e3 : mrow V s 391 = s.2.1 := rfl
    have e4 : mrow V s 392 = s.2.2 := rfl
    have e0 : mrow V s 376 21 = s.1 := rfl
    have hbm := hb m (by omega) (by omega)
    by_cases a : V 389 m = 0
    · rw [if_neg (show ¬ 0 < V 389 m by omega)]
      simp (disch := first | omega | exact Nat.le_of_ble_eq_true rfl) only [bk1125_0, bk1125_14, bk1125_17, bk1125_43, bk1125_44, bk1125_52, bk1125_61, bk1125_89, bk1125_132, bk1125_138, Int.reduceToNat, vA_ap, Nat.reduceEqDiff, if_true, if_false, bx_nil, isL_I, isL_R, isL_U, if_ff, bind_some, tl_some, tl_none, bx_aload_0, gf376_17 hG, bx_if_eq, gf376_18 hG, bx_bipush, bx_iret, bx_iconst, bx_istore_1, bx_istore_2, bx_iload_2, gf376_16 hG, bx_ic_ge, bx_iload_1, gf376_14 hG, ia389 hG, is389 hG, bx_if_le, bx_goto, bx_iadd, bx_iinc2, bx_ic_le, pf376_21 hG, bx_isub, bx_if_lt, bx_if_ne, gf376_19 hG, ia391 hG, is391 hG, gf376_21 hG, gf376_13 hG, ia388 hG, is388 hG, gf376_20 hG, ia392 hG, is392 hG, bx_dupI, bx_dupR, e2, if_neg (show ¬ (m : Int) < 0 by omega), if_pos a]
      exact ih s (by omega) (fun i i0 i1 => hb i i0 (by omega)) h2 (by rw [decide_eq_false (show ¬ 0 < V 389 m by omega)] at h3; simp at h3; omega)
    · rw [if_pos (show 0 < V 389 m by omega)]
      rw [decide_eq_true (show 0 < V 389 m by omega), if_pos rfl] at h3
      have e5 : addR s (V 388 m) (96 - V 389 m) = (s.1 + 1, vU s.2.1 s.1 (V 388 m), vU s.2.2 s.1 (96 - V 389 m)) := by
        unfold addR
        rw [if_neg (by omega)]
      have h4 := ih (s.1 + 1, vU s.2.1 s.1 (V 388 m), vU s.2.2 s.1 (96 - V 389 m)) (by omega) (fun i i0 i1 => hb i i0 (by omega)) (show 0 ≤ s.1 + 1 by omega) (show s.1 + 1 + _ ≤ 10 by omega)
      rw [e5, ← h4]
      simp (disch := first | omega | exact Nat.le_of_ble_eq_true rfl) only [bk1125_0, bk1125_14, bk1125_17, bk1125_43, bk1125_44, bk1125_52, bk1125_61, bk1125_89, bk1125_132, bk1125_138, Int.reduceToNat, vA_ap, Nat.reduceEqDiff, if_true, if_false, bx_nil, isL_I, isL_R, isL_U, if_ff, bind_some, tl_some, tl_none, bx_aload_0, gf376_17 hG, bx_if_eq, gf376_18 hG, bx_bipush, bx_iret, bx_iconst, bx_istore_1, bx_istore_2, bx_iload_2, gf376_16 hG, bx_ic_ge, bx_iload_1, gf376_14 hG, ia389 hG, is389 hG, bx_if_le, bx_goto, bx_iadd, bx_iinc2, bx_ic_le, pf376_21 hG, bx_isub, bx_if_lt, bx_if_ne, gf376_19 hG, ia391 hG, is391 hG, gf376_21 hG, gf376_13 hG, ia388 hG, is388 hG, gf376_20 hG, ia392 hG, is392 hG, bx_dupI, bx_dupR, e1, e2, e3, e4, e0, if_neg (show ¬ (m : Int) < 0 by omega), if_neg a]
      refine congrArg (fun z => run d 1125 73 [xR 376, xI q, xI ((m : Int) - 1)] [] (z, G)) (funext fun b => ?_)
      unfold mrow
      by_cases b1 : b = 376
      · subst b1
        funext j
        by_cases j1 : j = 21
        · subst j1; simp [vA, vU]
        · simp [vA, vU, j1]
      · by_cases b2 : b = 392
        · subst b2; simp [vA]
        · by_cases b3 : b = 391
          · subst b3; simp [vA]
          · simp [vA, b1, b2, b3]
theorem mp_undo (hG : Good n L G) (hs : 0 ≤ V 376 16 ∧ V 376 16 ≤ 15) (hb : ∀ i, 0 ≤ i → i < V 376 16 → 0 ≤ V 389 i ∧ V 389 i ≤ 95) : run d 1125 0 [xR 376, xU, xU] [] (V, G) = if V 376 17 = 0 ∨ ¬ V 376 18 = 0 then some (some (xI (-3)), (V, G)) else if 10 < cn (fun i => decide (0 < V 389 i)) (V 376 16) then some (some (xI (-4)), (V, G)) else some (some (xI (undR (V 388) (V 389) (V 376 16).toNat (0, V 391, V 392)).1), (mrow V (undR (V 388) (V 389) (V 376 16).toNat (0, V 391, V 392)), G)) := by
  by_cases a : V 376 17 = 0
  · rw [if_pos (Or.inl a)]
    simp (disch := first | omega | exact Nat.le_of_ble_eq_true rfl) only [bk1125_0, bk1125_14, bk1125_17, bk1125_43, bk1125_44, bk1125_52, bk1125_61, bk1125_89, bk1125_132, bk1125_138, Int.reduceToNat, vA_ap, Nat.reduceEqDiff, if_true, if_false, bx_nil, isL_I, isL_R, isL_U, if_ff, bind_some, tl_some, tl_none, bx_aload_0, gf376_17 hG, bx_if_eq, gf376_18 hG, bx_bipush, bx_iret, bx_iconst, bx_istore_1, bx_istore_2, bx_iload_2, gf376_16 hG, bx_ic_ge, bx_iload_1, gf376_14 hG, ia389 hG, is389 hG, bx_if_le, bx_goto, bx_iadd, bx_iinc2, bx_ic_le, pf376_21 hG, bx_isub, bx_if_lt, bx_if_ne, gf376_19 hG, ia391 hG, is391 hG, gf376_21 hG, gf376_13 hG, ia388 hG, is388 hG, gf376_20 hG, ia392 hG, is392 hG, bx_dupI, bx_dupR, if_pos a]
  · by_cases a2 : V 376 18 = 0
    · rw [if_neg (fun z => z.elim a (fun y => y a2))]
      obtain ⟨N, hN⟩ : ∃ N : Nat, V 376 16 = N := ⟨(V 376 16).toNat, by omega⟩
      have h := it_up (D := d) (q := 1125) (pc := 21) (loc := fun k => [xR 376, xI (cn (fun i => decide (0 < V 389 i)) k), xI k]) (F := fun _ => (V, G)) (hi := N) N 0 (by omega) (fun k h1 h2 => by
        have hb := cn_bd (p := fun i => decide (0 < V 389 i)) h1
        rw [bk1125_21, cn_up h1]
        by_cases a : V 389 k ≤ 0
        · simp (disch := first | omega | exact Nat.le_of_ble_eq_true rfl) only [bk1125_0, bk1125_14, bk1125_17, bk1125_43, bk1125_44, bk1125_52, bk1125_61, bk1125_89, bk1125_132, bk1125_138, Int.reduceToNat, vA_ap, Nat.reduceEqDiff, if_true, if_false, bx_nil, isL_I, isL_R, isL_U, if_ff, bind_some, tl_some, tl_none, bx_aload_0, gf376_17 hG, bx_if_eq, gf376_18 hG, bx_bipush, bx_iret, bx_iconst, bx_istore_1, bx_istore_2, bx_iload_2, gf376_16 hG, bx_ic_ge, bx_iload_1, gf376_14 hG, ia389 hG, is389 hG, bx_if_le, bx_goto, bx_iadd, bx_iinc2, bx_ic_le, pf376_21 hG, bx_isub, bx_if_lt, bx_if_ne, gf376_19 hG, ia391 hG, is391 hG, gf376_21 hG, gf376_13 hG, ia388 hG, is388 hG, gf376_20 hG, ia392 hG, is392 hG, bx_dupI, bx_dupR, hN, if_neg (show ¬ (N : Int) ≤ k by omega), if_pos a, decide_eq_false (show ¬ 0 < V 389 k by omega), if_neg (show ¬ false = true by simp), Int.add_zero]
        · simp (disch := first | omega | exact Nat.le_of_ble_eq_true rfl) only [bk1125_0, bk1125_14, bk1125_17, bk1125_43, bk1125_44, bk1125_52, bk1125_61, bk1125_89, bk1125_132, bk1125_138, Int.reduceToNat, vA_ap, Nat.reduceEqDiff, if_true, if_false, bx_nil, isL_I, isL_R, isL_U, if_ff, bind_some, tl_some, tl_none, bx_aload_0, gf376_17 hG, bx_if_eq, gf376_18 hG, bx_bipush, bx_iret, bx_iconst, bx_istore_1, bx_istore_2, bx_iload_2, gf376_16 hG, bx_ic_ge, bx_iload_1, gf376_14 hG, ia389 hG, is389 hG, bx_if_le, bx_goto, bx_iadd, bx_iinc2, bx_ic_le, pf376_21 hG, bx_isub, bx_if_lt, bx_if_ne, gf376_19 hG, ia391 hG, is391 hG, gf376_21 hG, gf376_13 hG, ia388 hG, is388 hG, gf376_20 hG, ia392 hG, is392 hG, bx_dupI, bx_dupR, hN, if_neg (show ¬ (N : Int) ≤ k by omega), if_neg a, decide_eq_true (show 0 < V 389 k by omega), if_true])
      rw [show cn (fun i => decide (0 < V 389 i)) 0 = 0 from rfl] at h
      rw [hN] at hs hb ⊢
      rw [Int.toNat_natCast]
      have e1 : run d 1125 0 [xR 376, xU, xU] [] (V, G) = run d 1125 21 [xR 376, xI 0, xI 0] [] (V, G) := by
        simp (disch := first | omega | exact Nat.le_of_ble_eq_true rfl) only [bk1125_0, bk1125_14, bk1125_17, bk1125_43, bk1125_44, bk1125_52, bk1125_61, bk1125_89, bk1125_132, bk1125_138, Int.reduceToNat, vA_ap, Nat.reduceEqDiff, if_true, if_false, bx_nil, isL_I, isL_R, isL_U, if_ff, bind_some, tl_some, tl_none, bx_aload_0, gf376_17 hG, bx_if_eq, gf376_18 hG, bx_bipush, bx_iret, bx_iconst, bx_istore_1, bx_istore_2, bx_iload_2, gf376_16 hG, bx_ic_ge, bx_iload_1, gf376_14 hG, ia389 hG, is389 hG, bx_if_le, bx_goto, bx_iadd, bx_iinc2, bx_ic_le, pf376_21 hG, bx_isub, bx_if_lt, bx_if_ne, gf376_19 hG, ia391 hG, is391 hG, gf376_21 hG, gf376_13 hG, ia388 hG, is388 hG, gf376_20 hG, ia392 hG, is392 hG, bx_dupI, bx_dupR, if_neg a, if_pos a2]
      rw [e1, h, bk1125_21]
      by_cases b : 10 < cn (fun i => decide (0 < V 389 i)) N
      · rw [if_pos b]
        simp (disch := first | omega | exact Nat.le_of_ble_eq_true rfl) only [bk1125_0, bk1125_14, bk1125_17, bk1125_43, bk1125_44, bk1125_52, bk1125_61, bk1125_89, bk1125_132, bk1125_138, Int.reduceToNat, vA_ap, Nat.reduceEqDiff, if_true, if_false, bx_nil, isL_I, isL_R, isL_U, if_ff, bind_some, tl_some, tl_none, bx_aload_0, gf376_17 hG, bx_if_eq, gf376_18 hG, bx_bipush, bx_iret, bx_iconst, bx_istore_1, bx_istore_2, bx_iload_2, gf376_16 hG, bx_ic_ge, bx_iload_1, gf376_14 hG, ia389 hG, is389 hG, bx_if_le, bx_goto, bx_iadd, bx_iinc2, bx_ic_le, pf376_21 hG, bx_isub, bx_if_lt, bx_if_ne, gf376_19 hG, ia391 hG, is391 hG, gf376_21 hG, gf376_13 hG, ia388 hG, is388 hG, gf376_20 hG, ia392 hG, is392 hG, bx_dupI, bx_dupR, hN, if_pos (show (N : Int) ≤ N by omega), if_neg (show ¬ cn (fun i => decide (0 < V 389 i)) N ≤ 10 by omega)]
      · rw [if_neg b]
        have e5 : vU (V 376) 21 0 16 = N := hN
        have h2 := m_undo_lp (d := d) (q := cn (fun i => decide (0 < V 389 i)) N) (V := V) hG N (0, V 391, V 392) (by omega) hb (Int.le_refl 0) (show 0 + _ ≤ 10 by omega)
        have e6 : mrow V (0, V 391, V 392) = vA V 376 (vU (V 376) 21 0) := by
          unfold mrow
          rw [vA_self, vA_self]
        rw [e6] at h2
        simp (disch := first | omega | exact Nat.le_of_ble_eq_true rfl) only [bk1125_0, bk1125_14, bk1125_17, bk1125_43, bk1125_44, bk1125_52, bk1125_61, bk1125_89, bk1125_132, bk1125_138, Int.reduceToNat, vA_ap, Nat.reduceEqDiff, if_true, if_false, bx_nil, isL_I, isL_R, isL_U, if_ff, bind_some, tl_some, tl_none, bx_aload_0, gf376_17 hG, bx_if_eq, gf376_18 hG, bx_bipush, bx_iret, bx_iconst, bx_istore_1, bx_istore_2, bx_iload_2, gf376_16 hG, bx_ic_ge, bx_iload_1, gf376_14 hG, ia389 hG, is389 hG, bx_if_le, bx_goto, bx_iadd, bx_iinc2, bx_ic_le, pf376_21 hG, bx_isub, bx_if_lt, bx_if_ne, gf376_19 hG, ia391 hG, is391 hG, gf376_21 hG, gf376_13 hG, ia388 hG, is388 hG, gf376_20 hG, ia392 hG, is392 hG, bx_dupI, bx_dupR, hN, if_pos (show (N : Int) ≤ N by omega), if_pos (show cn (fun i => decide (0 < V 389 i)) N ≤ 10 by omega), e5]
        exact h2
    · rw [if_pos (Or.inr a2)]
      simp (disch := first | omega | exact Nat.le_of_ble_eq_true rfl) only [bk1125_0, bk1125_14, bk1125_17, bk1125_43, bk1125_44, bk1125_52, bk1125_61, bk1125_89, bk1125_132, bk1125_138, Int.reduceToNat, vA_ap, Nat.reduceEqDiff, if_true, if_false, bx_nil, isL_I, isL_R, isL_U, if_ff, bind_some, tl_some, tl_none, bx_aload_0, gf376_17 hG, bx_if_eq, gf376_18 hG, bx_bipush, bx_iret, bx_iconst, bx_istore_1, bx_istore_2, bx_iload_2, gf376_16 hG, bx_ic_ge, bx_iload_1, gf376_14 hG, ia389 hG, is389 hG, bx_if_le, bx_goto, bx_iadd, bx_iinc2, bx_ic_le, pf376_21 hG, bx_isub, bx_if_lt, bx_if_ne, gf376_19 hG, ia391 hG, is391 hG, gf376_21 hG, gf376_13 hG, ia388 hG, is388 hG, gf376_20 hG, ia392 hG, is392 hG, bx_dupI, bx_dupR, if_neg a, if_neg a2]
/-- two rows of works say the same, and what they say may be -/
def rowE (n : Nat) (s s' : RS) : Prop := s.1 = s'.1 ∧ 0 ≤ s.1 ∧ (s.1 ≤ 10 → ∀ w, 0 ≤ w → w < s.1 → s.2.1 w = s'.2.1 w ∧ s.2.2 w = s'.2.2 w ∧ (0 ≤ s'.2.1 w ∧ s'.2.1 w + 1 < n) ∧ (0 ≤ s'.2.2 w ∧ s'.2.2 w ≤ 95))
theorem rowE_add {s s' : RS} {u k : Int} (h : rowE n s s') (hu : 0 ≤ u ∧ u + 1 < (n : Int)) (hk : 0 ≤ k ∧ k ≤ 95) : rowE n (addR s u k) (addR s' u k) := by
  obtain ⟨h1, h2, h3⟩ := h
  unfold addR
  by_cases a : 10 ≤ s.1
  · rw [if_pos a, if_pos (by omega)]
    exact ⟨rfl, by simp, fun z => by simp at z⟩
  · rw [if_neg a, if_neg (by omega)]
    refine ⟨by simp; exact h1, by simp; omega, fun _ w w0 w1 => ?_⟩
    have w2 : w < s.1 + 1 := w1
    simp only
    rw [← h1]
    by_cases e : w = s.1
    · subst e
      simp only [vU_at]
      exact ⟨trivial, trivial, hu, hk⟩
    · simp only [vU_ne e]
      exact h3 (by omega) w w0 (by omega)
theorem undR_E {up by' up' by2 : Int → Int} : ∀ (m : Nat) (s s' : RS), (∀ i, 0 ≤ i → i < (m : Int) → up i = up' i ∧ by' i = by2 i ∧ (0 ≤ up' i ∧ up' i + 1 < (n : Int)) ∧ (0 ≤ by2 i ∧ by2 i ≤ 95)) → rowE n s s' → rowE n (undR up by' m s) (undR up' by2 m s')
  | 0, _, _, _, h => h
  | m + 1, s, s', hi, h => by
    unfold undR
    obtain ⟨e1, e2, e3, e4⟩ := hi m (by omega) (by omega)
    refine undR_E m _ _ (fun i i0 i1 => hi i i0 (by omega)) ?_
    rw [e1, e2]
    by_cases a : 0 < by2 m
    · rw [if_pos a, if_pos a]
      exact rowE_add h e3 (by omega)
    · rw [if_neg a, if_neg a]; exact h
theorem undR_cn {up by' : Int → Int} : ∀ (m : Nat) (s : RS), 0 ≤ s.1 → s.1 + cn (fun i => decide (0 < by' i)) m ≤ 10 → (undR up by' m s).1 = s.1 + cn (fun i => decide (0 < by' i)) m
  | 0, s, _, _ => by
    show s.1 = s.1 + 0
    omega
  | m + 1, s, h0, h1 => by
    have hcb := cn_bd (p := fun i => decide (0 < by' i)) (k := m) (by omega)
    rw [show (((m + 1 : Nat) : Int)) = (m : Int) + 1 by omega, cn_up (by omega)] at h1 ⊢
    unfold undR
    by_cases a : 0 < by' m
    · rw [if_pos a]
      rw [decide_eq_true a, if_pos rfl] at h1 ⊢
      have e : (addR s (up m) (96 - by' m)).1 = s.1 + 1 := by unfold addR; rw [if_neg (by omega)]
      rw [undR_cn m _ (by rw [e]; omega) (by rw [e]; omega), e]
      omega
    · rw [if_neg a]
      rw [decide_eq_false a] at h1 ⊢
      simp at h1 ⊢
      exact undR_cn m s h0 h1
/-- both rows of works are others -/
theorem Inv.wk {s s' : RS} (h : Inv n V) (he : rowE n s s') (h10 : s.1 ≤ 10) : Inv n (mrow (setRow V 29 s) s') := by
  have hn := h.nn
  obtain ⟨e1, e2, e3⟩ := he
  unfold mrow setRow
  refine ⟨h.nn, h.l5, h.l12, h.l35, h.lm, h.lim, h.cc, h.ss, h.rC, h.rS, h.lan, h.set, h.stk, h.off, h.own, h.cre, h.lig, tldP_tr hn.2 h.tld (fun c hc => by repeat rw [vA_ne (by omega)]) rfl, h.stp, h.spl, sgnP_tr hn.2 h.sgn (fun c hc => by repeat rw [vA_ne (by omega)]) rfl rfl, ?_, h.tap, h.ent, h.fnd, runP_tr h.rns (fun c hc => ⟨by repeat rw [vA_ne (by omega)], by repeat rw [vA_ne (by omega)], by repeat rw [vA_ne (by omega)]⟩) ⟨rfl, rfl, rfl⟩ rfl, h.prb⟩
  refine ⟨?_, ?_, ?_⟩
  · show s'.1 = s.1
    exact e1.symm
  · show 0 ≤ s.1 ∧ s.1 ≤ 10
    omega
  · intro w w0 w1
    exact e3 h10 w w0 w1
theorem pr_undo (hG : Good n L G) (h : Inv n V) : pair n G V 1014 1125 [xR 1] [xR 376, xU, xU] := by
  have hn := h.nn
  obtain ⟨s1, s2, s3⟩ := h.stp
  obtain ⟨p1, p2, p3, p4, p5⟩ := h.spl
  have hx := xp_undo (d := 797) hG s2 (fun i i0 i1 => by rw [(s3 i i0 i1).2.1]; exact (s3 i i0 i1).2.2.2)
  have hcn : cn (fun i => decide (0 < V 14 i)) (V 12 6) = cn (fun i => decide (0 < V 389 i)) (V 12 6) := by
    unfold cn
    exact cntF_cong _ _ (fun j j0 j1 => by rw [(s3 j j0 (by omega)).2.1])
  have hm0 := mp_undo (d := 799) (V := V) hG (by rw [s1]; exact s2) (fun i i0 i1 => (s3 i i0 (by omega)).2.2.2)
  by_cases a : V 12 7 = 0
  · rw [if_pos a] at hx
    rw [if_pos (by omega)] at hm0
    exact mkpair hx hm0 h
  · have a2 := p4.mp (by omega)
    rw [if_neg a] at hx
    have a3 : ¬ (V 376 17 = 0 ∨ ¬ V 376 18 = 0) := by omega
    by_cases b : 10 < cn (fun i => decide (0 < V 14 i)) (V 12 6)
    · rw [if_pos b] at hx
      rw [if_neg a3, if_pos (by rw [s1, ← hcn]; exact b)] at hm0
      exact mkpair hx hm0 h
    · rw [if_neg b] at hx
      have f : ∀ c, 32 ≤ c → setRow V 29 (undX V) c = V c := fun c hc => setRow_ap (by omega) (by omega) (by omega)
      have hm := mp_undo (d := 799) (V := setRow V 29 (undX V)) hG (by rw [f 376 (by omega), s1]; exact s2) (fun i i0 i1 => by
        rw [f 376 (by omega)] at i1
        rw [f 389 (by omega)]
        exact (s3 i i0 (by omega)).2.2.2)
      rw [f 376 (by omega), f 389 (by omega), f 388 (by omega), f 391 (by omega), f 392 (by omega), if_neg a3, s1, if_neg (by rw [← hcn]; exact b)] at hm
      have hE : rowE n (undX V) (undR (V 388) (V 389) (V 12 6).toNat (0, V 391, V 392)) := undR_E _ _ _ (fun i i0 i1 => s3 i i0 (by omega)) ⟨rfl, Int.le_refl 0, fun _ w w0 w1 => absurd (show w < 0 from w1) (by omega)⟩
      have h10 : (undX V).1 ≤ 10 := by
        unfold undX
        rw [undR_cn _ _ (Int.le_refl 0) (by rw [show (((V 12 6).toNat : Nat) : Int) = V 12 6 by omega]; show 0 + _ ≤ _; omega), show (((V 12 6).toNat : Nat) : Int) = V 12 6 by omega]
        show 0 + _ ≤ _
        omega
      refine mkpair (hx.trans (by rw [hE.1])) hm (h.wk hE h10)
end UD
