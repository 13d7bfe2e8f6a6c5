/-! THE CLASS: Row and Log -/
abbrev RS : Type := Int × (Int → Int) × (Int → Int)
def rowOf (V : Nat → Int → Int) (r : Nat) : RS := (V r 2, V (r + 1), V (r + 2))
def setRow (V : Nat → Int → Int) (r : Nat) (s : RS) : Nat → Int → Int := vA (vA (vA V (r + 1) s.2.1) (r + 2) s.2.2) r (vU (V r) 2 s.1)
def addR (s : RS) (u k : Int) : RS := if 10 ≤ s.1 then (11, s.2) else (s.1 + 1, vU s.2.1 s.1 u, vU s.2.2 s.1 k)
def adds (o : RS) : Nat → Int → RS → RS
  | 0, _, s => s
  | m + 1, j, s => adds o m (j + 1) (addR s (o.2.1 j) (o.2.2 j))
def addAll (s o : RS) : RS := if 11 ≤ o.1 then (11, s.2) else adds o o.1.toNat 0 s
theorem row_mod {r : Nat} (h : isRow r) : r % 3 = 2 ∧ 29 ≤ r ∧ r < 411 := by
  rcases h with h | ⟨k, h1, h2⟩ | ⟨k, h1, h2⟩ <;> omega
theorem setRow_ap {V : Nat → Int → Int} {r b : Nat} {s : RS} (h1 : b ≠ r) (h2 : b ≠ r + 1) (h3 : b ≠ r + 2) : setRow V r s b = V b := by
  simp [setRow, vA, h1, h2, h3]
theorem rowOf_set {V : Nat → Int → Int} {r : Nat} {s : RS} : rowOf (setRow V r s) r = s := by
  simp [rowOf, setRow, vA, vU]
theorem rowOf_ne {V : Nat → Int → Int} {r r' : Nat} {s : RS} (h : r % 3 = 2) (h' : r' % 3 = 2) (hne : r' ≠ r) : rowOf (setRow V r s) r' = rowOf V r' := by
  unfold rowOf
  rw [setRow_ap (by omega) (by omega) (by omega), setRow_ap (by omega) (by omega) (by omega), setRow_ap (by omega) (by omega) (by omega)]
theorem setRow_set {V : Nat → Int → Int} {r : Nat} {s s' : RS} : setRow (setRow V r s) r s' = setRow V r s' := by
  funext b
  by_cases h1 : b = r
  · subst h1
    funext j
    by_cases hj : j = 2 <;> simp [setRow, vA, vU, hj]
  · by_cases h2 : b = r + 1
    · subst h2; simp [setRow, vA]
    · by_cases h3 : b = r + 2
      · subst h3; simp [setRow, vA]
      · rw [setRow_ap h1 h2 h3, setRow_ap h1 h2 h3, setRow_ap h1 h2 h3]
theorem setRow_self {V : Nat → Int → Int} {r : Nat} : setRow V r (rowOf V r) = V := by
  funext b
  by_cases h1 : b = r
  · subst h1
    funext j
    by_cases hj : j = 2 <;> simp [setRow, rowOf, vA, vU, hj]
  · by_cases h2 : b = r + 1
    · subst h2; simp [setRow, rowOf, vA]
    · by_cases h3 : b = r + 2
      · subst h3; simp [setRow, rowOf, vA]
      · rw [setRow_ap h1 h2 h3]
theorem addR_bd {s : RS} {u k : Int} (h : 0 ≤ s.1 ∧ s.1 ≤ 11) : 0 ≤ (addR s u k).1 ∧ (addR s u k).1 ≤ 11 := by
  unfold addR
  split
  · simp
  · simp; omega
theorem adds_bd {o : RS} : ∀ (m : Nat) (j : Int) (s : RS), (0 ≤ s.1 ∧ s.1 ≤ 11) → 0 ≤ (adds o m j s).1 ∧ (adds o m j s).1 ≤ 11
  | 0, _, _, h => h
  | m + 1, j, s, h => adds_bd m (j + 1) _ (addR_bd h)
theorem addAll_bd {s o : RS} (h : 0 ≤ s.1 ∧ s.1 ≤ 11) : 0 ≤ (addAll s o).1 ∧ (addAll s o).1 ≤ 11 := by
  unfold addAll
  split
  · simp
  · exact adds_bd _ _ _ h
section XR
variable {n L d : Nat} {G : XG} {μ : XM}
theorem w_clear {V : Nat → Int → Int} {r : Nat} (hG : Good n L G) (hr : isRow r) : run d 601 0 [xR r] [] (V, G) = some (none, (setRow V r (0, V (r + 1), V (r + 2)), G)) := by
  simp (disch := first | omega | exact Nat.le_of_ble_eq_true rfl) only [bk601_0, Int.reduceToNat, vA_ap, Nat.reduceEqDiff, if_true, if_false, bx_nil, isL_I, isL_R, isL_U, if_ff, bind_some, tl_some, tl_none, bx_aload_0, bx_iconst, bx_vret, rp_size hG hr]
  refine congrArg (fun z => some (none, (z, G))) ?_
  unfold setRow
  rw [vA_self, vA_self]
theorem w_tooLong {V : Nat → Int → Int} {r : Nat} (hG : Good n L G) (hr : isRow r) : run d 604 0 [xR r] [] (V, G) = some (some (xI (b1 (11 ≤ V r 2))), (V, G)) := by
  unfold b1
  simp (disch := first | omega | exact Nat.le_of_ble_eq_true rfl) only [bk604_0, bk604_13, bk604_14, Int.reduceToNat, vA_ap, Nat.reduceEqDiff, if_true, if_false, bx_nil, isL_I, isL_R, isL_U, if_ff, bind_some, tl_some, tl_none, bx_aload_0, bx_bipush, bx_ic_lt, bx_iconst, bx_goto, bx_zret, rg_size hG hr]
  repeat' split
  all_goals first | rfl | (exfalso; omega)
theorem w_add {V : Nat → Int → Int} {r : Nat} {u k : Int} (hG : Good n L G) (hr : isRow r) (hs : 0 ≤ V r 2) : run d 602 0 [xR r, xI u, xI k] [] (V, G) = some (none, (setRow V r (addR (rowOf V r) u k), G)) := by
  unfold addR
  by_cases h : 10 ≤ V r 2
  · rw [if_pos (show 10 ≤ (rowOf V r).1 from h)]
    simp (disch := first | omega | exact Nat.le_of_ble_eq_true rfl) only [bk602_0, bk602_16, Int.reduceToNat, vA_ap, Nat.reduceEqDiff, if_true, if_false, bx_nil, isL_I, isL_R, isL_U, if_ff, bind_some, tl_some, tl_none, bx_aload_0, bx_bipush, bx_ic_lt, bx_vret, bx_iload_1, bx_iload_2, bx_dupI, bx_dupR, bx_iconst, bx_iadd, rg_size hG hr, rp_size hG hr, if_neg (show ¬ V r 2 < 10 by omega)]
    refine congrArg (fun z => some (none, (z, G))) ?_
    unfold setRow rowOf
    rw [vA_self, vA_self]
  · rw [if_neg (show ¬ 10 ≤ (rowOf V r).1 from h)]
    have e1 : ¬ r = r + 1 := by omega
    have e2 : ¬ r = r + 2 := by omega
    have e3 : ¬ r + 2 = r + 1 := by omega
    simp (disch := first | omega | exact Nat.le_of_ble_eq_true rfl) only [bk602_0, bk602_16, Int.reduceToNat, vA_ap, Nat.reduceEqDiff, if_true, if_false, bx_nil, isL_I, isL_R, isL_U, if_ff, bind_some, tl_some, tl_none, bx_aload_0, bx_bipush, bx_ic_lt, bx_vret, bx_iload_1, bx_iload_2, bx_dupI, bx_dupR, bx_iconst, bx_iadd, rg_size hG hr, rp_size hG hr, rg_lane hG hr, rg_turn hG hr, rs_lane hG hr, rs_turn hG hr, if_pos (show V r 2 < 10 by omega), e1, e2, e3]
    refine congrArg (fun z => some (none, (z, G))) ?_
    unfold setRow rowOf
    simp only [vA_ap, e1, e2, e3, if_false]
theorem w_addAll_lp {r o : Nat} {z : RS} (hG : Good n L G) (hr : isRow r) (ho : isRow o) (hne : o ≠ r) (hz : 0 ≤ z.1 ∧ z.1 ≤ 10) : ∀ (m : Nat) (j : Int) (V : Nat → Int → Int), rowOf V o = z → 0 ≤ j → j + m = z.1 → 0 ≤ V r 2 ∧ V r 2 ≤ 11 → run (d + 1) 603 16 [xR r, xR o, xI j] [] (V, G) = some (none, (setRow V r (adds z m j (rowOf V r)), G)) := by
  have hm1 := row_mod hr
  have hm2 := row_mod ho
  intro m
  induction m with
  | zero =>
    intro j V e h0 hm hs
    have e2 : V o 2 = z.1 := by rw [← e]; rfl
    rw [bk603_16]
    simp (disch := first | omega | exact Nat.le_of_ble_eq_true rfl) only [bk603_0, bk603_14, bk603_46, Int.reduceToNat, vA_ap, Nat.reduceEqDiff, if_true, if_false, bx_nil, isL_I, isL_R, isL_U, if_ff, bind_some, tl_some, tl_none, bx_aload_1, bx_if_eq, bx_aload_0, bx_bipush, bx_vret, bx_iconst, bx_istore_2, bx_iload_2, bx_ic_ge, bx_iinc2, bx_goto, rg_size hG ho, e2, if_pos (show z.1 ≤ j by omega)]
    rw [show adds z 0 j (rowOf V r) = rowOf V r from rfl, setRow_self]
  | succ m ih =>
    intro j V e h0 hm hs
    have e2 : V o 2 = z.1 := by rw [← e]; rfl
    rw [bk603_16]
    simp (disch := first | omega | exact Nat.le_of_ble_eq_true rfl) only [bk603_0, bk603_14, bk603_46, Int.reduceToNat, vA_ap, Nat.reduceEqDiff, if_true, if_false, bx_nil, isL_I, isL_R, isL_U, if_ff, bind_some, tl_some, tl_none, bx_aload_1, bx_if_eq, bx_aload_0, bx_bipush, bx_vret, bx_iconst, bx_istore_2, bx_iload_2, bx_ic_ge, bx_iinc2, bx_goto, rg_size hG ho, e2, if_neg (show ¬ z.1 ≤ j by omega), rg_lane hG ho, rg_turn hG ho, ri_lane hG ho, ri_turn hG ho, cl602 hG hr, w_add hG hr hs.1]
    have e3 : V (o + 1) j = z.2.1 j := by rw [← e]; rfl
    have e4 : V (o + 2) j = z.2.2 j := by rw [← e]; rfl
    have hbd : 0 ≤ (addR (rowOf V r) (V (o + 1) j) (V (o + 2) j)).1 ∧ (addR (rowOf V r) (V (o + 1) j) (V (o + 2) j)).1 ≤ 11 := addR_bd hs
    have e5 : setRow V r (addR (rowOf V r) (V (o + 1) j) (V (o + 2) j)) r 2 = (addR (rowOf V r) (V (o + 1) j) (V (o + 2) j)).1 := by
      have := congrArg (fun s : RS => s.1) (rowOf_set (V := V) (r := r) (s := addR (rowOf V r) (V (o + 1) j) (V (o + 2) j)))
      exact this
    rw [ih (j + 1) _ (by rw [rowOf_ne hm1.1 hm2.1 hne]; exact e) (by omega) (by omega) (by rw [e5]; exact hbd), rowOf_set, setRow_set, e3, e4]
    rfl
theorem w_addAll {V : Nat → Int → Int} {r o : Nat} (hG : Good n L G) (hr : isRow r) (ho : isRow o) (hne : o ≠ r) (hs : 0 ≤ V r 2 ∧ V r 2 ≤ 11) (hz : 0 ≤ V o 2 ∧ V o 2 ≤ 11) : run (d + 1) 603 0 [xR r, xR o, xU] [] (V, G) = some (none, (setRow V r (addAll (rowOf V r) (rowOf V o)), G)) := by
  unfold addAll
  by_cases h : 11 ≤ V o 2
  · rw [if_pos (show 11 ≤ (rowOf V o).1 from h)]
    simp (disch := first | omega | exact Nat.le_of_ble_eq_true rfl) only [bk603_0, bk603_14, bk603_46, Int.reduceToNat, vA_ap, Nat.reduceEqDiff, if_true, if_false, bx_nil, isL_I, isL_R, isL_U, if_ff, bind_some, tl_some, tl_none, bx_aload_1, bx_if_eq, bx_aload_0, bx_bipush, bx_vret, bx_iconst, bx_istore_2, bx_iload_2, bx_ic_ge, bx_iinc2, bx_goto, cl604 hG ho, w_tooLong hG ho, b1_t h, if_neg (show ¬ (1 : Int) = 0 by omega), rp_size hG hr]
    refine congrArg (fun z => some (none, (z, G))) ?_
    unfold setRow rowOf
    rw [vA_self, vA_self]
  · rw [if_neg (show ¬ 11 ≤ (rowOf V o).1 from h)]
    simp (disch := first | omega | exact Nat.le_of_ble_eq_true rfl) only [bk603_0, bk603_14, bk603_46, Int.reduceToNat, vA_ap, Nat.reduceEqDiff, if_true, if_false, bx_nil, isL_I, isL_R, isL_U, if_ff, bind_some, tl_some, tl_none, bx_aload_1, bx_if_eq, bx_aload_0, bx_bipush, bx_vret, bx_iconst, bx_istore_2, bx_iload_2, bx_ic_ge, bx_iinc2, bx_goto, cl604 hG ho, w_tooLong hG ho, b1_f h]
    exact w_addAll_lp hG hr ho hne (show 0 ≤ (rowOf V o).1 ∧ (rowOf V o).1 ≤ 10 from ⟨hz.1, by show V o 2 ≤ 10; omega⟩) _ 0 V rfl (by omega) (by show 0 + ((V o 2).toNat : Int) = V o 2; omega) hs
theorem w_copy {V : Nat → Int → Int} {r o : Nat} (hG : Good n L G) (hr : isRow r) (ho : isRow o) (hne : o ≠ r) (hz : 0 ≤ V o 2 ∧ V o 2 ≤ 11) : run (d + 2) 605 0 [xR r, xR o] [] (V, G) = some (none, (setRow V r (addAll (0, V (r + 1), V (r + 2)) (rowOf V o)), G)) := by
  have hm1 := row_mod hr
  have hm2 := row_mod ho
  simp (disch := first | omega | exact Nat.le_of_ble_eq_true rfl) only [bk605_0, Int.reduceToNat, vA_ap, Nat.reduceEqDiff, if_true, if_false, bx_nil, isL_I, isL_R, isL_U, if_ff, bind_some, tl_some, tl_none, bx_aload_0, bx_aload_1, bx_vret, cl601 hG hr, w_clear hG hr, cl603 hG hr]
  have e1 : setRow V r (0, V (r + 1), V (r + 2)) r 2 = 0 := by simp [setRow, vA, vU]
  have e2 : setRow V r (0, V (r + 1), V (r + 2)) o = V o := setRow_ap (by omega) (by omega) (by omega)
  rw [w_addAll hG hr ho hne (by rw [e1]; omega) (by rw [e2]; exact hz), rowOf_set, rowOf_ne hm1.1 hm2.1 hne, setRow_set]
  simp only [bind_some, tl_none, bx_vret]
theorem g_isFull {V : Nat → Int → Int} (hG : Good n L G) : run d 201 0 [xR 212] [] (V, G) = some (some (xI (b1 (60 ≤ V 212 0))), (V, G)) := by
  unfold b1
  simp (disch := first | omega | exact Nat.le_of_ble_eq_true rfl) only [bk201_0, bk201_13, bk201_14, Int.reduceToNat, vA_ap, Nat.reduceEqDiff, if_true, if_false, bx_nil, isL_I, isL_R, isL_U, if_ff, bind_some, tl_some, tl_none, bx_aload_0, gf212_0 hG, bx_bipush, bx_ic_lt, bx_iconst, bx_goto, bx_zret]
  repeat' split
  all_goals first | rfl | (exfalso; omega)
theorem g_addSetting {V : Nat → Int → Int} (hG : Good n L G) (h : 0 ≤ V 212 0 ∧ V 212 0 ≤ 60) : run d 202 0 [xR 212] [] (V, G) = some (none, (vA V 212 (vU (V 212) 0 (V 212 0 + 1)), G)) := by
  simp (disch := first | omega | exact Nat.le_of_ble_eq_true rfl) only [bk202_0, Int.reduceToNat, vA_ap, Nat.reduceEqDiff, if_true, if_false, bx_nil, isL_I, isL_R, isL_U, if_ff, bind_some, tl_some, tl_none, bx_aload_0, bx_dupI, bx_dupR, gf212_0 hG, bx_iconst, bx_iadd, pf212_0 hG, bx_vret]
theorem g_addFound {V : Nat → Int → Int} {c k t : Int} (hG : Good n L G) (h : 0 ≤ V 212 0 ∧ V 212 0 ≤ 60) (hf : 0 ≤ V 212 1 ∧ V 212 1 < 60) : run d 204 0 [xR 212, xI c, xI k, xI t] [] (V, G) = some (none, (vA (vA (vA (vA V 213 (vU (V 213) (V 212 1) c)) 214 (vU (V 214) (V 212 1) k)) 215 (vU (V 215) (V 212 1) t)) 212 (vU (vU (V 212) 1 (V 212 1 + 1)) 0 (V 212 0 + 1)), G)) := by
  have e : vU (V 212) 1 (V 212 1 + 1) 0 = V 212 0 := rfl
  simp (disch := first | omega | exact Nat.le_of_ble_eq_true rfl) only [bk204_0, bk204_10, Int.reduceToNat, vA_ap, Nat.reduceEqDiff, if_true, if_false, bx_nil, isL_I, isL_R, isL_U, if_ff, bind_some, tl_some, tl_none, bx_aload_0, gf212_1 hG, bx_bipush, bx_ic_lt, bx_vret, gf212_2 hG, ia213 hG, is213 hG, bx_iload_1, gf212_3 hG, ia214 hG, is214 hG, bx_iload_2, gf212_4 hG, ia215 hG, is215 hG, bx_iload_3, bx_dupI, bx_dupR, bx_iconst, bx_iadd, pf212_1 hG, gf212_0 hG, pf212_0 hG, if_pos hf.2, e]
  rw [vA_vA]
end XR
