/-! MEMORY, NUMBERS, and the JDK's small methods -/
theorem vA_ap (V : Nat → Int → Int) (a : Nat) (f : Int → Int) (b : Nat) : vA V a f b = if b = a then f else V b := rfl
theorem vA_vA (V : Nat → Int → Int) (a : Nat) (f g : Int → Int) : vA (vA V a f) a g = vA V a g := by
  funext b; by_cases h : b = a <;> simp [vA, h]
theorem vA_self (V : Nat → Int → Int) (a : Nat) : vA V a (V a) = V := by
  funext b; by_cases h : b = a <;> simp [vA, h]
theorem vA_same (V : Nat → Int → Int) (a : Nat) (f : Int → Int) : vA V a f a = f := by simp [vA]
theorem vA_ne {V : Nat → Int → Int} {a b : Nat} {f : Int → Int} (h : b ≠ a) : vA V a f b = V b := by simp [vA, h]
theorem vA_ext {V : Nat → Int → Int} {a : Nat} {f g : Int → Int} (h : ∀ j, f j = g j) : vA V a f = vA V a g := by rw [show f = g from funext h]
theorem vA_id {V : Nat → Int → Int} {a : Nat} {f : Int → Int} (h : ∀ j, f j = V a j) : vA V a f = V := by rw [show f = V a from funext h, vA_self]
theorem vU_at (f : Int → Int) (i x : Int) : vU f i x i = x := by simp [vU]
theorem vU_ne {f : Int → Int} {i j x : Int} (h : j ≠ i) : vU f i x j = f j := by simp [vU, h]
theorem tm_em {x y : Int} (hy : 0 < y) : (x.tmod y = x % y ∧ 0 ≤ x.tmod y) ∨ (x.tmod y = x % y - y ∧ x.tmod y < 0) := by
  have h1 := @Int.tmod_eq_emod x y
  have h2 := Int.emod_nonneg x (by omega : y ≠ 0)
  have h3 := Int.emod_lt_of_pos x hy
  split at h1
  · left; omega
  · right; omega
theorem tm_pos {x y : Int} (hx : 0 ≤ x) (hy : 0 < y) : x.tmod y = x % y := Int.tmod_eq_emod_of_nonneg hx
theorem td_pos {x y : Int} (hx : 0 ≤ x) : x.tdiv y = x / y := Int.tdiv_eq_ediv_of_nonneg hx
theorem xor_sgn {x y : Int} (hx : i32 x) (hy : i32 y) (h0 : 0 ≤ y) : (0 ≤ b32 (fun a b => a ^^^ b) x y) = (0 ≤ x) := by
  have e : (b32 (fun a b => a ^^^ b) x y) = ((Int32.ofInt x).toBitVec ^^^ (Int32.ofInt y).toBitVec).toInt := rfl
  have h1 := BitVec.msb_eq_toInt (x := (Int32.ofInt x).toBitVec ^^^ (Int32.ofInt y).toBitVec)
  have h2 := BitVec.msb_eq_toInt (x := (Int32.ofInt x).toBitVec)
  have h3 := BitVec.msb_eq_toInt (x := (Int32.ofInt y).toBitVec)
  have h4 : ((Int32.ofInt x).toBitVec).toInt = x := n32 hx
  have h5 : ((Int32.ofInt y).toBitVec).toInt = y := n32 hy
  rw [BitVec.msb_xor, h2, h3, h4, h5, ← e] at h1
  apply propext
  have h6 : decide (y < 0) = false := decide_eq_false (by omega)
  rw [h6, Bool.xor_false] at h1
  by_cases hx0 : x < 0
  · rw [decide_eq_true hx0] at h1
    have := of_decide_eq_true h1.symm
    omega
  · rw [decide_eq_false hx0] at h1
    have := of_decide_eq_false h1.symm
    omega
section JD
variable {n L d : Nat} {G : XG} {V : Nat → Int → Int} {μ : XM}
theorem j_floorMod {x y : Int} (hx : i32 x) (hy : 0 < y) (hy2 : y < 1000000) : run d 1300 0 [xI x, xI y, xU] [] μ = some (some (xI (x % y)), μ) := by
  have h1 := tm_em (x := x) hy
  have h2 := Int.emod_nonneg x (by omega : y ≠ 0)
  have h3 := Int.emod_lt_of_pos x hy
  have h4 : i32 (x.tmod y) := i32_tmod hx
  have h5 := xor_sgn hx (⟨by omega, by omega⟩ : i32 y) (by omega)
  have h6 : 0 ≤ x → 0 ≤ x.tmod y := fun h => Int.tmod_nonneg y h
  have h7 : x < 0 → x.tmod y ≤ 0 := fun h => by
    have h8 := Int.tmod_nonneg y (a := -x) (by omega)
    rw [Int.neg_tmod] at h8
    omega
  rw [bk1300_0]
  simp only [bx_iload_0, bx_iload_1]
  rw [bx_irem hy]
  generalize x.tmod y = t at *
  simp (disch := first | omega | exact Nat.le_of_ble_eq_true rfl) only [bk1300_0, bk1300_18, Int.reduceToNat, vA_ap, Nat.reduceEqDiff, if_true, if_false, bx_nil, isL_I, isL_R, isL_U, if_ff, bind_some, tl_some, tl_none, bx_iload_0, bx_iload_1, bx_irem, bx_istore_2, bx_ixor, bx_if_ge, bx_iload_2, bx_if_eq, bx_iadd, bx_iret, h5]
  repeat' split
  all_goals first | rfl | (exfalso; omega) | (congr 4; omega)
theorem j_min {x y : Int} : run d 1301 0 [xI x, xI y] [] μ = some (some (xI (if x ≤ y then x else y)), μ) := by
  simp (disch := first | omega | exact Nat.le_of_ble_eq_true rfl) only [bk1301_0, bk1301_9, bk1301_10, Int.reduceToNat, vA_ap, Nat.reduceEqDiff, if_true, if_false, bx_nil, isL_I, isL_R, isL_U, if_ff, bind_some, tl_some, tl_none, bx_iload_0, bx_iload_1, bx_ic_gt, bx_goto, bx_iret]
  repeat' split
  all_goals first | rfl | (exfalso; omega)
theorem j_max {x y : Int} : run d 1303 0 [xI x, xI y] [] μ = some (some (xI (if x < y then y else x)), μ) := by
  simp (disch := first | omega | exact Nat.le_of_ble_eq_true rfl) only [bk1303_0, bk1303_9, bk1303_10, Int.reduceToNat, vA_ap, Nat.reduceEqDiff, if_true, if_false, bx_nil, isL_I, isL_R, isL_U, if_ff, bind_some, tl_some, tl_none, bx_iload_0, bx_iload_1, bx_ic_lt, bx_goto, bx_iret]
  split <;> rfl
theorem j_abs {x : Int} (h : -2147483648 < x ∧ x < 2147483648) : run d 1302 0 [xI x] [] μ = some (some (xI (if 0 ≤ x then x else -x)), μ) := by
  by_cases h0 : 0 ≤ x
  · simp (disch := first | omega | exact Nat.le_of_ble_eq_true rfl) only [bk1302_0, bk1302_9, bk1302_10, Int.reduceToNat, vA_ap, Nat.reduceEqDiff, if_true, if_false, bx_nil, isL_I, isL_R, isL_U, if_ff, bind_some, tl_some, tl_none, bx_iload_0, bx_if_ge, bx_ineg, bx_goto, bx_iret, if_pos h0]
  · simp (disch := first | omega | exact Nat.le_of_ble_eq_true rfl) only [bk1302_0, bk1302_9, bk1302_10, Int.reduceToNat, vA_ap, Nat.reduceEqDiff, if_true, if_false, bx_nil, isL_I, isL_R, isL_U, if_ff, bind_some, tl_some, tl_none, bx_iload_0, bx_if_ge, bx_ineg, bx_goto, bx_iret, if_neg h0]
theorem j_fill_lp {a len : Nat} {v : Int} (hs : G.1 a = (1, len)) (hl : len ≤ 100000) : ∀ (m : Nat) (i : Int) (V : Nat → Int → Int), 0 ≤ i → i ≤ len → ((len : Int) - i).toNat = m → run d 1400 5 [xR a, xI v, xI i, xI len] [] (V, G) = some (none, (vA V a (fun j => if i ≤ j ∧ j < len then v else V a j), G)) := by
  intro m
  induction m with
  | zero =>
    intro i V h0 h1 hm
    rw [bk1400_5]
    simp (disch := first | omega | exact Nat.le_of_ble_eq_true rfl) only [bk1400_0, bk1400_20, Int.reduceToNat, vA_ap, Nat.reduceEqDiff, if_true, if_false, bx_nil, isL_I, isL_R, isL_U, if_ff, bind_some, tl_some, tl_none, bx_iconst, bx_istore_2, bx_aload_0, bx_istore_3, bx_iload_2, bx_iload_3, bx_ic_ge, bx_iload_1, bx_iinc2, bx_goto, bx_vret, if_pos (show (len : Int) ≤ i by omega)]
    rw [vA_id (fun j => if_neg (by omega))]
  | succ m ih =>
    intro i V h0 h1 hm
    rw [bk1400_5]
    simp (disch := first | omega | exact Nat.le_of_ble_eq_true rfl) only [bk1400_0, bk1400_20, Int.reduceToNat, vA_ap, Nat.reduceEqDiff, if_true, if_false, bx_nil, isL_I, isL_R, isL_U, if_ff, bind_some, tl_some, tl_none, bx_iconst, bx_istore_2, bx_aload_0, bx_istore_3, bx_iload_2, bx_iload_3, bx_ic_ge, bx_iload_1, bx_iinc2, bx_goto, bx_vret, if_neg (show ¬ (len : Int) ≤ i by omega), bx_iast hs]
    rw [ih (i + 1) _ (by omega) (by omega) (by omega), vA_vA]
    congr 3
    refine vA_ext (fun j => ?_)
    by_cases h : j = i
    · subst h
      rw [if_neg (by omega), if_pos (by omega), vA_same, vU_at]
    · rw [vA_same, vU_ne h]
      by_cases h2 : i ≤ j ∧ j < len
      · rw [if_pos (by omega), if_pos h2]
      · rw [if_neg (by omega), if_neg h2]
theorem j_fill {a len : Nat} {v : Int} (hs : G.1 a = (1, len)) (hl : len ≤ 100000) : run d 1400 0 [xR a, xI v, xU, xU] [] (V, G) = some (none, (vA V a (fun j => if 0 ≤ j ∧ j < len then v else V a j), G)) := by
  simp (disch := first | omega | exact Nat.le_of_ble_eq_true rfl) only [bk1400_0, bk1400_20, Int.reduceToNat, vA_ap, Nat.reduceEqDiff, if_true, if_false, bx_nil, isL_I, isL_R, isL_U, if_ff, bind_some, tl_some, tl_none, bx_iconst, bx_istore_2, bx_aload_0, bx_istore_3, bx_iload_2, bx_iload_3, bx_ic_ge, bx_iload_1, bx_iinc2, bx_goto, bx_vret, bx_alen hs ⟨Or.inl rfl, hl⟩]
  exact j_fill_lp hs hl _ 0 V (by omega) (by omega) rfl
end JD
