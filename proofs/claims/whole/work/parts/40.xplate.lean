/-! THE CLASS: Circle and Plate -/
abbrev htX (k : Int) : Int := if k ≤ 96 - k then k else 96 - k
def kX (S B : Int → Int) (c : Int) : Int := if S c = -1 then B c else S c
def wX (S B : Int → Int) (cr c : Int) : Int := ((if 0 < c % 3 then htX (kX S B (c - 1)) else 0) + (if c % 3 < 2 then htX (kX S B (c + 1)) else 0)) / cr
def ttX (S B O : Int → Int) (cr c : Int) : Int := if S c = -1 then (B c + wX S B cr c + O c) % 96 else S c
def sendX (C S LN t : Int → Int) : Nat → Int → (Int → Int) → (Int → Int)
  | 0, _, f => f
  | m + 1, c, f => sendX C S LN t m (c + 1) (if LN c = -1 then f else turnL C S f (LN c) (t c))
def cntF (p : Int → Bool) : Nat → Int → Int
  | 0, _ => 0
  | m + 1, c => (if p c = true then 1 else 0) + cntF p m (c + 1)
/-- the least number from k on, of m numbers, with p; else none -/
def lstF (p : Int → Bool) : Nat → Int → Option Int
  | 0, _ => none
  | m + 1, c => if p c = true then some c else lstF p m (c + 1)
theorem kX_bd {S B : Int → Int} {c : Int} (hs : -1 ≤ S c ∧ S c ≤ 95) (hb : 0 ≤ B c ∧ B c ≤ 95) : 0 ≤ kX S B c ∧ kX S B c ≤ 95 := by unfold kX; split <;> omega
theorem htX_bd {k : Int} (h : 0 ≤ k ∧ k ≤ 95) : 0 ≤ htX k ∧ htX k ≤ 48 := by unfold htX; split <;> omega
theorem wX_bd {S B : Int → Int} {cr c : Int} (hs : rg S 36 (-1) 95) (hb : rg B 36 0 95) (hc : 0 ≤ c ∧ c < 36) (hcr : 1 ≤ cr) : 0 ≤ wX S B cr c ∧ wX S B cr c ≤ 96 := by
  unfold wX
  have e1 : 0 ≤ (if 0 < c % 3 then htX (kX S B (c - 1)) else 0) ∧ (if 0 < c % 3 then htX (kX S B (c - 1)) else 0) ≤ 48 := by
    split
    · exact htX_bd (kX_bd (hs _ (by omega) (by omega)) (hb _ (by omega) (by omega)))
    · omega
  have e2 : 0 ≤ (if c % 3 < 2 then htX (kX S B (c + 1)) else 0) ∧ (if c % 3 < 2 then htX (kX S B (c + 1)) else 0) ≤ 48 := by
    split
    · exact htX_bd (kX_bd (hs _ (by omega) (by omega)) (hb _ (by omega) (by omega)))
    · omega
  generalize (if 0 < c % 3 then htX (kX S B (c - 1)) else 0) = u at *
  generalize (if c % 3 < 2 then htX (kX S B (c + 1)) else 0) = v at *
  exact ⟨Int.ediv_nonneg (by omega) (by omega), Int.le_trans (Int.ediv_le_self _ (by omega)) (by omega)⟩
theorem sendX_rg {C S LN t : Int → Int} {N : Int} : ∀ (m : Nat) (c : Int) (f : Int → Int), rg f N 0 96 → rg (sendX C S LN t m c f) N 0 96
  | 0, _, _, h => h
  | m + 1, c, f, h => by
    unfold sendX
    refine sendX_rg m (c + 1) _ ?_
    split
    · exact h
    · exact turnL_rg h
section XP
variable {n L d : Nat} {G : XG} {V : Nat → Int → Int} {μ : XM}
theorem x_cellAt {l i : Int} (hG : Good n L G) (hn : V 5 0 = n) (h2 : 2 ≤ n) (h6 : n ≤ 6) : run d 301 0 [xR 5, xI l, xI i] [] (V, G) = some (some (xI (if isC n l i then 3 * l + i / 2 else -1)), (V, G)) := by
  by_cases hc : isC n l i
  · rw [if_pos hc]
    unfold isC at hc
    simp (disch := first | omega | exact Nat.le_of_ble_eq_true rfl) only [bk301_0, bk301_24, bk301_26, bk301_45, bk301_46, Int.reduceToNat, vA_ap, Nat.reduceEqDiff, if_true, if_false, bx_nil, isL_I, isL_R, isL_U, if_ff, bind_some, tl_some, tl_none, bx_iload_1, bx_if_lt, bx_bipush, bx_ic_ge, bx_iload_2, bx_aload_0, gf5_0 hG, bx_iconst, bx_isub, bx_ic_le, bx_iret, bx_irem, bx_ic_ne, bx_imul, bx_idiv, bx_iadd, bx_goto, hn, if_neg (show ¬ l < 0 by omega), if_neg (show ¬ 12 ≤ l by omega), if_neg (show ¬ i < 0 by omega), if_pos (show i ≤ (n : Int) - 2 by omega), tm_pos hc.1.1 (show (0 : Int) < 2 by omega), tm_pos hc.2.1.1 (show (0 : Int) < 2 by omega), if_pos hc.2.2, td_pos hc.2.1.1]
    rw [Int.mul_comm]
  · rw [if_neg hc]
    unfold isC at hc
    simp (disch := first | omega | exact Nat.le_of_ble_eq_true rfl) only [bk301_0, bk301_24, bk301_26, bk301_45, bk301_46, Int.reduceToNat, vA_ap, Nat.reduceEqDiff, if_true, if_false, bx_nil, isL_I, isL_R, isL_U, if_ff, bind_some, tl_some, tl_none, bx_iload_1, bx_if_lt, bx_bipush, bx_ic_ge, bx_iload_2, bx_aload_0, gf5_0 hG, bx_iconst, bx_isub, bx_ic_le, bx_iret, bx_irem, bx_ic_ne, bx_imul, bx_idiv, bx_iadd, bx_goto, hn]
    by_cases a1 : l < 0
    · rw [if_pos a1]
    · rw [if_neg a1]
      by_cases a2 : 12 ≤ l
      · rw [if_pos a2]
      · rw [if_neg a2]
        by_cases a3 : i < 0
        · rw [if_pos a3]
        · rw [if_neg a3]
          by_cases a4 : i ≤ (n : Int) - 2
          · rw [if_pos a4, tm_pos (by omega) (by omega), tm_pos (by omega) (by omega), if_neg (by omega)]
          · rw [if_neg a4]
theorem x_isDead {c : Int} (hG : Good n L G) (h0 : 0 ≤ c) (h1 : c < 36) : run d 302 0 [xR 5, xI c] [] (V, G) = some (some (xI (b1 (¬ V 8 c = -1))), (V, G)) := by
  unfold b1
  simp (disch := first | omega | exact Nat.le_of_ble_eq_true rfl) only [bk302_0, bk302_14, bk302_15, Int.reduceToNat, vA_ap, Nat.reduceEqDiff, if_true, if_false, bx_nil, isL_I, isL_R, isL_U, if_ff, bind_some, tl_some, tl_none, bx_aload_0, gf5_4 hG, ia8 hG, is8 hG, bx_iload_1, bx_iconst, bx_ic_eq, bx_goto, bx_zret]
  repeat' split
  all_goals first | rfl | (exfalso; omega)
theorem x_isCell {c : Int} (hG : Good n L G) (h0 : 0 ≤ c) (h1 : c < 36) : run d 308 0 [xR 5, xI c] [] (V, G) = some (some (xI (b1 (¬ V 6 c = -1))), (V, G)) := by
  unfold b1
  simp (disch := first | omega | exact Nat.le_of_ble_eq_true rfl) only [bk308_0, bk308_14, bk308_15, Int.reduceToNat, vA_ap, Nat.reduceEqDiff, if_true, if_false, bx_nil, isL_I, isL_R, isL_U, if_ff, bind_some, tl_some, tl_none, bx_aload_0, gf5_2 hG, ia6 hG, is6 hG, bx_iload_1, bx_iconst, bx_ic_eq, bx_goto, bx_zret]
  repeat' split
  all_goals first | rfl | (exfalso; omega)
theorem x_heat {a : Nat} {c : Int} (hG : Good n L G) (ha : G.1 a = (1, 36)) (h0 : 0 ≤ c) (h1 : c < 36) (hk : 0 ≤ kX (V 8) (V a) c ∧ kX (V 8) (V a) c ≤ 95) : run (d + 1) 303 0 [xR 5, xR a, xI c, xU] [] (V, G) = some (some (xI (htX (kX (V 8) (V a) c))), (V, G)) := by
  unfold kX at hk ⊢
  by_cases h : V 8 c = -1
  · rw [if_pos h] at hk ⊢
    simp (disch := first | omega | exact Nat.le_of_ble_eq_true rfl) only [bk303_0, bk303_19, bk303_22, Int.reduceToNat, vA_ap, Nat.reduceEqDiff, if_true, if_false, bx_nil, isL_I, isL_R, isL_U, if_ff, bind_some, tl_some, tl_none, bx_aload_0, gf5_4 hG, ia8 hG, is8 hG, bx_iload_2, bx_iconst, bx_ic_eq, bx_goto, bx_aload_1, bx_istore_3, bx_iload_3, bx_bipush, bx_isub, cl1301, bx_iret, if_pos h, bx_iald ha, j_min]
  · rw [if_neg h] at hk ⊢
    simp (disch := first | omega | exact Nat.le_of_ble_eq_true rfl) only [bk303_0, bk303_19, bk303_22, Int.reduceToNat, vA_ap, Nat.reduceEqDiff, if_true, if_false, bx_nil, isL_I, isL_R, isL_U, if_ff, bind_some, tl_some, tl_none, bx_aload_0, gf5_4 hG, ia8 hG, is8 hG, bx_iload_2, bx_iconst, bx_ic_eq, bx_goto, bx_aload_1, bx_istore_3, bx_iload_3, bx_bipush, bx_isub, cl1301, bx_iret, if_neg h, bx_iald ha, j_min]
theorem x_warmth {a : Nat} {c : Int} (hG : Good n L G) (ha : G.1 a = (1, 36)) (h0 : 0 ≤ c) (h1 : c < 36) (hs : rg (V 8) 36 (-1) 95) (hb : rg (V a) 36 0 95) (hcr : 1 ≤ V 5 6 ∧ V 5 6 ≤ 99) : run (d + 2) 305 0 [xR 5, xR a, xI c, xU, xU] [] (V, G) = some (some (xI (wX (V 8) (V a) (V 5 6) c)), (V, G)) := by
  unfold wX
  have hL : 0 < c % 3 → 0 ≤ kX (V 8) (V a) (c - 1) ∧ kX (V 8) (V a) (c - 1) ≤ 95 := fun h => kX_bd (hs _ (by omega) (by omega)) (hb _ (by omega) (by omega))
  have hR : c % 3 < 2 → 0 ≤ kX (V 8) (V a) (c + 1) ∧ kX (V 8) (V a) (c + 1) ≤ 95 := fun h => kX_bd (hs _ (by omega) (by omega)) (hb _ (by omega) (by omega))
  by_cases a1 : 0 < c % 3
  · have b1 := htX_bd (hL a1)
    have k1 := x_heat (d := d) hG ha (show 0 ≤ c - 1 by omega) (show c - 1 < 36 by omega) (hL a1)
    by_cases a2 : c % 3 < 2
    · have b2 := htX_bd (hR a2)
      have k2 := x_heat (d := d) hG ha (show 0 ≤ c + 1 by omega) (show c + 1 < 36 by omega) (hR a2)
      rw [if_pos a1, if_pos a2]
      generalize htX (kX (V 8) (V a) (c - 1)) = u at *
      generalize htX (kX (V 8) (V a) (c + 1)) = w at *
      simp (disch := first | omega | exact Nat.le_of_ble_eq_true rfl) only [bk305_0, bk305_24, bk305_42, Int.reduceToNat, vA_ap, Nat.reduceEqDiff, if_true, if_false, bx_nil, isL_I, isL_R, isL_U, if_ff, bind_some, tl_some, tl_none, bx_iload_2, bx_iconst, bx_irem, bx_istore_3, bx_istore4, bx_iload_3, bx_if_le, bx_iload4, bx_aload_0, bx_aload_1, bx_isub, cl303 hG, bx_iadd, bx_ic_ge, gf5_6 hG, bx_idiv, bx_iret, tm_pos h0 (show (0 : Int) < 3 by omega), if_neg (show ¬ c % 3 ≤ 0 by omega), if_neg (show ¬ 2 ≤ c % 3 by omega), k1, k2]
      rw [td_pos (by omega), show 0 + u + w = u + w by omega]
    · rw [if_pos a1, if_neg a2]
      generalize htX (kX (V 8) (V a) (c - 1)) = u at *
      simp (disch := first | omega | exact Nat.le_of_ble_eq_true rfl) only [bk305_0, bk305_24, bk305_42, Int.reduceToNat, vA_ap, Nat.reduceEqDiff, if_true, if_false, bx_nil, isL_I, isL_R, isL_U, if_ff, bind_some, tl_some, tl_none, bx_iload_2, bx_iconst, bx_irem, bx_istore_3, bx_istore4, bx_iload_3, bx_if_le, bx_iload4, bx_aload_0, bx_aload_1, bx_isub, cl303 hG, bx_iadd, bx_ic_ge, gf5_6 hG, bx_idiv, bx_iret, tm_pos h0 (show (0 : Int) < 3 by omega), if_neg (show ¬ c % 3 ≤ 0 by omega), if_pos (show 2 ≤ c % 3 by omega), k1]
      rw [td_pos (by omega), show 0 + u = u + 0 by omega]
  · have a2 : c % 3 < 2 := by omega
    have b2 := htX_bd (hR a2)
    have k2 := x_heat (d := d) hG ha (show 0 ≤ c + 1 by omega) (show c + 1 < 36 by omega) (hR a2)
    rw [if_neg a1, if_pos a2]
    generalize htX (kX (V 8) (V a) (c + 1)) = w at *
    simp (disch := first | omega | exact Nat.le_of_ble_eq_true rfl) only [bk305_0, bk305_24, bk305_42, Int.reduceToNat, vA_ap, Nat.reduceEqDiff, if_true, if_false, bx_nil, isL_I, isL_R, isL_U, if_ff, bind_some, tl_some, tl_none, bx_iload_2, bx_iconst, bx_irem, bx_istore_3, bx_istore4, bx_iload_3, bx_if_le, bx_iload4, bx_aload_0, bx_aload_1, bx_isub, cl303 hG, bx_iadd, bx_ic_ge, gf5_6 hG, bx_idiv, bx_iret, tm_pos h0 (show (0 : Int) < 3 by omega), if_pos (show c % 3 ≤ 0 by omega), if_neg (show ¬ 2 ≤ c % 3 by omega), k2]
    rw [td_pos (by omega)]
theorem x_trueTurn {a b : Nat} {c : Int} (hG : Good n L G) (ha : G.1 a = (1, 36)) (hb' : G.1 b = (1, 36)) (h0 : 0 ≤ c) (h1 : c < 36) (hs : rg (V 8) 36 (-1) 95) (hb : rg (V a) 36 0 95) (ho : rg (V b) 36 (-100) 100) (hcr : 1 ≤ V 5 6 ∧ V 5 6 ≤ 99) : run (d + 3) 304 0 [xR 5, xR a, xR b, xI c] [] (V, G) = some (some (xI (ttX (V 8) (V a) (V b) (V 5 6) c)), (V, G)) := by
  unfold ttX
  have w1 := wX_bd hs hb ⟨h0, h1⟩ hcr.1
  have g4 := hb _ h0 h1
  have g5 := ho _ h0 h1
  by_cases h : V 8 c = -1
  · rw [if_pos h]
    have e : b1 (¬ V 8 c = -1) = 0 := b1_f (fun z => z h)
    have k1 := x_warmth (d := d) hG ha h0 h1 hs hb hcr
    generalize wX (V 8) (V a) (V 5 6) c = w at *
    simp (disch := first | omega | exact Nat.le_of_ble_eq_true rfl) only [bk304_0, bk304_15, Int.reduceToNat, vA_ap, Nat.reduceEqDiff, if_true, if_false, bx_nil, isL_I, isL_R, isL_U, if_ff, bind_some, tl_some, tl_none, bx_aload_0, bx_iload_3, cl302 hG, bx_if_eq, gf5_4 hG, ia8 hG, is8 hG, bx_iret, bx_aload_1, cl305 hG, bx_iadd, bx_aload_2, bx_bipush, cl1300, x_isDead hG h0 h1, e, bx_iald ha, bx_iald hb', k1, j_floorMod (show i32 (V a c + w + V b c) from ⟨by omega, by omega⟩)]
  · rw [if_neg h]
    have e : b1 (¬ V 8 c = -1) = 1 := b1_t h
    simp (disch := first | omega | exact Nat.le_of_ble_eq_true rfl) only [bk304_0, bk304_15, Int.reduceToNat, vA_ap, Nat.reduceEqDiff, if_true, if_false, bx_nil, isL_I, isL_R, isL_U, if_ff, bind_some, tl_some, tl_none, bx_aload_0, bx_iload_3, cl302 hG, bx_if_eq, gf5_4 hG, ia8 hG, is8 hG, bx_iret, bx_aload_1, cl305 hG, bx_iadd, bx_aload_2, bx_bipush, cl1300, x_isDead hG h0 h1, e, if_neg (show ¬ (1 : Int) = 0 by omega)]
theorem ttX_bd {S B O : Int → Int} {cr c : Int} (hs : -1 ≤ S c ∧ S c ≤ 95) : 0 ≤ ttX S B O cr c ∧ ttX S B O cr c ≤ 95 := by
  unfold ttX
  split
  · omega
  · omega
theorem x_fillTT_lp {a b t : Nat} (hG : Good n L G) (ha : G.1 a = (1, 36)) (hb' : G.1 b = (1, 36)) (ht : G.1 t = (1, 36)) (n1 : ¬ 8 = t) (n2 : ¬ a = t) (n3 : ¬ b = t) (n4 : ¬ 5 = t) : ∀ (m : Nat) (c : Int) (V : Nat → Int → Int), 0 ≤ c → c ≤ 36 → (36 - c).toNat = m → rg (V 8) 36 (-1) 95 → rg (V a) 36 0 95 → rg (V b) 36 (-100) 100 → (1 ≤ V 5 6 ∧ V 5 6 ≤ 99) → run (d + 4) 309 3 [xR 5, xR a, xR b, xR t, xI c] [] (V, G) = some (none, (vA V t (fun j => if c ≤ j ∧ j < 36 then ttX (V 8) (V a) (V b) (V 5 6) j else V t j), G)) := by
  intro m
  induction m with
  | zero =>
    intro c V h0 h1 hm hs hb ho hcr
    rw [bk309_3]
    simp (disch := first | omega | exact Nat.le_of_ble_eq_true rfl) only [bk309_0, bk309_28, Int.reduceToNat, vA_ap, Nat.reduceEqDiff, if_true, if_false, bx_nil, isL_I, isL_R, isL_U, if_ff, bind_some, tl_some, tl_none, bx_iconst, bx_istore4, bx_iload4, bx_bipush, bx_ic_ge, bx_aload_3, bx_aload_0, bx_aload_1, bx_aload_2, cl304 hG, bx_iinc4, bx_goto, bx_vret, if_pos (show 36 ≤ c by omega)]
    rw [vA_id (fun j => if_neg (by omega))]
  | succ m ih =>
    intro c V h0 h1 hm hs hb ho hcr
    rw [bk309_3]
    simp (disch := first | omega | exact Nat.le_of_ble_eq_true rfl) only [bk309_0, bk309_28, Int.reduceToNat, vA_ap, Nat.reduceEqDiff, if_true, if_false, bx_nil, isL_I, isL_R, isL_U, if_ff, bind_some, tl_some, tl_none, bx_iconst, bx_istore4, bx_iload4, bx_bipush, bx_ic_ge, bx_aload_3, bx_aload_0, bx_aload_1, bx_aload_2, cl304 hG, bx_iinc4, bx_goto, bx_vret, if_neg (show ¬ 36 ≤ c by omega), x_trueTurn hG ha hb' h0 (show c < 36 by omega) hs hb ho hcr, bx_iast ht]
    rw [ih (c + 1) _ (by omega) (by omega) (by omega) (by rw [vA_ne n1]; exact hs) (by rw [vA_ne n2]; exact hb) (by rw [vA_ne n3]; exact ho) (by rw [vA_ne n4]; exact hcr), vA_vA, vA_ne n1, vA_ne n2, vA_ne n3, vA_ne n4]
    refine congrArg (fun z => some (none, (z, G))) (vA_ext (fun j => ?_))
    by_cases h : j = c
    · subst h
      rw [if_neg (by omega), if_pos (by omega), vA_same, vU_at]
    · rw [vA_same, vU_ne h]
      by_cases h2 : c ≤ j ∧ j < 36
      · rw [if_pos (by omega), if_pos h2]
      · rw [if_neg (by omega), if_neg h2]
theorem x_fillTT {a b t : Nat} (hG : Good n L G) (ha : G.1 a = (1, 36)) (hb' : G.1 b = (1, 36)) (ht : G.1 t = (1, 36)) (n1 : ¬ 8 = t) (n2 : ¬ a = t) (n3 : ¬ b = t) (n4 : ¬ 5 = t) (hs : rg (V 8) 36 (-1) 95) (hb : rg (V a) 36 0 95) (ho : rg (V b) 36 (-100) 100) (hcr : 1 ≤ V 5 6 ∧ V 5 6 ≤ 99) : run (d + 4) 309 0 [xR 5, xR a, xR b, xR t, xU] [] (V, G) = some (none, (vA V t (fun j => if 0 ≤ j ∧ j < 36 then ttX (V 8) (V a) (V b) (V 5 6) j else V t j), G)) := by
  simp (disch := first | omega | exact Nat.le_of_ble_eq_true rfl) only [bk309_0, bk309_28, Int.reduceToNat, vA_ap, Nat.reduceEqDiff, if_true, if_false, bx_nil, isL_I, isL_R, isL_U, if_ff, bind_some, tl_some, tl_none, bx_iconst, bx_istore4, bx_iload4, bx_bipush, bx_ic_ge, bx_aload_3, bx_aload_0, bx_aload_1, bx_aload_2, cl304 hG, bx_iinc4, bx_goto, bx_vret]
  exact x_fillTT_lp hG ha hb' ht n1 n2 n3 n4 _ 0 V (by omega) (by omega) rfl hs hb ho hcr
theorem x_turnLanes {a : Nat} {i k : Int} (hG : Good n L G) (ha : G.1 a = (1, 6)) (n1 : ¬ 3 = a) (n2 : ¬ 4 = a) (hi : 0 ≤ i ∧ i ≤ 4) (hk : 0 ≤ k ∧ k ≤ 95) (hC : rg (V 3) 96 0 96) (hS : rg (V 4) 96 0 96) (hf : 0 ≤ V a i ∧ V a i ≤ 96) (hf2 : 0 ≤ V a (i + 1) ∧ V a (i + 1) ≤ 96) : run (d + 1) 1 0 [xR 2, xR a, xI i, xI k, xU, xU] [] (V, G) = some (none, (vA V a (turnL (V 3) (V 4) (V a) i k), G)) := by
  have c1 := hC k (by omega) (by omega)
  have c2 := hS k (by omega) (by omega)
  have p1 := mul_bd c1 hf
  have p2 := mul_bd c2 hf2
  have p3 := mul_bd c2 hf
  have p4 := mul_bd c1 hf2
  simp (disch := first | omega | exact Nat.le_of_ble_eq_true rfl) only [bk1_0, Int.reduceToNat, vA_ap, Nat.reduceEqDiff, if_true, if_false, bx_nil, isL_I, isL_R, isL_U, if_ff, bind_some, tl_some, tl_none, bx_aload_1, bx_iload_2, bx_istore4, bx_iconst, bx_iadd, bx_istore5, bx_aload_0, gf2_0 hG, ia3 hG, is3 hG, bx_iload_3, bx_iload4, bx_imul, gf2_1 hG, ia4 hG, is4 hG, bx_iload5, bx_isub, bx_bipush, cl1300, bx_irem, bx_vret, bx_iald ha, bx_iast ha, j_floorMod (show i32 (V 3 k * V a i - V 4 k * V a (i + 1)) from ⟨by omega, by omega⟩), n1, n2, vA_same, tm_pos (show 0 ≤ V 4 k * V a i + V 3 k * V a (i + 1) by omega) (show (0 : Int) < 97 by omega)]
  rw [vA_vA]
  refine congrArg (fun z => some (none, (z, G))) (vA_ext (fun j => ?_))
  simp only [turnL, vU]
  by_cases h1 : j = i
  · subst h1
    rw [if_neg (by omega), if_pos rfl, if_pos rfl]
  · simp only [h1, if_false]
theorem x_clearing_lp {x y : Int} (hG : Good n L G) (hx : 0 ≤ x ∧ x ≤ 96) (hy : 0 ≤ y ∧ y ≤ 96) (hC : rg (V 3) 96 0 96) (hS : rg (V 4) 96 0 96) : ∀ (m : Nat) (k : Int), 0 ≤ k → k + m = 96 → run d 2 2 [xR 2, xI x, xI y, xI k] [] (V, G) = some (some (xI ((lstF (fun k => (V 4 k * x + V 3 k * y) % 97 == 0) m k).getD (-1))), (V, G)) := by
  intro m
  induction m with
  | zero =>
    intro k h0 hm
    rw [bk2_2]
    simp (disch := first | omega | exact Nat.le_of_ble_eq_true rfl) only [bk2_0, bk2_33, bk2_39, Int.reduceToNat, vA_ap, Nat.reduceEqDiff, if_true, if_false, bx_nil, isL_I, isL_R, isL_U, if_ff, bind_some, tl_some, tl_none, bx_iconst, bx_istore_3, bx_iload_3, bx_bipush, bx_ic_ge, bx_aload_0, gf2_1 hG, ia4 hG, is4 hG, bx_iload_1, bx_imul, gf2_0 hG, ia3 hG, is3 hG, bx_iload_2, bx_iadd, bx_irem, bx_if_ne, bx_iret, bx_iinc3, bx_goto, if_pos (show 96 ≤ k by omega)]
    rfl
  | succ m ih =>
    intro k h0 hm
    have c1 := hC k (by omega) (by omega)
    have c2 := hS k (by omega) (by omega)
    have p3 := mul_bd c2 hx
    have p4 := mul_bd c1 hy
    rw [bk2_2]
    simp (disch := first | omega | exact Nat.le_of_ble_eq_true rfl) only [bk2_0, bk2_33, bk2_39, Int.reduceToNat, vA_ap, Nat.reduceEqDiff, if_true, if_false, bx_nil, isL_I, isL_R, isL_U, if_ff, bind_some, tl_some, tl_none, bx_iconst, bx_istore_3, bx_iload_3, bx_bipush, bx_ic_ge, bx_aload_0, gf2_1 hG, ia4 hG, is4 hG, bx_iload_1, bx_imul, gf2_0 hG, ia3 hG, is3 hG, bx_iload_2, bx_iadd, bx_irem, bx_if_ne, bx_iret, bx_iinc3, bx_goto, if_neg (show ¬ 96 ≤ k by omega), tm_pos (show 0 ≤ V 4 k * x + V 3 k * y by omega) (show (0 : Int) < 97 by omega)]
    unfold lstF
    by_cases h : (V 4 k * x + V 3 k * y) % 97 = 0
    · simp [h]
    · rw [if_neg h, ih (k + 1) (by omega) (by omega)]
      simp [h]
theorem x_clearing {x y : Int} (hG : Good n L G) (hx : 0 ≤ x ∧ x ≤ 96) (hy : 0 ≤ y ∧ y ≤ 96) (hC : rg (V 3) 96 0 96) (hS : rg (V 4) 96 0 96) : run d 2 0 [xR 2, xI x, xI y, xU] [] (V, G) = some (some (xI ((lstF (fun k => (V 4 k * x + V 3 k * y) % 97 == 0) 96 0).getD (-1))), (V, G)) := by
  simp (disch := first | omega | exact Nat.le_of_ble_eq_true rfl) only [bk2_0, bk2_33, bk2_39, Int.reduceToNat, vA_ap, Nat.reduceEqDiff, if_true, if_false, bx_nil, isL_I, isL_R, isL_U, if_ff, bind_some, tl_some, tl_none, bx_iconst, bx_istore_3, bx_iload_3, bx_bipush, bx_ic_ge, bx_aload_0, gf2_1 hG, ia4 hG, is4 hG, bx_iload_1, bx_imul, gf2_0 hG, ia3 hG, is3 hG, bx_iload_2, bx_iadd, bx_irem, bx_if_ne, bx_iret, bx_iinc3, bx_goto]
  exact x_clearing_lp hG hx hy hC hS 96 0 (by omega) (by omega)
end XP
