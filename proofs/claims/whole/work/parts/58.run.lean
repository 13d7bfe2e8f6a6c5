/-! RUN -/
/-- what is left of a number when k digits were taken -/
def rst (w : Int) : Nat → Int
  | 0 => w
  | k + 1 => (rst w k).tdiv 97
def dig (w j : Int) : Int := (rst w j.toNat).tmod 97
theorem rst_eq {w : Int} (h : 0 ≤ w) : ∀ k, rst w k = w / 97 ^ k ∧ 0 ≤ rst w k
  | 0 => by simp [rst, h]
  | k + 1 => by
    obtain ⟨e1, e2⟩ := rst_eq h k
    have e3 : rst w (k + 1) = (rst w k) / 97 := td_pos e2
    rw [e3]
    refine ⟨?_, Int.ediv_nonneg e2 (by omega)⟩
    rw [e1, Int.ediv_ediv_of_nonneg (by exact Int.le_of_lt (Int.pow_pos (by omega))), ← Int.pow_succ]
theorem rst_0 {w : Int} (h : 0 ≤ w) (k : Nat) : rst w k = 0 ↔ w < 97 ^ k := by
  rw [(rst_eq h k).1]
  have hp : (0 : Int) < 97 ^ k := Int.pow_pos (by omega)
  constructor
  · intro e
    apply Classical.byContradiction
    intro hc
    have := Int.le_ediv_of_mul_le (a := 1) (b := w) hp (by omega)
    omega
  · intro hl
    exact Int.ediv_eq_zero_of_lt h hl
theorem dig_bd {w j : Int} (h : 0 ≤ w) : 0 ≤ dig w j ∧ dig w j ≤ 96 := by
  unfold dig
  rw [tm_pos (rst_eq h _).2 (by omega)]
  omega
theorem tm_i32 {x : Int} : -97 ≤ x.tmod 97 ∧ x.tmod 97 < 97 := by
  have h1 := tm_em (x := x) (y := 97) (by omega)
  have h2 := Int.emod_nonneg x (by omega : (97 : Int) ≠ 0)
  have h3 := Int.emod_lt_of_pos x (by omega : (0 : Int) < 97)
  generalize x.tmod 97 = t at h1 ⊢
  generalize x % 97 = u at *
  omega
theorem l2i_s {x : Int} (h : i32 x) : (Int64.ofInt x).toInt32.toInt = x := by
  rw [Int64.toInt32_ofInt]
  exact n32 h
theorem go_eq {n : Nat} {U : Nat → Int → Int} {C S LN SX BX OX t f g : Int → Int} {cr : Int} (hn : 2 ≤ n ∧ n ≤ 6) (hL : lanOK n LN) (hS : plcP n SX (U 380) (-1) (-1) 95) (hB : plcP n BX (U 383) 0 0 95) (hO : cRl OX (U 384)) (hcr : U 376 7 = cr) (ht : ∀ c, 0 ≤ c → c < 36 → t c = ttX SX BX OX cr c) (hf : eqn n f g) : eqn n (sendX C S LN t 36 0 f) (plt C S (gT n U 1) n 12 0 g) := by
  rw [plt_send (tx := ttX SX BX OX cr) (by omega) (by omega) hL (fun l i hi => ?_) 12 0 _ (by omega) (by omega)]
  · refine sendX_cong 36 0 _ _ hf (fun j h0 h1 => ⟨rfl, fun h2 => ⟨?_, ht j h0 (by omega)⟩⟩)
    rw [hL j h0 (by omega)] at h2 ⊢
    exact ln_bd ⟨h0, by omega⟩ h2
  · show ttM n (U 380) (U 383) (U 384) (U 376 7) l i = _
    rw [hcr]
    exact tt_eq (by omega) hi hS.1 hB.1 hO hS.2.2 hS.2.1 hB.2.1
section RN
variable {n L d : Nat} {G : XG} {V : Nat → Int → Int}
theorem x_sendR {w : Int} (hG : Good n L G) (hx : xB n V) (hs : 0 ≤ V 217 3 ∧ V 217 3 < 40) (hw : 0 ≤ w) (hz : ∀ r : Nat, r < 40 → ∀ l, (n : Int) ≤ l → l < 6 → V (260 + r) l = 0) : ∃ W, run (d + 5) 701 0 [xR 217, xL w, xU, xU, xU, xU, xU] [] (V, G) = some (some (xI (V 217 3)), (W, G)) ∧ (∀ b, b ≠ 217 → b ≠ 341 → b ≠ 219 + (V 217 3).toNat → b ≠ 260 + (V 217 3).toNat → b ≠ 301 + (V 217 3).toNat → W b = V b) ∧ W 217 = vU (V 217) 3 (V 217 3 + 1) ∧ (∀ l, 0 ≤ l → l < 6 → W (260 + (V 217 3).toNat) l = if l < n then dig w l else 0) ∧ (∀ c, 0 ≤ c → c < 36 → W (301 + (V 217 3).toNat) c = V 7 c) ∧ ∃ t f, (∀ c, 0 ≤ c → c < 36 → t c = ttX (V 8) (V 7) (V 9) (V 5 6) c) ∧ (∀ l, 0 ≤ l → l < (n : Int) → f l = dig w l) ∧ W (219 + (V 217 3).toNat) = sendX (V 3) (V 4) (V 6) t 36 0 f := by
  obtain ⟨x1, x2, x3, x4, x5, x6, x7, x8, x9⟩ := hx
  obtain ⟨r, hr⟩ : ∃ r : Nat, V 217 3 = r := ⟨(V 217 3).toNat, by omega⟩
  rw [hr, Int.toNat_natCast]
  have s260 := sf260 hG (show r < 40 by omega)
  have s219 := sf219 hG (show r < 40 by omega)
  have s301 := sf301 hG (show r < 40 by omega)
  -- the digits
  have h := it_up (D := d + 5) (q := 701) (pc := 21) (loc := fun k => [xR 217, xL w, xU, xI r, xL (rst w k.toNat), xU, xI k]) (F := fun k => (vA (vA V 217 (vU (V 217) 3 (r + 1))) (260 + r) (fl (V (260 + r)) (dig w) 0 k), G)) (hi := n) n 0 (by omega) (fun k h1 h2 => by
    rw [bk701_21, ← fl_up h1]
    have e1 : (vA (vA V 217 (vU (V 217) 3 (r + 1))) (260 + r) (fl (V (260 + r)) (dig w) 0 k)) 5 = V 5 := by rw [vA_ne (by omega), vA_ne (by omega)]
    have e2 : (Int64.ofInt ((rst w k.toNat).tmod 97)).toInt32.toInt = dig w k := by
      have := tm_i32 (x := rst w k.toNat)
      exact l2i_s ⟨by omega, by omega⟩
    have e3 : rst w (k + 1).toNat = (rst w k.toNat).tdiv 97 := by rw [show (k + 1).toNat = k.toNat + 1 by omega]; rfl
    have n1 : ¬ 5 = 260 + r := by omega
    simp (disch := first | omega | exact Nat.le_of_ble_eq_true rfl) only [bk701_0, bk701_63, Int.reduceToNat, vA_ap, Nat.reduceEqDiff, if_true, if_false, bx_nil, isL_I, isL_R, isL_U, if_ff, bind_some, tl_some, tl_none, bx_aload_0, gf217_3 hG, bx_istore_3, bx_dupI, bx_dupR, bx_iconst, bx_iadd, pf217_3 hG, bx_lload_1, bx_lstore4, bx_istore6, bx_iload6, gf217_0 hG, gf5_0 hG, bx_ic_ge, gf217_5 hG, aa259 hG, bx_iload_3, bx_lload4, bx_ldc2, bx_lrem, bx_l2i, bx_ldiv, bx_iinc6, bx_goto, gf5_3 hG, ia7 hG, is7 hG, gf217_6 hG, aa300 hG, bx_bipush, gf217_4 hG, aa218 hG, gf5_5 hG, ia9 hG, is9 hG, gf217_7 hG, ia341 hG, is341 hG, cl309 hG, cl307 hG, bx_iret, Int.toNat_natCast, n1, x1, if_neg (show ¬ (n : Int) ≤ k by omega), bx_iast s260, vA_same, e2, vA_vA, e3])
  rw [fl_nil] at h
  have e0 : vA (vA V 217 (vU (V 217) 3 (r + 1))) (260 + r) (V (260 + r)) = vA V 217 (vU (V 217) 3 (r + 1)) := by
    rw [show V (260 + r) = vA V 217 (vU (V 217) 3 (r + 1)) (260 + r) from (vA_ne (by omega)).symm, vA_self]
  rw [e0] at h
  -- the rest
  obtain ⟨A, hA⟩ : ∃ A, A = vA (vA V 217 (vU (V 217) 3 (r + 1))) (260 + r) (fl (V (260 + r)) (dig w) 0 n) := ⟨_, rfl⟩
  have A1 : ∀ b, b ≠ 217 → b ≠ 260 + r → A b = V b := fun b b1 b2 => by rw [hA, vA_ne b2, vA_ne b1]
  have A2 : A (260 + r) = fl (V (260 + r)) (dig w) 0 n := by rw [hA, vA_same]
  have A3 : A 217 = vU (V 217) 3 (r + 1) := by rw [hA, vA_ne (by omega), vA_same]
  obtain ⟨B, hB⟩ : ∃ B, B = vA (vA A (301 + r) (fun j => if 0 ≤ j ∧ j < 0 + 36 then A 7 (0 + (j - 0)) else A (301 + r) j)) (219 + r) (fun j => if 0 ≤ j ∧ j < 0 + 6 then A (260 + r) (0 + (j - 0)) else A (219 + r) j) := ⟨_, rfl⟩
  have B1 : ∀ b, b ≠ 217 → b ≠ 219 + r → b ≠ 260 + r → b ≠ 301 + r → B b = V b := fun b b1 b2 b3 b4 => by rw [hB, vA_ne b2, vA_ne b4]; exact A1 b b1 b3
  have B2 : ∀ l, 0 ≤ l → l < 6 → B (219 + r) l = A (260 + r) l := fun l l0 l1 => by
    rw [hB, vA_same, if_pos (by omega), show 0 + (l - 0) = l by omega]
  have B3 : B (260 + r) = A (260 + r) := by rw [hB, vA_ne (by omega), vA_ne (by omega)]
  have B4 : ∀ c, 0 ≤ c → c < 36 → B (301 + r) c = V 7 c := fun c c0 c1 => by
    rw [hB, vA_ne (by omega), vA_same, if_pos (by omega), A1 7 (by omega) (by omega), show 0 + (c - 0) = c by omega]
  have B5 : B 217 = A 217 := by rw [hB, vA_ne (by omega), vA_ne (by omega)]
  have b5 := B1 5 (by omega) (by omega) (by omega) (by omega)
  have b3 := B1 3 (by omega) (by omega) (by omega) (by omega)
  have b4 := B1 4 (by omega) (by omega) (by omega) (by omega)
  have b6 := B1 6 (by omega) (by omega) (by omega) (by omega)
  have b7 := B1 7 (by omega) (by omega) (by omega) (by omega)
  have b8 := B1 8 (by omega) (by omega) (by omega) (by omega)
  have b9 := B1 9 (by omega) (by omega) (by omega) (by omega)
  have hft := x_fillTT (d := d) (V := B) (a := 7) (b := 9) (t := 341) hG (gsh hG 7 rfl rfl) (gsh hG 9 rfl rfl) (gsh hG 341 rfl rfl) (by decide) (by decide) (by decide) (by decide) (by rw [b8]; exact x3) (by rw [b7]; exact x4) (by rw [b9]; exact rg_wide x5 (by omega) (by omega)) (by rw [b5]; exact x6)
  rw [b5, b7, b8, b9] at hft
  obtain ⟨E, hE⟩ : ∃ E, E = vA B 341 (fun j => if 0 ≤ j ∧ j < 36 then ttX (V 8) (V 7) (V 9) (V 5 6) j else B 341 j) := ⟨_, rfl⟩
  rw [← hE] at hft
  have E1 : ∀ b, b ≠ 341 → E b = B b := fun b b1 => by rw [hE, vA_ne b1]
  have E2 : ∀ c, 0 ≤ c → c < 36 → E 341 c = ttX (V 8) (V 7) (V 9) (V 5 6) c := fun c c0 c1 => by rw [hE, vA_same, if_pos ⟨c0, c1⟩]
  have hin : ∀ l, 0 ≤ l → l < 6 → A (260 + r) l = if l < (n : Int) then dig w l else 0 := fun l l0 l1 => by
    rw [A2]
    by_cases q : l < (n : Int)
    · rw [fl_in l0 q, if_pos q]
    · rw [fl_out (by omega), if_neg q]; exact hz r (by omega) l (by omega) l1
  have hrgA : rg (E (219 + r)) 6 0 96 := fun l l0 l1 => by
    rw [E1 _ (by omega), B2 l l0 l1, hin l l0 l1]
    split
    · exact dig_bd hw
    · omega
  have hsd := x_send (d := d + 2) (V := E) (a := 219 + r) (t := 341) (fr := 0) (to := 12) (m := 36) hG s219 (gsh hG 341 rfl rfl) (by omega) (by omega) (by omega) (by omega) (by omega) (by omega) (by rw [E1 3 (by omega), b3]; exact x7) (by rw [E1 4 (by omega), b4]; exact x8) (by rw [E1 6 (by omega), b6]; exact lanOK_ln (by omega) x9) (fun c c0 c1 => by rw [E2 c c0 c1]; exact ttX_bd (x3 c c0 c1)) hrgA
  rw [E1 3 (by omega), b3, E1 4 (by omega), b4, E1 6 (by omega), b6] at hsd
  refine ⟨vA E (219 + r) (sendX (V 3) (V 4) (V 6) (E 341) 36 (3 * 0) (E (219 + r))), ?_, fun b c1 c2 c3 c4 c5 => ?_, ?_, fun l l0 l1 => ?_, fun c c0 c1 => ?_, E 341, E (219 + r), E2, fun l l0 l1 => ?_, ?_⟩
  · have e1 : run (d + 5) 701 0 [xR 217, xL w, xU, xU, xU, xU, xU] [] (V, G) = run (d + 5) 701 21 [xR 217, xL w, xU, xI r, xL w, xU, xI 0] [] (vA V 217 (vU (V 217) 3 (r + 1)), G) := by
      simp (disch := first | omega | exact Nat.le_of_ble_eq_true rfl) only [bk701_0, bk701_63, Int.reduceToNat, vA_ap, Nat.reduceEqDiff, if_true, if_false, bx_nil, isL_I, isL_R, isL_U, if_ff, bind_some, tl_some, tl_none, bx_aload_0, gf217_3 hG, bx_istore_3, bx_dupI, bx_dupR, bx_iconst, bx_iadd, pf217_3 hG, bx_lload_1, bx_lstore4, bx_istore6, bx_iload6, gf217_0 hG, gf5_0 hG, bx_ic_ge, gf217_5 hG, aa259 hG, bx_iload_3, bx_lload4, bx_ldc2, bx_lrem, bx_l2i, bx_ldiv, bx_iinc6, bx_goto, gf5_3 hG, ia7 hG, is7 hG, gf217_6 hG, aa300 hG, bx_bipush, gf217_4 hG, aa218 hG, gf5_5 hG, ia9 hG, is9 hG, gf217_7 hG, ia341 hG, is341 hG, cl309 hG, cl307 hG, bx_iret, hr]
    rw [e1]
    have e2 : rst w (0 : Int).toNat = w := rfl
    rw [e2] at h
    rw [h, ← hA, bk701_21]
    have a5 : A 5 = V 5 := A1 5 (by omega) (by omega)
    have n3 : ¬ 260 + r = 301 + r := by omega
    have n4 : ¬ 219 + r = 301 + r := by omega
    simp (disch := first | omega | exact Nat.le_of_ble_eq_true rfl) only [bk701_0, bk701_63, Int.reduceToNat, vA_ap, Nat.reduceEqDiff, if_true, if_false, bx_nil, isL_I, isL_R, isL_U, if_ff, bind_some, tl_some, tl_none, bx_aload_0, gf217_3 hG, bx_istore_3, bx_dupI, bx_dupR, bx_iconst, bx_iadd, pf217_3 hG, bx_lload_1, bx_lstore4, bx_istore6, bx_iload6, gf217_0 hG, gf5_0 hG, bx_ic_ge, gf217_5 hG, aa259 hG, bx_iload_3, bx_lload4, bx_ldc2, bx_lrem, bx_l2i, bx_ldiv, bx_iinc6, bx_goto, gf5_3 hG, ia7 hG, is7 hG, gf217_6 hG, aa300 hG, bx_bipush, gf217_4 hG, aa218 hG, gf5_5 hG, ia9 hG, is9 hG, gf217_7 hG, ia341 hG, is341 hG, cl309 hG, cl307 hG, bx_iret, Int.toNat_natCast, a5, x1, if_pos (show (n : Int) ≤ n by omega), bx_copy s301 (gsh hG 7 rfl rfl : G.1 7 = (1, 36)) (show 301 + r ≠ 7 by omega) (show (0 : Int) ≤ 36 ∧ (0 : Int) ≤ 0 ∧ (0 : Int) ≤ 0 by omega), bx_copy s219 s260 (show 219 + r ≠ 260 + r by omega) (show (0 : Int) ≤ 6 ∧ (0 : Int) ≤ 0 ∧ (0 : Int) ≤ 0 by omega), n3, n4, ← hB, hft, hsd]
  · rw [vA_ne c3, E1 b c2]; exact B1 b c1 c3 c4 c5
  · rw [vA_ne (by omega), E1 _ (by omega), B5, A3]
  · rw [vA_ne (by omega), E1 _ (by omega), B3]; exact hin l l0 l1
  · rw [vA_ne (by omega), E1 _ (by omega)]; exact B4 c c0 c1
  · rw [E1 _ (by omega), B2 l l0 (by omega), hin l l0 (by omega), if_pos l1]
  · rw [vA_same, show (3 : Int) * 0 = 0 by omega]
theorem xp_run {w : Int} (hG : Good n L G) (hl : V 217 2 = 97 ^ n) (hs : 0 ≤ V 217 3 ∧ V 217 3 ≤ 40) : run (d + 1) 1022 0 [xR 1, xL w, xU] [] (V, G) = if w < 0 ∨ ¬ w < 97 ^ n then some (some (xI (-2)), (V, G)) else if 40 ≤ V 217 3 then some (some (xI (-4)), (V, G)) else (run d 701 0 [xR 217, xL w, xU, xU, xU, xU, xU] [] (V, G)).bind fun o => bx (d + 1) 1022 [.ireturn] 45 [xR 1, xL w, xU] (o.1.toList ++ []) o.2 := by
  by_cases a : w < 0
  · rw [if_pos (Or.inl a)]
    simp (disch := first | omega | exact Nat.le_of_ble_eq_true rfl) only [bk1022_0, bk1022_18, bk1022_21, bk1022_36, Int.reduceToNat, vA_ap, Nat.reduceEqDiff, if_true, if_false, bx_nil, isL_I, isL_R, isL_U, if_ff, bind_some, tl_some, tl_none, bx_lload_1, bx_lconst0, bx_lcmp, lc_lt, lc_gt, lc_ge, lc_le, lc_eq, bx_if_lt, bx_aload_0, gf1_7 hG, gf217_2 hG, bx_bipush, bx_iret, gf217_3 hG, bx_ic_lt, cl701 hG]
    rw [if_pos a]
  · by_cases b : w < 97 ^ n
    · rw [if_neg (fun z => z.elim a (fun y => y b))]
      by_cases c : 40 ≤ V 217 3
      · rw [if_pos c]
        simp (disch := first | omega | exact Nat.le_of_ble_eq_true rfl) only [bk1022_0, bk1022_18, bk1022_21, bk1022_36, Int.reduceToNat, vA_ap, Nat.reduceEqDiff, if_true, if_false, bx_nil, isL_I, isL_R, isL_U, if_ff, bind_some, tl_some, tl_none, bx_lload_1, bx_lconst0, bx_lcmp, lc_lt, lc_gt, lc_ge, lc_le, lc_eq, bx_if_lt, bx_aload_0, gf1_7 hG, gf217_2 hG, bx_bipush, bx_iret, gf217_3 hG, bx_ic_lt, cl701 hG]
        rw [if_neg a, hl, if_pos b, if_neg (show ¬ V 217 3 < 40 by omega)]
      · rw [if_neg c]
        simp (disch := first | omega | exact Nat.le_of_ble_eq_true rfl) only [bk1022_0, bk1022_18, bk1022_21, bk1022_36, Int.reduceToNat, vA_ap, Nat.reduceEqDiff, if_true, if_false, bx_nil, isL_I, isL_R, isL_U, if_ff, bind_some, tl_some, tl_none, bx_lload_1, bx_lconst0, bx_lcmp, lc_lt, lc_gt, lc_ge, lc_le, lc_eq, bx_if_lt, bx_aload_0, gf1_7 hG, gf217_2 hG, bx_bipush, bx_iret, gf217_3 hG, bx_ic_lt, cl701 hG]
        rw [if_neg a, hl, if_pos b, if_pos (show V 217 3 < 40 by omega)]
    · rw [if_pos (Or.inr b)]
      simp (disch := first | omega | exact Nat.le_of_ble_eq_true rfl) only [bk1022_0, bk1022_18, bk1022_21, bk1022_36, Int.reduceToNat, vA_ap, Nat.reduceEqDiff, if_true, if_false, bx_nil, isL_I, isL_R, isL_U, if_ff, bind_some, tl_some, tl_none, bx_lload_1, bx_lconst0, bx_lcmp, lc_lt, lc_gt, lc_ge, lc_le, lc_eq, bx_if_lt, bx_aload_0, gf1_7 hG, gf217_2 hG, bx_bipush, bx_iret, gf217_3 hG, bx_ic_lt, cl701 hG]
      rw [if_neg a, hl, if_neg b]
/-- the reference's first loop of run -/
def rnM (n : Nat) (V : Nat → Int → Int) (w : Int) : Nat → Int → Int := vA V 385 (fl (V 385) (dig w) 0 n)
theorem m_run_dig {w : Int} (hG : Good n L G) (hn : V 376 0 = n) (h6 : n ≤ 6) : run d 1146 0 [xR 376, xL w, xU, xU, xU, xU] [] (V, G) = run d 1146 39 [xR 376, xL w, xU, xL (rst w n), xU, xI n] [] (rnM n V w, G) := by
  have h := it_up (D := d) (q := 1146) (pc := 5) (loc := fun k => [xR 376, xL w, xU, xL (rst w k.toNat), xU, xI k]) (F := fun k => (vA V 385 (fl (V 385) (dig w) 0 k), G)) (hi := n) n 0 (by omega) (fun k h1 h2 => by
    rw [bk1146_5, ← fl_up h1]
    have e2 : (Int64.ofInt ((rst w k.toNat).tmod 97)).toInt32.toInt = dig w k := by
      have := tm_i32 (x := rst w k.toNat)
      exact l2i_s ⟨by omega, by omega⟩
    have e3 : rst w (k + 1).toNat = (rst w k.toNat).tdiv 97 := by rw [show (k + 1).toNat = k.toNat + 1 by omega]; rfl
    simp (disch := first | omega | exact Nat.le_of_ble_eq_true rfl) only [bk1146_0, bk1146_39, bk1146_51, bk1146_54, bk1146_66, bk1146_106, bk1146_144, bk1146_193, Int.reduceToNat, vA_ap, Nat.reduceEqDiff, if_true, if_false, bx_nil, isL_I, isL_R, isL_U, if_ff, bind_some, tl_some, tl_none, bx_lload_1, bx_lstore_3, bx_iconst, bx_istore5, bx_iload5, bx_aload_0, gf376_0 hG, bx_ic_ge, gf376_10 hG, ia385 hG, is385 hG, bx_lload_3, bx_ldc2, bx_lrem, bx_l2i, bx_ldiv, bx_iinc5, bx_goto, bx_lconst0, bx_lcmp, lc_lt, lc_gt, lc_ge, lc_le, lc_eq, bx_if_lt, bx_if_eq, bx_bipush, bx_iret, gf376_41 hG, bx_ic_ne, gf376_35 hG, ia401 hG, is401 hG, bx_imul, bx_iadd, gf376_37 hG, ia403 hG, is403 hG, gf376_3 hG, ia379 hG, is379 hG, cl1110 hG, cl1117 hG, gf376_36 hG, ia402 hG, is402 hG, bx_dupI, bx_dupR, pf376_41 hG, bx_isub, hn, if_neg (show ¬ (n : Int) ≤ k by omega), vA_same, e2, vA_vA, e3])
  rw [fl_nil, vA_self, Int.toNat_natCast] at h
  have e1 : run d 1146 0 [xR 376, xL w, xU, xU, xU, xU] [] (V, G) = run d 1146 5 [xR 376, xL w, xU, xL w, xU, xI 0] [] (V, G) := by
    simp (disch := first | omega | exact Nat.le_of_ble_eq_true rfl) only [bk1146_0, bk1146_39, bk1146_51, bk1146_54, bk1146_66, bk1146_106, bk1146_144, bk1146_193, Int.reduceToNat, vA_ap, Nat.reduceEqDiff, if_true, if_false, bx_nil, isL_I, isL_R, isL_U, if_ff, bind_some, tl_some, tl_none, bx_lload_1, bx_lstore_3, bx_iconst, bx_istore5, bx_iload5, bx_aload_0, gf376_0 hG, bx_ic_ge, gf376_10 hG, ia385 hG, is385 hG, bx_lload_3, bx_ldc2, bx_lrem, bx_l2i, bx_ldiv, bx_iinc5, bx_goto, bx_lconst0, bx_lcmp, lc_lt, lc_gt, lc_ge, lc_le, lc_eq, bx_if_lt, bx_if_eq, bx_bipush, bx_iret, gf376_41 hG, bx_ic_ne, gf376_35 hG, ia401 hG, is401 hG, bx_imul, bx_iadd, gf376_37 hG, ia403 hG, is403 hG, gf376_3 hG, ia379 hG, is379 hG, cl1110 hG, cl1117 hG, gf376_36 hG, ia402 hG, is402 hG, bx_dupI, bx_dupR, pf376_41 hG, bx_isub]
  rw [e1]
  have e2 : rst w (0 : Int).toNat = w := rfl
  rw [e2] at h
  rw [h, bk1146_5]
  simp (disch := first | omega | exact Nat.le_of_ble_eq_true rfl) only [bx_iload5, bx_aload_0, gf376_0 hG, vA_ap, Nat.reduceEqDiff, if_false, hn, bx_ic_ge, if_pos (show (n : Int) ≤ n by omega), Int.reduceToNat]
  rfl
theorem mp_run {w : Int} (hG : Good n L G) (hB : mB n V) (hs : 0 ≤ V 376 41 ∧ V 376 41 ≤ 40) (hw : 0 ≤ w → w < 97 ^ n → V 376 41 < 40 → True) : ∃ U r, run (d + 5) 1146 0 [xR 376, xL w, xU, xU, xU, xU] [] (V, G) = some (some (xI r), (U, G)) ∧ ((w < 0 ∨ ¬ w < 97 ^ n) ∧ r = -2 ∧ U = rnM n V w ∨ (0 ≤ w ∧ w < 97 ^ n) ∧ V 376 41 = 40 ∧ r = -4 ∧ U = rnM n V w ∨ (0 ≤ w ∧ w < 97 ^ n) ∧ V 376 41 < 40 ∧ r = V 376 41 ∧ (∀ b, b ≠ 376 → b ≠ 385 → b ≠ 383 → b ≠ 384 → b ≠ 401 → b ≠ 402 → b ≠ 403 → U b = V b) ∧ U 376 = vU (V 376) 41 (V 376 41 + 1) ∧ (∀ j, (n : Int) ≤ j → j < 6 → U 385 j = 0) ∧ U 401 = fl (V 401) (fun j => dig w (j - 6 * V 376 41)) (6 * V 376 41) (6 * V 376 41 + n) ∧ U 403 = fl (V 403) (fun j => V 379 (j - 72 * V 376 41)) (72 * V 376 41) (72 * V 376 41 + 72) ∧ ∃ T, U 402 = fl (V 402) (fun j => plt (V 377) (V 378) (gT n T 1) n 12 0 (fl (V 385) (dig w) 0 n) (j - 6 * V 376 41)) (6 * V 376 41) (6 * V 376 41 + n) ∧ T 376 7 = V 376 7 ∧ T 380 = V 380 ∧ T 383 = nowM V 383 ∧ T 384 = nowM V 384) := by
  obtain ⟨a1, a2, a3, a4, a5, a6, a7, a8, a9⟩ := id hB
  rw [m_run_dig hG a1 a2.2]
  by_cases a : w < 0
  · refine ⟨rnM n V w, -2, ?_, Or.inl ⟨Or.inl a, rfl, rfl⟩⟩
    simp (disch := first | omega | exact Nat.le_of_ble_eq_true rfl) only [bk1146_0, bk1146_39, bk1146_51, bk1146_54, bk1146_66, bk1146_106, bk1146_144, bk1146_193, Int.reduceToNat, vA_ap, Nat.reduceEqDiff, if_true, if_false, bx_nil, isL_I, isL_R, isL_U, if_ff, bind_some, tl_some, tl_none, bx_lload_1, bx_lstore_3, bx_iconst, bx_istore5, bx_iload5, bx_aload_0, gf376_0 hG, bx_ic_ge, gf376_10 hG, ia385 hG, is385 hG, bx_lload_3, bx_ldc2, bx_lrem, bx_l2i, bx_ldiv, bx_iinc5, bx_goto, bx_lconst0, bx_lcmp, lc_lt, lc_gt, lc_ge, lc_le, lc_eq, bx_if_lt, bx_if_eq, bx_bipush, bx_iret, gf376_41 hG, bx_ic_ne, gf376_35 hG, ia401 hG, is401 hG, bx_imul, bx_iadd, gf376_37 hG, ia403 hG, is403 hG, gf376_3 hG, ia379 hG, is379 hG, cl1110 hG, cl1117 hG, gf376_36 hG, ia402 hG, is402 hG, bx_dupI, bx_dupR, pf376_41 hG, bx_isub]
    rw [if_pos a]
  · by_cases b : w < 97 ^ n
    · have hr0 : rst w n = 0 := (rst_0 (by omega) n).mpr b
      have hm0 : rnM n V w 376 = V 376 := rfl
      by_cases c : V 376 41 = 40
      · refine ⟨rnM n V w, -4, ?_, Or.inr (Or.inl ⟨⟨by omega, b⟩, c, rfl, rfl⟩)⟩
        simp (disch := first | omega | exact Nat.le_of_ble_eq_true rfl) only [bk1146_0, bk1146_39, bk1146_51, bk1146_54, bk1146_66, bk1146_106, bk1146_144, bk1146_193, Int.reduceToNat, vA_ap, Nat.reduceEqDiff, if_true, if_false, bx_nil, isL_I, isL_R, isL_U, if_ff, bind_some, tl_some, tl_none, bx_lload_1, bx_lstore_3, bx_iconst, bx_istore5, bx_iload5, bx_aload_0, gf376_0 hG, bx_ic_ge, gf376_10 hG, ia385 hG, is385 hG, bx_lload_3, bx_ldc2, bx_lrem, bx_l2i, bx_ldiv, bx_iinc5, bx_goto, bx_lconst0, bx_lcmp, lc_lt, lc_gt, lc_ge, lc_le, lc_eq, bx_if_lt, bx_if_eq, bx_bipush, bx_iret, gf376_41 hG, bx_ic_ne, gf376_35 hG, ia401 hG, is401 hG, bx_imul, bx_iadd, gf376_37 hG, ia403 hG, is403 hG, gf376_3 hG, ia379 hG, is379 hG, cl1110 hG, cl1117 hG, gf376_36 hG, ia402 hG, is402 hG, bx_dupI, bx_dupR, pf376_41 hG, bx_isub]
        rw [if_neg a, hr0, if_pos rfl, hm0, if_pos c]
      · have h40 : V 376 41 < 40 := by omega
        generalize hr : V 376 41 = r at *
        obtain ⟨A, hA⟩ : ∃ A, A = rnM n V w := ⟨_, rfl⟩
        have A1 : ∀ b, b ≠ 385 → A b = V b := fun b b1 => by rw [hA]; exact vA_ne b1
        have A2 : A 385 = fl (V 385) (dig w) 0 n := by rw [hA]; exact vA_same _ _ _
        have e1 : run (d + 5) 1146 39 [xR 376, xL w, xU, xL (rst w n), xU, xI n] [] (A, G) = run (d + 5) 1146 69 [xR 376, xL w, xU, xL 0, xU, xI 0] [] (A, G) := by
          have a376 : A 376 41 = r := by rw [A1 _ (by decide)]; exact hr
          simp (disch := first | omega | exact Nat.le_of_ble_eq_true rfl) only [bk1146_0, bk1146_39, bk1146_51, bk1146_54, bk1146_66, bk1146_106, bk1146_144, bk1146_193, Int.reduceToNat, vA_ap, Nat.reduceEqDiff, if_true, if_false, bx_nil, isL_I, isL_R, isL_U, if_ff, bind_some, tl_some, tl_none, bx_lload_1, bx_lstore_3, bx_iconst, bx_istore5, bx_iload5, bx_aload_0, gf376_0 hG, bx_ic_ge, gf376_10 hG, ia385 hG, is385 hG, bx_lload_3, bx_ldc2, bx_lrem, bx_l2i, bx_ldiv, bx_iinc5, bx_goto, bx_lconst0, bx_lcmp, lc_lt, lc_gt, lc_ge, lc_le, lc_eq, bx_if_lt, bx_if_eq, bx_bipush, bx_iret, gf376_41 hG, bx_ic_ne, gf376_35 hG, ia401 hG, is401 hG, bx_imul, bx_iadd, gf376_37 hG, ia403 hG, is403 hG, gf376_3 hG, ia379 hG, is379 hG, cl1110 hG, cl1117 hG, gf376_36 hG, ia402 hG, is402 hG, bx_dupI, bx_dupR, pf376_41 hG, bx_isub]
          rw [if_neg a, hr0, if_pos rfl, a376, if_neg c]
        -- what comes in
        have l1 := it_up (D := d + 5) (q := 1146) (pc := 69) (loc := fun k => [xR 376, xL w, xU, xL 0, xU, xI k]) (F := fun k => (vA A 401 (fl (V 401) (fun j => dig w (j - 6 * r)) (6 * r) (6 * r + k)), G)) (hi := n) n 0 (by omega) (fun k h1 h2 => by
          have a376 : A 376 41 = r := by rw [A1 _ (by decide)]; exact hr
          have a0 : A 376 0 = n := by rw [A1 _ (by decide)]; exact a1
          have al : A 385 k = dig w k := by rw [A2, fl_in h1 h2]
          have e2 : fl (V 401) (fun j => dig w (j - 6 * r)) (6 * r) (6 * r + (k + 1)) = vU (fl (V 401) (fun j => dig w (j - 6 * r)) (6 * r) (6 * r + k)) (6 * r + k) (dig w k) := by
            rw [show 6 * r + (k + 1) = 6 * r + k + 1 by omega, ← fl_up (show 6 * r ≤ 6 * r + k by omega), show 6 * r + k - 6 * r = k by omega]
          rw [bk1146_69, e2]
          simp (disch := first | omega | exact Nat.le_of_ble_eq_true rfl) only [bk1146_0, bk1146_39, bk1146_51, bk1146_54, bk1146_66, bk1146_106, bk1146_144, bk1146_193, Int.reduceToNat, vA_ap, Nat.reduceEqDiff, if_true, if_false, bx_nil, isL_I, isL_R, isL_U, if_ff, bind_some, tl_some, tl_none, bx_lload_1, bx_lstore_3, bx_iconst, bx_istore5, bx_iload5, bx_aload_0, gf376_0 hG, bx_ic_ge, gf376_10 hG, ia385 hG, is385 hG, bx_lload_3, bx_ldc2, bx_lrem, bx_l2i, bx_ldiv, bx_iinc5, bx_goto, bx_lconst0, bx_lcmp, lc_lt, lc_gt, lc_ge, lc_le, lc_eq, bx_if_lt, bx_if_eq, bx_bipush, bx_iret, gf376_41 hG, bx_ic_ne, gf376_35 hG, ia401 hG, is401 hG, bx_imul, bx_iadd, gf376_37 hG, ia403 hG, is403 hG, gf376_3 hG, ia379 hG, is379 hG, cl1110 hG, cl1117 hG, gf376_36 hG, ia402 hG, is402 hG, bx_dupI, bx_dupR, pf376_41 hG, bx_isub, a376, a0, al, if_neg (show ¬ (n : Int) ≤ k by omega), vA_vA])
        rw [Int.add_zero, fl_nil, show vA A 401 (V 401) = A by rw [← A1 401 (by decide), vA_self]] at l1
        obtain ⟨B, hBB⟩ : ∃ B, B = vA A 401 (fl (V 401) (fun j => dig w (j - 6 * r)) (6 * r) (6 * r + n)) := ⟨_, rfl⟩
        have B1 : ∀ b, b ≠ 401 → B b = A b := fun b b1 => by rw [hBB]; exact vA_ne b1
        -- the settings
        have l2 := it_up (D := d + 5) (q := 1146) (pc := 109) (loc := fun k => [xR 376, xL w, xU, xL 0, xU, xI k]) (F := fun k => (vA B 403 (fl (V 403) (fun j => V 379 (j - 72 * r)) (72 * r) (72 * r + k)), G)) (hi := 72) 72 0 (by omega) (fun k h1 h2 => by
          have a376 : B 376 41 = r := by rw [B1 _ (by decide), A1 _ (by decide)]; exact hr
          have al : B 379 = V 379 := by rw [B1 _ (by decide), A1 _ (by decide)]
          have e2 : fl (V 403) (fun j => V 379 (j - 72 * r)) (72 * r) (72 * r + (k + 1)) = vU (fl (V 403) (fun j => V 379 (j - 72 * r)) (72 * r) (72 * r + k)) (72 * r + k) (V 379 k) := by
            rw [show 72 * r + (k + 1) = 72 * r + k + 1 by omega, ← fl_up (show 72 * r ≤ 72 * r + k by omega), show 72 * r + k - 72 * r = k by omega]
          rw [bk1146_109, e2]
          simp (disch := first | omega | exact Nat.le_of_ble_eq_true rfl) only [bk1146_0, bk1146_39, bk1146_51, bk1146_54, bk1146_66, bk1146_106, bk1146_144, bk1146_193, Int.reduceToNat, vA_ap, Nat.reduceEqDiff, if_true, if_false, bx_nil, isL_I, isL_R, isL_U, if_ff, bind_some, tl_some, tl_none, bx_lload_1, bx_lstore_3, bx_iconst, bx_istore5, bx_iload5, bx_aload_0, gf376_0 hG, bx_ic_ge, gf376_10 hG, ia385 hG, is385 hG, bx_lload_3, bx_ldc2, bx_lrem, bx_l2i, bx_ldiv, bx_iinc5, bx_goto, bx_lconst0, bx_lcmp, lc_lt, lc_gt, lc_ge, lc_le, lc_eq, bx_if_lt, bx_if_eq, bx_bipush, bx_iret, gf376_41 hG, bx_ic_ne, gf376_35 hG, ia401 hG, is401 hG, bx_imul, bx_iadd, gf376_37 hG, ia403 hG, is403 hG, gf376_3 hG, ia379 hG, is379 hG, cl1110 hG, cl1117 hG, gf376_36 hG, ia402 hG, is402 hG, bx_dupI, bx_dupR, pf376_41 hG, bx_isub, a376, al, if_neg (show ¬ 72 ≤ k by omega), vA_vA])
        rw [Int.add_zero, fl_nil, show vA B 403 (V 403) = B by rw [← A1 403 (by decide), ← B1 403 (by decide), vA_self]] at l2
        obtain ⟨E, hE⟩ : ∃ E, E = vA B 403 (fl (V 403) (fun j => V 379 (j - 72 * r)) (72 * r) (72 * r + 72)) := ⟨_, rfl⟩
        have E1 : ∀ b, b ≠ 401 → b ≠ 403 → b ≠ 385 → E b = V b := fun b b1 b2 b3 => by rw [hE, vA_ne b2, B1 b b1, A1 b b3]
        have E2 : E 385 = fl (V 385) (dig w) 0 n := by rw [hE, vA_ne (by decide), B1 _ (by decide), A2]
        -- the light
        have hby : nowM E 383 = nowM V 383 := by
          show (fun j => if 0 ≤ j ∧ j < 72 then E 379 j else E 383 j) = fun j => if 0 ≤ j ∧ j < 72 then V 379 j else V 383 j
          rw [E1 _ (by decide) (by decide) (by decide), E1 _ (by decide) (by decide) (by decide)]
        have hof : nowM E 384 = nowM V 384 := by
          show (fun j => if 0 ≤ j ∧ j < 72 then E 382 j else E 384 j) = fun j => if 0 ≤ j ∧ j < 72 then V 382 j else V 384 j
          rw [E1 _ (by decide) (by decide) (by decide), E1 _ (by decide) (by decide) (by decide)]
        have N1 : ∀ b, b ≠ 383 → b ≠ 384 → nowM E b = E b := fun b b1 b2 => by unfold nowM; rw [vA_ne b2, vA_ne b1]
        have hOK : mOK n (nowM E) := by
          refine ⟨?_, a2, ?_, ?_, ?_, ?_, ?_, ?_, ?_⟩
          · rw [N1 _ (by decide) (by decide), E1 _ (by decide) (by decide) (by decide)]; exact a1
          · rw [N1 _ (by decide) (by decide), E1 _ (by decide) (by decide) (by decide)]; exact a3
          · rw [hby]; exact nowM_by a4
          · rw [hof]; exact nowM_of a5
          · rw [N1 _ (by decide) (by decide), E1 _ (by decide) (by decide) (by decide)]; exact a6
          · rw [N1 _ (by decide) (by decide), E1 _ (by decide) (by decide) (by decide)]; exact a7
          · rw [N1 _ (by decide) (by decide), E1 _ (by decide) (by decide) (by decide)]; exact a8
          · rw [N1 _ (by decide) (by decide), E2]
            intro l l0 l1
            by_cases q : l < (n : Int)
            · rw [fl_in l0 q]; exact dig_bd (by omega)
            · rw [fl_out (by omega), a9 l (by omega) l1]; omega
        have hgo : run (d + 4) 1117 0 [xR 376, xI 1, xU, xU] [] (nowM E, G) = some (none, (goM n (nowM E) 1, G)) := m_goes hG (Or.inr rfl) hOK
        obtain ⟨H, hH⟩ : ∃ H, H = goM n (nowM E) 1 := ⟨_, rfl⟩
        have H1 : ∀ b, b ≠ 385 → b ≠ 383 → b ≠ 384 → b ≠ 401 → b ≠ 403 → H b = V b := fun b b1 b2 b3 b4 b5 => by
          rw [hH]; unfold goM
          rw [vA_ne b1, N1 b b2 b3, E1 b b4 b5 b1]
        have H2 : H 385 = plt (V 377) (V 378) (gT n (nowM E) 1) n 12 0 (fl (V 385) (dig w) 0 n) := by
          rw [hH]; unfold goM
          rw [vA_same, N1 _ (by decide) (by decide), N1 _ (by decide) (by decide), N1 _ (by decide) (by decide), E2, E1 _ (by decide) (by decide) (by decide), E1 _ (by decide) (by decide) (by decide)]
        have H3 : H 401 = fl (V 401) (fun j => dig w (j - 6 * r)) (6 * r) (6 * r + n) := by
          rw [hH]; unfold goM
          rw [vA_ne (by decide), N1 _ (by decide) (by decide), hE, vA_ne (by decide), hBB, vA_same]
        have H4 : H 403 = fl (V 403) (fun j => V 379 (j - 72 * r)) (72 * r) (72 * r + 72) := by
          rw [hH]; unfold goM
          rw [vA_ne (by decide), N1 _ (by decide) (by decide), hE, vA_same]
        have l3 := it_up (D := d + 5) (q := 1146) (pc := 156) (loc := fun k => [xR 376, xL w, xU, xL 0, xU, xI k]) (F := fun k => (vA H 402 (fl (V 402) (fun j => H 385 (j - 6 * r)) (6 * r) (6 * r + k)), G)) (hi := n) n 0 (by omega) (fun k h1 h2 => by
          have a376 : H 376 41 = r := by rw [H1 _ (by decide) (by decide) (by decide) (by decide) (by decide)]; exact hr
          have a0 : H 376 0 = n := by rw [H1 _ (by decide) (by decide) (by decide) (by decide) (by decide)]; exact a1
          have e2 : fl (V 402) (fun j => H 385 (j - 6 * r)) (6 * r) (6 * r + (k + 1)) = vU (fl (V 402) (fun j => H 385 (j - 6 * r)) (6 * r) (6 * r + k)) (6 * r + k) (H 385 k) := by
            rw [show 6 * r + (k + 1) = 6 * r + k + 1 by omega, ← fl_up (show 6 * r ≤ 6 * r + k by omega), show 6 * r + k - 6 * r = k by omega]
          rw [bk1146_156, e2]
          simp (disch := first | omega | exact Nat.le_of_ble_eq_true rfl) only [bk1146_0, bk1146_39, bk1146_51, bk1146_54, bk1146_66, bk1146_106, bk1146_144, bk1146_193, Int.reduceToNat, vA_ap, Nat.reduceEqDiff, if_true, if_false, bx_nil, isL_I, isL_R, isL_U, if_ff, bind_some, tl_some, tl_none, bx_lload_1, bx_lstore_3, bx_iconst, bx_istore5, bx_iload5, bx_aload_0, gf376_0 hG, bx_ic_ge, gf376_10 hG, ia385 hG, is385 hG, bx_lload_3, bx_ldc2, bx_lrem, bx_l2i, bx_ldiv, bx_iinc5, bx_goto, bx_lconst0, bx_lcmp, lc_lt, lc_gt, lc_ge, lc_le, lc_eq, bx_if_lt, bx_if_eq, bx_bipush, bx_iret, gf376_41 hG, bx_ic_ne, gf376_35 hG, ia401 hG, is401 hG, bx_imul, bx_iadd, gf376_37 hG, ia403 hG, is403 hG, gf376_3 hG, ia379 hG, is379 hG, cl1110 hG, cl1117 hG, gf376_36 hG, ia402 hG, is402 hG, bx_dupI, bx_dupR, pf376_41 hG, bx_isub, a376, a0, if_neg (show ¬ (n : Int) ≤ k by omega), vA_vA])
        rw [Int.add_zero, fl_nil, show vA H 402 (V 402) = H by rw [← H1 402 (by decide) (by decide) (by decide) (by decide) (by decide), vA_self]] at l3
        have h376 : H 376 = V 376 := H1 _ (by decide) (by decide) (by decide) (by decide) (by decide)
        refine ⟨vA (vA H 402 (fl (V 402) (fun j => H 385 (j - 6 * r)) (6 * r) (6 * r + n))) 376 (vU (V 376) 41 (r + 1)), r, ?_, Or.inr (Or.inr ⟨⟨by omega, b⟩, h40, rfl, fun b b1 b2 b3 b4 b5 b6 b7 => ?_, vA_same _ _ _, fun j j0 j1 => ?_, ?_, ?_, nowM E, ?_, ?_, ?_, hby, hof⟩)⟩
        · rw [← hA, e1, l1, ← hBB]
          have b0 : B 376 0 = n := by rw [B1 _ (by decide), A1 _ (by decide)]; exact a1
          rw [bk1146_69]
          simp (disch := first | omega | exact Nat.le_of_ble_eq_true rfl) only [bk1146_0, bk1146_39, bk1146_51, bk1146_54, bk1146_66, bk1146_106, bk1146_144, bk1146_193, Int.reduceToNat, vA_ap, Nat.reduceEqDiff, if_true, if_false, bx_nil, isL_I, isL_R, isL_U, if_ff, bind_some, tl_some, tl_none, bx_lload_1, bx_lstore_3, bx_iconst, bx_istore5, bx_iload5, bx_aload_0, gf376_0 hG, bx_ic_ge, gf376_10 hG, ia385 hG, is385 hG, bx_lload_3, bx_ldc2, bx_lrem, bx_l2i, bx_ldiv, bx_iinc5, bx_goto, bx_lconst0, bx_lcmp, lc_lt, lc_gt, lc_ge, lc_le, lc_eq, bx_if_lt, bx_if_eq, bx_bipush, bx_iret, gf376_41 hG, bx_ic_ne, gf376_35 hG, ia401 hG, is401 hG, bx_imul, bx_iadd, gf376_37 hG, ia403 hG, is403 hG, gf376_3 hG, ia379 hG, is379 hG, cl1110 hG, cl1117 hG, gf376_36 hG, ia402 hG, is402 hG, bx_dupI, bx_dupR, pf376_41 hG, bx_isub, b0, if_pos (show (n : Int) ≤ n by omega)]
          rw [l2, ← hE, bk1146_109]
          simp (disch := first | omega | exact Nat.le_of_ble_eq_true rfl) only [bk1146_0, bk1146_39, bk1146_51, bk1146_54, bk1146_66, bk1146_106, bk1146_144, bk1146_193, Int.reduceToNat, vA_ap, Nat.reduceEqDiff, if_true, if_false, bx_nil, isL_I, isL_R, isL_U, if_ff, bind_some, tl_some, tl_none, bx_lload_1, bx_lstore_3, bx_iconst, bx_istore5, bx_iload5, bx_aload_0, gf376_0 hG, bx_ic_ge, gf376_10 hG, ia385 hG, is385 hG, bx_lload_3, bx_ldc2, bx_lrem, bx_l2i, bx_ldiv, bx_iinc5, bx_goto, bx_lconst0, bx_lcmp, lc_lt, lc_gt, lc_ge, lc_le, lc_eq, bx_if_lt, bx_if_eq, bx_bipush, bx_iret, gf376_41 hG, bx_ic_ne, gf376_35 hG, ia401 hG, is401 hG, bx_imul, bx_iadd, gf376_37 hG, ia403 hG, is403 hG, gf376_3 hG, ia379 hG, is379 hG, cl1110 hG, cl1117 hG, gf376_36 hG, ia402 hG, is402 hG, bx_dupI, bx_dupR, pf376_41 hG, bx_isub, if_pos (show (72 : Int) ≤ 72 by omega), m_now hG, hgo, ← hH]
          rw [l3, bk1146_156]
          have z0 : V 376 0 = n := a1
          have z1 : vU (V 376) 41 (r + 1) 41 = r + 1 := rfl
          simp (disch := first | omega | exact Nat.le_of_ble_eq_true rfl) only [bk1146_0, bk1146_39, bk1146_51, bk1146_54, bk1146_66, bk1146_106, bk1146_144, bk1146_193, Int.reduceToNat, vA_ap, Nat.reduceEqDiff, if_true, if_false, bx_nil, isL_I, isL_R, isL_U, if_ff, bind_some, tl_some, tl_none, bx_lload_1, bx_lstore_3, bx_iconst, bx_istore5, bx_iload5, bx_aload_0, gf376_0 hG, bx_ic_ge, gf376_10 hG, ia385 hG, is385 hG, bx_lload_3, bx_ldc2, bx_lrem, bx_l2i, bx_ldiv, bx_iinc5, bx_goto, bx_lconst0, bx_lcmp, lc_lt, lc_gt, lc_ge, lc_le, lc_eq, bx_if_lt, bx_if_eq, bx_bipush, bx_iret, gf376_41 hG, bx_ic_ne, gf376_35 hG, ia401 hG, is401 hG, bx_imul, bx_iadd, gf376_37 hG, ia403 hG, is403 hG, gf376_3 hG, ia379 hG, is379 hG, cl1110 hG, cl1117 hG, gf376_36 hG, ia402 hG, is402 hG, bx_dupI, bx_dupR, pf376_41 hG, bx_isub, h376, z0, hr, z1, if_pos (show (n : Int) ≤ n by omega)]
          rw [show r + 1 - 1 = r by omega]
        · rw [vA_ne b1, vA_ne b6]; exact H1 b b2 b3 b4 b5 b7
        · rw [vA_ne (by decide), vA_ne (by decide), H2, plt_z j0, fl_out (by omega)]; exact a9 j j0 j1
        · rw [vA_ne (by decide), vA_ne (by decide)]; exact H3
        · rw [vA_ne (by decide), vA_ne (by decide)]; exact H4
        · rw [vA_ne (by decide), vA_same, H2]
        · rw [N1 _ (by decide) (by decide), E1 _ (by decide) (by decide) (by decide)]
        · rw [N1 _ (by decide) (by decide), E1 _ (by decide) (by decide) (by decide)]
    · refine ⟨rnM n V w, -2, ?_, Or.inl ⟨Or.inr b, rfl, rfl⟩⟩
      have hr0 : ¬ rst w n = 0 := fun z => b ((rst_0 (by omega) n).mp z)
      simp (disch := first | omega | exact Nat.le_of_ble_eq_true rfl) only [bk1146_0, bk1146_39, bk1146_51, bk1146_54, bk1146_66, bk1146_106, bk1146_144, bk1146_193, Int.reduceToNat, vA_ap, Nat.reduceEqDiff, if_true, if_false, bx_nil, isL_I, isL_R, isL_U, if_ff, bind_some, tl_some, tl_none, bx_lload_1, bx_lstore_3, bx_iconst, bx_istore5, bx_iload5, bx_aload_0, gf376_0 hG, bx_ic_ge, gf376_10 hG, ia385 hG, is385 hG, bx_lload_3, bx_ldc2, bx_lrem, bx_l2i, bx_ldiv, bx_iinc5, bx_goto, bx_lconst0, bx_lcmp, lc_lt, lc_gt, lc_ge, lc_le, lc_eq, bx_if_lt, bx_if_eq, bx_bipush, bx_iret, gf376_41 hG, bx_ic_ne, gf376_35 hG, ia401 hG, is401 hG, bx_imul, bx_iadd, gf376_37 hG, ia403 hG, is403 hG, gf376_3 hG, ia379 hG, is379 hG, cl1110 hG, cl1117 hG, gf376_36 hG, ia402 hG, is402 hG, bx_dupI, bx_dupR, pf376_41 hG, bx_isub]
      rw [if_neg a, if_neg hr0]
end RN
