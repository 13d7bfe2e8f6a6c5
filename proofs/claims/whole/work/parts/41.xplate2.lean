/-! THE CLASS: Plate, light and counts -/
def anyF (p : Int → Bool) : Nat → Int → Bool
  | 0, _ => false
  | m + 1, c => p c || anyF p m (c + 1)
def lnOK (LN : Int → Int) : Prop := ∀ c, 0 ≤ c → c < 36 → LN c = -1 ∨ (0 ≤ LN c ∧ LN c ≤ 4)
theorem vA_cm {V : Nat → Int → Int} {a b : Nat} {f g : Int → Int} (h : a ≠ b) : vA (vA V a f) b g = vA (vA V b g) a f := by
  funext c
  by_cases h1 : c = a
  · subst h1; simp [vA, h]
  · by_cases h2 : c = b
    · subst h2; simp [vA, h1]
    · simp [vA, h1, h2]
section XQ
variable {n L d : Nat} {G : XG} {μ : XM}
theorem x_send_lp {a t : Nat} {fr to : Int} (hG : Good n L G) (ha : G.1 a = (1, 6)) (ht : G.1 t = (1, 36)) (n1 : ¬ 3 = a) (n2 : ¬ 4 = a) (n3 : ¬ 6 = a) (n4 : ¬ t = a) (hto : 0 ≤ to ∧ to ≤ 12) : ∀ (m : Nat) (c : Int) (V : Nat → Int → Int), 0 ≤ c → c + m = 3 * to → rg (V 3) 96 0 96 → rg (V 4) 96 0 96 → lnOK (V 6) → rg (V t) 36 0 95 → rg (V a) 6 0 96 → run (d + 2) 307 5 [xR 5, xR a, xR t, xI fr, xI to, xI c] [] (V, G) = some (none, (vA V a (sendX (V 3) (V 4) (V 6) (V t) m c (V a)), G)) := by
  intro m
  induction m with
  | zero =>
    intro c V h0 hm hC hS hL hT hA
    rw [bk307_5]
    simp (disch := first | omega | exact Nat.le_of_ble_eq_true rfl) only [bk307_0, bk307_42, bk307_48, Int.reduceToNat, vA_ap, Nat.reduceEqDiff, if_true, if_false, bx_nil, isL_I, isL_R, isL_U, if_ff, bind_some, tl_some, tl_none, bx_iload_3, bx_iconst, bx_imul, bx_istore5, bx_iload5, bx_iload4, bx_ic_ge, bx_aload_0, cl308 hG, bx_if_eq, gf5_1 hG, bx_aload_1, gf5_2 hG, ia6 hG, is6 hG, bx_aload_2, cl1 hG, bx_iinc5, bx_goto, bx_vret, if_pos (show to * 3 ≤ c by omega)]
    rw [show sendX (V 3) (V 4) (V 6) (V t) 0 c (V a) = V a from rfl, vA_self]
  | succ m ih =>
    intro c V h0 hm hC hS hL hT hA
    rw [bk307_5]
    have hl := hL c h0 (by omega)
    have htc := hT c h0 (by omega)
    unfold sendX
    by_cases e : V 6 c = -1
    · have e2 : b1 (¬ V 6 c = -1) = 0 := b1_f (fun z => z e)
      simp (disch := first | omega | exact Nat.le_of_ble_eq_true rfl) only [bk307_0, bk307_42, bk307_48, Int.reduceToNat, vA_ap, Nat.reduceEqDiff, if_true, if_false, bx_nil, isL_I, isL_R, isL_U, if_ff, bind_some, tl_some, tl_none, bx_iload_3, bx_iconst, bx_imul, bx_istore5, bx_iload5, bx_iload4, bx_ic_ge, bx_aload_0, cl308 hG, bx_if_eq, gf5_1 hG, bx_aload_1, gf5_2 hG, ia6 hG, is6 hG, bx_aload_2, cl1 hG, bx_iinc5, bx_goto, bx_vret, if_neg (show ¬ to * 3 ≤ c by omega), x_isCell hG h0 (show c < 36 by omega), e2]
      rw [ih (c + 1) V (by omega) (by omega) hC hS hL hT hA, if_pos e]
    · have e2 : b1 (¬ V 6 c = -1) = 1 := b1_t e
      have hl2 : 0 ≤ V 6 c ∧ V 6 c ≤ 4 := by omega
      simp (disch := first | omega | exact Nat.le_of_ble_eq_true rfl) only [bk307_0, bk307_42, bk307_48, Int.reduceToNat, vA_ap, Nat.reduceEqDiff, if_true, if_false, bx_nil, isL_I, isL_R, isL_U, if_ff, bind_some, tl_some, tl_none, bx_iload_3, bx_iconst, bx_imul, bx_istore5, bx_iload5, bx_iload4, bx_ic_ge, bx_aload_0, cl308 hG, bx_if_eq, gf5_1 hG, bx_aload_1, gf5_2 hG, ia6 hG, is6 hG, bx_aload_2, cl1 hG, bx_iinc5, bx_goto, bx_vret, if_neg (show ¬ to * 3 ≤ c by omega), x_isCell hG h0 (show c < 36 by omega), e2, if_neg (show ¬ (1 : Int) = 0 by omega), bx_iald ht, x_turnLanes hG ha n1 n2 hl2 htc hC hS (hA _ (by omega) (by omega)) (hA _ (by omega) (by omega))]
      rw [ih (c + 1) _ (by omega) (by omega) (by rw [vA_ne n1]; exact hC) (by rw [vA_ne n2]; exact hS) (by rw [vA_ne n3]; exact hL) (by rw [vA_ne n4]; exact hT) (by rw [vA_same]; exact turnL_rg hA), vA_vA, vA_ne n1, vA_ne n2, vA_ne n3, vA_ne n4, vA_same, if_neg e]
theorem x_send {V : Nat → Int → Int} {a t : Nat} {fr to : Int} {m : Nat} (hG : Good n L G) (ha : G.1 a = (1, 6)) (ht : G.1 t = (1, 36)) (n1 : ¬ 3 = a) (n2 : ¬ 4 = a) (n3 : ¬ 6 = a) (n4 : ¬ t = a) (hto : 0 ≤ to ∧ to ≤ 12) (hfr : 0 ≤ fr ∧ 3 * fr + m = 3 * to) (hC : rg (V 3) 96 0 96) (hS : rg (V 4) 96 0 96) (hL : lnOK (V 6)) (hT : rg (V t) 36 0 95) (hA : rg (V a) 6 0 96) : run (d + 2) 307 0 [xR 5, xR a, xR t, xI fr, xI to, xU] [] (V, G) = some (none, (vA V a (sendX (V 3) (V 4) (V 6) (V t) m (3 * fr) (V a)), G)) := by
  simp (disch := first | omega | exact Nat.le_of_ble_eq_true rfl) only [bk307_0, bk307_42, bk307_48, Int.reduceToNat, vA_ap, Nat.reduceEqDiff, if_true, if_false, bx_nil, isL_I, isL_R, isL_U, if_ff, bind_some, tl_some, tl_none, bx_iload_3, bx_iconst, bx_imul, bx_istore5, bx_iload5, bx_iload4, bx_ic_ge, bx_aload_0, cl308 hG, bx_if_eq, gf5_1 hG, bx_aload_1, gf5_2 hG, ia6 hG, is6 hG, bx_aload_2, cl1 hG, bx_iinc5, bx_goto, bx_vret]
  rw [show fr * 3 = 3 * fr by omega]
  exact x_send_lp hG ha ht n1 n2 n3 n4 hto m (3 * fr) V (by omega) (by omega) hC hS hL hT hA
theorem x_col_lp {c0 : Int} (hG : Good n L G) (hc0 : 0 ≤ c0 ∧ c0 < 6) : ∀ (m : Nat) (c : Int) (V : Nat → Int → Int), 0 ≤ c → c ≤ 36 → (36 - c).toNat = m → ∃ V' , V' = vA V 10 (fun j => if c ≤ j ∧ j < 36 then kX (V 8) (V 7) j else V 10 j) ∧ ∀ z, run (d + 3) 306 2 [xR 5, xI c0, xI c] [] (V, G) = z ↔ run (d + 3) 306 43 [xR 5, xI c0, xI 36] [] (V', G) = z := by
  intro m
  induction m with
  | zero =>
    intro c V h0 h1 hm
    refine ⟨_, rfl, fun z => ?_⟩
    rw [bk306_2, vA_id (fun j => if_neg (by omega))]
    have e : c = 36 := by omega
    subst e
    simp only [bx_iload_2, bx_bipush, bx_ic_ge, if_pos (show (36 : Int) ≤ 36 by omega), Int.reduceToNat]
  | succ m ih =>
    intro c V h0 h1 hm
    refine ⟨_, rfl, fun z => ?_⟩
    have step : run (d + 3) 306 2 [xR 5, xI c0, xI c] [] (V, G) = run (d + 3) 306 2 [xR 5, xI c0, xI (c + 1)] [] (vA V 10 (vU (V 10) c (kX (V 8) (V 7) c)), G) := by
      rw [bk306_2]
      unfold kX
      by_cases e : V 8 c = -1
      · have e2 : b1 (¬ V 8 c = -1) = 0 := b1_f (fun z => z e)
        simp (disch := first | omega | exact Nat.le_of_ble_eq_true rfl) only [bk306_0, bk306_30, bk306_36, bk306_43, Int.reduceToNat, vA_ap, Nat.reduceEqDiff, if_true, if_false, bx_nil, isL_I, isL_R, isL_U, if_ff, bind_some, tl_some, tl_none, bx_iconst, bx_istore_2, bx_iload_2, bx_bipush, bx_ic_ge, bx_aload_0, gf5_7 hG, ia10 hG, is10 hG, cl302 hG, bx_if_eq, gf5_4 hG, ia8 hG, is8 hG, bx_goto, gf5_3 hG, ia7 hG, is7 hG, bx_iinc2, gf5_8 hG, ia11 hG, is11 hG, cl1400, bx_iload_1, cl307 hG, bx_aret, if_neg (show ¬ 36 ≤ c by omega), x_isDead hG h0 (show c < 36 by omega), e2, if_pos e]
      · have e2 : b1 (¬ V 8 c = -1) = 1 := b1_t e
        simp (disch := first | omega | exact Nat.le_of_ble_eq_true rfl) only [bk306_0, bk306_30, bk306_36, bk306_43, Int.reduceToNat, vA_ap, Nat.reduceEqDiff, if_true, if_false, bx_nil, isL_I, isL_R, isL_U, if_ff, bind_some, tl_some, tl_none, bx_iconst, bx_istore_2, bx_iload_2, bx_bipush, bx_ic_ge, bx_aload_0, gf5_7 hG, ia10 hG, is10 hG, cl302 hG, bx_if_eq, gf5_4 hG, ia8 hG, is8 hG, bx_goto, gf5_3 hG, ia7 hG, is7 hG, bx_iinc2, gf5_8 hG, ia11 hG, is11 hG, cl1400, bx_iload_1, cl307 hG, bx_aret, if_neg (show ¬ 36 ≤ c by omega), x_isDead hG h0 (show c < 36 by omega), e2, if_neg e, if_neg (show ¬ (1 : Int) = 0 by omega)]
    obtain ⟨V', e1, e2⟩ := ih (c + 1) (vA V 10 (vU (V 10) c (kX (V 8) (V 7) c))) (by omega) (by omega) (by omega)
    rw [step, e2 z, e1, vA_vA]
    have e3 : (vA V 10 fun j => if c + 1 ≤ j ∧ j < 36 then kX (vA V 10 (vU (V 10) c (kX (V 8) (V 7) c)) 8) (vA V 10 (vU (V 10) c (kX (V 8) (V 7) c)) 7) j else vA V 10 (vU (V 10) c (kX (V 8) (V 7) c)) 10 j) = vA V 10 fun j => if c ≤ j ∧ j < 36 then kX (V 8) (V 7) j else V 10 j := by
      refine vA_ext (fun j => ?_)
      rw [vA_same, vA_ne (show 8 ≠ 10 by decide), vA_ne (show 7 ≠ 10 by decide)]
      by_cases h : j = c
      · subst h
        rw [if_neg (by omega), if_pos (by omega), vU_at]
      · rw [vU_ne h]
        by_cases h2 : c ≤ j ∧ j < 36
        · rw [if_pos (by omega), if_pos h2]
        · rw [if_neg (by omega), if_neg h2]
    rw [e3]
/-- the column c of the plate's table -/
def colX (V : Nat → Int → Int) (c : Int) : Int → Int := sendX (V 3) (V 4) (V 6) (fun j => if 0 ≤ j ∧ j < 36 then kX (V 8) (V 7) j else V 10 j) 36 0 (vU (fun j => if 0 ≤ j ∧ j < 6 then 0 else V 11 j) c 1)
theorem x_col {V : Nat → Int → Int} {c0 : Int} (hG : Good n L G) (hc0 : 0 ≤ c0 ∧ c0 < 6) (hC : rg (V 3) 96 0 96) (hS : rg (V 4) 96 0 96) (hL : lnOK (V 6)) (hs : rg (V 8) 36 (-1) 95) (hb : rg (V 7) 36 0 95) : run (d + 3) 306 0 [xR 5, xI c0, xU] [] (V, G) = some (some (xR 11), (vA (vA V 10 (fun j => if 0 ≤ j ∧ j < 36 then kX (V 8) (V 7) j else V 10 j)) 11 (colX V c0), G)) := by
  simp only [bk306_0, bx_iconst, bx_istore_2, isL_I, if_ff, bx_nil]
  obtain ⟨V', e1, e2⟩ := x_col_lp (d := d) hG hc0 _ 0 V (by omega) (by omega) rfl
  refine (e2 _).mpr ?_
  have hpt : rg (V' 10) 36 0 95 := by
    intro k h0 h1
    rw [e1, vA_same, if_pos ⟨h0, h1⟩]
    exact kX_bd (hs k h0 h1) (hb k h0 h1)
  have f3 : V' 3 = V 3 := by rw [e1]; rfl
  have f4 : V' 4 = V 4 := by rw [e1]; rfl
  have f6 : V' 6 = V 6 := by rw [e1]; rfl
  have f11 : V' 11 = V 11 := by rw [e1]; rfl
  have hf : rg (vU (fun j => if 0 ≤ j ∧ j < 6 then (0 : Int) else V' 11 j) c0 1) 6 0 96 := by
    intro k h0 h1
    by_cases h : k = c0
    · rw [h, vU_at]; omega
    · rw [vU_ne h, if_pos ⟨h0, h1⟩]; omega
  simp (disch := first | omega | exact Nat.le_of_ble_eq_true rfl) only [bk306_0, bk306_30, bk306_36, bk306_43, Int.reduceToNat, vA_ap, Nat.reduceEqDiff, if_true, if_false, bx_nil, isL_I, isL_R, isL_U, if_ff, bind_some, tl_some, tl_none, bx_iconst, bx_istore_2, bx_iload_2, bx_bipush, bx_ic_ge, bx_aload_0, gf5_7 hG, ia10 hG, is10 hG, cl302 hG, bx_if_eq, gf5_4 hG, ia8 hG, is8 hG, bx_goto, gf5_3 hG, ia7 hG, is7 hG, bx_iinc2, gf5_8 hG, ia11 hG, is11 hG, cl1400, bx_iload_1, cl307 hG, bx_aret, j_fill (gsh hG 11 rfl rfl : G.1 11 = (1, 6))]
  rw [vA_vA]
  have hs := x_send (d := d) (m := 36) (fr := 0) (to := 12) (V := vA V' 11 (vU (fun j => if 0 ≤ j ∧ j < ((6 : Nat) : Int) then 0 else V' 11 j) c0 1)) hG (gsh hG 11 rfl rfl) (gsh hG 10 rfl rfl) (by decide) (by decide) (by decide) (by decide) (by omega) (by omega) (by rw [vA_ne (by decide), f3]; exact hC) (by rw [vA_ne (by decide), f4]; exact hS) (by rw [vA_ne (by decide), f6]; exact hL) (by rw [vA_ne (by decide)]; exact hpt) (by rw [vA_same]; exact hf)
  rw [hs]
  simp only [bind_some, tl_none, bx_aload_0, gf5_8 hG, bx_aret]
  rw [vA_vA, vA_same, vA_ne (by decide), vA_ne (by decide), vA_ne (by decide), vA_ne (by decide), f3, f4, f6]
  unfold colX
  rw [e1, vA_same, vA_ne (show 11 ≠ 10 by decide)]
  rfl
theorem x_dead_lp {V : Nat → Int → Int} (hG : Good n L G) : ∀ (m : Nat) (c s : Int), 0 ≤ c → c + m = 36 → 0 ≤ s ∧ s ≤ c → run (d + 1) 310 4 [xR 5, xI s, xI c] [] (V, G) = some (some (xI (s + cntF (fun c => decide (¬ V 8 c = -1)) m c)), (V, G)) := by
  intro m
  induction m with
  | zero =>
    intro c s h0 hm hs
    rw [bk310_4]
    simp (disch := first | omega | exact Nat.le_of_ble_eq_true rfl) only [bk310_0, bk310_21, bk310_27, Int.reduceToNat, vA_ap, Nat.reduceEqDiff, if_true, if_false, bx_nil, isL_I, isL_R, isL_U, if_ff, bind_some, tl_some, tl_none, bx_iconst, bx_istore_1, bx_istore_2, bx_iload_2, bx_bipush, bx_ic_ge, bx_aload_0, cl302 hG, bx_if_eq, bx_iinc1, bx_iinc2, bx_goto, bx_iload_1, bx_iret, if_pos (show 36 ≤ c by omega), cntF, Int.add_zero]
  | succ m ih =>
    intro c s h0 hm hs
    rw [bk310_4]
    unfold cntF
    by_cases e : V 8 c = -1
    · have e2 : b1 (¬ V 8 c = -1) = 0 := b1_f (fun z => z e)
      simp (disch := first | omega | exact Nat.le_of_ble_eq_true rfl) only [bk310_0, bk310_21, bk310_27, Int.reduceToNat, vA_ap, Nat.reduceEqDiff, if_true, if_false, bx_nil, isL_I, isL_R, isL_U, if_ff, bind_some, tl_some, tl_none, bx_iconst, bx_istore_1, bx_istore_2, bx_iload_2, bx_bipush, bx_ic_ge, bx_aload_0, cl302 hG, bx_if_eq, bx_iinc1, bx_iinc2, bx_goto, bx_iload_1, bx_iret, if_neg (show ¬ 36 ≤ c by omega), x_isDead hG h0 (show c < 36 by omega), e2]
      rw [ih (c + 1) s (by omega) (by omega) (by omega)]
      simp [e]
    · have e2 : b1 (¬ V 8 c = -1) = 1 := b1_t e
      simp (disch := first | omega | exact Nat.le_of_ble_eq_true rfl) only [bk310_0, bk310_21, bk310_27, Int.reduceToNat, vA_ap, Nat.reduceEqDiff, if_true, if_false, bx_nil, isL_I, isL_R, isL_U, if_ff, bind_some, tl_some, tl_none, bx_iconst, bx_istore_1, bx_istore_2, bx_iload_2, bx_bipush, bx_ic_ge, bx_aload_0, cl302 hG, bx_if_eq, bx_iinc1, bx_iinc2, bx_goto, bx_iload_1, bx_iret, if_neg (show ¬ 36 ≤ c by omega), x_isDead hG h0 (show c < 36 by omega), e2, if_neg (show ¬ (1 : Int) = 0 by omega)]
      rw [ih (c + 1) (s + 1) (by omega) (by omega) (by omega)]
      simp [e]
      omega
theorem x_dead {V : Nat → Int → Int} (hG : Good n L G) : run (d + 1) 310 0 [xR 5, xU, xU] [] (V, G) = some (some (xI (cntF (fun c => decide (¬ V 8 c = -1)) 36 0)), (V, G)) := by
  simp (disch := first | omega | exact Nat.le_of_ble_eq_true rfl) only [bk310_0, bk310_21, bk310_27, Int.reduceToNat, vA_ap, Nat.reduceEqDiff, if_true, if_false, bx_nil, isL_I, isL_R, isL_U, if_ff, bind_some, tl_some, tl_none, bx_iconst, bx_istore_1, bx_istore_2, bx_iload_2, bx_bipush, bx_ic_ge, bx_aload_0, cl302 hG, bx_if_eq, bx_iinc1, bx_iinc2, bx_goto, bx_iload_1, bx_iret]
  rw [x_dead_lp hG 36 0 0 (by omega) (by omega) (by omega), Int.zero_add]
abbrev useX (V : Nat → Int → Int) (c : Int) : Bool := decide (¬ V 8 c = -1) || decide (0 < V 7 c)
theorem x_isInUse_lp {V : Nat → Int → Int} {l : Int} (hG : Good n L G) (hl : 0 ≤ l ∧ l ≤ 11) : ∀ (m : Nat) (c : Int), 3 * l ≤ c → c + m = 3 * l + 3 → run (d + 1) 312 4 [xR 5, xI l, xI c] [] (V, G) = some (some (xI (b1 (anyF (useX V) m c = true))), (V, G)) := by
  intro m
  induction m with
  | zero =>
    intro c h0 hm
    rw [bk312_4]
    simp (disch := first | omega | exact Nat.le_of_ble_eq_true rfl) only [bk312_0, bk312_30, bk312_32, bk312_38, Int.reduceToNat, vA_ap, Nat.reduceEqDiff, if_true, if_false, bx_nil, isL_I, isL_R, isL_U, if_ff, bind_some, tl_some, tl_none, bx_iload_1, bx_iconst, bx_imul, bx_istore_2, bx_iload_2, bx_iadd, bx_ic_ge, bx_aload_0, cl302 hG, bx_if_ne, gf5_3 hG, ia7 hG, is7 hG, bx_if_le, bx_zret, bx_iinc2, bx_goto, if_pos (show (l + 1) * 3 ≤ c by omega)]
    rfl
  | succ m ih =>
    intro c h0 hm
    rw [bk312_4]
    unfold anyF
    by_cases e : V 8 c = -1
    · have e2 : b1 (¬ V 8 c = -1) = 0 := b1_f (fun z => z e)
      by_cases e3 : V 7 c ≤ 0
      · simp (disch := first | omega | exact Nat.le_of_ble_eq_true rfl) only [bk312_0, bk312_30, bk312_32, bk312_38, Int.reduceToNat, vA_ap, Nat.reduceEqDiff, if_true, if_false, bx_nil, isL_I, isL_R, isL_U, if_ff, bind_some, tl_some, tl_none, bx_iload_1, bx_iconst, bx_imul, bx_istore_2, bx_iload_2, bx_iadd, bx_ic_ge, bx_aload_0, cl302 hG, bx_if_ne, gf5_3 hG, ia7 hG, is7 hG, bx_if_le, bx_zret, bx_iinc2, bx_goto, if_neg (show ¬ (l + 1) * 3 ≤ c by omega), x_isDead hG (show 0 ≤ c by omega) (show c < 36 by omega), e2, if_pos e3]
        rw [ih (c + 1) (by omega) (by omega)]
        have : useX V c = false := by simp [useX, e]; omega
        rw [this, Bool.false_or]
      · simp (disch := first | omega | exact Nat.le_of_ble_eq_true rfl) only [bk312_0, bk312_30, bk312_32, bk312_38, Int.reduceToNat, vA_ap, Nat.reduceEqDiff, if_true, if_false, bx_nil, isL_I, isL_R, isL_U, if_ff, bind_some, tl_some, tl_none, bx_iload_1, bx_iconst, bx_imul, bx_istore_2, bx_iload_2, bx_iadd, bx_ic_ge, bx_aload_0, cl302 hG, bx_if_ne, gf5_3 hG, ia7 hG, is7 hG, bx_if_le, bx_zret, bx_iinc2, bx_goto, if_neg (show ¬ (l + 1) * 3 ≤ c by omega), x_isDead hG (show 0 ≤ c by omega) (show c < 36 by omega), e2, if_neg e3]
        have : useX V c = true := by simp [useX]; omega
        rw [this, Bool.true_or]
        rfl
    · have e2 : b1 (¬ V 8 c = -1) = 1 := b1_t e
      simp (disch := first | omega | exact Nat.le_of_ble_eq_true rfl) only [bk312_0, bk312_30, bk312_32, bk312_38, Int.reduceToNat, vA_ap, Nat.reduceEqDiff, if_true, if_false, bx_nil, isL_I, isL_R, isL_U, if_ff, bind_some, tl_some, tl_none, bx_iload_1, bx_iconst, bx_imul, bx_istore_2, bx_iload_2, bx_iadd, bx_ic_ge, bx_aload_0, cl302 hG, bx_if_ne, gf5_3 hG, ia7 hG, is7 hG, bx_if_le, bx_zret, bx_iinc2, bx_goto, if_neg (show ¬ (l + 1) * 3 ≤ c by omega), x_isDead hG (show 0 ≤ c by omega) (show c < 36 by omega), e2, if_neg (show ¬ (1 : Int) = 0 by omega)]
      have : useX V c = true := by simp [useX, e]
      rw [this, Bool.true_or]
      rfl
theorem x_isInUse {V : Nat → Int → Int} {l : Int} (hG : Good n L G) (hl : 0 ≤ l ∧ l ≤ 11) : run (d + 1) 312 0 [xR 5, xI l, xU] [] (V, G) = some (some (xI (b1 (anyF (useX V) 3 (3 * l) = true))), (V, G)) := by
  simp (disch := first | omega | exact Nat.le_of_ble_eq_true rfl) only [bk312_0, bk312_30, bk312_32, bk312_38, Int.reduceToNat, vA_ap, Nat.reduceEqDiff, if_true, if_false, bx_nil, isL_I, isL_R, isL_U, if_ff, bind_some, tl_some, tl_none, bx_iload_1, bx_iconst, bx_imul, bx_istore_2, bx_iload_2, bx_iadd, bx_ic_ge, bx_aload_0, cl302 hG, bx_if_ne, gf5_3 hG, ia7 hG, is7 hG, bx_if_le, bx_zret, bx_iinc2, bx_goto]
  rw [show l * 3 = 3 * l by omega]
  exact x_isInUse_lp hG hl 3 (3 * l) (by omega) (by omega)
theorem x_layers_lp {V : Nat → Int → Int} (hG : Good n L G) : ∀ (m : Nat) (l s : Int), 0 ≤ l → l + m = 12 → 0 ≤ s ∧ s ≤ l → run (d + 2) 311 4 [xR 5, xI s, xI l] [] (V, G) = some (some (xI (s + cntF (fun l => anyF (useX V) 3 (3 * l)) m l)), (V, G)) := by
  intro m
  induction m with
  | zero =>
    intro c s h0 hm hs
    rw [bk311_4]
    simp (disch := first | omega | exact Nat.le_of_ble_eq_true rfl) only [bk311_0, bk311_21, bk311_27, Int.reduceToNat, vA_ap, Nat.reduceEqDiff, if_true, if_false, bx_nil, isL_I, isL_R, isL_U, if_ff, bind_some, tl_some, tl_none, bx_iconst, bx_istore_1, bx_istore_2, bx_iload_2, bx_bipush, bx_ic_ge, bx_aload_0, cl312 hG, bx_if_eq, bx_iinc1, bx_iinc2, bx_goto, bx_iload_1, bx_iret, if_pos (show 12 ≤ c by omega), cntF, Int.add_zero]
  | succ m ih =>
    intro c s h0 hm hs
    rw [bk311_4]
    unfold cntF
    by_cases e : anyF (useX V) 3 (3 * c) = true
    · simp (disch := first | omega | exact Nat.le_of_ble_eq_true rfl) only [bk311_0, bk311_21, bk311_27, Int.reduceToNat, vA_ap, Nat.reduceEqDiff, if_true, if_false, bx_nil, isL_I, isL_R, isL_U, if_ff, bind_some, tl_some, tl_none, bx_iconst, bx_istore_1, bx_istore_2, bx_iload_2, bx_bipush, bx_ic_ge, bx_aload_0, cl312 hG, bx_if_eq, bx_iinc1, bx_iinc2, bx_goto, bx_iload_1, bx_iret, if_neg (show ¬ 12 ≤ c by omega), x_isInUse hG (show 0 ≤ c ∧ c ≤ 11 by omega), b1_t e, if_neg (show ¬ (1 : Int) = 0 by omega)]
      rw [ih (c + 1) (s + 1) (by omega) (by omega) (by omega), if_pos e, Int.add_assoc]
    · simp (disch := first | omega | exact Nat.le_of_ble_eq_true rfl) only [bk311_0, bk311_21, bk311_27, Int.reduceToNat, vA_ap, Nat.reduceEqDiff, if_true, if_false, bx_nil, isL_I, isL_R, isL_U, if_ff, bind_some, tl_some, tl_none, bx_iconst, bx_istore_1, bx_istore_2, bx_iload_2, bx_bipush, bx_ic_ge, bx_aload_0, cl312 hG, bx_if_eq, bx_iinc1, bx_iinc2, bx_goto, bx_iload_1, bx_iret, if_neg (show ¬ 12 ≤ c by omega), x_isInUse hG (show 0 ≤ c ∧ c ≤ 11 by omega), b1_f e]
      rw [ih (c + 1) s (by omega) (by omega) (by omega), if_neg e, Int.zero_add]
theorem x_layers {V : Nat → Int → Int} (hG : Good n L G) : run (d + 2) 311 0 [xR 5, xU, xU] [] (V, G) = some (some (xI (cntF (fun l => anyF (useX V) 3 (3 * l)) 12 0)), (V, G)) := by
  simp (disch := first | omega | exact Nat.le_of_ble_eq_true rfl) only [bk311_0, bk311_21, bk311_27, Int.reduceToNat, vA_ap, Nat.reduceEqDiff, if_true, if_false, bx_nil, isL_I, isL_R, isL_U, if_ff, bind_some, tl_some, tl_none, bx_iconst, bx_istore_1, bx_istore_2, bx_iload_2, bx_bipush, bx_ic_ge, bx_aload_0, cl312 hG, bx_if_eq, bx_iinc1, bx_iinc2, bx_goto, bx_iload_1, bx_iret]
  rw [x_layers_lp hG 12 0 0 (by omega) (by omega) (by omega), Int.zero_add]
end XQ
