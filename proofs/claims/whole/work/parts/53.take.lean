/-! TAKE and RIGHT -/
theorem colX_cong {n : Nat} {V W : Nat → Int → Int} {c : Int} (h6 : n ≤ 6) (hL : lanOK n (V 6)) (h : ∀ b, b < 10 → W b = V b) : eqn n (colX W c) (colX V c) := by
  unfold colX
  rw [h 3 (by omega), h 4 (by omega), h 6 (by omega), h 7 (by omega), h 8 (by omega)]
  refine sendX_cong 36 0 _ _ (fun j h0 h1 => ?_) (fun j h0 h1 => ⟨rfl, fun h2 => ⟨?_, ?_⟩⟩)
  · by_cases e : j = c
    · rw [e, vU_at, vU_at]
    · rw [vU_ne e, vU_ne e, if_pos (by omega), if_pos (by omega)]
  · rw [hL j h0 (by omega)] at h2 ⊢
    exact ln_bd ⟨h0, by omega⟩ h2
  · rw [if_pos ⟨h0, by omega⟩, if_pos ⟨h0, by omega⟩]
theorem an_nil {p : Int → Bool} {lo : Int} : an p lo lo = false := by
  unfold an
  rw [show (lo - lo).toNat = 0 by omega]
  rfl
theorem anyF_cong {p p' : Int → Bool} : ∀ (m : Nat) (k : Int), (∀ j, k ≤ j → j < k + m → p j = p' j) → anyF p m k = anyF p' m k
  | 0, k, h => rfl
  | m + 1, k, h => by
    unfold anyF
    rw [h k (by omega) (by omega), anyF_cong m (k + 1) (fun j h1 h2 => h j (by omega) (by omega))]
theorem an_cong {p p' : Int → Bool} {lo k : Int} (h : ∀ j, lo ≤ j → j < k → p j = p' j) : an p lo k = an p' lo k := by
  unfold an
  exact anyF_cong _ _ (fun j h1 h2 => h j h1 (by omega))
/-- a column of the table is another than the told one -/
def difP (n : Nat) (V : Nat → Int → Int) (c : Int) : Bool := an (fun r => decide (¬ V (16 + c.toNat) r = colX V c r)) 0 n
section TK
variable {n L d : Nat} {G : XG} {V : Nat → Int → Int}
theorem x_replace {c : Int} (hG : Good n L G) (hn : V 12 0 = n) (h6 : n ≤ 6) (hc : 0 ≤ c ∧ c < (n : Int)) : run d 801 0 [xR 12, xI c, xR 11, xU, xU] [] (V, G) = some (some (xI (b1 (an (fun r => decide (¬ V (16 + c.toNat) r = V 11 r)) 0 n = true))), (vA V (16 + c.toNat) (fl (V (16 + c.toNat)) (V 11) 0 n), G)) := by
  obtain ⟨cN, rfl⟩ : ∃ k : Nat, c = k := ⟨c.toNat, by omega⟩
  rw [Int.toNat_natCast]
  have ha : G.1 (16 + cN) = (1, n) := sf16 hG h6 (by omega)
  have n1 : ¬ 11 = 16 + cN := by omega
  have n2 : ¬ 12 = 16 + cN := by omega
  have h := it_up (D := d) (q := 801) (pc := 5) (loc := fun k => [xR 12, xI cN, xR 11, xI (b1 (an (fun r => decide (¬ V (16 + cN) r = V 11 r)) 0 k = true)), xI k]) (F := fun k => (vA V (16 + cN) (fl (V (16 + cN)) (V 11) 0 k), G)) (hi := n) n 0 (by omega) (fun k h1 h2 => by
    rw [bk801_5, an_up h1, ← fl_up h1]
    have e1 : (vA V (16 + cN) (fl (V (16 + cN)) (V 11) 0 k)) 12 = V 12 := vA_ne n2
    have e2 : (vA V (16 + cN) (fl (V (16 + cN)) (V 11) 0 k)) 11 = V 11 := vA_ne n1
    have e3 : fl (V (16 + cN)) (V 11) 0 k k = V (16 + cN) k := fl_out (by omega)
    by_cases a : V (16 + cN) k = V 11 k
    · have e4 : (an (fun r => decide (¬ V (16 + cN) r = V 11 r)) 0 k || decide (¬ V (16 + cN) k = V 11 k)) = an (fun r => decide (¬ V (16 + cN) r = V 11 r)) 0 k := by simp [a]
      rw [e4]
      simp (disch := first | omega | exact Nat.le_of_ble_eq_true rfl) only [bk801_0, bk801_32, bk801_51, Int.reduceToNat, vA_ap, Nat.reduceEqDiff, if_true, if_false, bx_nil, isL_I, isL_R, isL_U, if_ff, bind_some, tl_some, tl_none, bx_iconst, bx_istore_3, bx_istore4, bx_iload4, bx_aload_0, gf12_0 hG, bx_ic_ge, gf12_2 hG, aa15 hG, bx_iload_1, bx_aload_2, bx_ic_eq, bx_iinc4, bx_goto, bx_iload_3, bx_zret, Int.toNat_natCast, e1, hn, e2, if_neg (show ¬ (n : Int) ≤ k by omega), bx_iald ha, ia11 hG, bx_iast ha, vA_same, e3, if_pos a, vA_vA, n1, n2]
    · have e4 : (an (fun r => decide (¬ V (16 + cN) r = V 11 r)) 0 k || decide (¬ V (16 + cN) k = V 11 k)) = true := by simp [a]
      rw [e4]
      simp (disch := first | omega | exact Nat.le_of_ble_eq_true rfl) only [bk801_0, bk801_32, bk801_51, Int.reduceToNat, vA_ap, Nat.reduceEqDiff, if_true, if_false, bx_nil, isL_I, isL_R, isL_U, if_ff, bind_some, tl_some, tl_none, bx_iconst, bx_istore_3, bx_istore4, bx_iload4, bx_aload_0, gf12_0 hG, bx_ic_ge, gf12_2 hG, aa15 hG, bx_iload_1, bx_aload_2, bx_ic_eq, bx_iinc4, bx_goto, bx_iload_3, bx_zret, Int.toNat_natCast, e1, hn, e2, if_neg (show ¬ (n : Int) ≤ k by omega), bx_iald ha, ia11 hG, bx_iast ha, vA_same, e3, if_neg a, vA_vA, n1, n2, b1_T])
  rw [an_nil, fl_nil, vA_self] at h
  have e0 : b1 (false = true) = 0 := rfl
  rw [e0] at h
  simp (disch := first | omega | exact Nat.le_of_ble_eq_true rfl) only [bk801_0, bk801_32, bk801_51, Int.reduceToNat, vA_ap, Nat.reduceEqDiff, if_true, if_false, bx_nil, isL_I, isL_R, isL_U, if_ff, bind_some, tl_some, tl_none, bx_iconst, bx_istore_3, bx_istore4, bx_iload4, bx_aload_0, gf12_0 hG, bx_ic_ge, gf12_2 hG, aa15 hG, bx_iload_1, bx_aload_2, bx_ic_eq, bx_iinc4, bx_goto, bx_iload_3, bx_zret]
  rw [h, bk801_5]
  have e1 : (vA V (16 + cN) (fl (V (16 + cN)) (V 11) 0 n)) 12 = V 12 := vA_ne n2
  simp (disch := first | omega | exact Nat.le_of_ble_eq_true rfl) only [bk801_0, bk801_32, bk801_51, Int.reduceToNat, vA_ap, Nat.reduceEqDiff, if_true, if_false, bx_nil, isL_I, isL_R, isL_U, if_ff, bind_some, tl_some, tl_none, bx_iconst, bx_istore_3, bx_istore4, bx_iload4, bx_aload_0, gf12_0 hG, bx_ic_ge, gf12_2 hG, aa15 hG, bx_iload_1, bx_aload_2, bx_ic_eq, bx_iinc4, bx_goto, bx_iload_3, bx_zret, e1, hn, n2, if_pos (show (n : Int) ≤ n by omega), bx_zret (b1_01 _)]
/-- what take leaves of the class -/
def tkX (n : Nat) (V W : Nat → Int → Int) (k : Int) : Prop := (∀ b, b ≠ 10 → b ≠ 11 → ¬ (16 ≤ b ∧ b < 22) → W b = V b) ∧ (∀ c r, 0 ≤ c → c < k → 0 ≤ r → r < (n : Int) → W (16 + c.toNat) r = colX V c r) ∧ (∀ c, k ≤ c → c < (n : Int) → W (16 + c.toNat) = V (16 + c.toNat))
theorem xp_take (hG : Good n L G) (hx : xB n V) (ht : V 12 0 = n) : ∃ W, run (d + 4) 1010 0 [xR 1, xU, xU] [] (V, G) = some (some (xI (b1 (an (difP n V) 0 n = true))), (W, G)) ∧ tkX n V W n := by
  have hn := hx.1
  have h26 := hx.2.1
  have hL := hx.2.2.2.2.2.2.2.2
  have h := it_inv (D := d + 4) (q := 1010) (pc := 4) (hi := n) (I := fun k ls μ => ls = [xR 1, xI (b1 (an (difP n V) 0 k = true)), xI k] ∧ ∃ W, μ = (W, G) ∧ tkX n V W k) (Q := fun z => ∃ W, z = some (some (xI (b1 (an (difP n V) 0 n = true))), (W, G)) ∧ tkX n V W n) (fun ls μ hI => by
    obtain ⟨rfl, W, rfl, hW⟩ := hI
    refine ⟨W, ?_, hW⟩
    rw [bk1010_4]
    have e5 : W 5 = V 5 := hW.1 5 (by omega) (by omega) (by omega)
    by_cases a : an (difP n V) 0 n = true
    · simp (disch := first | omega | exact Nat.le_of_ble_eq_true rfl) only [bk1010_0, bk1010_36, bk1010_42, bk1010_50, bk1010_51, Int.reduceToNat, vA_ap, Nat.reduceEqDiff, if_true, if_false, bx_nil, isL_I, isL_R, isL_U, if_ff, bind_some, tl_some, tl_none, bx_iconst, bx_istore_1, bx_istore_2, bx_iload_2, bx_aload_0, gf1_1 hG, gf5_0 hG, bx_ic_ge, gf1_2 hG, cl306 hG, cl801 hG, bx_if_eq, bx_iinc2, bx_goto, bx_iload_1, bx_iret, e5, hn, if_pos (show (n : Int) ≤ n by omega), b1_t a, one_ne]
    · simp (disch := first | omega | exact Nat.le_of_ble_eq_true rfl) only [bk1010_0, bk1010_36, bk1010_42, bk1010_50, bk1010_51, Int.reduceToNat, vA_ap, Nat.reduceEqDiff, if_true, if_false, bx_nil, isL_I, isL_R, isL_U, if_ff, bind_some, tl_some, tl_none, bx_iconst, bx_istore_1, bx_istore_2, bx_iload_2, bx_aload_0, gf1_1 hG, gf5_0 hG, bx_ic_ge, gf1_2 hG, cl306 hG, cl801 hG, bx_if_eq, bx_iinc2, bx_goto, bx_iload_1, bx_iret, e5, hn, if_pos (show (n : Int) ≤ n by omega), b1_f a]) n 0 (by omega) (fun k ls μ h1 h2 hI => by
    obtain ⟨rfl, W, rfl, hW⟩ := hI
    left
    obtain ⟨w1, w2, w3⟩ := hW
    have f : ∀ b, b < 10 → W b = V b := fun b hb => w1 b (by omega) (by omega) (by omega)
    have e5 : W 5 = V 5 := f 5 (by omega)
    have hxW : xB n W := by
      unfold xB
      rw [f 3 (by omega), f 4 (by omega), f 5 (by omega), f 6 (by omega), f 7 (by omega), f 8 (by omega), f 9 (by omega)]
      exact hx
    have hcol := x_colV (d := d) (c := k) hG ⟨h1, h2⟩ hxW
    have e12 : colV W k 12 = V 12 := w1 12 (by omega) (by omega) (by omega)
    have hrep := x_replace (d := d + 3) (V := colV W k) (c := k) hG (by rw [e12]; exact ht) h26.2 ⟨h1, h2⟩
    have ecol : colV W k (16 + k.toNat) = V (16 + k.toNat) := by
      show (vA (vA W _ _) _ _) (16 + k.toNat) = _
      rw [vA_ne (by omega), vA_ne (by omega)]
      exact w3 k (by omega) h2
    have hcc := colX_cong (c := k) h26.2 hL f
    have edif : an (fun r => decide (¬ colV W k (16 + k.toNat) r = colV W k 11 r)) 0 n = difP n V k := by
      refine an_cong (fun j j0 j1 => ?_)
      rw [ecol]
      show decide (¬ V (16 + k.toNat) j = colX W k j) = _
      rw [hcc j j0 j1]
    rw [edif] at hrep
    refine ⟨_, _, ⟨rfl, vA (colV W k) (16 + k.toNat) (fl (colV W k (16 + k.toNat)) (colV W k 11) 0 n), rfl, ?_, ?_, ?_⟩, ?_⟩
    · intro b b1 b2 b3
      rw [vA_ne (by omega)]
      show (vA (vA W _ _) _ _) b = _
      rw [vA_ne b2, vA_ne b1]
      exact w1 b b1 b2 b3
    · intro c r c0 c1 r0 r1
      by_cases e : c = k
      · rw [e, vA_same, fl_in r0 r1]
        exact hcc r r0 r1
      · rw [vA_ne (by omega)]
        show (vA (vA W _ _) _ _) (16 + c.toNat) r = _
        rw [vA_ne (by omega), vA_ne (by omega)]
        exact w2 c r c0 (by omega) r0 r1
    · intro c c0 c1
      rw [vA_ne (by omega)]
      show (vA (vA W _ _) _ _) (16 + c.toNat) = _
      rw [vA_ne (by omega), vA_ne (by omega)]
      exact w3 c (by omega) c1
    · rw [bk1010_4, an_up h1]
      by_cases a : difP n V k = true
      · simp (disch := first | omega | exact Nat.le_of_ble_eq_true rfl) only [bk1010_0, bk1010_36, bk1010_42, bk1010_50, bk1010_51, Int.reduceToNat, vA_ap, Nat.reduceEqDiff, if_true, if_false, bx_nil, isL_I, isL_R, isL_U, if_ff, bind_some, tl_some, tl_none, bx_iconst, bx_istore_1, bx_istore_2, bx_iload_2, bx_aload_0, gf1_1 hG, gf5_0 hG, bx_ic_ge, gf1_2 hG, cl306 hG, cl801 hG, bx_if_eq, bx_iinc2, bx_goto, bx_iload_1, bx_iret, e5, hn, if_neg (show ¬ (n : Int) ≤ k by omega), hcol, hrep, b1_t a, one_ne, a, Bool.or_true, b1_T]
      · rw [Bool.not_eq_true] at a
        simp (disch := first | omega | exact Nat.le_of_ble_eq_true rfl) only [bk1010_0, bk1010_36, bk1010_42, bk1010_50, bk1010_51, Int.reduceToNat, vA_ap, Nat.reduceEqDiff, if_true, if_false, bx_nil, isL_I, isL_R, isL_U, if_ff, bind_some, tl_some, tl_none, bx_iconst, bx_istore_1, bx_istore_2, bx_iload_2, bx_aload_0, gf1_1 hG, gf5_0 hG, bx_ic_ge, gf1_2 hG, cl306 hG, cl801 hG, bx_if_eq, bx_iinc2, bx_goto, bx_iload_1, bx_iret, e5, hn, if_neg (show ¬ (n : Int) ≤ k by omega), hcol, hrep, a, Bool.or_false, b1_f (show ¬ false = true by simp)]) [xR 1, xI 0, xI 0] (V, G) ⟨by rw [an_nil]; rfl, V, rfl, fun b _ _ _ => rfl, fun c r a b => by omega, fun c a b => rfl⟩
  obtain ⟨W, e, hW⟩ := h
  refine ⟨W, ?_, hW⟩
  simp (disch := first | omega | exact Nat.le_of_ble_eq_true rfl) only [bk1010_0, bk1010_36, bk1010_42, bk1010_50, bk1010_51, Int.reduceToNat, vA_ap, Nat.reduceEqDiff, if_true, if_false, bx_nil, isL_I, isL_R, isL_U, if_ff, bind_some, tl_some, tl_none, bx_iconst, bx_istore_1, bx_istore_2, bx_iload_2, bx_aload_0, gf1_1 hG, gf5_0 hG, bx_ic_ge, gf1_2 hG, cl306 hG, cl801 hG, bx_if_eq, bx_iinc2, bx_goto, bx_iload_1, bx_iret]
  exact e
/-- what take leaves of the reference: columns up to k, of the column k the rows up to s -/
def tkM (n : Nat) (V W U : Nat → Int → Int) (k s : Int) : Prop := (∀ b, b ≠ 383 → b ≠ 384 → b ≠ 385 → b ≠ 386 → U b = W b) ∧ (∀ j, (n : Int) ≤ j → j < 6 → U 385 j = 0) ∧ (∀ c r, 0 ≤ c → c < (n : Int) → 0 ≤ r → r < (n : Int) → U 386 (6 * r + c) = if c < k ∨ (c = k ∧ r < s) then colX V c r else V (16 + c.toNat) r)
theorem mp_take_in {W : Nat → Int → Int} {k : Int} {o : Bool} (hG : Good n L G) (hmW : mB n W) (hpl : plR n V W) (hk : 0 ≤ k ∧ k < (n : Int)) : ∀ (m : Nat) (s : Int) (o : Bool) (U : Nat → Int → Int) (z : XV), s + m = n → 0 ≤ s → tkM n V W U k s → ∃ U' z', run (d + 6) 1120 14 [xR 376, xI (b1 (o = true)), xI k, xI s, z] [] (U, G) = run (d + 6) 1120 4 [xR 376, xI (b1 ((o || anyF (fun r => decide (¬ V (16 + k.toNat) r = colX V k r)) m s) = true)), xI (k + 1), xI n, z'] [] (U', G) ∧ tkM n V W U' (k + 1) 0 := by
  intro m
  induction m with
  | zero =>
    intro s o U z hs h0 hU
    have e : U 376 = W 376 := hU.1 376 (by omega) (by omega) (by omega) (by omega)
    have hn := hmW.1
    have h26 := hmW.2.1
    refine ⟨U, z, ?_, hU.1, hU.2.1, fun c r c0 c1 r0 r1 => ?_⟩
    · rw [bk1120_14]
      simp (disch := first | omega | exact Nat.le_of_ble_eq_true rfl) only [bk1120_0, bk1120_50, bk1120_51, bk1120_71, bk1120_77, Int.reduceToNat, vA_ap, Nat.reduceEqDiff, if_true, if_false, bx_nil, isL_I, isL_R, isL_U, if_ff, bind_some, tl_some, tl_none, bx_iconst, bx_istore_1, bx_istore_2, bx_iload_2, bx_aload_0, gf376_0 hG, bx_ic_ge, bx_istore_3, bx_iload_3, cl1114 hG, bx_istore4, gf376_11 hG, ia386 hG, is386 hG, bx_bipush, bx_imul, bx_iadd, bx_iload4, bx_ic_eq, bx_goto, bx_iload_1, bx_iinc3, bx_iinc2, bx_iret, e, hn, if_pos (show (n : Int) ≤ s by omega), anyF, Bool.or_false]
      rw [show s = n by omega]
    · rw [hU.2.2 c r c0 c1 r0 r1]
      by_cases g : c < k ∨ c = k ∧ r < s
      · rw [if_pos g, if_pos (by omega)]
      · rw [if_neg g, if_neg (by omega)]
  | succ m ih =>
    intro s o U z hs h0 hU
    obtain ⟨u1, u2, u3⟩ := hU
    have e : U 376 = W 376 := u1 376 (by omega) (by omega) (by omega) (by omega)
    have h26 := hmW.2.1
    have hmU : mB n U := by
      obtain ⟨a1, a2, a3, a4, a5, a6, a7, a8, a9⟩ := hmW
      refine ⟨by rw [e]; exact a1, a2, by rw [u1 _ (by decide) (by decide) (by decide) (by decide)]; exact a3, by rw [u1 _ (by decide) (by decide) (by decide) (by decide)]; exact a4, by rw [u1 _ (by decide) (by decide) (by decide) (by decide)]; exact a5, by rw [e]; exact a6, by rw [u1 _ (by decide) (by decide) (by decide) (by decide)]; exact a7, by rw [u1 _ (by decide) (by decide) (by decide) (by decide)]; exact a8, u2⟩
    have hplU : plR n V U := by
      unfold plR
      rw [e, u1 _ (by decide) (by decide) (by decide) (by decide), u1 _ (by decide) (by decide) (by decide) (by decide), u1 _ (by decide) (by decide) (by decide) (by decide), u1 _ (by decide) (by decide) (by decide) (by decide), u1 _ (by decide) (by decide) (by decide) (by decide)]
      exact hpl
    have hn := hmU.1
    have ht := mp_table (d := d) (r := s) (c := k) hG hmU
    have hcond : (0 ≤ s ∧ s < (n : Int)) ∧ (0 ≤ k ∧ k < (n : Int)) := ⟨⟨h0, by omega⟩, hk⟩
    rw [if_pos hcond, if_pos hcond, ← tab_eq hplU hk s h0 (by omega)] at ht
    have et : tabM n U k 386 = U 386 := rfl
    have en : tabM n U k 376 = U 376 := rfl
    have hold := u3 k s hk.1 hk.2 h0 (by omega)
    rw [if_neg (by omega)] at hold
    have hU' : tkM n V W (vA (tabM n U k) 386 (vU (U 386) (6 * s + k) (colX V k s))) k (s + 1) := by
      refine ⟨fun b b1 b2 b3 b4 => ?_, fun j j0 j1 => ?_, fun c r c0 c1 r0 r1 => ?_⟩
      · rw [vA_ne b4]
        show (vA (vA (vA (vA U _ _) _ _) _ _) _ _) b = _
        rw [vA_ne b3, vA_ne b3, vA_ne b2, vA_ne b1]
        exact u1 b b1 b2 b3 b4
      · rw [vA_ne (by decide)]
        show plt _ _ _ _ _ _ _ j = 0
        rw [plt_z j0]
        show (if 0 ≤ j ∧ j < (n : Int) then (if j = k then (1 : Int) else 0) else U 385 j) = 0
        rw [if_neg (by omega)]
        exact u2 j j0 j1
      · rw [vA_same]
        by_cases g : c = k ∧ r = s
        · obtain ⟨rfl, rfl⟩ := g
          rw [vU_at, if_pos (by omega)]
        · rw [vU_ne (by omega), u3 c r c0 c1 r0 r1]
          by_cases g2 : c < k ∨ c = k ∧ r < s
          · rw [if_pos g2, if_pos (by omega)]
          · rw [if_neg g2, if_neg (by omega)]
    by_cases g : V (16 + k.toNat) s = colX V k s
    · obtain ⟨U', z', e1, e2⟩ := ih (s + 1) o _ (xI (colX V k s)) (by omega) (by omega) hU'
      refine ⟨U', z', ?_, e2⟩
      have e3 : (o || anyF (fun r => decide (¬ V (16 + k.toNat) r = colX V k r)) (m + 1) s) = (o || anyF (fun r => decide (¬ V (16 + k.toNat) r = colX V k r)) m (s + 1)) := by
        simp [anyF, g]
      rw [e3, ← e1, bk1120_14]
      simp (disch := first | omega | exact Nat.le_of_ble_eq_true rfl) only [bk1120_0, bk1120_50, bk1120_51, bk1120_71, bk1120_77, Int.reduceToNat, vA_ap, Nat.reduceEqDiff, if_true, if_false, bx_nil, isL_I, isL_R, isL_U, if_ff, bind_some, tl_some, tl_none, bx_iconst, bx_istore_1, bx_istore_2, bx_iload_2, bx_aload_0, gf376_0 hG, bx_ic_ge, bx_istore_3, bx_iload_3, cl1114 hG, bx_istore4, gf376_11 hG, ia386 hG, is386 hG, bx_bipush, bx_imul, bx_iadd, bx_iload4, bx_ic_eq, bx_goto, bx_iload_1, bx_iinc3, bx_iinc2, bx_iret, hn, if_neg (show ¬ (n : Int) ≤ s by omega), ht, et, hold, if_pos g]
    · obtain ⟨U', z', e1, e2⟩ := ih (s + 1) true _ (xI (colX V k s)) (by omega) (by omega) hU'
      refine ⟨U', z', ?_, e2⟩
      have e3 : (o || anyF (fun r => decide (¬ V (16 + k.toNat) r = colX V k r)) (m + 1) s) = (true || anyF (fun r => decide (¬ V (16 + k.toNat) r = colX V k r)) m (s + 1)) := by
        simp [anyF, g]
      rw [e3, ← e1, bk1120_14]
      simp (disch := first | omega | exact Nat.le_of_ble_eq_true rfl) only [bk1120_0, bk1120_50, bk1120_51, bk1120_71, bk1120_77, Int.reduceToNat, vA_ap, Nat.reduceEqDiff, if_true, if_false, bx_nil, isL_I, isL_R, isL_U, if_ff, bind_some, tl_some, tl_none, bx_iconst, bx_istore_1, bx_istore_2, bx_iload_2, bx_aload_0, gf376_0 hG, bx_ic_ge, bx_istore_3, bx_iload_3, cl1114 hG, bx_istore4, gf376_11 hG, ia386 hG, is386 hG, bx_bipush, bx_imul, bx_iadd, bx_iload4, bx_ic_eq, bx_goto, bx_iload_1, bx_iinc3, bx_iinc2, bx_iret, hn, if_neg (show ¬ (n : Int) ≤ s by omega), ht, et, hold, if_neg g, b1_T]
theorem mp_take {W : Nat → Int → Int} (hG : Good n L G) (hmW : mB n W) (hpl : plR n V W) (hT : ∀ c r, 0 ≤ c → c < (n : Int) → 0 ≤ r → r < (n : Int) → W 386 (6 * r + c) = V (16 + c.toNat) r) : ∃ U, run (d + 6) 1120 0 [xR 376, xU, xU, xU, xU] [] (W, G) = some (some (xI (b1 (an (difP n V) 0 n = true))), (U, G)) ∧ tkM n V W U n 0 := by
  have h26 := hmW.2.1
  have h := it_inv (D := d + 6) (q := 1120) (pc := 4) (hi := n) (I := fun k ls μ => (∃ u v, ls = [xR 376, xI (b1 (an (difP n V) 0 k = true)), xI k, u, v]) ∧ ∃ U, μ = (U, G) ∧ tkM n V W U k 0) (Q := fun z => ∃ U, z = some (some (xI (b1 (an (difP n V) 0 n = true))), (U, G)) ∧ tkM n V W U n 0) (fun ls μ hI => by
    obtain ⟨⟨u, v, rfl⟩, U, rfl, hU⟩ := hI
    refine ⟨U, ?_, hU⟩
    have e : U 376 = W 376 := hU.1 376 (by omega) (by omega) (by omega) (by omega)
    rw [bk1120_4]
    simp (disch := first | omega | exact Nat.le_of_ble_eq_true rfl) only [bk1120_0, bk1120_50, bk1120_51, bk1120_71, bk1120_77, Int.reduceToNat, vA_ap, Nat.reduceEqDiff, if_true, if_false, bx_nil, isL_I, isL_R, isL_U, if_ff, bind_some, tl_some, tl_none, bx_iconst, bx_istore_1, bx_istore_2, bx_iload_2, bx_aload_0, gf376_0 hG, bx_ic_ge, bx_istore_3, bx_iload_3, cl1114 hG, bx_istore4, gf376_11 hG, ia386 hG, is386 hG, bx_bipush, bx_imul, bx_iadd, bx_iload4, bx_ic_eq, bx_goto, bx_iload_1, bx_iinc3, bx_iinc2, bx_iret, e, hmW.1, if_pos (show (n : Int) ≤ n by omega)]) n 0 (by omega) (fun k ls μ h1 h2 hI => by
    obtain ⟨⟨u, v, rfl⟩, U, rfl, hU⟩ := hI
    left
    have e : U 376 = W 376 := hU.1 376 (by omega) (by omega) (by omega) (by omega)
    obtain ⟨U', z', e1, e2⟩ := mp_take_in (d := d) (o := true) hG hmW hpl ⟨h1, h2⟩ n 0 (an (difP n V) 0 k) U v (by omega) (by omega) hU
    refine ⟨_, _, ⟨⟨xI n, z', rfl⟩, U', rfl, e2⟩, ?_⟩
    rw [bk1120_4, an_up h1]
    have e3 : difP n V k = anyF (fun r => decide (¬ V (16 + k.toNat) r = colX V k r)) n 0 := by
      unfold difP an
      rw [show ((n : Int) - 0).toNat = n by omega]
    rw [e3, ← e1]
    simp (disch := first | omega | exact Nat.le_of_ble_eq_true rfl) only [bk1120_0, bk1120_50, bk1120_51, bk1120_71, bk1120_77, Int.reduceToNat, vA_ap, Nat.reduceEqDiff, if_true, if_false, bx_nil, isL_I, isL_R, isL_U, if_ff, bind_some, tl_some, tl_none, bx_iconst, bx_istore_1, bx_istore_2, bx_iload_2, bx_aload_0, gf376_0 hG, bx_ic_ge, bx_istore_3, bx_iload_3, cl1114 hG, bx_istore4, gf376_11 hG, ia386 hG, is386 hG, bx_bipush, bx_imul, bx_iadd, bx_iload4, bx_ic_eq, bx_goto, bx_iload_1, bx_iinc3, bx_iinc2, bx_iret, e, hmW.1, if_neg (show ¬ (n : Int) ≤ k by omega)]) [xR 376, xI 0, xI 0, xU, xU] (W, G) ⟨⟨xU, xU, by rw [an_nil]; rfl⟩, W, rfl, fun b _ _ _ _ => rfl, hmW.2.2.2.2.2.2.2.2, fun c r c0 c1 r0 r1 => by rw [if_neg (by omega)]; exact hT c r c0 c1 r0 r1⟩
  obtain ⟨U, e, hU⟩ := h
  refine ⟨U, ?_, hU⟩
  simp (disch := first | omega | exact Nat.le_of_ble_eq_true rfl) only [bk1120_0, bk1120_50, bk1120_51, bk1120_71, bk1120_77, Int.reduceToNat, vA_ap, Nat.reduceEqDiff, if_true, if_false, bx_nil, isL_I, isL_R, isL_U, if_ff, bind_some, tl_some, tl_none, bx_iconst, bx_istore_1, bx_istore_2, bx_iload_2, bx_aload_0, gf376_0 hG, bx_ic_ge, bx_istore_3, bx_iload_3, cl1114 hG, bx_istore4, gf376_11 hG, ia386 hG, is386 hG, bx_bipush, bx_imul, bx_iadd, bx_iload4, bx_ic_eq, bx_goto, bx_iload_1, bx_iinc3, bx_iinc2, bx_iret]
  exact e
theorem pr_take (hG : Good n L G) (h : Inv n V) : pair n G V 1010 1120 [xR 1, xU, xU] [xR 376, xU, xU, xU, xU] := by
  have hn := h.nn
  obtain ⟨W, hx, w1, w2, w3⟩ := xp_take (d := 795) hG h.xb h.l12
  have f : ∀ b, 22 ≤ b → W b = V b := fun b hb => w1 b (by omega) (by omega) (by omega)
  have f2 : ∀ b, b < 10 → W b = V b := fun b hb => w1 b (by omega) (by omega) (by omega)
  have hmW : mB n W := by
    unfold mB
    rw [f 376 (by omega), f 380 (by omega), f 379 (by omega), f 382 (by omega), f 377 (by omega), f 378 (by omega), f 385 (by omega)]
    exact h.mb
  have hpl : plR n V W := by
    unfold plR
    rw [f 376 (by omega), f 380 (by omega), f 379 (by omega), f 382 (by omega), f 377 (by omega), f 378 (by omega)]
    exact h.pl
  obtain ⟨U, hm, u1, u2, u3⟩ := mp_take (d := 793) hG hmW hpl (fun c r c0 c1 r0 r1 => by
    rw [f 386 (by omega)]
    exact (h.tld r c r0 r1 c0 c1).1.symm)
  refine mkpair hx hm ?_
  have hrg : ∀ c r, 0 ≤ c → c < (n : Int) → 0 ≤ r → r < (n : Int) → 0 ≤ colX V c r ∧ colX V c r ≤ 96 := by
    intro c r c0 c1 r0 r1
    refine sendX_rg (N := 6) 36 0 _ (fun j j0 j1 => ?_) r r0 (by omega)
    by_cases e : j = c
    · rw [e, vU_at]; omega
    · rw [vU_ne e, if_pos ⟨j0, j1⟩]; omega
  have ft : tldP n U := by
    intro r c r0 r1 c0 c1
    rw [u3 c r c0 c1 r0 r1, if_pos (by omega), u1 (16 + c.toNat) (by omega) (by omega) (by omega) (by omega), w2 c r c0 c1 r0 r1]
    exact ⟨rfl, hrg c r c0 c1 r0 r1⟩
  have fr : ∀ b, b ≠ 10 → b ≠ 11 → ¬ (16 ≤ b ∧ b < 22) → b ≠ 383 → b ≠ 384 → b ≠ 385 → b ≠ 386 → U b = V b := fun b b1 b2 b3 b4 b5 b6 b7 => (u1 b b4 b5 b6 b7).trans (w1 b b1 b2 b3)
  obtain ⟨g, hV⟩ : ∃ g : Nat → Int → Int, U = fun b => if b = 10 then g b else if b = 11 then g b else if 16 ≤ b ∧ b < 22 then g b else if b = 383 then g b else if b = 384 then g b else if b = 385 then g b else if b = 386 then g b else V b := by
    refine ⟨U, funext fun b => ?_⟩
    repeat' split
    all_goals first | rfl | (apply fr <;> assumption)
  subst hV
  exact ⟨h.nn, h.l5, h.l12, h.l35, h.lm, h.lim, h.cc, h.ss, h.rC, h.rS, h.lan, h.set, h.stk, h.off, h.own, h.cre, u2, ft, h.stp, h.spl, sgnP_tr hn.2 h.sgn (fun c hc => fr _ (by omega) (by omega) (by omega) (by omega) (by omega) (by omega) (by omega)) rfl rfl, h.wrk, h.tap, h.ent, h.fnd, runP_tr h.rns (fun c hc => ⟨fr _ (by omega) (by omega) (by omega) (by omega) (by omega) (by omega) (by omega), fr _ (by omega) (by omega) (by omega) (by omega) (by omega) (by omega) (by omega), fr _ (by omega) (by omega) (by omega) (by omega) (by omega) (by omega) (by omega)⟩) ⟨rfl, rfl, rfl⟩ rfl, h.prb⟩
end TK
