/-! LAY: the class -/
section XL3
variable {n L d : Nat} {G : XG} {V : Nat → Int → Int}
theorem lpX_f2 {W : Nat → Int → Int} (h : ∀ b, b ≠ 33 → b ≠ 7 → W b = V b) : lpX n W = lpX n V := by
  unfold lpX
  rw [h 29 (by decide) (by decide), h 30 (by decide) (by decide), h 31 (by decide) (by decide), h 8 (by decide) (by decide)]
theorem fewOK_f2 {b : Int} {W : Nat → Int → Int} (h : ∀ b, b ≠ 33 → b ≠ 7 → W b = V b) (hx : fewOK n b V) (hm : memOK (lpX n V) b W) : fewOK n b W := by
  obtain ⟨h1, h2, h3, h4, h5⟩ := hx
  refine ⟨?_, ?_, ?_, ?_, ?_⟩
  · unfold layX at *
    rw [h 29 (by decide) (by decide), h 30 (by decide) (by decide), h 31 (by decide) (by decide), h 8 (by decide) (by decide), h 6 (by decide) (by decide), h 5 (by decide) (by decide)]
    exact h1
  · unfold earOK shr at *
    rw [h 29 (by decide) (by decide), h 30 (by decide) (by decide), h 34 (by decide) (by decide)]
    exact h2
  · rw [h 32 (by decide) (by decide), lpX_f2 h]; exact h3
  · rw [h 32 (by decide) (by decide)]; exact h4
  · rw [lpX_f2 h]; exact hm
/-- settings when what lives is set to 0 -/
def st0 (S F : Int → Int) (N : Int) : Int → Int := fl F (fun c => if S c = -1 then 0 else F c) 0 N
theorem x_putSettings {b L' : Int} (hG : Good n L G) (hb : 0 ≤ b ∧ b ≤ 12) (hV : fewOK n b V) (hbb : b = 0 ∨ ¬ bare (lpX n V) (b - 1)) (hL : 0 ≤ L' ∧ L' ≤ 12) (hF : FwP (lpX n V) b 0 0 L') : ∃ W sq, run (d + 17) 106 0 [xR 32, xI L', xU, xU, xU] [] (V, G) = some (none, (W, G)) ∧ (∀ b, b ≠ 33 → b ≠ 7 → W b = V b) ∧ wayP (lpX n V) b L' sq ∧ W 7 = layA (lpX n V) xi sq (st0 (V 8) (V 7) 36) L'.toNat := by
  have hk10 : (lpX n V).2.1 ≤ 10 := by
    have := hV.1.2.1
    show (V 29 2).toNat ≤ 10
    omega
  have hp10 := pow_10 hk10
  have l1 := it_up (D := d + 17) (q := 106) (pc := 2) (loc := fun c => [xR 32, xI L', xI c, xU, xU]) (F := fun c => (vA V 7 (fl (V 7) (fun c => if V 8 c = -1 then 0 else V 7 c) 0 c), G)) (hi := 36) 36 0 (by omega) (fun c c0 c1 => by
    rw [bk106_2, ← fl_up c0]
    by_cases q : V 8 c = -1
    · have hd : run (d + 16) 302 0 [xR 5, xI c] [] (vA V 7 (fl (V 7) (fun c => if V 8 c = -1 then 0 else V 7 c) 0 c), G) = some (some (xI 0), (vA V 7 (fl (V 7) (fun c => if V 8 c = -1 then 0 else V 7 c) 0 c), G)) := by
        rw [x_isDead hG c0 c1]
        have : b1 (¬ (vA V 7 (fl (V 7) (fun c => if V 8 c = -1 then 0 else V 7 c) 0 c)) 8 c = -1) = 0 := b1_f (not_not_intro q)
        rw [this]
      simp (disch := first | omega | exact Nat.le_of_ble_eq_true rfl) only [bk106_0, bk106_29, bk106_35, bk106_71, Int.reduceToNat, vA_ap, Nat.reduceEqDiff, if_true, if_false, bx_nil, isL_I, isL_R, isL_U, if_ff, bind_some, tl_some, tl_none, bx_iconst, bx_istore_2, bx_iload_2, bx_bipush, bx_ic_ge, bx_aload_0, gf32_0 hG, cl302 hG, bx_if_ne, gf5_3 hG, ia7 hG, is7 hG, bx_iinc2, bx_goto, bx_istore_3, bx_iload_3, bx_iload_1, cl107 hG, bx_istore4, bx_iload4, cl108 hG, bx_ior, bx_iinc3, bx_vret, if_neg (show ¬ 36 ≤ c by omega), hd, vA_vA, if_pos q]
    · have hd : run (d + 16) 302 0 [xR 5, xI c] [] (vA V 7 (fl (V 7) (fun c => if V 8 c = -1 then 0 else V 7 c) 0 c), G) = some (some (xI 1), (vA V 7 (fl (V 7) (fun c => if V 8 c = -1 then 0 else V 7 c) 0 c), G)) := by
        rw [x_isDead hG c0 c1]
        have : b1 (¬ (vA V 7 (fl (V 7) (fun c => if V 8 c = -1 then 0 else V 7 c) 0 c)) 8 c = -1) = 1 := b1_t q
        rw [this]
      have e : vU (fl (V 7) (fun c => if V 8 c = -1 then 0 else V 7 c) 0 c) c (V 7 c) = fl (V 7) (fun c => if V 8 c = -1 then 0 else V 7 c) 0 c := by
        funext j
        by_cases e : j = c
        · rw [e, vU_at, fl_out (by omega)]
        · rw [vU_ne e]
      rw [if_neg q, e]
      simp (disch := first | omega | exact Nat.le_of_ble_eq_true rfl) only [bk106_0, bk106_29, bk106_35, bk106_71, Int.reduceToNat, vA_ap, Nat.reduceEqDiff, if_true, if_false, bx_nil, isL_I, isL_R, isL_U, if_ff, bind_some, tl_some, tl_none, bx_iconst, bx_istore_2, bx_iload_2, bx_bipush, bx_ic_ge, bx_aload_0, gf32_0 hG, cl302 hG, bx_if_ne, gf5_3 hG, ia7 hG, is7 hG, bx_iinc2, bx_goto, bx_istore_3, bx_iload_3, bx_iload_1, cl107 hG, bx_istore4, bx_iload4, cl108 hG, bx_ior, bx_iinc3, bx_vret, if_neg (show ¬ 36 ≤ c by omega), hd, one_ne])
  rw [fl_nil, vA_self] at l1
  obtain ⟨A, hA⟩ : ∃ A, A = vA V 7 (fl (V 7) (fun c => if V 8 c = -1 then 0 else V 7 c) 0 36) := ⟨_, rfl⟩
  rw [← hA] at l1
  have fA : ∀ b, b ≠ 7 → A b = V b := fun b hb => by rw [hA, vA_ne hb]
  have l2 := it_inv (D := d + 17) (q := 106) (pc := 39) (hi := L') (I := fun l ls μ => ∃ (sq : Nat → Nat) (W : Nat → Int → Int), (∃ u, ls = [xR 32, xI L', xI ((dnF sq l.toNat : Nat) : Int), xI l, u]) ∧ μ = (W, G) ∧ (∀ b, b ≠ 33 → b ≠ 7 → W b = V b) ∧ memOK (lpX n V) b W ∧ (∀ j : Nat, (j : Int) < l → gsP (lpX n V) b j (dnF sq j) L' (sq j)) ∧ FwP (lpX n V) b l (dnF sq l.toNat) L' ∧ dnF sq l.toNat < 2 ^ (lpX n V).2.1 ∧ W 7 = layA (lpX n V) xi sq (st0 (V 8) (V 7) 36) l.toNat) (Q := fun y => ∃ (W : Nat → Int → Int) (sq : Nat → Nat), y = some (none, (W, G)) ∧ (∀ b, b ≠ 33 → b ≠ 7 → W b = V b) ∧ wayP (lpX n V) b L' sq ∧ W 7 = layA (lpX n V) xi sq (st0 (V 8) (V 7) 36) L'.toNat) (fun ls μ hI => by
    obtain ⟨sq, W, ⟨u, rfl⟩, rfl, w1, w2, w3, w4, w5, w6⟩ := hI
    refine ⟨W, sq, ?_, w1, w3, w6⟩
    rw [bk106_39]
    simp (disch := first | omega | exact Nat.le_of_ble_eq_true rfl) only [bk106_0, bk106_29, bk106_35, bk106_71, Int.reduceToNat, vA_ap, Nat.reduceEqDiff, if_true, if_false, bx_nil, isL_I, isL_R, isL_U, if_ff, bind_some, tl_some, tl_none, bx_iconst, bx_istore_2, bx_iload_2, bx_bipush, bx_ic_ge, bx_aload_0, gf32_0 hG, cl302 hG, bx_if_ne, gf5_3 hG, ia7 hG, is7 hG, bx_iinc2, bx_goto, bx_istore_3, bx_iload_3, bx_iload_1, cl107 hG, bx_istore4, bx_iload4, cl108 hG, bx_ior, bx_iinc3, bx_vret, if_pos (show L' ≤ L' by omega)]) L'.toNat 0 (by omega) (fun l ls μ l0 l1 hI => by
    obtain ⟨sq, W, ⟨u, rfl⟩, rfl, w1, w2, w3, w4, w5, w6⟩ := hI
    obtain ⟨ln, rfl⟩ : ∃ ln : Nat, l = ln := ⟨l.toNat, by omega⟩
    rw [Int.toNat_natCast] at w4 w5 w6 ⊢
    left
    have hlW := lpX_f2 (n := n) w1
    obtain ⟨W1, S, g1, g2, g3, g4⟩ := x_greatest (d := d) (V := W) (l := ln) (D := dnF sq ln) (L' := L') hG hb (fewOK_f2 w1 hV w2) (by rw [hlW]; exact hbb) (by rw [hlW]; exact w5) hL.2 l1 (by rw [hlW]; exact w4)
    rw [hlW] at g3 g4
    have fW1 : ∀ b, b ≠ 33 → b ≠ 7 → W1 b = V b := fun b b1 b2 => (g2 b b1).trans (w1 b b1 b2)
    have hS := vd_lt g4.1
    have hl1W := lpX_f2 (n := n) fW1
    have hpl := x_putLayer (d := d + 15) (V := W1) (l := ln) (S := S) (D := dnF sq ln) hG (fewOK_f2 fW1 hV g3).1 (by omega) (by omega) (by rw [hl1W]; exact g4.1)
    rw [hl1W] at hpl
    have hor : orI ((dnF sq ln : Nat) : Int) (S : Int) = ((dnF sq ln ||| S : Nat) : Int) := or_N (by omega) (by omega)
    obtain ⟨sq', hsq⟩ : ∃ sq' : Nat → Nat, sq' = fun j => if j = ln then S else sq j := ⟨_, rfl⟩
    have s1 : ∀ j, j < ln → sq' j = sq j := fun j hj => by rw [hsq]; exact if_neg (by omega)
    have s2 : sq' ln = S := by rw [hsq]; exact if_pos rfl
    have hd1 : dnF sq' (ln + 1) = dnF sq ln ||| S := by
      show dnF sq' ln ||| sq' ln = _
      rw [dnF_cong ln s1, s2]
    refine ⟨_, _, ⟨sq', vA W1 7 (plA (lpX n V) (xi ln) ln S (lpX n V).2.1 (W1 7)), ⟨xI ((S : Nat) : Int), rfl⟩, rfl, fun b b1 b2 => by rw [vA_ne b2]; exact fW1 b b1 b2, ?_, fun j hj => ?_, ?_, ?_, ?_⟩, ?_⟩
    · intro D hD
      rw [vA_ne (by decide)]
      exact g3 D hD
    · by_cases e : j = ln
      · subst e
        rw [dnF_cong j s1, s2]
        exact g4
      · rw [dnF_cong j (fun i hi => s1 i (by omega)), s1 j (by omega)]
        exact w3 j (by omega)
    · rw [show ((ln : Int) + 1).toNat = ln + 1 by omega, hd1]
      exact g4.2.1
    · rw [show ((ln : Int) + 1).toNat = ln + 1 by omega, hd1]
      exact Nat.or_lt_two_pow w5 hS
    · rw [vA_same, show ((ln : Int) + 1).toNat = ln + 1 by omega, g2 _ (by decide), w6]
      show _ = plA (lpX n V) (xi ln) ln (sq' ln) (lpX n V).2.1 (layA (lpX n V) xi sq' (st0 (V 8) (V 7) 36) ln)
      rw [s2, layA_cong ln s1]
    · rw [show ((ln : Int) + 1).toNat = ln + 1 by omega, hd1, bk106_39]
      have g1' : run (d + 16) 107 0 [xR 32, xI ln, xI ((dnF sq ln : Nat) : Int), xI L', xU, xU, xU, xU] [] (W, G) = some (some (xI ((S : Nat) : Int)), (W1, G)) := g1
      have hpl' : run (d + 16) 108 0 [xR 32, xI ln, xI S, xU, xU] [] (W1, G) = some (none, (vA W1 7 (plA (lpX n V) (xi ln) ln S (lpX n V).2.1 (W1 7)), G)) := hpl
      simp (disch := first | omega | exact Nat.le_of_ble_eq_true rfl) only [bk106_0, bk106_29, bk106_35, bk106_71, Int.reduceToNat, vA_ap, Nat.reduceEqDiff, if_true, if_false, bx_nil, isL_I, isL_R, isL_U, if_ff, bind_some, tl_some, tl_none, bx_iconst, bx_istore_2, bx_iload_2, bx_bipush, bx_ic_ge, bx_aload_0, gf32_0 hG, cl302 hG, bx_if_ne, gf5_3 hG, ia7 hG, is7 hG, bx_iinc2, bx_goto, bx_istore_3, bx_iload_3, bx_iload_1, cl107 hG, bx_istore4, bx_iload4, cl108 hG, bx_ior, bx_iinc3, bx_vret, if_neg (show ¬ L' ≤ ln by omega), g1', hpl', hor])
  have hst : run (d + 17) 106 0 [xR 32, xI L', xU, xU, xU] [] (V, G) = run (d + 17) 106 39 [xR 32, xI L', xI 0, xI 0, xU] [] (A, G) := by
    simp (disch := first | omega | exact Nat.le_of_ble_eq_true rfl) only [bk106_0, bk106_29, bk106_35, bk106_71, Int.reduceToNat, vA_ap, Nat.reduceEqDiff, if_true, if_false, bx_nil, isL_I, isL_R, isL_U, if_ff, bind_some, tl_some, tl_none, bx_iconst, bx_istore_2, bx_iload_2, bx_bipush, bx_ic_ge, bx_aload_0, gf32_0 hG, cl302 hG, bx_if_ne, gf5_3 hG, ia7 hG, is7 hG, bx_iinc2, bx_goto, bx_istore_3, bx_iload_3, bx_iload_1, cl107 hG, bx_istore4, bx_iload4, cl108 hG, bx_ior, bx_iinc3, bx_vret]
    rw [l1, bk106_2]
    simp (disch := first | omega | exact Nat.le_of_ble_eq_true rfl) only [bk106_0, bk106_29, bk106_35, bk106_71, Int.reduceToNat, vA_ap, Nat.reduceEqDiff, if_true, if_false, bx_nil, isL_I, isL_R, isL_U, if_ff, bind_some, tl_some, tl_none, bx_iconst, bx_istore_2, bx_iload_2, bx_bipush, bx_ic_ge, bx_aload_0, gf32_0 hG, cl302 hG, bx_if_ne, gf5_3 hG, ia7 hG, is7 hG, bx_iinc2, bx_goto, bx_istore_3, bx_iload_3, bx_iload_1, cl107 hG, bx_istore4, bx_iload4, cl108 hG, bx_ior, bx_iinc3, bx_vret, if_pos (show (36 : Int) ≤ 36 by omega)]
  rw [hst]
  exact l2 _ _ ⟨fun _ => 0, A, ⟨xU, rfl⟩, rfl, fun b _ b2 => fA b b2, by intro D hD; rw [fA _ (by decide)]; exact hV.2.2.2.2 D hD, fun j hj => by omega, hF, Nat.two_pow_pos _, by rw [hA, vA_same]; rfl⟩
theorem xp_lay (hG : Good n L G) (h : layX n V) (hz : ∀ c, 0 ≤ c → c < 36 → lnF n c = -1 → V 8 c = -1) : ∃ W r b, run (d + 19) 1016 0 [xR 1] [] (V, G) = some (some (xI (if r = 13 then -5 else r)), (W, G)) ∧ FwP (lpX n V) b 0 0 r ∧ bndP n V b ∧ (∀ b, b ≠ 7 → ¬ (32 ≤ b ∧ b < 35) → W b = V b) ∧ ((r = 13 ∧ W 7 = V 7) ∨ ((0 ≤ r ∧ r ≤ 12) ∧ ∃ sq, wayP (lpX n V) b r sq ∧ W 7 = layA (lpX n V) xi sq (st0 (V 8) (V 7) 36) r.toNat)) := by
  obtain ⟨A, b, a1, a2, a3, a4⟩ := x_prepare (d := d + 15) hG h hz
  have hlA : lpX n A = lpX n V := by
    unfold lpX
    rw [a2 29 (by decide), a2 30 (by decide), a2 31 (by decide), a2 8 (by decide)]
  obtain ⟨b1, b2, b3⟩ := id a4
  rw [← hlA] at b2
  obtain ⟨B, r, c1, c2, c3, c4⟩ := x_few (d := d + 3) (b := b) hG b1 12 0 0 A (by omega) (by omega) a3 b2 (Nat.two_pow_pos _)
  have c4' := c4
  rw [hlA] at c4
  have hrb := FwP_bd c4 (by omega)
  have a1' : run (d + 17) 102 0 [xR 32, xU, xU] [] (V, G) = some (none, (A, G)) := a1
  have c1' : run (d + 17) 103 0 [xR 32, xI 0, xI 0, xU, xU, xU, xU, xU, xU] [] (A, G) = some (some (xI r), (B, G)) := c1
  by_cases q : r = 13
  · refine ⟨B, r, b, ?_, c4, a4, fun b b1 b2 => (c2 b (by omega)).trans (a2 b b2), Or.inl ⟨q, (c2 _ (by decide)).trans (a2 _ (by decide))⟩⟩
    rw [if_pos q]
    have hlw : run (d + 18) 101 0 [xR 32, xU] [] (V, G) = some (some (xI (-5)), (B, G)) := by
      simp (disch := first | omega | exact Nat.le_of_ble_eq_true rfl) only [bk101_0, bk101_20, Int.reduceToNat, vA_ap, Nat.reduceEqDiff, if_true, if_false, bx_nil, isL_I, isL_R, isL_U, if_ff, bind_some, tl_some, tl_none, bx_aload_0, cl102 hG, bx_iconst, cl103 hG, bx_istore_1, bx_iload_1, bx_bipush, bx_ic_ne, bx_iret, cl106 hG, a1', c1', if_pos q]
    simp (disch := first | omega | exact Nat.le_of_ble_eq_true rfl) only [bk1016_0, Int.reduceToNat, vA_ap, Nat.reduceEqDiff, if_true, if_false, bx_nil, isL_I, isL_R, isL_U, if_ff, bind_some, tl_some, tl_none, bx_aload_0, gf1_4 hG, cl101 hG, bx_iret, hlw]
  · have hlB := lpX_fr (n := n) c2
    have c4B : FwP (lpX n B) b 0 0 r := by rw [hlB]; exact c4'
    obtain ⟨W, sq, w1, w2, w3, w4⟩ := x_putSettings (d := d) (V := B) (L' := r) hG b1 (fewOK_fr c2 a3 c3) (by rw [hlB]; exact b2) (by omega) c4B
    rw [hlB, hlA] at w3 w4
    rw [c2 _ (by decide), c2 _ (by decide), a2 _ (by decide), a2 _ (by decide)] at w4
    refine ⟨W, r, b, ?_, c4, a4, fun b b1 b2 => (w2 b (by omega) b1).trans ((c2 b (by omega)).trans (a2 b b2)), Or.inr ⟨by omega, sq, w3, w4⟩⟩
    rw [if_neg q]
    have w1' : run (d + 17) 106 0 [xR 32, xI r, xU, xU, xU] [] (B, G) = some (none, (W, G)) := w1
    have hlw : run (d + 18) 101 0 [xR 32, xU] [] (V, G) = some (some (xI r), (W, G)) := by
      simp (disch := first | omega | exact Nat.le_of_ble_eq_true rfl) only [bk101_0, bk101_20, Int.reduceToNat, vA_ap, Nat.reduceEqDiff, if_true, if_false, bx_nil, isL_I, isL_R, isL_U, if_ff, bind_some, tl_some, tl_none, bx_aload_0, cl102 hG, bx_iconst, cl103 hG, bx_istore_1, bx_iload_1, bx_bipush, bx_ic_ne, bx_iret, cl106 hG, a1', c1', if_neg q, w1']
    simp (disch := first | omega | exact Nat.le_of_ble_eq_true rfl) only [bk1016_0, Int.reduceToNat, vA_ap, Nat.reduceEqDiff, if_true, if_false, bx_nil, isL_I, isL_R, isL_U, if_ff, bind_some, tl_some, tl_none, bx_aload_0, gf1_4 hG, cl101 hG, bx_iret, hlw]
end XL3
