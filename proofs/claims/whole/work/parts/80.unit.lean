/-! PROGRAM: one statement, or one bracket that opens, on both sides -/
section UN
variable {n L d e : Nat} {G : XG} {V A B : Nat → Int → Int}
theorem x_turn {D : Nat} {c a sz : Int} (hG : Good n L G) (hn : V 35 0 = n) (h26 : 2 ≤ n ∧ n ≤ 6) (ea : V 35 7 = a) (es : V 35 1 = sz) (h0 : 0 ≤ a ∧ a < sz) (hs : sz ≤ 100) (hd : V 35 8 = D) (hD : D ≤ 50) (hr : 0 ≤ V (41 + 3 * D) 2) : run (d + 3) 506 0 [xR 35, xI c, xU, xU] [] (V, G) = if (numF (V 36) sz (a + 1) ((n : Int) - 2)).1 = -1 then some (some (xI 0), (plX V (numF (V 36) sz (a + 1) ((n : Int) - 2)).2, G)) else if c = 115 then some (some (xI 1), (setRow (plX V (numF (V 36) sz (a + 1) ((n : Int) - 2)).2) (41 + 3 * D) (addR (rowOf V (41 + 3 * D)) (numF (V 36) sz (a + 1) ((n : Int) - 2)).1 24), G)) else if (numF (V 36) sz (numF (V 36) sz (a + 1) ((n : Int) - 2)).2 95).1 = -1 then some (some (xI 0), (plX V (numF (V 36) sz (numF (V 36) sz (a + 1) ((n : Int) - 2)).2 95).2, G)) else some (some (xI 1), (setRow (plX V (numF (V 36) sz (numF (V 36) sz (a + 1) ((n : Int) - 2)).2 95).2) (41 + 3 * D) (addR (rowOf V (41 + 3 * D)) (numF (V 36) sz (a + 1) ((n : Int) - 2)).1 (if c = 117 then (96 - (numF (V 36) sz (numF (V 36) sz (a + 1) ((n : Int) - 2)).2 95).1) % 96 else (numF (V 36) sz (numF (V 36) sz (a + 1) ((n : Int) - 2)).2 95).1)), G)) := by
  have hrw := row41 (show D < 51 by omega)
  have f : ∀ y, plX V y 35 7 = y ∧ plX V y 35 1 = sz ∧ plX V y 36 = V 36 ∧ plX V y 35 8 = D := fun y => ⟨rfl, es, rfl, hd⟩
  have fr : ∀ y, rowOf (plX V y) (41 + 3 * D) = rowOf V (41 + 3 * D) := fun y => by
    unfold rowOf plX
    rw [vA_ne (by omega), vA_ne (by omega), vA_ne (by omega)]
  have e1 : vA V 35 (vU (V 35) 7 (a + 1)) = plX V (a + 1) := rfl
  have hn1 := x_number (d := d) (V := plX V (a + 1)) (most := (n : Int) - 2) hG (by rw [(f _).1, (f _).2.1]; omega) (by rw [(f _).2.1]; exact hs) (by omega)
  rw [(f _).1, (f _).2.1, (f _).2.2.1, plX_pl] at hn1
  have hb1 := numF_bd (t := V 36) (sz := sz) (a := a + 1) (most := (n : Int) - 2) (by omega)
  have hn0 : plX V (a + 1) 35 0 = n := hn
  generalize numF (V 36) sz (a + 1) ((n : Int) - 2) = N1 at *
  by_cases q1 : N1.1 = -1
  · rw [if_pos q1]
    simp (disch := first | omega | exact Nat.le_of_ble_eq_true rfl) only [bk506_0, bk506_28, bk506_39, bk506_45, bk506_53, bk506_79, bk506_80, Int.reduceToNat, vA_ap, Nat.reduceEqDiff, if_true, if_false, bx_nil, isL_I, isL_R, isL_U, if_ff, bind_some, tl_some, tl_none, bx_aload_0, bx_dupI, bx_dupR, gf35_7 hG, bx_iconst, bx_iadd, pf35_7 hG, gf35_0 hG, bx_isub, cl507 hG, bx_istore_2, bx_iload_2, bx_ic_ne, bx_zret, bx_iload_1, bx_bipush, bx_goto, bx_istore_3, bx_iload_3, gf35_3 hG, aa37 hG, gf35_8 hG, bx_irem, ea, e1, hn0, hn1, if_pos q1]
  · rw [if_neg q1]
    by_cases q2 : c = 115
    · rw [if_pos q2]
      have ha := w_add (d := d + 2) (V := plX V N1.2) (u := N1.1) (k := 24) hG hrw (by unfold plX; rw [vA_ne (by omega)]; exact hr)
      rw [fr] at ha
      simp (disch := first | omega | exact Nat.le_of_ble_eq_true rfl) only [bk506_0, bk506_28, bk506_39, bk506_45, bk506_53, bk506_79, bk506_80, Int.reduceToNat, vA_ap, Nat.reduceEqDiff, if_true, if_false, bx_nil, isL_I, isL_R, isL_U, if_ff, bind_some, tl_some, tl_none, bx_aload_0, bx_dupI, bx_dupR, gf35_7 hG, bx_iconst, bx_iadd, pf35_7 hG, gf35_0 hG, bx_isub, cl507 hG, bx_istore_2, bx_iload_2, bx_ic_ne, bx_zret, bx_iload_1, bx_bipush, bx_goto, bx_istore_3, bx_iload_3, gf35_3 hG, aa37 hG, gf35_8 hG, bx_irem, ea, e1, hn0, hn1, if_neg q1, if_pos q2, if_neg (show ¬ (24 : Int) = -1 by omega), (f N1.2).2.2.2, Int.toNat_natCast, if_neg (show ¬ c = 117 by omega), cl602 hG hrw, ha]
    · rw [if_neg q2]
      have hn2 := x_number (d := d) (V := plX V N1.2) (most := 95) hG (by rw [(f _).1, (f _).2.1]; omega) (by rw [(f _).2.1]; exact hs) (by omega)
      rw [(f _).1, (f _).2.1, (f _).2.2.1, plX_pl] at hn2
      have hb2 := numF_bd (t := V 36) (sz := sz) (a := N1.2) (most := 95) (by omega)
      generalize numF (V 36) sz N1.2 95 = N2 at *
      by_cases q3 : N2.1 = -1
      · rw [if_pos q3]
        simp (disch := first | omega | exact Nat.le_of_ble_eq_true rfl) only [bk506_0, bk506_28, bk506_39, bk506_45, bk506_53, bk506_79, bk506_80, Int.reduceToNat, vA_ap, Nat.reduceEqDiff, if_true, if_false, bx_nil, isL_I, isL_R, isL_U, if_ff, bind_some, tl_some, tl_none, bx_aload_0, bx_dupI, bx_dupR, gf35_7 hG, bx_iconst, bx_iadd, pf35_7 hG, gf35_0 hG, bx_isub, cl507 hG, bx_istore_2, bx_iload_2, bx_ic_ne, bx_zret, bx_iload_1, bx_bipush, bx_goto, bx_istore_3, bx_iload_3, gf35_3 hG, aa37 hG, gf35_8 hG, bx_irem, ea, e1, hn0, hn1, if_neg q1, if_neg q2, hn2, if_pos q3]
      · rw [if_neg q3]
        have ha := w_add (d := d + 2) (V := plX V N2.2) (u := N1.1) (k := if c = 117 then (96 - N2.1) % 96 else N2.1) hG hrw (by unfold plX; rw [vA_ne (by omega)]; exact hr)
        rw [fr] at ha
        by_cases q4 : c = 117
        · rw [if_pos q4] at ha ⊢
          simp (disch := first | omega | exact Nat.le_of_ble_eq_true rfl) only [bk506_0, bk506_28, bk506_39, bk506_45, bk506_53, bk506_79, bk506_80, Int.reduceToNat, vA_ap, Nat.reduceEqDiff, if_true, if_false, bx_nil, isL_I, isL_R, isL_U, if_ff, bind_some, tl_some, tl_none, bx_aload_0, bx_dupI, bx_dupR, gf35_7 hG, bx_iconst, bx_iadd, pf35_7 hG, gf35_0 hG, bx_isub, cl507 hG, bx_istore_2, bx_iload_2, bx_ic_ne, bx_zret, bx_iload_1, bx_bipush, bx_goto, bx_istore_3, bx_iload_3, gf35_3 hG, aa37 hG, gf35_8 hG, bx_irem, ea, e1, hn0, hn1, if_neg q1, if_neg q2, hn2, if_neg q3, (f N2.2).2.2.2, Int.toNat_natCast, if_pos q4, tm_pos (show 0 ≤ 96 - N2.1 by omega) (show (0 : Int) < 96 by omega), cl602 hG hrw, ha]
        · rw [if_neg q4] at ha ⊢
          simp (disch := first | omega | exact Nat.le_of_ble_eq_true rfl) only [bk506_0, bk506_28, bk506_39, bk506_45, bk506_53, bk506_79, bk506_80, Int.reduceToNat, vA_ap, Nat.reduceEqDiff, if_true, if_false, bx_nil, isL_I, isL_R, isL_U, if_ff, bind_some, tl_some, tl_none, bx_aload_0, bx_dupI, bx_dupR, gf35_7 hG, bx_iconst, bx_iadd, pf35_7 hG, gf35_0 hG, bx_isub, cl507 hG, bx_istore_2, bx_iload_2, bx_ic_ne, bx_zret, bx_iload_1, bx_bipush, bx_goto, bx_istore_3, bx_iload_3, gf35_3 hG, aa37 hG, gf35_8 hG, bx_irem, ea, e1, hn0, hn1, if_neg q1, if_neg q2, hn2, if_neg q3, (f N2.2).2.2.2, Int.toNat_natCast, if_neg q4, cl602 hG hrw, ha]
/-- how both sides go on from the start of a statement -/
def untP (n : Nat) (G : XG) (d e : Nat) (u1 u2 : XV) (A B : Nat → Int → Int) : Prop := ∃ A' b, run (d + 5) 504 0 [xR 35, xU] [] (A, G) = some (some (xI b), (A', G)) ∧ frRx A A' ∧ ((b = 0 ∧ ∃ B', run (e + 2) 1135 0 [xR 376, u1, u2] [] (B, G) = some (some (xI 0), (B', G)) ∧ frRm B B' ∧ pvR n A' B') ∨ (b = 1 ∧ A' 35 10 = 0 ∧ A 35 7 < A' 35 7 ∧ ∃ B', run (e + 2) 1135 0 [xR 376, u1, u2] [] (B, G) = some (some (xI 1), (B', G)) ∧ frRm B B' ∧ pvR n A' B') ∨ (b = 1 ∧ A' 35 10 = 1 ∧ A 35 7 < A' 35 7 ∧ ∃ B' v1 v2, run (e + 2) 1135 0 [xR 376, u1, u2] [] (B, G) = run (e + 2) 1135 0 [xR 376, v1, v2] [] (B', G) ∧ frRm B B' ∧ pvR n A' B'))
theorem unt_turn {u1 u2 : XV} {c : Int} (hG : Good n L G) (h : pvR n A B) (ho : A 35 10 = 0) (hc : pkF (A 36) (A 35 1) (A 35 7) = c) (hcc : c = 116 ∨ c = 115 ∨ c = 117) : ∃ A' b, run (d + 4) 506 0 [xR 35, xI c, xU, xU] [] (A, G) = some (some (xI b), (A', G)) ∧ frRx A A' ∧ A' 35 10 = 0 ∧ ((b = 0 ∧ ∃ B', run (e + 2) 1135 0 [xR 376, u1, u2] [] (B, G) = some (some (xI 0), (B', G)) ∧ frRm B B' ∧ pvR n A' B') ∨ (b = 1 ∧ A 35 7 < A' 35 7 ∧ ∃ B', run (e + 2) 1135 0 [xR 376, u1, u2] [] (B, G) = some (some (xI 1), (B', G)) ∧ frRm B B' ∧ pvR n A' B')) := by
  obtain ⟨⟨i1, i2, i3, i4, i5⟩, h2, h3, h4, h5⟩ := id h
  have hps := pkF_lt hc (by omega)
  obtain ⟨D, hD⟩ : ∃ D : Nat, A 35 8 = D := ⟨(A 35 8).toNat, by omega⟩
  have hrow := h3 D (by omega)
  have hD50 : D ≤ 50 := by omega
  have hx := x_turn (d := d + 1) (D := D) (c := c) (V := A) hG i1.1 i1.2.2 rfl rfl ⟨i3.2.1, hps⟩ i2.2.2 hD hD50 (by have := hrow.2.1; have := hrow.1; show 0 ≤ (rowOf A (41 + 3 * D)).1; omega)
  have hb1 := numF_bd (t := A 36) (sz := A 35 1) (a := A 35 7 + 1) (most := (n : Int) - 2) (by omega)
  -- the reference
  obtain ⟨B1, hB1⟩ : ∃ B1, B1 = vA B 376 (vU (B 376) 31 (A 35 7 + 1)) := ⟨_, rfl⟩
  have v1 : mvM B B1 (A 35 7 + 1) := by rw [hB1]; exact mvM_at (a := A 35 7) ⟨fun _ _ => rfl, fun _ _ _ => rfl, i3.1⟩
  have hsg := m_sign (d := e + 1) (V := B) hG i3.1 i2.1 i3.2.1 i2.2.2
  rw [pv_pk h _ i3.2.1, hc] at hsg
  obtain ⟨W1, w0, w1, w2⟩ := m_number (d := e) (V := B1) (most := (n : Int) - 2) hG v1.2.2 ((v1.2.1 30 (by decide) (by decide)).trans i2.1) (by omega) i2.2.2 (by omega)
  rw [v1.1 394 (by decide), pv_num h _ _ (by omega)] at w0 w1 w2
  have z1 : mvM B W1 (numF (A 36) (A 35 1) (A 35 7 + 1) ((n : Int) - 2)).2 := ⟨fun b hb => (w1.1 b hb).trans (v1.1 b hb), fun k k1 k2 => (w1.2.1 k k1 k2).trans (v1.2.1 k k1 k2), w1.2.2⟩
  have n0 : B1 376 0 = n := (v1.2.1 0 (by decide) (by decide)).trans i1.2.1
  have hst : run (e + 2) 1135 0 [xR 376, u1, u2] [] (B, G) = run (e + 2) 1135 23 [xR 376, xI c, u2] [] (B, G) := by
    rw [bk1135_0]
    rcases hcc with y | y | y
    · simp (disch := first | omega | exact Nat.le_of_ble_eq_true rfl) only [bx_aload_0, cl1136 hG, hsg, bind_some, tl_some, bx_istore_1, isL_R, if_ff, bx_iload_1, bx_bipush, bx_ic_eq, if_pos y, Int.reduceToNat]
    · simp (disch := first | omega | exact Nat.le_of_ble_eq_true rfl) only [bx_aload_0, cl1136 hG, hsg, bind_some, tl_some, bx_istore_1, isL_R, if_ff, bx_iload_1, bx_bipush, bx_ic_eq, bx_ic_ne, if_neg (show ¬ c = 116 by omega), if_neg (show ¬ c = 117 by omega), if_pos y, bx_nil, bk1135_23]
    · simp (disch := first | omega | exact Nat.le_of_ble_eq_true rfl) only [bx_aload_0, cl1136 hG, hsg, bind_some, tl_some, bx_istore_1, isL_R, if_ff, bx_iload_1, bx_bipush, bx_ic_eq, if_neg (show ¬ c = 116 by omega), if_pos y, Int.reduceToNat]
  have hfx : ∀ y, frRx A (plX A y) := fun y => ⟨fun b hb => vA_ne (by omega), rfl, rfl⟩
  have hmv : ∀ (W : Nat → Int → Int) (y : Int), mvM B W y → A 35 7 ≤ y ∧ y ≤ A 35 1 → pvR n (plX A y) W := fun W y hW hy => pv_mv h (fun b hb => vA_ne hb) (fun k k1 k2 => by unfold plX; rw [vA_same, vU_ne k1]) hW.1 hW.2.1 hW.2.2 hy
  have hfm : ∀ (W : Nat → Int → Int) (y : Int), mvM B W y → frRm B W := fun W y hW => ⟨fun b hb _ => hW.1 b hb, fun k hk => hW.2.1 k (by omega) (by omega)⟩
  -- a row gets one more
  have hadd : ∀ (W : Nat → Int → Int) (y u k : Int), mvM B W y → A 35 7 ≤ y ∧ y ≤ A 35 1 → (0 ≤ u ∧ u + 1 < (n : Int)) → (0 ≤ k ∧ k ≤ 95) → run (e + 1) 1139 0 [xR 376, xI (100 * u + k)] [] (W, G) = some (none, (adM W (100 * u + k), G)) ∧ frRm B (adM W (100 * u + k)) ∧ pvR n (setRow (plX A y) (41 + 3 * D) (addR (rowOf A (41 + 3 * D)) u k)) (adM W (100 * u + k)) ∧ frRx A (setRow (plX A y) (41 + 3 * D) (addR (rowOf A (41 + 3 * D)) u k)) := fun W y u k hW hy hu hk => by
    have hd : W 376 32 = D := by rw [hW.2.1 32 (by decide) (by decide), i4.1]; exact hD
    have hp := hmv W y hW hy
    have hrw := hp.2.2.1 D (by show (D : Int) ≤ A 35 8; omega)
    have hro : rowOf (plX A y) (41 + 3 * D) = rowOf A (41 + 3 * D) := by
      unfold rowOf plX
      rw [vA_ne (by omega), vA_ne (by omega), vA_ne (by omega)]
    rw [hro] at hrw
    have hz : 0 ≤ W 396 (W 376 32) ∧ W 396 (W 376 32) ≤ 11 := by rw [hd]; exact hrw.2.1
    have ho := adM_oth (V := W) (v := 100 * u + k) hz
    have hq := adM_row (n := n) (V := W) (s := rowOf A (41 + 3 * D)) (u := u) (k := k) (by rw [hd]; exact hrw) hu hk
    rw [hd] at ho hq
    refine ⟨m_adds hG (by omega) hz, ⟨fun b b1 b2 => (ho.2.2 b (by omega) (by omega)).trans (hW.1 b b1), fun q hq' => ?_⟩, pv_row (A := plX A y) (D := D) hp hD hD50 rfl ho hq, ⟨fun b hb => ?_, ?_, ?_⟩⟩
    · rw [ho.2.2 376 (by decide) (by decide)]; exact hW.2.1 q (by omega) (by omega)
    · rw [setRow_ap (by omega) (by omega) (by omega)]; exact vA_ne (by omega)
    · rw [setRow_ap (by omega) (by omega) (by omega)]; rfl
    · rw [setRow_ap (by omega) (by omega) (by omega)]; rfl
  have o10 : ∀ y s, setRow (plX A y) (41 + 3 * D) s 35 10 = 0 := fun y s => by rw [setRow_ap (by omega) (by omega) (by omega)]; exact ho
  have p7 : ∀ y s, setRow (plX A y) (41 + 3 * D) s 35 7 = y := fun y s => by rw [setRow_ap (by omega) (by omega) (by omega)]; rfl
  generalize numF (A 36) (A 35 1) (A 35 7 + 1) ((n : Int) - 2) = N1 at *
  by_cases q1 : N1.1 = -1
  · rw [if_pos q1] at hx
    rw [b1_f (not_not_intro q1)] at w0
    refine ⟨_, 0, hx, hfx _, ho, Or.inl ⟨rfl, W1, ?_, hfm _ _ z1, hmv _ _ z1 (by omega)⟩⟩
    rw [hst]
    simp (disch := first | omega | exact Nat.le_of_ble_eq_true rfl) only [bk1135_23, bk1135_48, bk1135_70, bk1135_86, bk1135_99, bk1135_109, bk1135_115, bk1135_132, bk1135_169, bk1135_187, bk1135_198, bk1135_227, bk1135_231, Int.reduceToNat, vA_ap, Nat.reduceEqDiff, if_true, if_false, bx_nil, isL_I, isL_R, isL_U, if_ff, bind_some, tl_some, tl_none, bx_aload_0, cl1136 hG, bx_istore_1, bx_iload_1, bx_bipush, bx_ic_eq, bx_ic_ne, bx_dupI, bx_dupR, gf376_31 hG, bx_iconst, bx_iadd, pf376_31 hG, gf376_0 hG, bx_isub, cl1137 hG, bx_if_ne, bx_zret, gf376_34 hG, bx_istore_2, bx_iload_2, bx_imul, bx_goto, bx_irem, cl1139 hG, cl1138, cl1140 hG, bx_if_eq, cl1141 hG, cl1142 hG, i3.1, ← hB1, n0, w0]
  · rw [if_neg q1] at hx
    rw [b1_t q1] at w0
    have wn := w2 q1
    have hN1 := hb1.2.resolve_left q1
    by_cases q2 : c = 115
    · rw [if_pos q2] at hx
      obtain ⟨g1, g2, g3, g4⟩ := hadd W1 N1.2 N1.1 24 z1 (by omega) (by omega) (by omega)
      refine ⟨_, 1, hx, g4, o10 _ _, Or.inr ⟨rfl, by rw [p7]; omega, _, ?_, g2, g3⟩⟩
      rw [hst]
      simp (disch := first | omega | exact Nat.le_of_ble_eq_true rfl) only [bk1135_23, bk1135_48, bk1135_70, bk1135_86, bk1135_99, bk1135_109, bk1135_115, bk1135_132, bk1135_169, bk1135_187, bk1135_198, bk1135_227, bk1135_231, Int.reduceToNat, vA_ap, Nat.reduceEqDiff, if_true, if_false, bx_nil, isL_I, isL_R, isL_U, if_ff, bind_some, tl_some, tl_none, bx_aload_0, cl1136 hG, bx_istore_1, bx_iload_1, bx_bipush, bx_ic_eq, bx_ic_ne, bx_dupI, bx_dupR, gf376_31 hG, bx_iconst, bx_iadd, pf376_31 hG, gf376_0 hG, bx_isub, cl1137 hG, bx_if_ne, bx_zret, gf376_34 hG, bx_istore_2, bx_iload_2, bx_imul, bx_goto, bx_irem, cl1139 hG, cl1138, cl1140 hG, bx_if_eq, cl1141 hG, cl1142 hG, i3.1, ← hB1, n0, w0, one_ne, wn, if_pos q2, g1]
    · rw [if_neg q2] at hx
      have hb2 := numF_bd (t := A 36) (sz := A 35 1) (a := N1.2) (most := 95) (by omega)
      obtain ⟨W2, y0, y1, y2⟩ := m_number (d := e) (V := W1) (most := 95) hG z1.2.2 ((z1.2.1 30 (by decide) (by decide)).trans i2.1) (by omega) i2.2.2 (by omega)
      rw [z1.1 394 (by decide), pv_num h _ _ (by omega)] at y0 y1 y2
      have z2 : mvM B W2 (numF (A 36) (A 35 1) N1.2 95).2 := ⟨fun b hb => (y1.1 b hb).trans (z1.1 b hb), fun k k1 k2 => (y1.2.1 k k1 k2).trans (z1.2.1 k k1 k2), y1.2.2⟩
      generalize numF (A 36) (A 35 1) N1.2 95 = N2 at *
      by_cases q3 : N2.1 = -1
      · rw [if_pos q3] at hx
        rw [b1_f (not_not_intro q3)] at y0
        refine ⟨_, 0, hx, hfx _, ho, Or.inl ⟨rfl, W2, ?_, hfm _ _ z2, hmv _ _ z2 (by omega)⟩⟩
        rw [hst]
        simp (disch := first | omega | exact Nat.le_of_ble_eq_true rfl) only [bk1135_23, bk1135_48, bk1135_70, bk1135_86, bk1135_99, bk1135_109, bk1135_115, bk1135_132, bk1135_169, bk1135_187, bk1135_198, bk1135_227, bk1135_231, Int.reduceToNat, vA_ap, Nat.reduceEqDiff, if_true, if_false, bx_nil, isL_I, isL_R, isL_U, if_ff, bind_some, tl_some, tl_none, bx_aload_0, cl1136 hG, bx_istore_1, bx_iload_1, bx_bipush, bx_ic_eq, bx_ic_ne, bx_dupI, bx_dupR, gf376_31 hG, bx_iconst, bx_iadd, pf376_31 hG, gf376_0 hG, bx_isub, cl1137 hG, bx_if_ne, bx_zret, gf376_34 hG, bx_istore_2, bx_iload_2, bx_imul, bx_goto, bx_irem, cl1139 hG, cl1138, cl1140 hG, bx_if_eq, cl1141 hG, cl1142 hG, i3.1, ← hB1, n0, w0, one_ne, wn, if_neg q2, y0]
      · rw [if_neg q3] at hx
        rw [b1_t q3] at y0
        have yn := y2 q3
        have hN2 := hb2.2.resolve_left q3
        by_cases q4 : c = 117
        · rw [if_pos q4] at hx
          obtain ⟨g1, g2, g3, g4⟩ := hadd W2 N2.2 N1.1 ((96 - N2.1) % 96) z2 (by omega) (by omega) (by omega)
          refine ⟨_, 1, hx, g4, o10 _ _, Or.inr ⟨rfl, by rw [p7]; omega, _, ?_, g2, g3⟩⟩
          rw [hst]
          simp (disch := first | omega | exact Nat.le_of_ble_eq_true rfl) only [bk1135_23, bk1135_48, bk1135_70, bk1135_86, bk1135_99, bk1135_109, bk1135_115, bk1135_132, bk1135_169, bk1135_187, bk1135_198, bk1135_227, bk1135_231, Int.reduceToNat, vA_ap, Nat.reduceEqDiff, if_true, if_false, bx_nil, isL_I, isL_R, isL_U, if_ff, bind_some, tl_some, tl_none, bx_aload_0, cl1136 hG, bx_istore_1, bx_iload_1, bx_bipush, bx_ic_eq, bx_ic_ne, bx_dupI, bx_dupR, gf376_31 hG, bx_iconst, bx_iadd, pf376_31 hG, gf376_0 hG, bx_isub, cl1137 hG, bx_if_ne, bx_zret, gf376_34 hG, bx_istore_2, bx_iload_2, bx_imul, bx_goto, bx_irem, cl1139 hG, cl1138, cl1140 hG, bx_if_eq, cl1141 hG, cl1142 hG, i3.1, ← hB1, n0, w0, one_ne, wn, if_neg q2, y0, if_neg (show ¬ c = 116 by omega), yn, tm_pos (show 0 ≤ 96 - N2.1 by omega) (show (0 : Int) < 96 by omega), g1]
        · rw [if_neg q4] at hx
          obtain ⟨g1, g2, g3, g4⟩ := hadd W2 N2.2 N1.1 N2.1 z2 (by omega) (by omega) (by omega)
          refine ⟨_, 1, hx, g4, o10 _ _, Or.inr ⟨rfl, by rw [p7]; omega, _, ?_, g2, g3⟩⟩
          rw [hst]
          simp (disch := first | omega | exact Nat.le_of_ble_eq_true rfl) only [bk1135_23, bk1135_48, bk1135_70, bk1135_86, bk1135_99, bk1135_109, bk1135_115, bk1135_132, bk1135_169, bk1135_187, bk1135_198, bk1135_227, bk1135_231, Int.reduceToNat, vA_ap, Nat.reduceEqDiff, if_true, if_false, bx_nil, isL_I, isL_R, isL_U, if_ff, bind_some, tl_some, tl_none, bx_aload_0, cl1136 hG, bx_istore_1, bx_iload_1, bx_bipush, bx_ic_eq, bx_ic_ne, bx_dupI, bx_dupR, gf376_31 hG, bx_iconst, bx_iadd, pf376_31 hG, gf376_0 hG, bx_isub, cl1137 hG, bx_if_ne, bx_zret, gf376_34 hG, bx_istore_2, bx_iload_2, bx_imul, bx_goto, bx_irem, cl1139 hG, cl1138, cl1140 hG, bx_if_eq, cl1141 hG, cl1142 hG, i3.1, ← hB1, n0, w0, one_ne, wn, if_neg q2, y0, if_pos (show c = 116 by omega), yn, g1]
end UN
