/-! NEXT: the pair -/
section NX3
variable {n L d : Nat} {G : XG} {V : Nat → Int → Int}
theorem mp_next {W0 : Nat → Int → Int} (hG : Good n L G) (h : Inv n V) (hb : ¬ V 344 2 = 0) (hc : ¬ V 344 5 = 0) (fr : frP V W0) (e376 : W0 376 = V 376) (eh : W0 409 = V 409) (hlg : ∀ l, (n : Int) ≤ l → l < 6 → W0 385 l = 0) : ∃ U, run (d + 6) 1159 0 [xR 376, xU, xU, xU, xU, xU, xU, xU] [] (W0, G) = some (some (xI (bsJ (mxG V) n n (1000, -1)).2), (U, G)) ∧ (∀ b, b ≠ 383 → b ≠ 384 → b ≠ 385 → b ≠ 410 → U b = W0 b) ∧ (∀ l, (n : Int) ≤ l → l < 6 → U 385 l = 0) := by
  have hn := h.nn
  obtain ⟨p1, p2, p3⟩ := h.prb
  obtain ⟨c1, c2, c3⟩ := held_cnt h.prb hb
  have hl := it_inv (D := d + 6) (q := 1159) (pc := 26) (hi := n) (I := fun j ls μ => (∃ u4 u5 u6 u7, ls = [xR 376, xI (bsJ (mxG V) n j.toNat (1000, -1)).2, xI (bsJ (mxG V) n j.toNat (1000, -1)).1, xI j, u4, u5, u6, u7]) ∧ ∃ W, μ = (W, G) ∧ (∀ b, b ≠ 383 → b ≠ 384 → b ≠ 385 → b ≠ 410 → W b = W0 b) ∧ (∀ l, (n : Int) ≤ l → l < 6 → W 385 l = 0)) (Q := fun y => ∃ U, y = some (some (xI (bsJ (mxG V) n n (1000, -1)).2), (U, G)) ∧ (∀ b, b ≠ 383 → b ≠ 384 → b ≠ 385 → b ≠ 410 → U b = W0 b) ∧ (∀ l, (n : Int) ≤ l → l < 6 → U 385 l = 0)) (fun ls μ hI => by
    obtain ⟨⟨u4, u5, u6, u7, rfl⟩, W, rfl, w1, w2⟩ := hI
    have f376 : W 376 0 = n := by rw [w1 _ (by decide) (by decide) (by decide) (by decide), e376]; exact h.lm
    refine ⟨W, ?_, w1, w2⟩
    rw [bk1159_26, Int.toNat_natCast]
    simp (disch := first | omega | exact Nat.le_of_ble_eq_true rfl) only [bk1159_0, bk1159_15, bk1159_18, bk1159_70, bk1159_98, bk1159_141, bk1159_147, bk1159_156, bk1159_167, bk1159_173, bk1159_179, Int.reduceToNat, vA_ap, Nat.reduceEqDiff, if_true, if_false, bx_nil, isL_I, isL_R, isL_U, if_ff, bind_some, tl_some, tl_none, bx_aload_0, gf376_50 hG, bx_if_eq, bx_iconst, cl1158 hG, bx_if_ne, bx_bipush, bx_iret, bx_istore_1, bx_sipush, bx_istore_2, bx_istore_3, bx_iload_3, gf376_0 hG, bx_ic_ge, bx_istore4, bx_iload4, bx_istore5, bx_iload5, gf376_51 hG, ia410 hG, is410 hG, bx_iinc5, bx_goto, bx_istore6, bx_iload6, gf376_48 hG, gf376_46 hG, ia409 hG, is409 hG, cl1156 hG, bx_istore7, bx_iload7, bx_dup2, bx_iadd, bx_ic_le, bx_iinc6, bx_iload_2, bx_ic_lt, bx_imul, bx_iinc4, bx_iinc3, bx_iload_1, f376, if_pos (show (n : Int) ≤ n by omega)]) n 0 (by omega) (fun j ls μ j0 j1 hI => by
    obtain ⟨⟨u4, u5, u6, u7, rfl⟩, W, rfl, w1, w2⟩ := hI
    left
    have f376 : W 376 0 = n := by rw [w1 _ (by decide) (by decide) (by decide) (by decide), e376]; exact h.lm
    rw [bsJ_up j0]
    generalize bsJ (mxG V) n j.toNat (1000, -1) = s
    have lp := it_inv (D := d + 6) (q := 1159) (pc := 37) (hi := n) (I := fun m ls μ => (∃ u5 u6 u7, ls = [xR 376, xI (bsM (mxG V) j m.toNat s).2, xI (bsM (mxG V) j m.toNat s).1, xI j, xI m, u5, u6, u7]) ∧ ∃ W, μ = (W, G) ∧ (∀ b, b ≠ 383 → b ≠ 384 → b ≠ 385 → b ≠ 410 → W b = W0 b) ∧ (∀ l, (n : Int) ≤ l → l < 6 → W 385 l = 0)) (Q := fun y => ∃ u4 u5 u6 u7 U, y = run (d + 6) 1159 26 [xR 376, xI (bsM (mxG V) j n s).2, xI (bsM (mxG V) j n s).1, xI (j + 1), u4, u5, u6, u7] [] (U, G) ∧ (∀ b, b ≠ 383 → b ≠ 384 → b ≠ 385 → b ≠ 410 → U b = W0 b) ∧ (∀ l, (n : Int) ≤ l → l < 6 → U 385 l = 0)) (fun ls μ hI => by
      obtain ⟨⟨u5, u6, u7, rfl⟩, W, rfl, w1, w2⟩ := hI
      have f376 : W 376 0 = n := by rw [w1 _ (by decide) (by decide) (by decide) (by decide), e376]; exact h.lm
      refine ⟨xI n, u5, u6, u7, W, ?_, w1, w2⟩
      rw [bk1159_37, Int.toNat_natCast]
      simp (disch := first | omega | exact Nat.le_of_ble_eq_true rfl) only [bk1159_0, bk1159_15, bk1159_18, bk1159_70, bk1159_98, bk1159_141, bk1159_147, bk1159_156, bk1159_167, bk1159_173, bk1159_179, Int.reduceToNat, vA_ap, Nat.reduceEqDiff, if_true, if_false, bx_nil, isL_I, isL_R, isL_U, if_ff, bind_some, tl_some, tl_none, bx_aload_0, gf376_50 hG, bx_if_eq, bx_iconst, cl1158 hG, bx_if_ne, bx_bipush, bx_iret, bx_istore_1, bx_sipush, bx_istore_2, bx_istore_3, bx_iload_3, gf376_0 hG, bx_ic_ge, bx_istore4, bx_iload4, bx_istore5, bx_iload5, gf376_51 hG, ia410 hG, is410 hG, bx_iinc5, bx_goto, bx_istore6, bx_iload6, gf376_48 hG, gf376_46 hG, ia409 hG, is409 hG, cl1156 hG, bx_istore7, bx_iload7, bx_dup2, bx_iadd, bx_ic_le, bx_iinc6, bx_iload_2, bx_ic_lt, bx_imul, bx_iinc4, bx_iinc3, bx_iload_1, f376, if_pos (show (n : Int) ≤ n by omega)]) n 0 (by omega) (fun m ls μ m0 m1 hI => by
      obtain ⟨⟨u5, u6, u7, rfl⟩, W, rfl, w1, w2⟩ := hI
      left
      have f376 : W 376 = V 376 := (w1 _ (by decide) (by decide) (by decide) (by decide)).trans e376
      have f0 : W 376 0 = n := by rw [f376]; exact h.lm
      rw [bsM_up m0]
      unfold bsS
      generalize bsM (mxG V) j m.toNat s = z
      obtain ⟨U, u', v', o1, o2, o3⟩ := m_grp (d := d) (W := W) (j := j) (m := m) (s1 := z.1) (s2 := z.2) (u := u6) (v := u7) hG h hb (fun b b0 b1 b2 b3 b4 b5 b6 b7 => (w1 b b3 b4 b5 b7).trans (fr b b0 b1 b2 b3 b4 b5 b6 b7)) f376 ((w1 _ (by decide) (by decide) (by decide) (by decide)).trans eh) w2 ⟨j0, j1⟩ ⟨m0, m1⟩
      have hst : run (d + 6) 1159 37 [xR 376, xI z.2, xI z.1, xI j, xI m, u5, u6, u7] [] (W, G) = run (d + 6) 1159 147 [xR 376, xI z.2, xI z.1, xI j, xI m, xI (mxG V j m), u', v'] [] (U, G) := by
        rw [← o1, bk1159_37]
        simp (disch := first | omega | exact Nat.le_of_ble_eq_true rfl) only [bx_iload4, bx_aload_0, gf376_0 hG, f0, bx_ic_ge, if_neg (show ¬ (n : Int) ≤ m by omega), bx_iconst, bx_istore5, isL_I, if_ff, bx_nil]
      by_cases q : mxG V j m < z.1
      · rw [if_pos q]
        refine ⟨_, _, ⟨⟨xI (mxG V j m), u', v', rfl⟩, U, rfl, fun b b1 b2 b3 b4 => (o2 b b1 b2 b3 b4).trans (w1 b b1 b2 b3 b4), o3⟩, ?_⟩
        rw [hst]
        simp (disch := first | omega | exact Nat.le_of_ble_eq_true rfl) only [bk1159_0, bk1159_15, bk1159_18, bk1159_70, bk1159_98, bk1159_141, bk1159_147, bk1159_156, bk1159_167, bk1159_173, bk1159_179, Int.reduceToNat, vA_ap, Nat.reduceEqDiff, if_true, if_false, bx_nil, isL_I, isL_R, isL_U, if_ff, bind_some, tl_some, tl_none, bx_aload_0, gf376_50 hG, bx_if_eq, bx_iconst, cl1158 hG, bx_if_ne, bx_bipush, bx_iret, bx_istore_1, bx_sipush, bx_istore_2, bx_istore_3, bx_iload_3, gf376_0 hG, bx_ic_ge, bx_istore4, bx_iload4, bx_istore5, bx_iload5, gf376_51 hG, ia410 hG, is410 hG, bx_iinc5, bx_goto, bx_istore6, bx_iload6, gf376_48 hG, gf376_46 hG, ia409 hG, is409 hG, cl1156 hG, bx_istore7, bx_iload7, bx_dup2, bx_iadd, bx_ic_le, bx_iinc6, bx_iload_2, bx_ic_lt, bx_imul, bx_iinc4, bx_iinc3, bx_iload_1, if_pos q]
      · rw [if_neg q]
        refine ⟨_, _, ⟨⟨xI (mxG V j m), u', v', rfl⟩, U, rfl, fun b b1 b2 b3 b4 => (o2 b b1 b2 b3 b4).trans (w1 b b1 b2 b3 b4), o3⟩, ?_⟩
        rw [hst]
        simp (disch := first | omega | exact Nat.le_of_ble_eq_true rfl) only [bk1159_0, bk1159_15, bk1159_18, bk1159_70, bk1159_98, bk1159_141, bk1159_147, bk1159_156, bk1159_167, bk1159_173, bk1159_179, Int.reduceToNat, vA_ap, Nat.reduceEqDiff, if_true, if_false, bx_nil, isL_I, isL_R, isL_U, if_ff, bind_some, tl_some, tl_none, bx_aload_0, gf376_50 hG, bx_if_eq, bx_iconst, cl1158 hG, bx_if_ne, bx_bipush, bx_iret, bx_istore_1, bx_sipush, bx_istore_2, bx_istore_3, bx_iload_3, gf376_0 hG, bx_ic_ge, bx_istore4, bx_iload4, bx_istore5, bx_iload5, gf376_51 hG, ia410 hG, is410 hG, bx_iinc5, bx_goto, bx_istore6, bx_iload6, gf376_48 hG, gf376_46 hG, ia409 hG, is409 hG, cl1156 hG, bx_istore7, bx_iload7, bx_dup2, bx_iadd, bx_ic_le, bx_iinc6, bx_iload_2, bx_ic_lt, bx_imul, bx_iinc4, bx_iinc3, bx_iload_1, if_neg q])
    obtain ⟨u4', u5', u6', u7', U, o1, o2, o3⟩ := lp [xR 376, xI s.2, xI s.1, xI j, xI 0, u5, u6, u7] (W, G) ⟨⟨u5, u6, u7, rfl⟩, W, rfl, w1, w2⟩
    refine ⟨_, _, ⟨⟨u4', u5', u6', u7', rfl⟩, U, rfl, o2, o3⟩, ?_⟩
    rw [← o1, bk1159_26]
    simp (disch := first | omega | exact Nat.le_of_ble_eq_true rfl) only [bx_iload_3, bx_aload_0, gf376_0 hG, f376, bx_ic_ge, if_neg (show ¬ (n : Int) ≤ j by omega), bx_iconst, bx_istore4, isL_I, if_ff, bx_nil])
  have hhd : run (d + 5) 1158 0 [xR 376, xI (-1), xU, xU] [] (W0, G) = some (some (xI (V 344 5)), (W0, G)) := by
    rw [mp_held (V := W0) hG (by rw [e376]; omega), e376, p1, if_neg hb, if_pos rfl, eh, ← c1]
  have hst : run (d + 6) 1159 0 [xR 376, xU, xU, xU, xU, xU, xU, xU] [] (W0, G) = run (d + 6) 1159 26 [xR 376, xI (-1), xI 1000, xI 0, xU, xU, xU, xU] [] (W0, G) := by
    simp (disch := first | omega | exact Nat.le_of_ble_eq_true rfl) only [bk1159_0, bk1159_15, bk1159_18, bk1159_70, bk1159_98, bk1159_141, bk1159_147, bk1159_156, bk1159_167, bk1159_173, bk1159_179, Int.reduceToNat, vA_ap, Nat.reduceEqDiff, if_true, if_false, bx_nil, isL_I, isL_R, isL_U, if_ff, bind_some, tl_some, tl_none, bx_aload_0, gf376_50 hG, bx_if_eq, bx_iconst, cl1158 hG, bx_if_ne, bx_bipush, bx_iret, bx_istore_1, bx_sipush, bx_istore_2, bx_istore_3, bx_iload_3, gf376_0 hG, bx_ic_ge, bx_istore4, bx_iload4, bx_istore5, bx_iload5, gf376_51 hG, ia410 hG, is410 hG, bx_iinc5, bx_goto, bx_istore6, bx_iload6, gf376_48 hG, gf376_46 hG, ia409 hG, is409 hG, cl1156 hG, bx_istore7, bx_iload7, bx_dup2, bx_iadd, bx_ic_le, bx_iinc6, bx_iload_2, bx_ic_lt, bx_imul, bx_iinc4, bx_iinc3, bx_iload_1, e376, p1, if_neg hb, hhd, if_neg hc]
  rw [hst]
  exact hl _ _ ⟨⟨xU, xU, xU, xU, rfl⟩, W0, rfl, fun _ _ _ _ _ => rfl, hlg⟩
theorem pr_next (hG : Good n L G) (h : Inv n V) : pair n G V 1030 1159 [xR 1] [xR 376, xU, xU, xU, xU, xU, xU, xU] := by
  have hn := h.nn
  obtain ⟨p1, p2, p3⟩ := h.prb
  by_cases c : V 344 2 = 0
  · refine mkpair (r := -3) (V' := V) (V'' := V) ?_ ?_ h
    · simp (disch := first | omega | exact Nat.le_of_ble_eq_true rfl) only [bk1030_0, bk1030_20, bk1030_23, Int.reduceToNat, vA_ap, Nat.reduceEqDiff, if_true, if_false, bx_nil, isL_I, isL_R, isL_U, if_ff, bind_some, tl_some, tl_none, bx_aload_0, gf1_8 hG, gf344_2 hG, bx_if_eq, gf344_5 hG, bx_if_ne, bx_bipush, bx_iret, gf1_7 hG, gf217_3 hG, cl408 hG, if_pos c]
    · simp (disch := first | omega | exact Nat.le_of_ble_eq_true rfl) only [bk1159_0, bk1159_15, bk1159_18, bk1159_70, bk1159_98, bk1159_141, bk1159_147, bk1159_156, bk1159_167, bk1159_173, bk1159_179, Int.reduceToNat, vA_ap, Nat.reduceEqDiff, if_true, if_false, bx_nil, isL_I, isL_R, isL_U, if_ff, bind_some, tl_some, tl_none, bx_aload_0, gf376_50 hG, bx_if_eq, bx_iconst, cl1158 hG, bx_if_ne, bx_bipush, bx_iret, bx_istore_1, bx_sipush, bx_istore_2, bx_istore_3, bx_iload_3, gf376_0 hG, bx_ic_ge, bx_istore4, bx_iload4, bx_istore5, bx_iload5, gf376_51 hG, ia410 hG, is410 hG, bx_iinc5, bx_goto, bx_istore6, bx_iload6, gf376_48 hG, gf376_46 hG, ia409 hG, is409 hG, cl1156 hG, bx_istore7, bx_iload7, bx_dup2, bx_iadd, bx_ic_le, bx_iinc6, bx_iload_2, bx_ic_lt, bx_imul, bx_iinc4, bx_iinc3, bx_iload_1, p1, if_pos c]
  · obtain ⟨q1, q2, q3, q4, q5, q6, q7, q8, q9⟩ := p3 (by omega)
    obtain ⟨c1, c2, c3⟩ := held_cnt h.prb c
    by_cases e : V 344 5 = 0
    · refine mkpair (r := -3) (V' := V) (V'' := V) ?_ ?_ h
      · simp (disch := first | omega | exact Nat.le_of_ble_eq_true rfl) only [bk1030_0, bk1030_20, bk1030_23, Int.reduceToNat, vA_ap, Nat.reduceEqDiff, if_true, if_false, bx_nil, isL_I, isL_R, isL_U, if_ff, bind_some, tl_some, tl_none, bx_aload_0, gf1_8 hG, gf344_2 hG, bx_if_eq, gf344_5 hG, bx_if_ne, bx_bipush, bx_iret, gf1_7 hG, gf217_3 hG, cl408 hG, if_neg c, if_pos e]
      · have hhd : run 798 1158 0 [xR 376, xI (-1), xU, xU] [] (V, G) = some (some (xI (V 344 5)), (V, G)) := by
          rw [mp_held (V := V) hG (by omega), p1, if_neg c, if_pos rfl, ← c1]
        simp (disch := first | omega | exact Nat.le_of_ble_eq_true rfl) only [bk1159_0, bk1159_15, bk1159_18, bk1159_70, bk1159_98, bk1159_141, bk1159_147, bk1159_156, bk1159_167, bk1159_173, bk1159_179, Int.reduceToNat, vA_ap, Nat.reduceEqDiff, if_true, if_false, bx_nil, isL_I, isL_R, isL_U, if_ff, bind_some, tl_some, tl_none, bx_aload_0, gf376_50 hG, bx_if_eq, bx_iconst, cl1158 hG, bx_if_ne, bx_bipush, bx_iret, bx_istore_1, bx_sipush, bx_istore_2, bx_istore_3, bx_iload_3, gf376_0 hG, bx_ic_ge, bx_istore4, bx_iload4, bx_istore5, bx_iload5, gf376_51 hG, ia410 hG, is410 hG, bx_iinc5, bx_goto, bx_istore6, bx_iload6, gf376_48 hG, gf376_46 hG, ia409 hG, is409 hG, cl1156 hG, bx_istore7, bx_iload7, bx_dup2, bx_iadd, bx_ic_le, bx_iinc6, bx_iload_2, bx_ic_lt, bx_imul, bx_iinc4, bx_iinc3, bx_iload_1, p1, if_neg c, hhd, if_pos e]
    · obtain ⟨W, w0, w1⟩ := x_best (d := 792) hG h c
      have hx : run 799 1030 0 [xR 1] [] (V, G) = some (some (xI (bsJ (mxG V) n n (V 344 3 + 1, -1)).2), (W, G)) := by
        have w0' : run 798 408 0 [xR 344, xI (V 217 3), xU, xU, xU, xU] [] (V, G) = some (some (xI (bsJ (mxG V) n n (V 344 3 + 1, -1)).2), (W, G)) := w0
        simp (disch := first | omega | exact Nat.le_of_ble_eq_true rfl) only [bk1030_0, bk1030_20, bk1030_23, Int.reduceToNat, vA_ap, Nat.reduceEqDiff, if_true, if_false, bx_nil, isL_I, isL_R, isL_U, if_ff, bind_some, tl_some, tl_none, bx_aload_0, gf1_8 hG, gf344_2 hG, bx_if_eq, gf344_5 hG, bx_if_ne, bx_bipush, bx_iret, gf1_7 hG, gf217_3 hG, cl408 hG, if_neg c, if_neg e, w0']
      have fm : ∀ b, 376 ≤ b → W b = V b := fun b hb => w1 b (by omega) (by omega)
      obtain ⟨U, u0, u1, u2⟩ := mp_next (d := 793) (W0 := W) hG h c e (fun b b0 b1 _ _ _ _ _ _ => w1 b b0 (by omega)) (fm _ (by decide)) (fm _ (by decide)) (by rw [fm _ (by decide)]; exact h.lig)
      have u0' : run 799 1159 0 [xR 376, xU, xU, xU, xU, xU, xU, xU] [] (W, G) = some (some (xI (bsJ (mxG V) n n (1000, -1)).2), (U, G)) := u0
      have hmx : 0 ≤ mxG V 0 0 ∧ mxG V 0 0 ≤ V 344 3 := by
        have := (gF_bd (p := fun h => decide (¬ V 347 h = 0)) (val := fun h => lgF V (hoC V h) 0 0) (V 344 3).toNat).2
        unfold mxG
        omega
      have heq : bsJ (mxG V) n n (1000, -1) = bsJ (mxG V) n n (V 344 3 + 1, -1) := by
        obtain ⟨k, rfl⟩ : ∃ k, n = k + 1 := ⟨n - 1, by omega⟩
        exact bsJ_ini (by omega) (show mxG V 0 0 < 1000 by omega) (show mxG V 0 0 < V 344 3 + 1 by omega) k
      rw [heq] at u0'
      have ux : ∀ b, b < 376 → U b = W b := fun b hb => u1 b (by omega) (by omega) (by omega) (by omega)
      have um : ∀ b, b ≠ 383 → b ≠ 384 → b ≠ 385 → b ≠ 410 → 376 ≤ b → U b = V b := fun b b1 b2 b3 b4 b5 => (u1 b b1 b2 b3 b4).trans (fm b b5)
      refine mkpair hx u0' (h.prx (fun b b0 b1 b2 b3 b4 b5 b6 b7 => (u1 b b3 b4 b5 b7).trans (w1 b b0 (by omega))) ⟨V 376 49, ?_⟩ u2 ?_)
      · rw [um _ (by decide) (by decide) (by decide) (by decide) (by decide)]
        funext k
        by_cases y : k = 49
        · subst y; simp [vU]
        · simp [vU, y]
      · have k1 : U 344 = V 344 := by rw [ux _ (by decide)]; exact w1 _ (by decide) (by decide)
        have k2 : U 376 = V 376 := um _ (by decide) (by decide) (by decide) (by decide) (by decide)
        have k3 : U 345 = V 345 := by rw [ux _ (by decide)]; exact w1 _ (by decide) (by decide)
        have k4 : U 346 = V 346 := by rw [ux _ (by decide)]; exact w1 _ (by decide) (by decide)
        have k5 : U 347 = V 347 := by rw [ux _ (by decide)]; exact w1 _ (by decide) (by decide)
        have k6 : U 407 = V 407 := um _ (by decide) (by decide) (by decide) (by decide) (by decide)
        have k7 : U 409 = V 409 := um _ (by decide) (by decide) (by decide) (by decide) (by decide)
        have := h.prb
        unfold prbP hypP at *
        rw [k1, k2, k3, k4, k5, k6, k7]
        exact this
end NX3
