/-! LAY: the reference's mayDo, isBare, fillCan -/
/-- what the reference has of what is to be laid -/
def refOK (n : Nat) (p : LayP) (V : Nat → Int → Int) : Prop := (p.1 = (n : Int) ∧ V 376 0 = n ∧ (2 ≤ n ∧ n ≤ 6)) ∧ (V 376 21 = p.2.1 ∧ p.2.1 ≤ 10) ∧ (∀ w : Nat, w < p.2.1 → V 391 w = p.2.2.1 w ∧ (0 ≤ p.2.2.1 w ∧ p.2.2.1 w + 1 < (n : Int)) ∧ V 392 w = p.2.2.2.1 w) ∧ (∀ l i, isC n l i → V 380 (6 * l + i) = p.2.2.2.2 l i) ∧ rg (V 380) 72 (-1) 95
section ML
variable {n L d : Nat} {G : XG} {V : Nat → Int → Int} {p : LayP}
theorem m_have {a b : Nat} (hG : Good n L G) (h : refOK n p V) (ha : a < p.2.1) (hb : b < p.2.1) : run (d + 1) 1131 0 [xR 376, xI a, xI b] [] (V, G) = some (some (xI (b1 (-1 ≤ p.2.2.1 a - p.2.2.1 b ∧ p.2.2.1 a - p.2.2.1 b ≤ 1))), (V, G)) := by
  obtain ⟨h1, h2, h3, h4, h5⟩ := h
  obtain ⟨a1, a2, a3⟩ := h3 a ha
  obtain ⟨b1', b2, b3⟩ := h3 b hb
  have hb01 := b1_01 (-1 ≤ p.2.2.1 a - p.2.2.1 b ∧ p.2.2.1 a - p.2.2.1 b ≤ 1)
  simp (disch := first | omega | exact Nat.le_of_ble_eq_true rfl) only [bk1131_0, Int.reduceToNat, vA_ap, Nat.reduceEqDiff, if_true, if_false, bx_nil, isL_I, isL_R, isL_U, if_ff, bind_some, tl_some, tl_none, bx_aload_0, gf376_19 hG, ia391 hG, is391 hG, bx_iload_1, bx_iload_2, bx_isub, bx_i2l, bx_ldc2, bx_lconst1, cl1106, bx_zret, a1, b1', m_isIn, bx_zret hb01]
theorem bit_lt {S k w : Nat} (h : S < 2 ^ k) (hw : S.testBit w = true) : w < k := by
  apply Classical.byContradiction
  intro y
  have := Nat.testBit_lt_two_pow (i := w) (Nat.lt_of_lt_of_le h (Nat.pow_le_pow_right (by decide) (show k ≤ w by omega)))
  rw [hw] at this; cases this
theorem m_mayDo {l : Int} {S D : Nat} (hG : Good n L G) (h : refOK n p V) (hl : 0 ≤ l ∧ l ≤ 11) (hS : S < 2 ^ p.2.1) (hD : D < 2 ^ p.2.1) : ∃ r, run (d + 2) 1130 0 [xR 376, xI l, xI S, xI D, xU, xU, xU] [] (V, G) = some (some (xI r), (V, G)) ∧ (r = 1 ∧ Vd p l S D ∨ r = 0 ∧ ¬ Vd p l S D) := by
  obtain ⟨h1, h2, h3, h4, h5⟩ := id h
  have hp10 := pow_10 h2.2
  obtain ⟨k, hk⟩ : ∃ k, p.2.1 = k := ⟨_, rfl⟩
  have hwk : V 376 21 = k := by rw [h2.1, hk]
  have hk10 : k ≤ 10 := by omega
  have hand := and_N (a := S) (b := D) (by omega) (by omega)
  by_cases q : S &&& D = 0
  · have q' : ((S &&& D : Nat) : Int) = 0 := by omega
    have hdis : ∀ w, S.testBit w = true → D.testBit w = false := fun w hw => by
      have := congrArg (fun x => Nat.testBit x w) q
      simp only [Nat.testBit_and, hw, Bool.true_and, Nat.zero_testBit] at this
      exact this
    -- cells that must do one
    have l2 : (∀ w : Nat, S.testBit w = true → Rd p l D w) → ∀ u5 u6 : XV, ∃ r, run (d + 2) 1130 139 [xR 376, xI l, xI S, xI D, xI 0, u5, u6] [] (V, G) = some (some (xI r), (V, G)) ∧ (r = 1 ∧ Vd p l S D ∨ r = 0 ∧ ¬ Vd p l S D) := fun hr u5 u6 => by
      have hl2 := it_inv (D := d + 2) (q := 1130) (pc := 139) (hi := (n : Int) - 1) (I := fun i ls μ => (∃ u5 u6, ls = [xR 376, xI l, xI S, xI D, xI i, u5, u6]) ∧ μ = (V, G) ∧ ∀ i', isC n l i' → i' < i → 0 < p.2.2.2.2 l i' → ∃ w : Nat, S.testBit w = true ∧ p.2.2.1 w = i') (Q := fun y => ∃ r, y = some (some (xI r), (V, G)) ∧ (r = 1 ∧ Vd p l S D ∨ r = 0 ∧ ¬ Vd p l S D)) (fun ls μ hI => by
        obtain ⟨⟨u5, u6, rfl⟩, rfl, g1⟩ := hI
        refine ⟨1, ?_, Or.inl ⟨rfl, hr, fun i hi hp => ?_⟩⟩
        · rw [bk1130_139]
          simp (disch := first | omega | exact Nat.le_of_ble_eq_true rfl) only [bk1130_0, bk1130_8, bk1130_32, bk1130_49, bk1130_92, bk1130_124, bk1130_130, bk1130_136, bk1130_178, bk1130_220, bk1130_224, bk1130_225, bk1130_233, bk1130_240, bk1130_246, Int.reduceToNat, vA_ap, Nat.reduceEqDiff, if_true, if_false, bx_nil, isL_I, isL_R, isL_U, if_ff, bind_some, tl_some, tl_none, bx_iload_2, bx_iload_3, bx_iand, bx_if_eq, bx_iconst, bx_zret, bx_istore4, bx_iload4, bx_aload_0, gf376_21 hG, bx_ic_ge, bx_ishr, bx_if_ne, bx_goto, bx_iload_1, gf376_19 hG, ia391 hG, is391 hG, cl1105 hG, bx_bipush, bx_imul, bx_iadd, bx_istore5, gf376_4 hG, ia380 hG, is380 hG, bx_iload5, bx_if_lt, gf376_20 hG, ia392 hG, is392 hG, bx_ic_eq, bx_istore6, bx_iload6, cl1131 hG, bx_iinc6, bx_iinc4, gf376_0 hG, bx_isub, bx_if_gt, bx_ic_ne, h1.2.1, if_pos (show (n : Int) - 1 ≤ (n : Int) - 1 by omega), bx_zret (Or.inr rfl : (1 : Int) = 0 ∨ (1 : Int) = 1)]
        · have hi' : isC n l i := by rw [h1.1] at hi; exact hi
          exact g1 i hi' (by unfold isC at hi'; omega) hp) (n - 1) 0 (by omega) (fun i ls μ i0 i1 hI => by
        obtain ⟨⟨u5, u6, rfl⟩, rfl, g1⟩ := hI
        by_cases c1 : isC n l i
        · have hst := h4 l i c1
          have hix := isC_ix (by omega) c1
          have hc1 := c1
          unfold isC at hc1
          by_cases c2 : 0 < p.2.2.2.2 l i
          · -- a search for the work
            have lp := it_inv (D := d + 2) (q := 1130) (pc := 184) (hi := k) (I := fun w ls μ => (∃ f, ls = [xR 376, xI l, xI S, xI D, xI i, xI f, xI w] ∧ ((f = 1 ∧ ∃ v : Nat, S.testBit v = true ∧ p.2.2.1 v = i) ∨ (f = 0 ∧ ∀ v : Nat, (v : Int) < w → ¬ (S.testBit v = true ∧ p.2.2.1 v = i)))) ∧ μ = (V, G)) (Q := fun y => (∃ u5 u6, y = run (d + 2) 1130 139 [xR 376, xI l, xI S, xI D, xI (i + 1), u5, u6] [] (V, G) ∧ ∃ v : Nat, S.testBit v = true ∧ p.2.2.1 v = i) ∨ (y = some (some (xI 0), (V, G)) ∧ ∀ v : Nat, ¬ (S.testBit v = true ∧ p.2.2.1 v = i))) (fun ls μ hI => by
              obtain ⟨⟨f, rfl, hf⟩, rfl⟩ := hI
              rcases hf with ⟨rfl, hf⟩ | ⟨rfl, hf⟩
              · left
                refine ⟨xI 1, xI k, ?_, hf⟩
                · rw [bk1130_184]
                  simp (disch := first | omega | exact Nat.le_of_ble_eq_true rfl) only [bk1130_0, bk1130_8, bk1130_32, bk1130_49, bk1130_92, bk1130_124, bk1130_130, bk1130_136, bk1130_178, bk1130_220, bk1130_224, bk1130_225, bk1130_233, bk1130_240, bk1130_246, Int.reduceToNat, vA_ap, Nat.reduceEqDiff, if_true, if_false, bx_nil, isL_I, isL_R, isL_U, if_ff, bind_some, tl_some, tl_none, bx_iload_2, bx_iload_3, bx_iand, bx_if_eq, bx_iconst, bx_zret, bx_istore4, bx_iload4, bx_aload_0, gf376_21 hG, bx_ic_ge, bx_ishr, bx_if_ne, bx_goto, bx_iload_1, gf376_19 hG, ia391 hG, is391 hG, cl1105 hG, bx_bipush, bx_imul, bx_iadd, bx_istore5, gf376_4 hG, ia380 hG, is380 hG, bx_iload5, bx_if_lt, gf376_20 hG, ia392 hG, is392 hG, bx_ic_eq, bx_istore6, bx_iload6, cl1131 hG, bx_iinc6, bx_iinc4, gf376_0 hG, bx_isub, bx_if_gt, bx_ic_ne, hwk, if_pos (show (k : Int) ≤ k by omega), one_ne]
              · right
                refine ⟨?_, fun v hv => hf v (by have := bit_lt hS hv.1; omega) hv⟩
                rw [bk1130_184]
                simp (disch := first | omega | exact Nat.le_of_ble_eq_true rfl) only [bk1130_0, bk1130_8, bk1130_32, bk1130_49, bk1130_92, bk1130_124, bk1130_130, bk1130_136, bk1130_178, bk1130_220, bk1130_224, bk1130_225, bk1130_233, bk1130_240, bk1130_246, Int.reduceToNat, vA_ap, Nat.reduceEqDiff, if_true, if_false, bx_nil, isL_I, isL_R, isL_U, if_ff, bind_some, tl_some, tl_none, bx_iload_2, bx_iload_3, bx_iand, bx_if_eq, bx_iconst, bx_zret, bx_istore4, bx_iload4, bx_aload_0, gf376_21 hG, bx_ic_ge, bx_ishr, bx_if_ne, bx_goto, bx_iload_1, gf376_19 hG, ia391 hG, is391 hG, cl1105 hG, bx_bipush, bx_imul, bx_iadd, bx_istore5, gf376_4 hG, ia380 hG, is380 hG, bx_iload5, bx_if_lt, gf376_20 hG, ia392 hG, is392 hG, bx_ic_eq, bx_istore6, bx_iload6, cl1131 hG, bx_iinc6, bx_iinc4, gf376_0 hG, bx_isub, bx_if_gt, bx_ic_ne, hwk, if_pos (show (k : Int) ≤ k by omega), bx_zret (Or.inl rfl : (0 : Int) = 0 ∨ (0 : Int) = 1)]) k 0 (by omega) (fun w ls μ w0 w1 hI => by
              obtain ⟨⟨f, rfl, hf⟩, rfl⟩ := hI
              obtain ⟨wn, rfl⟩ : ∃ wn : Nat, w = wn := ⟨w.toNat, by omega⟩
              left
              have hwl := (h3 wn (by omega)).1
              have hb := bit_N (a := S) (w := wn) (by omega) (by omega)
              rcases hf with ⟨rfl, hf⟩ | ⟨rfl, hf⟩
              · refine ⟨_, _, ⟨⟨1, rfl, Or.inl ⟨rfl, hf⟩⟩, rfl⟩, ?_⟩
                rw [bk1130_184]
                simp (disch := first | omega | exact Nat.le_of_ble_eq_true rfl) only [bk1130_0, bk1130_8, bk1130_32, bk1130_49, bk1130_92, bk1130_124, bk1130_130, bk1130_136, bk1130_178, bk1130_220, bk1130_224, bk1130_225, bk1130_233, bk1130_240, bk1130_246, Int.reduceToNat, vA_ap, Nat.reduceEqDiff, if_true, if_false, bx_nil, isL_I, isL_R, isL_U, if_ff, bind_some, tl_some, tl_none, bx_iload_2, bx_iload_3, bx_iand, bx_if_eq, bx_iconst, bx_zret, bx_istore4, bx_iload4, bx_aload_0, gf376_21 hG, bx_ic_ge, bx_ishr, bx_if_ne, bx_goto, bx_iload_1, gf376_19 hG, ia391 hG, is391 hG, cl1105 hG, bx_bipush, bx_imul, bx_iadd, bx_istore5, gf376_4 hG, ia380 hG, is380 hG, bx_iload5, bx_if_lt, gf376_20 hG, ia392 hG, is392 hG, bx_ic_eq, bx_istore6, bx_iload6, cl1131 hG, bx_iinc6, bx_iinc4, gf376_0 hG, bx_isub, bx_if_gt, bx_ic_ne, hwk, if_neg (show ¬ (k : Int) ≤ wn by omega), one_ne]
              · by_cases y : S.testBit wn = true ∧ p.2.2.1 wn = i
                · rw [if_pos y.1] at hb
                  refine ⟨_, _, ⟨⟨1, rfl, Or.inl ⟨rfl, wn, y⟩⟩, rfl⟩, ?_⟩
                  rw [bk1130_184]
                  simp (disch := first | omega | exact Nat.le_of_ble_eq_true rfl) only [bk1130_0, bk1130_8, bk1130_32, bk1130_49, bk1130_92, bk1130_124, bk1130_130, bk1130_136, bk1130_178, bk1130_220, bk1130_224, bk1130_225, bk1130_233, bk1130_240, bk1130_246, Int.reduceToNat, vA_ap, Nat.reduceEqDiff, if_true, if_false, bx_nil, isL_I, isL_R, isL_U, if_ff, bind_some, tl_some, tl_none, bx_iload_2, bx_iload_3, bx_iand, bx_if_eq, bx_iconst, bx_zret, bx_istore4, bx_iload4, bx_aload_0, gf376_21 hG, bx_ic_ge, bx_ishr, bx_if_ne, bx_goto, bx_iload_1, gf376_19 hG, ia391 hG, is391 hG, cl1105 hG, bx_bipush, bx_imul, bx_iadd, bx_istore5, gf376_4 hG, ia380 hG, is380 hG, bx_iload5, bx_if_lt, gf376_20 hG, ia392 hG, is392 hG, bx_ic_eq, bx_istore6, bx_iload6, cl1131 hG, bx_iinc6, bx_iinc4, gf376_0 hG, bx_isub, bx_if_gt, bx_ic_ne, hwk, if_neg (show ¬ (k : Int) ≤ wn by omega), hb, hwl, if_pos y.2]
                · refine ⟨_, _, ⟨⟨0, rfl, Or.inr ⟨rfl, fun v hv => ?_⟩⟩, rfl⟩, ?_⟩
                  · by_cases e : v = wn
                    · rw [e]; exact y
                    · exact hf v (by omega)
                  · rw [bk1130_184]
                    by_cases y1 : S.testBit wn = true
                    · rw [if_pos y1] at hb
                      simp (disch := first | omega | exact Nat.le_of_ble_eq_true rfl) only [bk1130_0, bk1130_8, bk1130_32, bk1130_49, bk1130_92, bk1130_124, bk1130_130, bk1130_136, bk1130_178, bk1130_220, bk1130_224, bk1130_225, bk1130_233, bk1130_240, bk1130_246, Int.reduceToNat, vA_ap, Nat.reduceEqDiff, if_true, if_false, bx_nil, isL_I, isL_R, isL_U, if_ff, bind_some, tl_some, tl_none, bx_iload_2, bx_iload_3, bx_iand, bx_if_eq, bx_iconst, bx_zret, bx_istore4, bx_iload4, bx_aload_0, gf376_21 hG, bx_ic_ge, bx_ishr, bx_if_ne, bx_goto, bx_iload_1, gf376_19 hG, ia391 hG, is391 hG, cl1105 hG, bx_bipush, bx_imul, bx_iadd, bx_istore5, gf376_4 hG, ia380 hG, is380 hG, bx_iload5, bx_if_lt, gf376_20 hG, ia392 hG, is392 hG, bx_ic_eq, bx_istore6, bx_iload6, cl1131 hG, bx_iinc6, bx_iinc4, gf376_0 hG, bx_isub, bx_if_gt, bx_ic_ne, hwk, if_neg (show ¬ (k : Int) ≤ wn by omega), hb, hwl, if_neg (show ¬ p.2.2.1 wn = i from fun y2 => y ⟨y1, y2⟩)]
                    · rw [if_neg y1] at hb
                      simp (disch := first | omega | exact Nat.le_of_ble_eq_true rfl) only [bk1130_0, bk1130_8, bk1130_32, bk1130_49, bk1130_92, bk1130_124, bk1130_130, bk1130_136, bk1130_178, bk1130_220, bk1130_224, bk1130_225, bk1130_233, bk1130_240, bk1130_246, Int.reduceToNat, vA_ap, Nat.reduceEqDiff, if_true, if_false, bx_nil, isL_I, isL_R, isL_U, if_ff, bind_some, tl_some, tl_none, bx_iload_2, bx_iload_3, bx_iand, bx_if_eq, bx_iconst, bx_zret, bx_istore4, bx_iload4, bx_aload_0, gf376_21 hG, bx_ic_ge, bx_ishr, bx_if_ne, bx_goto, bx_iload_1, gf376_19 hG, ia391 hG, is391 hG, cl1105 hG, bx_bipush, bx_imul, bx_iadd, bx_istore5, gf376_4 hG, ia380 hG, is380 hG, bx_iload5, bx_if_lt, gf376_20 hG, ia392 hG, is392 hG, bx_ic_eq, bx_istore6, bx_iload6, cl1131 hG, bx_iinc6, bx_iinc4, gf376_0 hG, bx_isub, bx_if_gt, bx_ic_ne, hwk, if_neg (show ¬ (k : Int) ≤ wn by omega), hb, if_neg (show ¬ (0 : Int) = 1 by omega)]) [xR 376, xI l, xI S, xI D, xI i, xI 0, xI 0] (V, G) ⟨⟨0, rfl, Or.inr ⟨rfl, fun v hv => by omega⟩⟩, rfl⟩
            have hst2 : run (d + 2) 1130 139 [xR 376, xI l, xI S, xI D, xI i, u5, u6] [] (V, G) = run (d + 2) 1130 184 [xR 376, xI l, xI S, xI D, xI i, xI 0, xI 0] [] (V, G) := by
              rw [bk1130_139]
              simp (disch := first | omega | exact Nat.le_of_ble_eq_true rfl) only [bk1130_0, bk1130_8, bk1130_32, bk1130_49, bk1130_92, bk1130_124, bk1130_130, bk1130_136, bk1130_178, bk1130_220, bk1130_224, bk1130_225, bk1130_233, bk1130_240, bk1130_246, Int.reduceToNat, vA_ap, Nat.reduceEqDiff, if_true, if_false, bx_nil, isL_I, isL_R, isL_U, if_ff, bind_some, tl_some, tl_none, bx_iload_2, bx_iload_3, bx_iand, bx_if_eq, bx_iconst, bx_zret, bx_istore4, bx_iload4, bx_aload_0, gf376_21 hG, bx_ic_ge, bx_ishr, bx_if_ne, bx_goto, bx_iload_1, gf376_19 hG, ia391 hG, is391 hG, cl1105 hG, bx_bipush, bx_imul, bx_iadd, bx_istore5, gf376_4 hG, ia380 hG, is380 hG, bx_iload5, bx_if_lt, gf376_20 hG, ia392 hG, is392 hG, bx_ic_eq, bx_istore6, bx_iload6, cl1131 hG, bx_iinc6, bx_iinc4, gf376_0 hG, bx_isub, bx_if_gt, bx_ic_ne, h1.2.1, if_neg (show ¬ (n : Int) - 1 ≤ i by omega), m_isCell hG h1.2.1 h1.2.2.1 h1.2.2.2, b1_t c1, one_ne, hst, if_pos c2]
            rcases lp with ⟨u5', u6', y1, y2⟩ | ⟨y1, y2⟩
            · left
              refine ⟨_, _, ⟨⟨u5', u6', rfl⟩, rfl, fun i' hi' hlt hp => ?_⟩, hst2.trans y1⟩
              by_cases e : i' = i
              · rw [e]; exact y2
              · exact g1 i' hi' (by omega) hp
            · right
              refine ⟨0, hst2.trans y1, Or.inr ⟨rfl, fun hv => ?_⟩⟩
              obtain ⟨w, w1, w2⟩ := hv.2 i (by rw [h1.1]; exact c1) c2
              exact y2 w ⟨w1, w2⟩
          · left
            refine ⟨_, _, ⟨⟨u5, u6, rfl⟩, rfl, fun i' hi' hlt hp => ?_⟩, ?_⟩
            · by_cases e : i' = i
              · rw [e] at hp; exact absurd hp c2
              · exact g1 i' hi' (by omega) hp
            · rw [bk1130_139]
              simp (disch := first | omega | exact Nat.le_of_ble_eq_true rfl) only [bk1130_0, bk1130_8, bk1130_32, bk1130_49, bk1130_92, bk1130_124, bk1130_130, bk1130_136, bk1130_178, bk1130_220, bk1130_224, bk1130_225, bk1130_233, bk1130_240, bk1130_246, Int.reduceToNat, vA_ap, Nat.reduceEqDiff, if_true, if_false, bx_nil, isL_I, isL_R, isL_U, if_ff, bind_some, tl_some, tl_none, bx_iload_2, bx_iload_3, bx_iand, bx_if_eq, bx_iconst, bx_zret, bx_istore4, bx_iload4, bx_aload_0, gf376_21 hG, bx_ic_ge, bx_ishr, bx_if_ne, bx_goto, bx_iload_1, gf376_19 hG, ia391 hG, is391 hG, cl1105 hG, bx_bipush, bx_imul, bx_iadd, bx_istore5, gf376_4 hG, ia380 hG, is380 hG, bx_iload5, bx_if_lt, gf376_20 hG, ia392 hG, is392 hG, bx_ic_eq, bx_istore6, bx_iload6, cl1131 hG, bx_iinc6, bx_iinc4, gf376_0 hG, bx_isub, bx_if_gt, bx_ic_ne, h1.2.1, if_neg (show ¬ (n : Int) - 1 ≤ i by omega), m_isCell hG h1.2.1 h1.2.2.1 h1.2.2.2, b1_t c1, one_ne, hst, if_neg c2]
        · left
          refine ⟨_, _, ⟨⟨u5, u6, rfl⟩, rfl, fun i' hi' hlt hp => ?_⟩, ?_⟩
          · by_cases e : i' = i
            · rw [e] at hi'; exact absurd hi' c1
            · exact g1 i' hi' (by omega) hp
          · rw [bk1130_139]
            simp (disch := first | omega | exact Nat.le_of_ble_eq_true rfl) only [bk1130_0, bk1130_8, bk1130_32, bk1130_49, bk1130_92, bk1130_124, bk1130_130, bk1130_136, bk1130_178, bk1130_220, bk1130_224, bk1130_225, bk1130_233, bk1130_240, bk1130_246, Int.reduceToNat, vA_ap, Nat.reduceEqDiff, if_true, if_false, bx_nil, isL_I, isL_R, isL_U, if_ff, bind_some, tl_some, tl_none, bx_iload_2, bx_iload_3, bx_iand, bx_if_eq, bx_iconst, bx_zret, bx_istore4, bx_iload4, bx_aload_0, gf376_21 hG, bx_ic_ge, bx_ishr, bx_if_ne, bx_goto, bx_iload_1, gf376_19 hG, ia391 hG, is391 hG, cl1105 hG, bx_bipush, bx_imul, bx_iadd, bx_istore5, gf376_4 hG, ia380 hG, is380 hG, bx_iload5, bx_if_lt, gf376_20 hG, ia392 hG, is392 hG, bx_ic_eq, bx_istore6, bx_iload6, cl1131 hG, bx_iinc6, bx_iinc4, gf376_0 hG, bx_isub, bx_if_gt, bx_ic_ne, h1.2.1, if_neg (show ¬ (n : Int) - 1 ≤ i by omega), m_isCell hG h1.2.1 h1.2.2.1 h1.2.2.2, b1_f c1])
      exact hl2 _ _ ⟨⟨u5, u6, rfl⟩, rfl, fun i' hi' hlt => by unfold isC at hi'; omega⟩
    -- works of the set
    have l1 := it_inv (D := d + 2) (q := 1130) (pc := 11) (hi := k) (I := fun w ls μ => (∃ u5 u6, ls = [xR 376, xI l, xI S, xI D, xI w, u5, u6]) ∧ μ = (V, G) ∧ ∀ v : Nat, (v : Int) < w → S.testBit v = true → Rd p l D v) (Q := fun y => ∃ r, y = some (some (xI r), (V, G)) ∧ (r = 1 ∧ Vd p l S D ∨ r = 0 ∧ ¬ Vd p l S D)) (fun ls μ hI => by
      obtain ⟨⟨u5, u6, rfl⟩, rfl, g1⟩ := hI
      obtain ⟨r, r1, r2⟩ := l2 (fun w hw => g1 w (by have := bit_lt hS hw; omega) hw) u5 u6
      refine ⟨r, ?_, r2⟩
      rw [← r1, bk1130_11]
      simp (disch := first | omega | exact Nat.le_of_ble_eq_true rfl) only [bk1130_0, bk1130_8, bk1130_32, bk1130_49, bk1130_92, bk1130_124, bk1130_130, bk1130_136, bk1130_178, bk1130_220, bk1130_224, bk1130_225, bk1130_233, bk1130_240, bk1130_246, Int.reduceToNat, vA_ap, Nat.reduceEqDiff, if_true, if_false, bx_nil, isL_I, isL_R, isL_U, if_ff, bind_some, tl_some, tl_none, bx_iload_2, bx_iload_3, bx_iand, bx_if_eq, bx_iconst, bx_zret, bx_istore4, bx_iload4, bx_aload_0, gf376_21 hG, bx_ic_ge, bx_ishr, bx_if_ne, bx_goto, bx_iload_1, gf376_19 hG, ia391 hG, is391 hG, cl1105 hG, bx_bipush, bx_imul, bx_iadd, bx_istore5, gf376_4 hG, ia380 hG, is380 hG, bx_iload5, bx_if_lt, gf376_20 hG, ia392 hG, is392 hG, bx_ic_eq, bx_istore6, bx_iload6, cl1131 hG, bx_iinc6, bx_iinc4, gf376_0 hG, bx_isub, bx_if_gt, bx_ic_ne, hwk, if_pos (show (k : Int) ≤ k by omega)]) k 0 (by omega) (fun w ls μ w0 w1 hI => by
      obtain ⟨⟨u5, u6, rfl⟩, rfl, g1⟩ := hI
      obtain ⟨wn, rfl⟩ : ∃ wn : Nat, w = wn := ⟨w.toNat, by omega⟩
      obtain ⟨a1, a2, a3⟩ := h3 wn (by omega)
      have hb := bit_N (a := S) (w := wn) (by omega) (by omega)
      by_cases y : S.testBit wn = true
      · rw [if_pos y] at hb
        -- when this work can't be
        have hbad : ¬ Rd p l D wn → ∃ r, (some (some (xI 0), (V, G)) : XO) = some (some (xI r), (V, G)) ∧ (r = 1 ∧ Vd p l S D ∨ r = 0 ∧ ¬ Vd p l S D) := fun hn => ⟨0, rfl, Or.inr ⟨rfl, fun hv => hn (hv.1 wn y)⟩⟩
        by_cases c1 : isC n l (p.2.2.1 wn)
        · have hst := h4 l _ c1
          have hix := isC_ix (by omega) c1
          have hsb := h5 _ hix.1 hix.2
          rw [hst] at hsb
          have hc1 := c1
          unfold isC at hc1
          by_cases c2 : p.2.2.2.2 l (p.2.2.1 wn) = -1 ∨ p.2.2.2.2 l (p.2.2.1 wn) = p.2.2.2.1 wn
          · have hst2 : run (d + 2) 1130 11 [xR 376, xI l, xI S, xI D, xI wn, u5, u6] [] (V, G) = run (d + 2) 1130 95 [xR 376, xI l, xI S, xI D, xI wn, xI (6 * l + p.2.2.1 wn), xI 0] [] (V, G) := by
              rw [bk1130_11]
              by_cases c3 : p.2.2.2.2 l (p.2.2.1 wn) = -1
              · simp (disch := first | omega | exact Nat.le_of_ble_eq_true rfl) only [bk1130_0, bk1130_8, bk1130_32, bk1130_49, bk1130_92, bk1130_124, bk1130_130, bk1130_136, bk1130_178, bk1130_220, bk1130_224, bk1130_225, bk1130_233, bk1130_240, bk1130_246, Int.reduceToNat, vA_ap, Nat.reduceEqDiff, if_true, if_false, bx_nil, isL_I, isL_R, isL_U, if_ff, bind_some, tl_some, tl_none, bx_iload_2, bx_iload_3, bx_iand, bx_if_eq, bx_iconst, bx_zret, bx_istore4, bx_iload4, bx_aload_0, gf376_21 hG, bx_ic_ge, bx_ishr, bx_if_ne, bx_goto, bx_iload_1, gf376_19 hG, ia391 hG, is391 hG, cl1105 hG, bx_bipush, bx_imul, bx_iadd, bx_istore5, gf376_4 hG, ia380 hG, is380 hG, bx_iload5, bx_if_lt, gf376_20 hG, ia392 hG, is392 hG, bx_ic_eq, bx_istore6, bx_iload6, cl1131 hG, bx_iinc6, bx_iinc4, gf376_0 hG, bx_isub, bx_if_gt, bx_ic_ne, hwk, if_neg (show ¬ (k : Int) ≤ wn by omega), hb, one_ne, a1, m_isCell hG h1.2.1 h1.2.2.1 h1.2.2.2, b1_t c1, hst, if_pos (show p.2.2.2.2 l (p.2.2.1 wn) < 0 by omega)]
              · have c4 := c2.resolve_left c3
                simp (disch := first | omega | exact Nat.le_of_ble_eq_true rfl) only [bk1130_0, bk1130_8, bk1130_32, bk1130_49, bk1130_92, bk1130_124, bk1130_130, bk1130_136, bk1130_178, bk1130_220, bk1130_224, bk1130_225, bk1130_233, bk1130_240, bk1130_246, Int.reduceToNat, vA_ap, Nat.reduceEqDiff, if_true, if_false, bx_nil, isL_I, isL_R, isL_U, if_ff, bind_some, tl_some, tl_none, bx_iload_2, bx_iload_3, bx_iand, bx_if_eq, bx_iconst, bx_zret, bx_istore4, bx_iload4, bx_aload_0, gf376_21 hG, bx_ic_ge, bx_ishr, bx_if_ne, bx_goto, bx_iload_1, gf376_19 hG, ia391 hG, is391 hG, cl1105 hG, bx_bipush, bx_imul, bx_iadd, bx_istore5, gf376_4 hG, ia380 hG, is380 hG, bx_iload5, bx_if_lt, gf376_20 hG, ia392 hG, is392 hG, bx_ic_eq, bx_istore6, bx_iload6, cl1131 hG, bx_iinc6, bx_iinc4, gf376_0 hG, bx_isub, bx_if_gt, bx_ic_ne, hwk, if_neg (show ¬ (k : Int) ≤ wn by omega), hb, one_ne, a1, m_isCell hG h1.2.1 h1.2.2.1 h1.2.2.2, b1_t c1, hst, if_neg (show ¬ p.2.2.2.2 l (p.2.2.1 wn) < 0 by omega), a3, if_pos c4]
            have lp := it_inv (D := d + 2) (q := 1130) (pc := 95) (hi := wn) (I := fun v ls μ => ls = [xR 376, xI l, xI S, xI D, xI wn, xI (6 * l + p.2.2.1 wn), xI v] ∧ μ = (V, G) ∧ ∀ v' : Nat, (v' : Int) < v → (-1 ≤ p.2.2.1 v' - p.2.2.1 wn ∧ p.2.2.1 v' - p.2.2.1 wn ≤ 1) → D.testBit v' = true) (Q := fun y => (∃ u5 u6, y = run (d + 2) 1130 11 [xR 376, xI l, xI S, xI D, xI (wn + 1), u5, u6] [] (V, G) ∧ Rd p l D wn) ∨ (y = some (some (xI 0), (V, G)) ∧ ¬ Rd p l D wn)) (fun ls μ hI => by
              obtain ⟨rfl, rfl, f1⟩ := hI
              left
              refine ⟨xI (6 * l + p.2.2.1 wn), xI wn, ?_, ⟨by omega, hdis wn y, by rw [h1.1]; exact c1, fun v hv hs => f1 v (by omega) hs, c2⟩⟩
              rw [bk1130_95]
              simp (disch := first | omega | exact Nat.le_of_ble_eq_true rfl) only [bk1130_0, bk1130_8, bk1130_32, bk1130_49, bk1130_92, bk1130_124, bk1130_130, bk1130_136, bk1130_178, bk1130_220, bk1130_224, bk1130_225, bk1130_233, bk1130_240, bk1130_246, Int.reduceToNat, vA_ap, Nat.reduceEqDiff, if_true, if_false, bx_nil, isL_I, isL_R, isL_U, if_ff, bind_some, tl_some, tl_none, bx_iload_2, bx_iload_3, bx_iand, bx_if_eq, bx_iconst, bx_zret, bx_istore4, bx_iload4, bx_aload_0, gf376_21 hG, bx_ic_ge, bx_ishr, bx_if_ne, bx_goto, bx_iload_1, gf376_19 hG, ia391 hG, is391 hG, cl1105 hG, bx_bipush, bx_imul, bx_iadd, bx_istore5, gf376_4 hG, ia380 hG, is380 hG, bx_iload5, bx_if_lt, gf376_20 hG, ia392 hG, is392 hG, bx_ic_eq, bx_istore6, bx_iload6, cl1131 hG, bx_iinc6, bx_iinc4, gf376_0 hG, bx_isub, bx_if_gt, bx_ic_ne, if_pos (show (wn : Int) ≤ wn by omega)]) wn 0 (by omega) (fun v ls μ v0 v1 hI => by
              obtain ⟨rfl, rfl, f1⟩ := hI
              obtain ⟨vn, rfl⟩ : ∃ vn : Nat, v = vn := ⟨v.toNat, by omega⟩
              have hh := m_have (d := d) (a := vn) (b := wn) hG h (by omega) (by omega)
              have hbv := bit_N (a := D) (w := vn) (by omega) (by omega)
              by_cases s1 : -1 ≤ p.2.2.1 vn - p.2.2.1 wn ∧ p.2.2.1 vn - p.2.2.1 wn ≤ 1
              · rw [b1_t s1] at hh
                by_cases s2 : D.testBit vn = true
                · rw [if_pos s2] at hbv
                  left
                  refine ⟨_, _, ⟨rfl, rfl, fun v' hv' hs => ?_⟩, ?_⟩
                  · by_cases e : v' = vn
                    · rw [e]; exact s2
                    · exact f1 v' (by omega) hs
                  · rw [bk1130_95]
                    simp (disch := first | omega | exact Nat.le_of_ble_eq_true rfl) only [bk1130_0, bk1130_8, bk1130_32, bk1130_49, bk1130_92, bk1130_124, bk1130_130, bk1130_136, bk1130_178, bk1130_220, bk1130_224, bk1130_225, bk1130_233, bk1130_240, bk1130_246, Int.reduceToNat, vA_ap, Nat.reduceEqDiff, if_true, if_false, bx_nil, isL_I, isL_R, isL_U, if_ff, bind_some, tl_some, tl_none, bx_iload_2, bx_iload_3, bx_iand, bx_if_eq, bx_iconst, bx_zret, bx_istore4, bx_iload4, bx_aload_0, gf376_21 hG, bx_ic_ge, bx_ishr, bx_if_ne, bx_goto, bx_iload_1, gf376_19 hG, ia391 hG, is391 hG, cl1105 hG, bx_bipush, bx_imul, bx_iadd, bx_istore5, gf376_4 hG, ia380 hG, is380 hG, bx_iload5, bx_if_lt, gf376_20 hG, ia392 hG, is392 hG, bx_ic_eq, bx_istore6, bx_iload6, cl1131 hG, bx_iinc6, bx_iinc4, gf376_0 hG, bx_isub, bx_if_gt, bx_ic_ne, if_neg (show ¬ (wn : Int) ≤ vn by omega), hh, one_ne, hbv]
                · rw [if_neg s2] at hbv
                  right; right
                  refine ⟨?_, fun hr => s2 (hr.2.2.2.1 vn (by omega) s1)⟩
                  rw [bk1130_95]
                  simp (disch := first | omega | exact Nat.le_of_ble_eq_true rfl) only [bk1130_0, bk1130_8, bk1130_32, bk1130_49, bk1130_92, bk1130_124, bk1130_130, bk1130_136, bk1130_178, bk1130_220, bk1130_224, bk1130_225, bk1130_233, bk1130_240, bk1130_246, Int.reduceToNat, vA_ap, Nat.reduceEqDiff, if_true, if_false, bx_nil, isL_I, isL_R, isL_U, if_ff, bind_some, tl_some, tl_none, bx_iload_2, bx_iload_3, bx_iand, bx_if_eq, bx_iconst, bx_zret, bx_istore4, bx_iload4, bx_aload_0, gf376_21 hG, bx_ic_ge, bx_ishr, bx_if_ne, bx_goto, bx_iload_1, gf376_19 hG, ia391 hG, is391 hG, cl1105 hG, bx_bipush, bx_imul, bx_iadd, bx_istore5, gf376_4 hG, ia380 hG, is380 hG, bx_iload5, bx_if_lt, gf376_20 hG, ia392 hG, is392 hG, bx_ic_eq, bx_istore6, bx_iload6, cl1131 hG, bx_iinc6, bx_iinc4, gf376_0 hG, bx_isub, bx_if_gt, bx_ic_ne, if_neg (show ¬ (wn : Int) ≤ vn by omega), hh, one_ne, hbv, if_true, bx_zret (Or.inl rfl : (0 : Int) = 0 ∨ (0 : Int) = 1)]
              · rw [b1_f s1] at hh
                left
                refine ⟨_, _, ⟨rfl, rfl, fun v' hv' hs => ?_⟩, ?_⟩
                · by_cases e : v' = vn
                  · rw [e] at hs; exact absurd hs s1
                  · exact f1 v' (by omega) hs
                · rw [bk1130_95]
                  simp (disch := first | omega | exact Nat.le_of_ble_eq_true rfl) only [bk1130_0, bk1130_8, bk1130_32, bk1130_49, bk1130_92, bk1130_124, bk1130_130, bk1130_136, bk1130_178, bk1130_220, bk1130_224, bk1130_225, bk1130_233, bk1130_240, bk1130_246, Int.reduceToNat, vA_ap, Nat.reduceEqDiff, if_true, if_false, bx_nil, isL_I, isL_R, isL_U, if_ff, bind_some, tl_some, tl_none, bx_iload_2, bx_iload_3, bx_iand, bx_if_eq, bx_iconst, bx_zret, bx_istore4, bx_iload4, bx_aload_0, gf376_21 hG, bx_ic_ge, bx_ishr, bx_if_ne, bx_goto, bx_iload_1, gf376_19 hG, ia391 hG, is391 hG, cl1105 hG, bx_bipush, bx_imul, bx_iadd, bx_istore5, gf376_4 hG, ia380 hG, is380 hG, bx_iload5, bx_if_lt, gf376_20 hG, ia392 hG, is392 hG, bx_ic_eq, bx_istore6, bx_iload6, cl1131 hG, bx_iinc6, bx_iinc4, gf376_0 hG, bx_isub, bx_if_gt, bx_ic_ne, if_neg (show ¬ (wn : Int) ≤ vn by omega), hh]) [xR 376, xI l, xI S, xI D, xI wn, xI (6 * l + p.2.2.1 wn), xI 0] (V, G) ⟨rfl, rfl, fun v' hv' => by omega⟩
            rcases lp with ⟨u5', u6', y1, y2⟩ | ⟨y1, y2⟩
            · left
              refine ⟨_, _, ⟨⟨u5', u6', rfl⟩, rfl, fun v hv hs => ?_⟩, hst2.trans y1⟩
              by_cases e : v = wn
              · rw [e]; exact y2
              · exact g1 v (by omega) hs
            · right
              rw [hst2, y1]
              exact hbad y2
          · right
            have : run (d + 2) 1130 11 [xR 376, xI l, xI S, xI D, xI wn, u5, u6] [] (V, G) = some (some (xI 0), (V, G)) := by
              rw [bk1130_11]
              simp (disch := first | omega | exact Nat.le_of_ble_eq_true rfl) only [bk1130_0, bk1130_8, bk1130_32, bk1130_49, bk1130_92, bk1130_124, bk1130_130, bk1130_136, bk1130_178, bk1130_220, bk1130_224, bk1130_225, bk1130_233, bk1130_240, bk1130_246, Int.reduceToNat, vA_ap, Nat.reduceEqDiff, if_true, if_false, bx_nil, isL_I, isL_R, isL_U, if_ff, bind_some, tl_some, tl_none, bx_iload_2, bx_iload_3, bx_iand, bx_if_eq, bx_iconst, bx_zret, bx_istore4, bx_iload4, bx_aload_0, gf376_21 hG, bx_ic_ge, bx_ishr, bx_if_ne, bx_goto, bx_iload_1, gf376_19 hG, ia391 hG, is391 hG, cl1105 hG, bx_bipush, bx_imul, bx_iadd, bx_istore5, gf376_4 hG, ia380 hG, is380 hG, bx_iload5, bx_if_lt, gf376_20 hG, ia392 hG, is392 hG, bx_ic_eq, bx_istore6, bx_iload6, cl1131 hG, bx_iinc6, bx_iinc4, gf376_0 hG, bx_isub, bx_if_gt, bx_ic_ne, hwk, if_neg (show ¬ (k : Int) ≤ wn by omega), hb, one_ne, a1, m_isCell hG h1.2.1 h1.2.2.1 h1.2.2.2, b1_t c1, hst, if_neg (show ¬ p.2.2.2.2 l (p.2.2.1 wn) < 0 from fun z => c2 (Or.inl (by omega))), a3, if_neg (show ¬ p.2.2.2.2 l (p.2.2.1 wn) = p.2.2.2.1 wn from fun z => c2 (Or.inr z)), bx_zret (Or.inl rfl : (0 : Int) = 0 ∨ (0 : Int) = 1)]
            rw [this]
            exact hbad (fun hr => c2 hr.2.2.2.2)
        · right
          have : run (d + 2) 1130 11 [xR 376, xI l, xI S, xI D, xI wn, u5, u6] [] (V, G) = some (some (xI 0), (V, G)) := by
            rw [bk1130_11]
            simp (disch := first | omega | exact Nat.le_of_ble_eq_true rfl) only [bk1130_0, bk1130_8, bk1130_32, bk1130_49, bk1130_92, bk1130_124, bk1130_130, bk1130_136, bk1130_178, bk1130_220, bk1130_224, bk1130_225, bk1130_233, bk1130_240, bk1130_246, Int.reduceToNat, vA_ap, Nat.reduceEqDiff, if_true, if_false, bx_nil, isL_I, isL_R, isL_U, if_ff, bind_some, tl_some, tl_none, bx_iload_2, bx_iload_3, bx_iand, bx_if_eq, bx_iconst, bx_zret, bx_istore4, bx_iload4, bx_aload_0, gf376_21 hG, bx_ic_ge, bx_ishr, bx_if_ne, bx_goto, bx_iload_1, gf376_19 hG, ia391 hG, is391 hG, cl1105 hG, bx_bipush, bx_imul, bx_iadd, bx_istore5, gf376_4 hG, ia380 hG, is380 hG, bx_iload5, bx_if_lt, gf376_20 hG, ia392 hG, is392 hG, bx_ic_eq, bx_istore6, bx_iload6, cl1131 hG, bx_iinc6, bx_iinc4, gf376_0 hG, bx_isub, bx_if_gt, bx_ic_ne, hwk, if_neg (show ¬ (k : Int) ≤ wn by omega), hb, one_ne, a1, m_isCell hG h1.2.1 h1.2.2.1 h1.2.2.2, b1_f c1, bx_zret (Or.inl rfl : (0 : Int) = 0 ∨ (0 : Int) = 1)]
          rw [this]
          exact hbad (fun hr => c1 (by have := hr.2.2.1; rw [h1.1] at this; exact this))
      · rw [if_neg y] at hb
        left
        refine ⟨_, _, ⟨⟨u5, u6, rfl⟩, rfl, fun v hv hs => ?_⟩, ?_⟩
        · by_cases e : v = wn
          · rw [e] at hs; exact absurd hs y
          · exact g1 v (by omega) hs
        · rw [bk1130_11]
          simp (disch := first | omega | exact Nat.le_of_ble_eq_true rfl) only [bk1130_0, bk1130_8, bk1130_32, bk1130_49, bk1130_92, bk1130_124, bk1130_130, bk1130_136, bk1130_178, bk1130_220, bk1130_224, bk1130_225, bk1130_233, bk1130_240, bk1130_246, Int.reduceToNat, vA_ap, Nat.reduceEqDiff, if_true, if_false, bx_nil, isL_I, isL_R, isL_U, if_ff, bind_some, tl_some, tl_none, bx_iload_2, bx_iload_3, bx_iand, bx_if_eq, bx_iconst, bx_zret, bx_istore4, bx_iload4, bx_aload_0, gf376_21 hG, bx_ic_ge, bx_ishr, bx_if_ne, bx_goto, bx_iload_1, gf376_19 hG, ia391 hG, is391 hG, cl1105 hG, bx_bipush, bx_imul, bx_iadd, bx_istore5, gf376_4 hG, ia380 hG, is380 hG, bx_iload5, bx_if_lt, gf376_20 hG, ia392 hG, is392 hG, bx_ic_eq, bx_istore6, bx_iload6, cl1131 hG, bx_iinc6, bx_iinc4, gf376_0 hG, bx_isub, bx_if_gt, bx_ic_ne, hwk, if_neg (show ¬ (k : Int) ≤ wn by omega), hb, if_true])
    simp (disch := first | omega | exact Nat.le_of_ble_eq_true rfl) only [bk1130_0, bk1130_8, bk1130_32, bk1130_49, bk1130_92, bk1130_124, bk1130_130, bk1130_136, bk1130_178, bk1130_220, bk1130_224, bk1130_225, bk1130_233, bk1130_240, bk1130_246, Int.reduceToNat, vA_ap, Nat.reduceEqDiff, if_true, if_false, bx_nil, isL_I, isL_R, isL_U, if_ff, bind_some, tl_some, tl_none, bx_iload_2, bx_iload_3, bx_iand, bx_if_eq, bx_iconst, bx_zret, bx_istore4, bx_iload4, bx_aload_0, gf376_21 hG, bx_ic_ge, bx_ishr, bx_if_ne, bx_goto, bx_iload_1, gf376_19 hG, ia391 hG, is391 hG, cl1105 hG, bx_bipush, bx_imul, bx_iadd, bx_istore5, gf376_4 hG, ia380 hG, is380 hG, bx_iload5, bx_if_lt, gf376_20 hG, ia392 hG, is392 hG, bx_ic_eq, bx_istore6, bx_iload6, cl1131 hG, bx_iinc6, bx_iinc4, gf376_0 hG, bx_isub, bx_if_gt, bx_ic_ne, hand, if_pos q']
    exact l1 _ _ ⟨⟨xU, xU, rfl⟩, rfl, fun v hv => by omega⟩
  · have q' : ¬ ((S &&& D : Nat) : Int) = 0 := by omega
    refine ⟨0, ?_, Or.inr ⟨rfl, fun hv => q (Nat.eq_of_testBit_eq fun i => ?_)⟩⟩
    · simp (disch := first | omega | exact Nat.le_of_ble_eq_true rfl) only [bk1130_0, bk1130_8, bk1130_32, bk1130_49, bk1130_92, bk1130_124, bk1130_130, bk1130_136, bk1130_178, bk1130_220, bk1130_224, bk1130_225, bk1130_233, bk1130_240, bk1130_246, Int.reduceToNat, vA_ap, Nat.reduceEqDiff, if_true, if_false, bx_nil, isL_I, isL_R, isL_U, if_ff, bind_some, tl_some, tl_none, bx_iload_2, bx_iload_3, bx_iand, bx_if_eq, bx_iconst, bx_zret, bx_istore4, bx_iload4, bx_aload_0, gf376_21 hG, bx_ic_ge, bx_ishr, bx_if_ne, bx_goto, bx_iload_1, gf376_19 hG, ia391 hG, is391 hG, cl1105 hG, bx_bipush, bx_imul, bx_iadd, bx_istore5, gf376_4 hG, ia380 hG, is380 hG, bx_iload5, bx_if_lt, gf376_20 hG, ia392 hG, is392 hG, bx_ic_eq, bx_istore6, bx_iload6, cl1131 hG, bx_iinc6, bx_iinc4, gf376_0 hG, bx_isub, bx_if_gt, bx_ic_ne, hand, if_neg q', bx_zret (Or.inl rfl : (0 : Int) = 0 ∨ (0 : Int) = 1)]
    · rw [Nat.testBit_and, Nat.zero_testBit]
      cases hi : S.testBit i with
      | false => rfl
      | true => rw [(hv.1 i hi).2.1]; rfl
theorem m_isBare {l : Int} (hG : Good n L G) (h : refOK n p V) (hl : 0 ≤ l ∧ l ≤ 11) : ∃ r, run (d + 2) 1128 0 [xR 376, xI l, xU, xU] [] (V, G) = some (some (xI r), (V, G)) ∧ (r = 1 ∧ bare p l ∨ r = 0 ∧ ¬ bare p l) := by
  obtain ⟨h1, h2, h3, h4, h5⟩ := id h
  have hl2 := it_inv (D := d + 2) (q := 1128) (pc := 4) (hi := (n : Int) - 1) (I := fun i ls μ => (∃ r, ls = [xR 376, xI l, xI r, xI i] ∧ ((r = 1 ∧ ∀ i', isC n l i' → i' < i → ¬ 0 < p.2.2.2.2 l i') ∨ (r = 0 ∧ ¬ bare p l))) ∧ μ = (V, G)) (Q := fun y => ∃ r, y = some (some (xI r), (V, G)) ∧ (r = 1 ∧ bare p l ∨ r = 0 ∧ ¬ bare p l)) (fun ls μ hI => by
    obtain ⟨⟨r, rfl, hr⟩, rfl⟩ := hI
    have hr01 : r = 0 ∨ r = 1 := by rcases hr with ⟨y, _⟩ | ⟨y, _⟩ <;> omega
    refine ⟨r, ?_, ?_⟩
    · rw [bk1128_4]
      simp (disch := first | omega | exact Nat.le_of_ble_eq_true rfl) only [bk1128_0, bk1128_41, bk1128_45, bk1128_46, bk1128_53, Int.reduceToNat, vA_ap, Nat.reduceEqDiff, if_true, if_false, bx_nil, isL_I, isL_R, isL_U, if_ff, bind_some, tl_some, tl_none, bx_iconst, bx_istore_2, bx_istore_3, bx_iload_3, bx_aload_0, gf376_0 hG, bx_isub, bx_ic_ge, bx_iload_2, bx_if_eq, bx_iload_1, cl1105 hG, gf376_4 hG, ia380 hG, is380 hG, bx_bipush, bx_imul, bx_iadd, bx_if_gt, bx_goto, bx_iinc3, bx_zret, h1.2.1, if_pos (show (n : Int) - 1 ≤ (n : Int) - 1 by omega), bx_zret hr01]
    · rcases hr with ⟨y1, y2⟩ | y
      · refine Or.inl ⟨y1, fun i hi => ?_⟩
        have hi' : isC n l i := by rw [h1.1] at hi; exact hi
        exact y2 i hi' (by unfold isC at hi'; omega)
      · exact Or.inr y) (n - 1) 0 (by omega) (fun i ls μ i0 i1 hI => by
    obtain ⟨⟨r, rfl, hr⟩, rfl⟩ := hI
    left
    rcases hr with ⟨rfl, hr⟩ | ⟨rfl, hr⟩
    · by_cases c1 : isC n l i
      · have hst := h4 l i c1
        have hix := isC_ix (by omega) c1
        have hc1 := c1
        unfold isC at hc1
        by_cases c2 : 0 < p.2.2.2.2 l i
        · refine ⟨_, _, ⟨⟨0, rfl, Or.inr ⟨rfl, fun hb => hb i (by rw [h1.1]; exact c1) c2⟩⟩, rfl⟩, ?_⟩
          rw [bk1128_4]
          simp (disch := first | omega | exact Nat.le_of_ble_eq_true rfl) only [bk1128_0, bk1128_41, bk1128_45, bk1128_46, bk1128_53, Int.reduceToNat, vA_ap, Nat.reduceEqDiff, if_true, if_false, bx_nil, isL_I, isL_R, isL_U, if_ff, bind_some, tl_some, tl_none, bx_iconst, bx_istore_2, bx_istore_3, bx_iload_3, bx_aload_0, gf376_0 hG, bx_isub, bx_ic_ge, bx_iload_2, bx_if_eq, bx_iload_1, cl1105 hG, gf376_4 hG, ia380 hG, is380 hG, bx_bipush, bx_imul, bx_iadd, bx_if_gt, bx_goto, bx_iinc3, bx_zret, h1.2.1, if_neg (show ¬ (n : Int) - 1 ≤ i by omega), one_ne, m_isCell hG h1.2.1 h1.2.2.1 h1.2.2.2, b1_t c1, hst, if_pos c2]
        · refine ⟨_, _, ⟨⟨1, rfl, Or.inl ⟨rfl, fun i' hi' hlt => ?_⟩⟩, rfl⟩, ?_⟩
          · by_cases e : i' = i
            · rw [e]; exact c2
            · exact hr i' hi' (by omega)
          · rw [bk1128_4]
            simp (disch := first | omega | exact Nat.le_of_ble_eq_true rfl) only [bk1128_0, bk1128_41, bk1128_45, bk1128_46, bk1128_53, Int.reduceToNat, vA_ap, Nat.reduceEqDiff, if_true, if_false, bx_nil, isL_I, isL_R, isL_U, if_ff, bind_some, tl_some, tl_none, bx_iconst, bx_istore_2, bx_istore_3, bx_iload_3, bx_aload_0, gf376_0 hG, bx_isub, bx_ic_ge, bx_iload_2, bx_if_eq, bx_iload_1, cl1105 hG, gf376_4 hG, ia380 hG, is380 hG, bx_bipush, bx_imul, bx_iadd, bx_if_gt, bx_goto, bx_iinc3, bx_zret, h1.2.1, if_neg (show ¬ (n : Int) - 1 ≤ i by omega), one_ne, m_isCell hG h1.2.1 h1.2.2.1 h1.2.2.2, b1_t c1, hst, if_neg c2]
      · refine ⟨_, _, ⟨⟨1, rfl, Or.inl ⟨rfl, fun i' hi' hlt => ?_⟩⟩, rfl⟩, ?_⟩
        · by_cases e : i' = i
          · rw [e] at hi'; exact absurd hi' c1
          · exact hr i' hi' (by omega)
        · rw [bk1128_4]
          simp (disch := first | omega | exact Nat.le_of_ble_eq_true rfl) only [bk1128_0, bk1128_41, bk1128_45, bk1128_46, bk1128_53, Int.reduceToNat, vA_ap, Nat.reduceEqDiff, if_true, if_false, bx_nil, isL_I, isL_R, isL_U, if_ff, bind_some, tl_some, tl_none, bx_iconst, bx_istore_2, bx_istore_3, bx_iload_3, bx_aload_0, gf376_0 hG, bx_isub, bx_ic_ge, bx_iload_2, bx_if_eq, bx_iload_1, cl1105 hG, gf376_4 hG, ia380 hG, is380 hG, bx_bipush, bx_imul, bx_iadd, bx_if_gt, bx_goto, bx_iinc3, bx_zret, h1.2.1, if_neg (show ¬ (n : Int) - 1 ≤ i by omega), one_ne, m_isCell hG h1.2.1 h1.2.2.1 h1.2.2.2, b1_f c1]
    · refine ⟨_, _, ⟨⟨0, rfl, Or.inr ⟨rfl, hr⟩⟩, rfl⟩, ?_⟩
      rw [bk1128_4]
      simp (disch := first | omega | exact Nat.le_of_ble_eq_true rfl) only [bk1128_0, bk1128_41, bk1128_45, bk1128_46, bk1128_53, Int.reduceToNat, vA_ap, Nat.reduceEqDiff, if_true, if_false, bx_nil, isL_I, isL_R, isL_U, if_ff, bind_some, tl_some, tl_none, bx_iconst, bx_istore_2, bx_istore_3, bx_iload_3, bx_aload_0, gf376_0 hG, bx_isub, bx_ic_ge, bx_iload_2, bx_if_eq, bx_iload_1, cl1105 hG, gf376_4 hG, ia380 hG, is380 hG, bx_bipush, bx_imul, bx_iadd, bx_if_gt, bx_goto, bx_iinc3, bx_zret, h1.2.1, if_neg (show ¬ (n : Int) - 1 ≤ i by omega), if_true])
  simp (disch := first | omega | exact Nat.le_of_ble_eq_true rfl) only [bk1128_0, bk1128_41, bk1128_45, bk1128_46, bk1128_53, Int.reduceToNat, vA_ap, Nat.reduceEqDiff, if_true, if_false, bx_nil, isL_I, isL_R, isL_U, if_ff, bind_some, tl_some, tl_none, bx_iconst, bx_istore_2, bx_istore_3, bx_iload_3, bx_aload_0, gf376_0 hG, bx_isub, bx_ic_ge, bx_iload_2, bx_if_eq, bx_iload_1, cl1105 hG, gf376_4 hG, ia380 hG, is380 hG, bx_bipush, bx_imul, bx_iadd, bx_if_gt, bx_goto, bx_iinc3, bx_zret]
  exact hl2 _ _ ⟨⟨1, rfl, Or.inl ⟨rfl, fun i' hi' hlt => by unfold isC at hi'; omega⟩⟩, rfl⟩
end ML
