/-! LAY: the class's fewest layers, with what it keeps of them -/
theorem Rd_one {p : LayP} {l : Int} {D w w' : Nat} (h : Rd p l D w) (h' : Rd p l D w') (e : p.2.2.1 w = p.2.2.1 w') : w = w' := by
  apply Classical.byContradiction
  intro hne
  by_cases q : w < w'
  · have := h'.2.2.2.1 w q (by omega)
    rw [h.2.1] at this; cases this
  · have := h.2.2.2.1 w' (by omega) (by omega)
    rw [h'.2.1] at this; cases this
theorem ch_vd {p : LayP} {l : Int} {D must may S : Nat} (h : chP p l D must may) : Vd p l S D ↔ ∃ s, s &&& may = s ∧ S = must ||| s := by
  obtain ⟨_, h1, h2, h3⟩ := h
  constructor
  · rintro ⟨v1, v2⟩
    refine ⟨S &&& may, sub_and S may, Nat.eq_of_testBit_eq fun i => ?_⟩
    rw [Nat.testBit_or, Nat.testBit_and]
    cases hS : S.testBit i with
    | true =>
      have hr := v1 i hS
      by_cases q : 0 < p.2.2.2.2 l (p.2.2.1 i)
      · rw [(h2 i).mpr ⟨hr, q⟩]; rfl
      · rw [(h1 i).mpr ⟨hr, q⟩]
        cases must.testBit i <;> rfl
    | false =>
      cases hm : must.testBit i with
      | false => rfl
      | true =>
        obtain ⟨hr, hp⟩ := (h2 i).mp hm
        obtain ⟨w, w1, w2⟩ := v2 _ hr.2.2.1 hp
        have : w = i := Rd_one (v1 w w1) hr w2
        rw [this, hS] at w1; cases w1
  · rintro ⟨s, s1, rfl⟩
    have hs : ∀ w, s.testBit w = true → may.testBit w = true := fun w hw => by
      have := congrArg (fun x => Nat.testBit x w) s1
      simp only [Nat.testBit_and, hw, Bool.true_and] at this
      exact this
    refine ⟨fun w hw => ?_, fun i hi hp => ?_⟩
    · rw [Nat.testBit_or, Bool.or_eq_true] at hw
      rcases hw with y | y
      · exact ((h2 w).mp y).1
      · exact ((h1 w).mp (hs w y)).1
    · obtain ⟨w, w1, w2⟩ := h3 i hi hp
      refine ⟨w, ?_, w2⟩
      rw [Nat.testBit_or, (h2 w).mpr ⟨w1, by rw [w2]; exact hp⟩, Bool.true_or]
/-- what is kept is right -/
def memOK (p : LayP) (b : Int) (V : Nat → Int → Int) : Prop := ∀ D : Nat, D < 2 ^ p.2.1 → ∃ m : Nat, V 33 D = m ∧ m < 281474976710656 ∧ ∀ l : Nat, l < 12 → nib m l = 0 ∨ FwP p b l D ((nib m l : Int) - 1)
theorem pow_10 {k : Nat} (h : k ≤ 10) : 2 ^ k ≤ 1024 := Nat.le_trans (Nat.pow_le_pow_right (by decide) h) (by decide)
theorem ch_lt {p : LayP} {l : Int} {D must may : Nat} (h : chP p l D must may) : must < 2 ^ p.2.1 ∧ may < 2 ^ p.2.1 := by
  obtain ⟨_, h1, h2, h3⟩ := h
  constructor
  · apply Nat.lt_pow_two_of_testBit
    intro i hi
    cases hm : must.testBit i with
    | false => rfl
    | true => have := ((h2 i).mp hm).1.1; omega
  · apply Nat.lt_pow_two_of_testBit
    intro i hi
    cases hm : may.testBit i with
    | false => rfl
    | true => have := ((h1 i).mp hm).1.1; omega
section FW
variable {n L d : Nat} {G : XG}
theorem lpX_fr {V W : Nat → Int → Int} (h : ∀ b, b ≠ 33 → W b = V b) : lpX n W = lpX n V := by
  unfold lpX
  rw [h 29 (by decide), h 30 (by decide), h 31 (by decide), h 8 (by decide)]
theorem layX_fr {V W : Nat → Int → Int} (h : ∀ b, b ≠ 33 → W b = V b) (hx : layX n V) : layX n W := by
  unfold layX at *
  rw [h 29 (by decide), h 30 (by decide), h 31 (by decide), h 8 (by decide), h 6 (by decide), h 5 (by decide)]
  exact hx
theorem earOK_fr {V W : Nat → Int → Int} (h : ∀ b, b ≠ 33 → W b = V b) (hx : earOK V) : earOK W := by
  unfold earOK shr at *
  rw [h 29 (by decide), h 30 (by decide), h 34 (by decide)]
  exact hx
/-- everything that the search for the fewest layers needs -/
def fewOK (n : Nat) (b : Int) (V : Nat → Int → Int) : Prop := layX n V ∧ earOK V ∧ V 32 4 = ((allW (lpX n V) : Nat) : Int) ∧ V 32 5 = b ∧ memOK (lpX n V) b V
theorem fewOK_fr {b : Int} {V W : Nat → Int → Int} (h : ∀ b, b ≠ 33 → W b = V b) (hx : fewOK n b V) (hm : memOK (lpX n V) b W) : fewOK n b W := by
  obtain ⟨h1, h2, h3, h4, h5⟩ := hx
  refine ⟨layX_fr h h1, earOK_fr h h2, ?_, ?_, ?_⟩
  · rw [h 32 (by decide), lpX_fr h]; exact h3
  · rw [h 32 (by decide)]; exact h4
  · rw [lpX_fr h]; exact hm
theorem x_few {b : Int} (hG : Good n L G) (hb : 0 ≤ b ∧ b ≤ 12) : ∀ (m : Nat) (l : Int) (D : Nat) (V : Nat → Int → Int), l + m = 12 → 0 ≤ l → fewOK n b V → (b = 0 ∨ ¬ bare (lpX n V) (b - 1)) → D < 2 ^ (lpX n V).2.1 → ∃ W r, run (d + 2 + m) 103 0 [xR 32, xI l, xI D, xU, xU, xU, xU, xU, xU] [] (V, G) = some (some (xI r), (W, G)) ∧ (∀ b, b ≠ 33 → W b = V b) ∧ memOK (lpX n V) b W ∧ FwP (lpX n V) b l D r := by
  intro m
  induction m with
  | zero =>
    intro l D V hl l0 hV hbb hD
    obtain ⟨h1, h2, h3, h4, h5⟩ := id hV
    have e12 : l = 12 := by omega
    subst e12
    by_cases q : D = allW (lpX n V)
    · have q' : (D : Int) = ((allW (lpX n V) : Nat) : Int) := by omega
      have hf := FwP_all (p := lpX n V) (l := 12) hb.2 hbb (by omega)
      rw [if_pos hb.2] at hf
      refine ⟨V, 12, ?_, fun _ _ => rfl, h5, by rw [q]; exact hf⟩
      simp (disch := first | omega | exact Nat.le_of_ble_eq_true rfl) only [bk103_0, bk103_20, bk103_22, bk103_23, bk103_32, bk103_55, bk103_126, bk103_133, bk103_138, Int.reduceToNat, vA_ap, Nat.reduceEqDiff, if_true, if_false, bx_nil, isL_I, isL_R, isL_U, if_ff, bind_some, tl_some, tl_none, bx_iload_2, bx_aload_0, gf32_4 hG, bx_ic_ne, bx_iload_1, gf32_5 hG, bx_ic_lt, bx_goto, bx_bipush, bx_iret, gf32_2 hG, ia33 hG, is33 hG, bx_iconst, bx_imul, bx_lushr, bx_l2i, bx_iand, bx_istore_3, bx_iload_3, bx_if_le, bx_isub, bx_istore4, cl104 hG, bx_istore5, bx_iload5, bx_if_lt, bx_sipush, bx_istore6, bx_ishr, bx_ior, bx_istore7, bx_iload6, bx_istore8, bx_iload8, bx_iload4, bx_iadd, bx_iload7, cl103 hG, cl1301, bx_if_ne, bx_dup2, bx_i2l, bx_lshl, bx_lor, h3, h4, if_pos q', if_neg (show ¬ (12 : Int) < b by omega)]
    · have q' : ¬ (D : Int) = ((allW (lpX n V) : Nat) : Int) := by omega
      refine ⟨V, 13, ?_, fun _ _ => rfl, h5, FwP_12 q⟩
      simp (disch := first | omega | exact Nat.le_of_ble_eq_true rfl) only [bk103_0, bk103_20, bk103_22, bk103_23, bk103_32, bk103_55, bk103_126, bk103_133, bk103_138, Int.reduceToNat, vA_ap, Nat.reduceEqDiff, if_true, if_false, bx_nil, isL_I, isL_R, isL_U, if_ff, bind_some, tl_some, tl_none, bx_iload_2, bx_aload_0, gf32_4 hG, bx_ic_ne, bx_iload_1, gf32_5 hG, bx_ic_lt, bx_goto, bx_bipush, bx_iret, gf32_2 hG, ia33 hG, is33 hG, bx_iconst, bx_imul, bx_lushr, bx_l2i, bx_iand, bx_istore_3, bx_iload_3, bx_if_le, bx_isub, bx_istore4, cl104 hG, bx_istore5, bx_iload5, bx_if_lt, bx_sipush, bx_istore6, bx_ishr, bx_ior, bx_istore7, bx_iload6, bx_istore8, bx_iload8, bx_iload4, bx_iadd, bx_iload7, cl103 hG, cl1301, bx_if_ne, bx_dup2, bx_i2l, bx_lshl, bx_lor, h3, h4, if_neg q', if_neg (show ¬ (12 : Int) < 12 by omega)]
  | succ m ih =>
    intro l D V hl l0 hV hbb hD
    obtain ⟨h1, h2, h3, h4, h5⟩ := id hV
    have hk10 : (lpX n V).2.1 ≤ 10 := by
      have := h1.2.1
      show (V 29 2).toNat ≤ 10
      omega
    have hp10 := pow_10 hk10
    by_cases q : D = allW (lpX n V)
    · have q' : (D : Int) = ((allW (lpX n V) : Nat) : Int) := by omega
      have hf := FwP_all (p := lpX n V) (l := l) hb.2 hbb (by omega)
      by_cases q2 : b ≤ l
      · rw [if_pos q2] at hf
        refine ⟨V, l, ?_, fun _ _ => rfl, h5, by rw [q]; exact hf⟩
        simp (disch := first | omega | exact Nat.le_of_ble_eq_true rfl) only [bk103_0, bk103_20, bk103_22, bk103_23, bk103_32, bk103_55, bk103_126, bk103_133, bk103_138, Int.reduceToNat, vA_ap, Nat.reduceEqDiff, if_true, if_false, bx_nil, isL_I, isL_R, isL_U, if_ff, bind_some, tl_some, tl_none, bx_iload_2, bx_aload_0, gf32_4 hG, bx_ic_ne, bx_iload_1, gf32_5 hG, bx_ic_lt, bx_goto, bx_bipush, bx_iret, gf32_2 hG, ia33 hG, is33 hG, bx_iconst, bx_imul, bx_lushr, bx_l2i, bx_iand, bx_istore_3, bx_iload_3, bx_if_le, bx_isub, bx_istore4, cl104 hG, bx_istore5, bx_iload5, bx_if_lt, bx_sipush, bx_istore6, bx_ishr, bx_ior, bx_istore7, bx_iload6, bx_istore8, bx_iload8, bx_iload4, bx_iadd, bx_iload7, cl103 hG, cl1301, bx_if_ne, bx_dup2, bx_i2l, bx_lshl, bx_lor, h3, h4, if_pos q', if_neg (show ¬ l < b by omega)]
      · rw [if_neg q2] at hf
        refine ⟨V, 13, ?_, fun _ _ => rfl, h5, by rw [q]; exact hf⟩
        simp (disch := first | omega | exact Nat.le_of_ble_eq_true rfl) only [bk103_0, bk103_20, bk103_22, bk103_23, bk103_32, bk103_55, bk103_126, bk103_133, bk103_138, Int.reduceToNat, vA_ap, Nat.reduceEqDiff, if_true, if_false, bx_nil, isL_I, isL_R, isL_U, if_ff, bind_some, tl_some, tl_none, bx_iload_2, bx_aload_0, gf32_4 hG, bx_ic_ne, bx_iload_1, gf32_5 hG, bx_ic_lt, bx_goto, bx_bipush, bx_iret, gf32_2 hG, ia33 hG, is33 hG, bx_iconst, bx_imul, bx_lushr, bx_l2i, bx_iand, bx_istore_3, bx_iload_3, bx_if_le, bx_isub, bx_istore4, cl104 hG, bx_istore5, bx_iload5, bx_if_lt, bx_sipush, bx_istore6, bx_ishr, bx_ior, bx_istore7, bx_iload6, bx_istore8, bx_iload8, bx_iload4, bx_iadd, bx_iload7, cl103 hG, cl1301, bx_if_ne, bx_dup2, bx_i2l, bx_lshl, bx_lor, h3, h4, if_pos q', if_pos (show l < b by omega)]
    · have q' : ¬ (D : Int) = ((allW (lpX n V) : Nat) : Int) := by omega
      obtain ⟨ln, rfl⟩ : ∃ ln : Nat, l = ln := ⟨l.toNat, by omega⟩
      obtain ⟨mm, m1, m2, m3⟩ := h5 D hD
      have hnb := nib_N (m := mm) (l := ln) m2 (by omega)
      unfold nbX at hnb
      have hnl : nib mm ln < 16 := by unfold nib; omega
      by_cases q2 : nib mm ln = 0
      · -- not known yet
        have q2' : ((nib mm ln : Nat) : Int) ≤ 0 := by omega
        -- the end: what was found is kept
        have hend : ∀ (W : Nat → Int → Int) (least : Int) (u3 u5 u6 u7 u8 : XV), isL u3 = false → (∀ b, b ≠ 33 → W b = V b) → memOK (lpX n V) b W → FwP (lpX n V) b ln D least → ∃ W', run (d + 2 + (m + 1)) 103 138 [xR 32, xI ln, xI D, u3, xI least, u5, u6, u7, u8] [] (W, G) = some (some (xI least), (W', G)) ∧ (∀ b, b ≠ 33 → W' b = V b) ∧ memOK (lpX n V) b W' := fun W least u3 u5 u6 u7 u8 _ fW hW hF => by
          have hlb := FwP_bd hF (by omega)
          obtain ⟨v, hv⟩ : ∃ v : Nat, least + 1 = v := ⟨(least + 1).toNat, by omega⟩
          obtain ⟨m', y1, y2, y3⟩ := hW D hD
          obtain ⟨o1, o2⟩ := or_L (m := m') (v := v) (l := ln) y2 (by omega) (by omega)
          unfold orX at o1
          have hz : nib m' ln = 0 ∨ nib m' ln = v := by
            rcases y3 ln (by omega) with y | y
            · exact Or.inl y
            · right
              have := FwP_one y hF
              omega
          refine ⟨vA W 33 (vU (W 33) D ((m' ||| (v <<< (4 * ln)) : Nat) : Int)), ?_, fun b hb => by rw [vA_ne hb]; exact fW b hb, fun D' hD' => ?_⟩
          · simp (disch := first | omega | exact Nat.le_of_ble_eq_true rfl) only [bk103_0, bk103_20, bk103_22, bk103_23, bk103_32, bk103_55, bk103_126, bk103_133, bk103_138, Int.reduceToNat, vA_ap, Nat.reduceEqDiff, if_true, if_false, bx_nil, isL_I, isL_R, isL_U, if_ff, bind_some, tl_some, tl_none, bx_iload_2, bx_aload_0, gf32_4 hG, bx_ic_ne, bx_iload_1, gf32_5 hG, bx_ic_lt, bx_goto, bx_bipush, bx_iret, gf32_2 hG, ia33 hG, is33 hG, bx_iconst, bx_imul, bx_lushr, bx_l2i, bx_iand, bx_istore_3, bx_iload_3, bx_if_le, bx_isub, bx_istore4, cl104 hG, bx_istore5, bx_iload5, bx_if_lt, bx_sipush, bx_istore6, bx_ishr, bx_ior, bx_istore7, bx_iload6, bx_istore8, bx_iload8, bx_iload4, bx_iadd, bx_iload7, cl103 hG, cl1301, bx_if_ne, bx_dup2, bx_i2l, bx_lshl, bx_lor, y1, hv, o1]
          · rw [vA_same]
            by_cases e : D' = D
            · subst e
              refine ⟨m' ||| (v <<< (4 * ln)), vU_at _ _ _, o2, fun l' hl' => ?_⟩
              rw [nib_or (by omega) hz]
              by_cases e2 : l' = ln
              · subst e2
                rw [if_pos rfl]
                right
                rw [show (v : Int) - 1 = least by omega]
                exact hF
              · rw [if_neg e2]; exact y3 l' hl'
            · rw [vU_ne (by omega)]
              exact hW D' hD'
        obtain ⟨r, r1, r2⟩ := x_choices (d := d + 1 + m) (l := ln) (D := D) hG h1 h2 (by omega) (by omega)
        have r1' : run (d + 2 + m) 104 0 [xR 32, xI ln, xI D, xU, xU, xU, xU, xU, xU] [] (V, G) = some (some (xI r), (V, G)) := by
          rw [show d + 2 + m = d + 1 + m + 1 by omega]; exact r1
        rcases r2 with ⟨rfl, hno⟩ | ⟨must, may, hr, hch⟩
        · -- it can't be
          have hF : FwP (lpX n V) b ln D 13 := FwP_step q (by omega) (fun S hS => absurd hS (hno S)) (Or.inl rfl)
          obtain ⟨W', e1, e2, e3⟩ := hend V 13 (xI ((nib mm ln : Nat) : Int)) (xI (-1)) xU xU xU rfl (fun _ _ => rfl) h5 hF
          refine ⟨W', 13, ?_, e2, e3, hF⟩
          have e1' : run (d + 2 + m + 1) 103 138 [xR 32, xI ln, xI D, xI ((nib mm ln : Nat) : Int), xI 13, xI (-1), xU, xU, xU] [] (V, G) = some (some (xI 13), (W', G)) := e1
          rw [show d + 2 + (m + 1) = d + 2 + m + 1 by omega]
          simp (disch := first | omega | exact Nat.le_of_ble_eq_true rfl) only [bk103_0, bk103_20, bk103_22, bk103_23, bk103_32, bk103_55, bk103_126, bk103_133, bk103_138, Int.reduceToNat, vA_ap, Nat.reduceEqDiff, if_true, if_false, bx_nil, isL_I, isL_R, isL_U, if_ff, bind_some, tl_some, tl_none, bx_iload_2, bx_aload_0, gf32_4 hG, bx_ic_ne, bx_iload_1, gf32_5 hG, bx_ic_lt, bx_goto, bx_bipush, bx_iret, gf32_2 hG, ia33 hG, is33 hG, bx_iconst, bx_imul, bx_lushr, bx_l2i, bx_iand, bx_istore_3, bx_iload_3, bx_if_le, bx_isub, bx_istore4, cl104 hG, bx_istore5, bx_iload5, bx_if_lt, bx_sipush, bx_istore6, bx_ishr, bx_ior, bx_istore7, bx_iload6, bx_istore8, bx_iload8, bx_iload4, bx_iadd, bx_iload7, cl103 hG, cl1301, bx_if_ne, bx_dup2, bx_i2l, bx_lshl, bx_lor, h3, if_neg q', if_pos (show (ln : Int) < 12 by omega), m1, hnb, if_pos q2', r1', if_pos (show (-1 : Int) < 0 by omega), e1']
        · -- some sets
          obtain ⟨c1, c2⟩ := ch_lt hch
          have hmm := hch.1
          subst hr
          have hand : andI ((must * 1024 + may : Nat) : Int) 1023 = (may : Int) := by
            have h := and_N (a := must * 1024 + may) (b := 1023) (by omega) (by omega)
            have h' : andI ((must * 1024 + may : Nat) : Int) ((1023 : Nat) : Int) = andI ((must * 1024 + may : Nat) : Int) 1023 := rfl
            rw [← h', h, show 1023 = 2 ^ 10 - 1 by rfl, Nat.and_two_pow_sub_one_eq_mod, show (must * 1024 + may) % 2 ^ 10 = may by omega]
          have hshr : shrI ((must * 1024 + may : Nat) : Int) 10 = (must : Int) := by
            have h := shr_N (a := must * 1024 + may) (w := 10) (by omega) (by omega)
            have h' : shrI ((must * 1024 + may : Nat) : Int) ((10 : Nat) : Int) = shrI ((must * 1024 + may : Nat) : Int) 10 := rfl
            rw [← h', h, Nat.shiftRight_eq_div_pow, show (must * 1024 + may) / 2 ^ 10 = must by omega]
          have hthn : orI (D : Int) (must : Int) = ((D ||| must : Nat) : Int) := or_N (by omega) (by omega)
          have hlt : ∀ t, t &&& may = t → (D ||| must) ||| t < 2 ^ (lpX n V).2.1 := fun t ht => Nat.or_lt_two_pow (Nat.or_lt_two_pow hD c1) (Nat.lt_of_le_of_lt (by rw [← ht]; exact Nat.and_le_right) c2)
          have loop : ∀ (s : Nat) (W : Nat → Int → Int) (least : Int), s &&& may = s → (∀ b, b ≠ 33 → W b = V b) → memOK (lpX n V) b W → least ≤ 13 → (∀ t, t &&& may = t → s < t → ∃ f, FwP (lpX n V) b (ln + 1) ((D ||| must) ||| t) f ∧ least ≤ f) → (least = 13 ∨ ∃ t, t &&& may = t ∧ FwP (lpX n V) b (ln + 1) ((D ||| must) ||| t) least) → ∃ W' least' u8, run (d + 2 + (m + 1)) 103 93 [xR 32, xI ln, xI D, xI ((nib mm ln : Nat) : Int), xI least, xI ((must * 1024 + may : Nat) : Int), xI may, xI ((D ||| must : Nat) : Int), xI s] [] (W, G) = run (d + 2 + (m + 1)) 103 138 [xR 32, xI ln, xI D, xI ((nib mm ln : Nat) : Int), xI least', xI ((must * 1024 + may : Nat) : Int), xI may, xI ((D ||| must : Nat) : Int), u8] [] (W', G) ∧ (∀ b, b ≠ 33 → W' b = V b) ∧ memOK (lpX n V) b W' ∧ least' ≤ 13 ∧ (∀ t, t &&& may = t → ∃ f, FwP (lpX n V) b (ln + 1) ((D ||| must) ||| t) f ∧ least' ≤ f) ∧ (least' = 13 ∨ ∃ t, t &&& may = t ∧ FwP (lpX n V) b (ln + 1) ((D ||| must) ||| t) least') := by
            intro s
            induction s using Nat.strongRecOn with
            | ind s ihs =>
              intro W least hs fW hW hle hall hex
              have hs10 : s < 1024 := by have : s ≤ may := by { rw [← hs]; exact Nat.and_le_right }; omega
              have hor : orI ((D ||| must : Nat) : Int) (s : Int) = (((D ||| must) ||| s : Nat) : Int) := or_N (by have := hlt s hs; have h2 : D ||| must < 2 ^ (lpX n V).2.1 := Nat.or_lt_two_pow hD c1; omega) (by omega)
              obtain ⟨W1, f, t1, t2, t3, t4⟩ := ih (ln + 1) ((D ||| must) ||| s) W (by omega) (by omega) (fewOK_fr fW hV hW) (by rw [lpX_fr fW]; exact hbb) (by rw [lpX_fr fW]; exact hlt s hs)
              rw [lpX_fr fW] at t3 t4
              have t1' : run (d + 2 + m) 103 0 [xR 32, xI ((ln : Int) + 1), xI (((D ||| must) ||| s : Nat) : Int), xU, xU, xU, xU, xU, xU] [] (W, G) = some (some (xI f), (W1, G)) := t1
              have fW1 : ∀ b, b ≠ 33 → W1 b = V b := fun b hb => (t2 b hb).trans (fW b hb)
              have hfb := FwP_bd t4 (by omega)
              obtain ⟨l1, hl1⟩ : ∃ l1, l1 = if least ≤ f then least else f := ⟨_, rfl⟩
              have hl1a : l1 ≤ least ∧ l1 ≤ f ∧ l1 ≤ 13 := by rw [hl1]; split <;> omega
              have hl1b : l1 = 13 ∨ ∃ t, t &&& may = t ∧ FwP (lpX n V) b (ln + 1) ((D ||| must) ||| t) l1 := by
                rw [hl1]
                by_cases y : least ≤ f
                · rw [if_pos y]; exact hex
                · rw [if_neg y]; exact Or.inr ⟨s, hs, t4⟩
              by_cases z : s = 0
              · subst z
                refine ⟨W1, l1, xI (-1), ?_, fW1, t3, hl1a.2.2, fun t ht => ?_, hl1b⟩
                · have hz1 : run (d + 2 + m + 1) 103 93 [xR 32, xI ln, xI D, xI ((nib mm ln : Nat) : Int), xI least, xI ((must * 1024 + may : Nat) : Int), xI may, xI ((D ||| must : Nat) : Int), xI ((0 : Nat) : Int)] [] (W, G) = run (d + 2 + m + 1) 103 93 [xR 32, xI ln, xI D, xI ((nib mm ln : Nat) : Int), xI l1, xI ((must * 1024 + may : Nat) : Int), xI may, xI ((D ||| must : Nat) : Int), xI (-1)] [] (W1, G) := by
                    rw [bk103_93]
                    simp (disch := first | omega | exact Nat.le_of_ble_eq_true rfl) only [bk103_0, bk103_20, bk103_22, bk103_23, bk103_32, bk103_55, bk103_126, bk103_133, bk103_138, Int.reduceToNat, vA_ap, Nat.reduceEqDiff, if_true, if_false, bx_nil, isL_I, isL_R, isL_U, if_ff, bind_some, tl_some, tl_none, bx_iload_2, bx_aload_0, gf32_4 hG, bx_ic_ne, bx_iload_1, gf32_5 hG, bx_ic_lt, bx_goto, bx_bipush, bx_iret, gf32_2 hG, ia33 hG, is33 hG, bx_iconst, bx_imul, bx_lushr, bx_l2i, bx_iand, bx_istore_3, bx_iload_3, bx_if_le, bx_isub, bx_istore4, cl104 hG, bx_istore5, bx_iload5, bx_if_lt, bx_sipush, bx_istore6, bx_ishr, bx_ior, bx_istore7, bx_iload6, bx_istore8, bx_iload8, bx_iload4, bx_iadd, bx_iload7, cl103 hG, cl1301, bx_if_ne, bx_dup2, bx_i2l, bx_lshl, bx_lor, if_neg (show ¬ (((0 : Nat)) : Int) < 0 by omega), hor, t1', j_min, ← hl1, if_pos (show (((0 : Nat)) : Int) = 0 by omega)]
                  rw [show d + 2 + (m + 1) = d + 2 + m + 1 by omega, hz1, bk103_93]
                  simp (disch := first | omega | exact Nat.le_of_ble_eq_true rfl) only [bx_iload8, bx_if_lt, if_pos (show (-1 : Int) < 0 by omega), Int.reduceToNat]
                · by_cases t0 : t = 0
                  · subst t0; exact ⟨f, t4, hl1a.2.1⟩
                  · obtain ⟨g, g1, g2⟩ := hall t ht (by omega)
                    exact ⟨g, g1, by omega⟩
              · have hns : andI ((s : Int) - 1) (may : Int) = (((s - 1) &&& may : Nat) : Int) := by
                  have h := and_N (a := s - 1) (b := may) (by omega) (by omega)
                  rw [show ((s - 1 : Nat) : Int) = (s : Int) - 1 by omega] at h
                  exact h
                obtain ⟨W', least', u8, o1, o2, o3, o4, o5, o6⟩ := ihs ((s - 1) &&& may) (sub_lt (by omega)) W1 l1 (sub_and _ _) fW1 t3 hl1a.2.2 (fun t ht hlt2 => by
                  by_cases y : t = s
                  · subst y; exact ⟨f, t4, hl1a.2.1⟩
                  · have : s < t := by
                      apply Classical.byContradiction
                      intro y2
                      have := sub_next s may t hs ht (by omega)
                      omega
                    obtain ⟨g, g1, g2⟩ := hall t ht this
                    exact ⟨g, g1, by omega⟩) hl1b
                refine ⟨W', least', u8, ?_, o2, o3, o4, o5, o6⟩
                rw [← o1, show d + 2 + (m + 1) = d + 2 + m + 1 by omega, bk103_93]
                simp (disch := first | omega | exact Nat.le_of_ble_eq_true rfl) only [bk103_0, bk103_20, bk103_22, bk103_23, bk103_32, bk103_55, bk103_126, bk103_133, bk103_138, Int.reduceToNat, vA_ap, Nat.reduceEqDiff, if_true, if_false, bx_nil, isL_I, isL_R, isL_U, if_ff, bind_some, tl_some, tl_none, bx_iload_2, bx_aload_0, gf32_4 hG, bx_ic_ne, bx_iload_1, gf32_5 hG, bx_ic_lt, bx_goto, bx_bipush, bx_iret, gf32_2 hG, ia33 hG, is33 hG, bx_iconst, bx_imul, bx_lushr, bx_l2i, bx_iand, bx_istore_3, bx_iload_3, bx_if_le, bx_isub, bx_istore4, cl104 hG, bx_istore5, bx_iload5, bx_if_lt, bx_sipush, bx_istore6, bx_ishr, bx_ior, bx_istore7, bx_iload6, bx_istore8, bx_iload8, bx_iload4, bx_iadd, bx_iload7, cl103 hG, cl1301, bx_if_ne, bx_dup2, bx_i2l, bx_lshl, bx_lor, if_neg (show ¬ (s : Int) < 0 by omega), hor, t1', j_min, ← hl1, if_neg (show ¬ (s : Int) = 0 by omega), hns]
          obtain ⟨W1, least, u8, o1, o2, o3, o4, o5, o6⟩ := loop may V 13 (Nat.and_self _) (fun _ _ => rfl) h5 (Int.le_refl _) (fun t ht hlt2 => by
            have : t ≤ may := by rw [← ht]; exact Nat.and_le_right
            omega) (Or.inl rfl)
          have hF : FwP (lpX n V) b ln D least := by
            refine FwP_step q o4 (fun S hS => ?_) ?_
            · obtain ⟨s, s1, s2⟩ := (ch_vd hch).mp hS
              rw [s2, ← Nat.or_assoc]
              exact o5 s s1
            · rcases o6 with y | ⟨t, y1, y2⟩
              · exact Or.inl y
              · refine Or.inr ⟨must ||| t, (ch_vd hch).mpr ⟨t, y1, rfl⟩, ?_⟩
                rw [← Nat.or_assoc]; exact y2
          obtain ⟨W', e1, e2, e3⟩ := hend W1 least (xI ((nib mm ln : Nat) : Int)) (xI ((must * 1024 + may : Nat) : Int)) (xI may) (xI ((D ||| must : Nat) : Int)) u8 rfl o2 o3 hF
          refine ⟨W', least, ?_, e2, e3, hF⟩
          rw [← e1, ← o1, show d + 2 + (m + 1) = d + 2 + m + 1 by omega]
          simp (disch := first | omega | exact Nat.le_of_ble_eq_true rfl) only [bk103_0, bk103_20, bk103_22, bk103_23, bk103_32, bk103_55, bk103_126, bk103_133, bk103_138, Int.reduceToNat, vA_ap, Nat.reduceEqDiff, if_true, if_false, bx_nil, isL_I, isL_R, isL_U, if_ff, bind_some, tl_some, tl_none, bx_iload_2, bx_aload_0, gf32_4 hG, bx_ic_ne, bx_iload_1, gf32_5 hG, bx_ic_lt, bx_goto, bx_bipush, bx_iret, gf32_2 hG, ia33 hG, is33 hG, bx_iconst, bx_imul, bx_lushr, bx_l2i, bx_iand, bx_istore_3, bx_iload_3, bx_if_le, bx_isub, bx_istore4, cl104 hG, bx_istore5, bx_iload5, bx_if_lt, bx_sipush, bx_istore6, bx_ishr, bx_ior, bx_istore7, bx_iload6, bx_istore8, bx_iload8, bx_iload4, bx_iadd, bx_iload7, cl103 hG, cl1301, bx_if_ne, bx_dup2, bx_i2l, bx_lshl, bx_lor, h3, if_neg q', if_pos (show (ln : Int) < 12 by omega), m1, hnb, if_pos q2', r1', if_neg (show ¬ ((must * 1024 + may : Nat) : Int) < 0 by omega), hand, hshr, hthn]
      · -- known
        have q2' : ¬ ((nib mm ln : Nat) : Int) ≤ 0 := by omega
        refine ⟨V, ((nib mm ln : Nat) : Int) - 1, ?_, fun _ _ => rfl, h5, (m3 ln (by omega)).resolve_left q2⟩
        simp (disch := first | omega | exact Nat.le_of_ble_eq_true rfl) only [bk103_0, bk103_20, bk103_22, bk103_23, bk103_32, bk103_55, bk103_126, bk103_133, bk103_138, Int.reduceToNat, vA_ap, Nat.reduceEqDiff, if_true, if_false, bx_nil, isL_I, isL_R, isL_U, if_ff, bind_some, tl_some, tl_none, bx_iload_2, bx_aload_0, gf32_4 hG, bx_ic_ne, bx_iload_1, gf32_5 hG, bx_ic_lt, bx_goto, bx_bipush, bx_iret, gf32_2 hG, ia33 hG, is33 hG, bx_iconst, bx_imul, bx_lushr, bx_l2i, bx_iand, bx_istore_3, bx_iload_3, bx_if_le, bx_isub, bx_istore4, cl104 hG, bx_istore5, bx_iload5, bx_if_lt, bx_sipush, bx_istore6, bx_ishr, bx_ior, bx_istore7, bx_iload6, bx_istore8, bx_iload8, bx_iload4, bx_iadd, bx_iload7, cl103 hG, cl1301, bx_if_ne, bx_dup2, bx_i2l, bx_lshl, bx_lor, h3, if_neg q', if_pos (show (ln : Int) < 12 by omega), m1, hnb, if_neg q2']
end FW
