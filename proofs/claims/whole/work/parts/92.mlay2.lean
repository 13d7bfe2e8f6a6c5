/-! LAY: the reference fills what can be -/
section ML2
variable {n L d : Nat} {G : XG} {V : Nat → Int → Int} {p : LayP}
/-- what the reference has noted of a layer, for Lm layers -/
def canR (p : LayP) (Lm : Nat) (W : Nat → Int → Int) (l : Nat) : Prop := ∀ D : Nat, D < 2 ^ p.2.1 → (W 393 (1024 * l + D) = 1 ∧ Cn p (Lm - l) l D) ∨ (W 393 (1024 * l + D) = 0 ∧ ¬ Cn p (Lm - l) l D)
theorem refOK_fr {W : Nat → Int → Int} (f : ∀ b, b ≠ 393 → b ≠ 379 → W b = V b) (h : refOK n p V) : refOK n p W := by
  unfold refOK at *
  rw [f 376 (by decide) (by decide), f 391 (by decide) (by decide), f 392 (by decide) (by decide), f 380 (by decide) (by decide)]
  exact h
/-- free works -/
theorem vd_sub {l : Int} {S D : Nat} (h : Vd p l S D) : S &&& dif (allW p) D = S := by
  apply Nat.eq_of_testBit_eq
  intro i
  rw [Nat.testBit_and, dif_bit, all_bit]
  cases hi : S.testBit i with
  | false => rfl
  | true =>
    have hr := h.1 i hi
    rw [hr.2.1, decide_eq_true hr.1]; rfl
theorem sub_ok {s D k : Nat} (hf : ∀ i, (dif (2 ^ k - 1) D).testBit i = (decide (i < k) && !D.testBit i)) (hs : s &&& dif (2 ^ k - 1) D = s) : s < 2 ^ k := by
  apply Nat.lt_pow_two_of_testBit
  intro i hi
  have := congrArg (fun x => Nat.testBit x i) hs
  simp only [Nat.testBit_and, hf, decide_eq_false (show ¬ i < k by omega), Bool.false_and, Bool.and_false] at this
  exact this.symm
/-- the search for a set -/
theorem m_fc_set {Lm l D k : Nat} {W : Nat → Int → Int} (hG : Good n L G) (h : refOK n p W) (hk : p.2.1 = k) (hl : l < Lm) (hL : Lm ≤ 12) (hD : D < 2 ^ k) (hc : canR p Lm W (l + 1)) : ∀ (s : Nat), s &&& dif (2 ^ k - 1) D = s → (∀ t, t &&& dif (2 ^ k - 1) D = t → s < t → ¬ (Vd p l t D ∧ Cn p (Lm - (l + 1)) ((l : Int) + 1) (D ||| t))) → ∃ r u7 u8, run (d + 3) 1129 79 [xR 376, xI Lm, xI ((2 ^ k - 1 : Nat) : Int), xI l, xI D, xI ((dif (2 ^ k - 1) D : Nat) : Int), xI 0, xI s, xI 1] [] (W, G) = run (d + 3) 1129 153 [xR 376, xI Lm, xI ((2 ^ k - 1 : Nat) : Int), xI l, xI D, xI ((dif (2 ^ k - 1) D : Nat) : Int), xI r, u7, u8] [] (W, G) ∧ ((r = 1 ∧ ∃ t, Vd p l t D ∧ Cn p (Lm - (l + 1)) ((l : Int) + 1) (D ||| t)) ∨ (r = 0 ∧ ∀ t, ¬ (Vd p l t D ∧ Cn p (Lm - (l + 1)) ((l : Int) + 1) (D ||| t)))) := by
  obtain ⟨h1, h2, h3, h4, h5⟩ := id h
  have hp10 := pow_10 h2.2
  rw [hk] at hp10
  have hfb : ∀ i, (dif (2 ^ k - 1) D).testBit i = (decide (i < k) && !D.testBit i) := fun i => by rw [dif_bit, Nat.testBit_two_pow_sub_one]
  have hfr : dif (2 ^ k - 1) D < 2 ^ k := by have := dif_le (2 ^ k - 1) D; have := Nat.two_pow_pos k; omega
  have hal : allW p = 2 ^ k - 1 := by unfold allW; rw [hk]
  intro s
  induction s using Nat.strongRecOn with
  | ind s ih =>
    intro hs hall
    have hsk := sub_ok hfb hs
    have hor : orI (D : Int) (s : Int) = ((D ||| s : Nat) : Int) := or_N (by omega) (by omega)
    have hork : D ||| s < 2 ^ k := Nat.or_lt_two_pow hD hsk
    have hcs := hc (D ||| s) (by rw [hk]; exact hork)
    rw [show ((l + 1 : Nat) : Int) = (l : Int) + 1 by omega] at hcs
    obtain ⟨r, r1, r2⟩ := m_mayDo (d := d) (l := l) (S := s) (D := D) hG h (by omega) (by rw [hk]; exact hsk) (by rw [hk]; exact hD)
    have r1' : run (d + 2) 1130 0 [xR 376, xI l, xI s, xI D, xU, xU, xU] [] (W, G) = some (some (xI r), (W, G)) := r1
    by_cases good : Vd p l s D ∧ Cn p (Lm - (l + 1)) ((l : Int) + 1) (D ||| s)
    · -- found
      have e1 : W 393 (1024 * ((l : Int) + 1) + ((D ||| s : Nat) : Int)) = 1 := by
        rcases hcs with ⟨y, _⟩ | ⟨_, y⟩
        · exact y
        · exact absurd good.2 y
      have e2 : r = 1 := by
        rcases r2 with ⟨y, _⟩ | ⟨_, y⟩
        · exact y
        · exact absurd good.1 y
      subst e2
      have hex : ∃ u7 u8, run (d + 3) 1129 79 [xR 376, xI Lm, xI ((2 ^ k - 1 : Nat) : Int), xI l, xI D, xI ((dif (2 ^ k - 1) D : Nat) : Int), xI 0, xI s, xI 1] [] (W, G) = run (d + 3) 1129 79 [xR 376, xI Lm, xI ((2 ^ k - 1 : Nat) : Int), xI l, xI D, xI ((dif (2 ^ k - 1) D : Nat) : Int), xI 1, u7, xI u8] [] (W, G) := by
        by_cases z : s = 0
        · refine ⟨xI (andI ((s : Int) - 1) ((dif (2 ^ k - 1) D : Nat) : Int)), 0, ?_⟩
          rw [bk1129_79]
          simp (disch := first | omega | exact Nat.le_of_ble_eq_true rfl) only [bk1129_0, bk1129_36, bk1129_37, bk1129_44, bk1129_126, bk1129_127, bk1129_138, bk1129_139, bk1129_153, bk1129_174, bk1129_180, Int.reduceToNat, vA_ap, Nat.reduceEqDiff, if_true, if_false, bx_nil, isL_I, isL_R, isL_U, if_ff, bind_some, tl_some, tl_none, bx_iconst, bx_aload_0, gf376_21 hG, bx_ishl, bx_isub, bx_istore_2, bx_istore_3, bx_iload_3, bx_iload_2, bx_ic_gt, gf376_22 hG, ia393 hG, is393 hG, bx_sipush, bx_iload_1, bx_imul, bx_iadd, bx_ic_ne, bx_goto, bx_iinc3, bx_if_lt, bx_istore4, bx_iload4, bx_ixor, bx_iand, bx_istore5, bx_istore6, bx_iload5, bx_istore7, bx_istore8, bx_iload8, bx_if_eq, bx_iload6, bx_if_ne, bx_iload7, bx_ior, cl1130 hG, bx_if_le, bx_iinc4, bx_vret, one_ne, if_true, hor, e1, r1', if_pos (show (s : Int) ≤ 0 by omega)]
        · refine ⟨xI (andI ((s : Int) - 1) ((dif (2 ^ k - 1) D : Nat) : Int)), 1, ?_⟩
          rw [bk1129_79]
          simp (disch := first | omega | exact Nat.le_of_ble_eq_true rfl) only [bk1129_0, bk1129_36, bk1129_37, bk1129_44, bk1129_126, bk1129_127, bk1129_138, bk1129_139, bk1129_153, bk1129_174, bk1129_180, Int.reduceToNat, vA_ap, Nat.reduceEqDiff, if_true, if_false, bx_nil, isL_I, isL_R, isL_U, if_ff, bind_some, tl_some, tl_none, bx_iconst, bx_aload_0, gf376_21 hG, bx_ishl, bx_isub, bx_istore_2, bx_istore_3, bx_iload_3, bx_iload_2, bx_ic_gt, gf376_22 hG, ia393 hG, is393 hG, bx_sipush, bx_iload_1, bx_imul, bx_iadd, bx_ic_ne, bx_goto, bx_iinc3, bx_if_lt, bx_istore4, bx_iload4, bx_ixor, bx_iand, bx_istore5, bx_istore6, bx_iload5, bx_istore7, bx_istore8, bx_iload8, bx_if_eq, bx_iload6, bx_if_ne, bx_iload7, bx_ior, cl1130 hG, bx_if_le, bx_iinc4, bx_vret, one_ne, if_true, hor, e1, r1', if_neg (show ¬ (s : Int) ≤ 0 by omega)]
      obtain ⟨u7, u8, hx⟩ := hex
      refine ⟨1, u7, xI u8, ?_, Or.inl ⟨rfl, s, good⟩⟩
      rw [hx, bk1129_79]
      by_cases z : u8 = 0
      · simp (disch := first | omega | exact Nat.le_of_ble_eq_true rfl) only [bx_iload8, bx_if_eq, if_pos z, Int.reduceToNat]
      · simp (disch := first | omega | exact Nat.le_of_ble_eq_true rfl) only [bx_iload8, bx_if_eq, if_neg z, bx_iload6, bx_if_ne, one_ne, if_false, Int.reduceToNat]
    · -- on
      have hstep : ∀ u8 : Int, (u8 = 0 ∧ s = 0 ∨ u8 = 1 ∧ ¬ s = 0) → run (d + 3) 1129 79 [xR 376, xI Lm, xI ((2 ^ k - 1 : Nat) : Int), xI l, xI D, xI ((dif (2 ^ k - 1) D : Nat) : Int), xI 0, xI s, xI 1] [] (W, G) = run (d + 3) 1129 79 [xR 376, xI Lm, xI ((2 ^ k - 1 : Nat) : Int), xI l, xI D, xI ((dif (2 ^ k - 1) D : Nat) : Int), xI 0, xI (andI ((s : Int) - 1) ((dif (2 ^ k - 1) D : Nat) : Int)), xI u8] [] (W, G) := fun u8 hu => by
        rw [bk1129_79]
        rcases hcs with ⟨y1, y2⟩ | ⟨y1, y2⟩
        · have r0 : r = 0 := by
            rcases r2 with ⟨_, z⟩ | ⟨z, _⟩
            · exact absurd ⟨z, y2⟩ good
            · exact z
          subst r0
          rcases hu with ⟨rfl, z⟩ | ⟨rfl, z⟩
          · simp (disch := first | omega | exact Nat.le_of_ble_eq_true rfl) only [bk1129_0, bk1129_36, bk1129_37, bk1129_44, bk1129_126, bk1129_127, bk1129_138, bk1129_139, bk1129_153, bk1129_174, bk1129_180, Int.reduceToNat, vA_ap, Nat.reduceEqDiff, if_true, if_false, bx_nil, isL_I, isL_R, isL_U, if_ff, bind_some, tl_some, tl_none, bx_iconst, bx_aload_0, gf376_21 hG, bx_ishl, bx_isub, bx_istore_2, bx_istore_3, bx_iload_3, bx_iload_2, bx_ic_gt, gf376_22 hG, ia393 hG, is393 hG, bx_sipush, bx_iload_1, bx_imul, bx_iadd, bx_ic_ne, bx_goto, bx_iinc3, bx_if_lt, bx_istore4, bx_iload4, bx_ixor, bx_iand, bx_istore5, bx_istore6, bx_iload5, bx_istore7, bx_istore8, bx_iload8, bx_if_eq, bx_iload6, bx_if_ne, bx_iload7, bx_ior, cl1130 hG, bx_if_le, bx_iinc4, bx_vret, one_ne, if_true, hor, y1, r1', if_pos (show (s : Int) ≤ 0 by omega)]
          · simp (disch := first | omega | exact Nat.le_of_ble_eq_true rfl) only [bk1129_0, bk1129_36, bk1129_37, bk1129_44, bk1129_126, bk1129_127, bk1129_138, bk1129_139, bk1129_153, bk1129_174, bk1129_180, Int.reduceToNat, vA_ap, Nat.reduceEqDiff, if_true, if_false, bx_nil, isL_I, isL_R, isL_U, if_ff, bind_some, tl_some, tl_none, bx_iconst, bx_aload_0, gf376_21 hG, bx_ishl, bx_isub, bx_istore_2, bx_istore_3, bx_iload_3, bx_iload_2, bx_ic_gt, gf376_22 hG, ia393 hG, is393 hG, bx_sipush, bx_iload_1, bx_imul, bx_iadd, bx_ic_ne, bx_goto, bx_iinc3, bx_if_lt, bx_istore4, bx_iload4, bx_ixor, bx_iand, bx_istore5, bx_istore6, bx_iload5, bx_istore7, bx_istore8, bx_iload8, bx_if_eq, bx_iload6, bx_if_ne, bx_iload7, bx_ior, cl1130 hG, bx_if_le, bx_iinc4, bx_vret, one_ne, if_true, hor, y1, r1', if_neg (show ¬ (s : Int) ≤ 0 by omega)]
        · rcases hu with ⟨rfl, z⟩ | ⟨rfl, z⟩
          · simp (disch := first | omega | exact Nat.le_of_ble_eq_true rfl) only [bk1129_0, bk1129_36, bk1129_37, bk1129_44, bk1129_126, bk1129_127, bk1129_138, bk1129_139, bk1129_153, bk1129_174, bk1129_180, Int.reduceToNat, vA_ap, Nat.reduceEqDiff, if_true, if_false, bx_nil, isL_I, isL_R, isL_U, if_ff, bind_some, tl_some, tl_none, bx_iconst, bx_aload_0, gf376_21 hG, bx_ishl, bx_isub, bx_istore_2, bx_istore_3, bx_iload_3, bx_iload_2, bx_ic_gt, gf376_22 hG, ia393 hG, is393 hG, bx_sipush, bx_iload_1, bx_imul, bx_iadd, bx_ic_ne, bx_goto, bx_iinc3, bx_if_lt, bx_istore4, bx_iload4, bx_ixor, bx_iand, bx_istore5, bx_istore6, bx_iload5, bx_istore7, bx_istore8, bx_iload8, bx_if_eq, bx_iload6, bx_if_ne, bx_iload7, bx_ior, cl1130 hG, bx_if_le, bx_iinc4, bx_vret, one_ne, if_true, hor, y1, if_pos (show (s : Int) ≤ 0 by omega)]
          · simp (disch := first | omega | exact Nat.le_of_ble_eq_true rfl) only [bk1129_0, bk1129_36, bk1129_37, bk1129_44, bk1129_126, bk1129_127, bk1129_138, bk1129_139, bk1129_153, bk1129_174, bk1129_180, Int.reduceToNat, vA_ap, Nat.reduceEqDiff, if_true, if_false, bx_nil, isL_I, isL_R, isL_U, if_ff, bind_some, tl_some, tl_none, bx_iconst, bx_aload_0, gf376_21 hG, bx_ishl, bx_isub, bx_istore_2, bx_istore_3, bx_iload_3, bx_iload_2, bx_ic_gt, gf376_22 hG, ia393 hG, is393 hG, bx_sipush, bx_iload_1, bx_imul, bx_iadd, bx_ic_ne, bx_goto, bx_iinc3, bx_if_lt, bx_istore4, bx_iload4, bx_ixor, bx_iand, bx_istore5, bx_istore6, bx_iload5, bx_istore7, bx_istore8, bx_iload8, bx_if_eq, bx_iload6, bx_if_ne, bx_iload7, bx_ior, cl1130 hG, bx_if_le, bx_iinc4, bx_vret, one_ne, if_true, hor, y1, if_neg (show ¬ (s : Int) ≤ 0 by omega)]
      by_cases z : s = 0
      · refine ⟨0, xI (andI ((s : Int) - 1) ((dif (2 ^ k - 1) D : Nat) : Int)), xI 0, ?_, Or.inr ⟨rfl, fun t ht => ?_⟩⟩
        · rw [hstep 0 (Or.inl ⟨rfl, z⟩), bk1129_79]
          simp (disch := first | omega | exact Nat.le_of_ble_eq_true rfl) only [bx_iload8, bx_if_eq, if_true, Int.reduceToNat]
        · have hts := vd_sub ht.1
          rw [hal] at hts
          by_cases e : t = s
          · subst e; exact good ht
          · exact hall t hts (by omega) ht
      · have hns : andI ((s : Int) - 1) ((dif (2 ^ k - 1) D : Nat) : Int) = (((s - 1) &&& dif (2 ^ k - 1) D : Nat) : Int) := by
          have h := and_N (a := s - 1) (b := dif (2 ^ k - 1) D) (by omega) (by omega)
          rw [show ((s - 1 : Nat) : Int) = (s : Int) - 1 by omega] at h
          exact h
        have hst := hstep 1 (Or.inr ⟨rfl, z⟩)
        rw [hns] at hst
        rw [hst]
        refine ih ((s - 1) &&& dif (2 ^ k - 1) D) (sub_lt (by omega)) (sub_and _ _) (fun t ht hlt => ?_)
        by_cases e : t = s
        · subst e; exact good
        · refine hall t ht ?_
          apply Classical.byContradiction
          intro y2
          have := sub_next s _ t hs ht (by omega)
          omega
theorem m_fillCan {Lm : Nat} (hG : Good n L G) (h : refOK n p V) (hL : Lm ≤ 12) : ∃ W, run (d + 3) 1129 0 [xR 376, xI Lm, xU, xU, xU, xU, xU, xU, xU] [] (V, G) = some (none, (W, G)) ∧ (∀ b, b ≠ 393 → W b = V b) ∧ ∀ l, l ≤ Lm → canR p Lm W l := by
  obtain ⟨h1, h2, h3, h4, h5⟩ := id h
  have hp10 := pow_10 h2.2
  obtain ⟨k, hk⟩ : ∃ k, p.2.1 = k := ⟨_, rfl⟩
  rw [hk] at hp10
  have hwk : V 376 21 = k := by rw [h2.1, hk]
  have hk10 : k ≤ 10 := by omega
  have h2p := Nat.two_pow_pos k
  have hsh := shl_N (w := k) (by omega)
  have hal : allW p = 2 ^ k - 1 := by unfold allW; rw [hk]
  have hallc : ((2 ^ k : Nat) : Int) - 1 = ((2 ^ k - 1 : Nat) : Int) := by omega
  -- the last row
  have l1 := it_inv (D := d + 3) (q := 1129) (pc := 11) (hi := ((2 ^ k : Nat) : Int)) (I := fun D ls μ => ls = [xR 376, xI Lm, xI ((2 ^ k - 1 : Nat) : Int), xI D, xU, xU, xU, xU, xU] ∧ ∃ W, μ = (W, G) ∧ (∀ b, b ≠ 393 → W b = V b) ∧ ∀ D' : Nat, (D' : Int) < D → W 393 (1024 * Lm + D') = if D' = 2 ^ k - 1 then 1 else 0) (Q := fun y => ∃ W, y = run (d + 3) 1129 48 [xR 376, xI Lm, xI ((2 ^ k - 1 : Nat) : Int), xI ((Lm : Int) - 1), xU, xU, xU, xU, xU] [] (W, G) ∧ (∀ b, b ≠ 393 → W b = V b) ∧ canR p Lm W Lm) (fun ls μ hI => by
    obtain ⟨rfl, W, rfl, w1, w2⟩ := hI
    refine ⟨W, ?_, w1, fun D hD => ?_⟩
    · rw [bk1129_11]
      simp (disch := first | omega | exact Nat.le_of_ble_eq_true rfl) only [bk1129_0, bk1129_36, bk1129_37, bk1129_44, bk1129_126, bk1129_127, bk1129_138, bk1129_139, bk1129_153, bk1129_174, bk1129_180, Int.reduceToNat, vA_ap, Nat.reduceEqDiff, if_true, if_false, bx_nil, isL_I, isL_R, isL_U, if_ff, bind_some, tl_some, tl_none, bx_iconst, bx_aload_0, gf376_21 hG, bx_ishl, bx_isub, bx_istore_2, bx_istore_3, bx_iload_3, bx_iload_2, bx_ic_gt, gf376_22 hG, ia393 hG, is393 hG, bx_sipush, bx_iload_1, bx_imul, bx_iadd, bx_ic_ne, bx_goto, bx_iinc3, bx_if_lt, bx_istore4, bx_iload4, bx_ixor, bx_iand, bx_istore5, bx_istore6, bx_iload5, bx_istore7, bx_istore8, bx_iload8, bx_if_eq, bx_iload6, bx_if_ne, bx_iload7, bx_ior, cl1130 hG, bx_if_le, bx_iinc4, bx_vret, if_pos (show ((2 ^ k - 1 : Nat) : Int) < ((2 ^ k : Nat) : Int) by omega)]
    · rw [hk] at hD
      rw [w2 D (by omega), show Lm - Lm = 0 by omega]
      by_cases e : D = 2 ^ k - 1
      · rw [if_pos e]
        exact Or.inl ⟨rfl, by show D = allW p; rw [hal]; exact e⟩
      · rw [if_neg e]
        exact Or.inr ⟨rfl, fun y => e (by rw [← hal]; exact y)⟩) (2 ^ k) 0 (by omega) (fun D ls μ D0 D1 hI => by
    obtain ⟨rfl, W, rfl, w1, w2⟩ := hI
    obtain ⟨Dn, rfl⟩ : ∃ Dn : Nat, D = Dn := ⟨D.toNat, by omega⟩
    left
    have hgo : ∀ x : Int, (x = 0 ∨ x = 1) → x = (if Dn = 2 ^ k - 1 then 1 else 0) → ∀ D' : Nat, (D' : Int) < (Dn : Int) + 1 → vU (W 393) (1024 * Lm + Dn) x (1024 * Lm + D') = if D' = 2 ^ k - 1 then 1 else 0 := fun x _ hx D' hD' => by
      by_cases e : D' = Dn
      · rw [e, vU_at]; exact hx
      · rw [vU_ne (by omega)]; exact w2 D' (by omega)
    by_cases q : (Dn : Int) = ((2 ^ k - 1 : Nat) : Int)
    · refine ⟨_, _, ⟨rfl, vA W 393 (vU (W 393) (1024 * Lm + Dn) 1), rfl, fun b hb => by rw [vA_ne hb]; exact w1 b hb, by rw [vA_same]; exact hgo 1 (Or.inr rfl) (by rw [if_pos (by omega)])⟩, ?_⟩
      rw [bk1129_11]
      simp (disch := first | omega | exact Nat.le_of_ble_eq_true rfl) only [bk1129_0, bk1129_36, bk1129_37, bk1129_44, bk1129_126, bk1129_127, bk1129_138, bk1129_139, bk1129_153, bk1129_174, bk1129_180, Int.reduceToNat, vA_ap, Nat.reduceEqDiff, if_true, if_false, bx_nil, isL_I, isL_R, isL_U, if_ff, bind_some, tl_some, tl_none, bx_iconst, bx_aload_0, gf376_21 hG, bx_ishl, bx_isub, bx_istore_2, bx_istore_3, bx_iload_3, bx_iload_2, bx_ic_gt, gf376_22 hG, ia393 hG, is393 hG, bx_sipush, bx_iload_1, bx_imul, bx_iadd, bx_ic_ne, bx_goto, bx_iinc3, bx_if_lt, bx_istore4, bx_iload4, bx_ixor, bx_iand, bx_istore5, bx_istore6, bx_iload5, bx_istore7, bx_istore8, bx_iload8, bx_if_eq, bx_iload6, bx_if_ne, bx_iload7, bx_ior, cl1130 hG, bx_if_le, bx_iinc4, bx_vret, if_neg (show ¬ ((2 ^ k - 1 : Nat) : Int) < Dn by omega), if_pos q, is393 hG (Or.inr rfl : (1 : Int) = 0 ∨ (1 : Int) = 1)]
    · refine ⟨_, _, ⟨rfl, vA W 393 (vU (W 393) (1024 * Lm + Dn) 0), rfl, fun b hb => by rw [vA_ne hb]; exact w1 b hb, by rw [vA_same]; exact hgo 0 (Or.inl rfl) (by rw [if_neg (by omega)])⟩, ?_⟩
      rw [bk1129_11]
      simp (disch := first | omega | exact Nat.le_of_ble_eq_true rfl) only [bk1129_0, bk1129_36, bk1129_37, bk1129_44, bk1129_126, bk1129_127, bk1129_138, bk1129_139, bk1129_153, bk1129_174, bk1129_180, Int.reduceToNat, vA_ap, Nat.reduceEqDiff, if_true, if_false, bx_nil, isL_I, isL_R, isL_U, if_ff, bind_some, tl_some, tl_none, bx_iconst, bx_aload_0, gf376_21 hG, bx_ishl, bx_isub, bx_istore_2, bx_istore_3, bx_iload_3, bx_iload_2, bx_ic_gt, gf376_22 hG, ia393 hG, is393 hG, bx_sipush, bx_iload_1, bx_imul, bx_iadd, bx_ic_ne, bx_goto, bx_iinc3, bx_if_lt, bx_istore4, bx_iload4, bx_ixor, bx_iand, bx_istore5, bx_istore6, bx_iload5, bx_istore7, bx_istore8, bx_iload8, bx_if_eq, bx_iload6, bx_if_ne, bx_iload7, bx_ior, cl1130 hG, bx_if_le, bx_iinc4, bx_vret, if_neg (show ¬ ((2 ^ k - 1 : Nat) : Int) < Dn by omega), if_neg q, is393 hG (Or.inl rfl : (0 : Int) = 0 ∨ (0 : Int) = 1)])
  obtain ⟨A, a1, a2, a3⟩ := l1 [xR 376, xI Lm, xI ((2 ^ k - 1 : Nat) : Int), xI 0, xU, xU, xU, xU, xU] (V, G) ⟨rfl, V, rfl, fun _ _ => rfl, fun D' hD' => by omega⟩
  -- a row
  have row : ∀ (l : Nat) (W : Nat → Int → Int) (u4 u5 u6 u7 u8 : XV), l < Lm → (∀ b, b ≠ 393 → W b = V b) → (∀ j, l < j → j ≤ Lm → canR p Lm W j) → ∃ U v4 v5 v6 v7 v8, run (d + 3) 1129 48 [xR 376, xI Lm, xI ((2 ^ k - 1 : Nat) : Int), xI l, u4, u5, u6, u7, u8] [] (W, G) = run (d + 3) 1129 48 [xR 376, xI Lm, xI ((2 ^ k - 1 : Nat) : Int), xI ((l : Int) - 1), v4, v5, v6, v7, v8] [] (U, G) ∧ (∀ b, b ≠ 393 → U b = V b) ∧ ∀ j, l ≤ j → j ≤ Lm → canR p Lm U j := fun l W u4 u5 u6 u7 u8 hl fW hW => by
    have lp := it_inv (D := d + 3) (q := 1129) (pc := 55) (hi := ((2 ^ k : Nat) : Int)) (I := fun D ls μ => (∃ u5 u6 u7 u8, ls = [xR 376, xI Lm, xI ((2 ^ k - 1 : Nat) : Int), xI l, xI D, u5, u6, u7, u8]) ∧ ∃ U, μ = (U, G) ∧ (∀ b, b ≠ 393 → U b = V b) ∧ (∀ j, l < j → j ≤ Lm → canR p Lm U j) ∧ ∀ D' : Nat, (D' : Int) < D → (U 393 (1024 * l + D') = 1 ∧ Cn p (Lm - l) l D') ∨ (U 393 (1024 * l + D') = 0 ∧ ¬ Cn p (Lm - l) l D')) (Q := fun y => ∃ U v4 v5 v6 v7 v8, y = run (d + 3) 1129 48 [xR 376, xI Lm, xI ((2 ^ k - 1 : Nat) : Int), xI ((l : Int) - 1), v4, v5, v6, v7, v8] [] (U, G) ∧ (∀ b, b ≠ 393 → U b = V b) ∧ ∀ j, l ≤ j → j ≤ Lm → canR p Lm U j) (fun ls μ hI => by
      obtain ⟨⟨u5, u6, u7, u8, rfl⟩, U, rfl, g1, g2, g3⟩ := hI
      refine ⟨U, xI ((2 ^ k : Nat) : Int), u5, u6, u7, u8, ?_, g1, fun j hj hj2 => ?_⟩
      · rw [bk1129_55, show (l : Int) - 1 = (l : Int) + -1 by omega]
        simp (disch := first | omega | exact Nat.le_of_ble_eq_true rfl) only [bk1129_0, bk1129_36, bk1129_37, bk1129_44, bk1129_126, bk1129_127, bk1129_138, bk1129_139, bk1129_153, bk1129_174, bk1129_180, Int.reduceToNat, vA_ap, Nat.reduceEqDiff, if_true, if_false, bx_nil, isL_I, isL_R, isL_U, if_ff, bind_some, tl_some, tl_none, bx_iconst, bx_aload_0, gf376_21 hG, bx_ishl, bx_isub, bx_istore_2, bx_istore_3, bx_iload_3, bx_iload_2, bx_ic_gt, gf376_22 hG, ia393 hG, is393 hG, bx_sipush, bx_iload_1, bx_imul, bx_iadd, bx_ic_ne, bx_goto, bx_iinc3, bx_if_lt, bx_istore4, bx_iload4, bx_ixor, bx_iand, bx_istore5, bx_istore6, bx_iload5, bx_istore7, bx_istore8, bx_iload8, bx_if_eq, bx_iload6, bx_if_ne, bx_iload7, bx_ior, cl1130 hG, bx_if_le, bx_iinc4, bx_vret, if_pos (show ((2 ^ k - 1 : Nat) : Int) < ((2 ^ k : Nat) : Int) by omega)]
      · by_cases e : j = l
        · subst e
          intro D hD
          rw [hk] at hD
          exact g3 D (by omega)
        · exact g2 j (by omega) hj2) (2 ^ k) 0 (by omega) (fun D ls μ D0 D1 hI => by
      obtain ⟨⟨u5, u6, u7, u8, rfl⟩, U, rfl, g1, g2, g3⟩ := hI
      obtain ⟨Dn, rfl⟩ : ∃ Dn : Nat, D = Dn := ⟨D.toNat, by omega⟩
      left
      have hdf := dif_N (a := 2 ^ k - 1) (b := Dn) (by omega) (by omega)
      obtain ⟨r, u7', u8', s1, s2⟩ := m_fc_set (d := d) (Lm := Lm) (l := l) (D := Dn) (k := k) (W := U) hG (refOK_fr (fun b b1 _ => g1 b b1) h) hk hl hL (by omega) (g2 (l + 1) (by omega) (by omega)) (dif (2 ^ k - 1) Dn) (Nat.and_self _) (fun t ht hlt => by
        have : t ≤ dif (2 ^ k - 1) Dn := by rw [← ht]; exact Nat.and_le_right
        omega)
      have hr01 : r = 0 ∨ r = 1 := by rcases s2 with ⟨y, _⟩ | ⟨y, _⟩ <;> omega
      refine ⟨_, _, ⟨⟨xI ((dif (2 ^ k - 1) Dn : Nat) : Int), xI r, u7', u8', rfl⟩, vA U 393 (vU (U 393) (1024 * l + Dn) r), rfl, fun b hb => by rw [vA_ne hb]; exact g1 b hb, fun j hj hj2 D' hD' => ?_, fun D' hD' => ?_⟩, ?_⟩
      · rw [hk] at hD'
        rw [vA_same, vU_ne (by omega)]
        exact g2 j hj hj2 D' (by rw [hk]; exact hD')
      · rw [vA_same]
        by_cases e : D' = Dn
        · subst e
          rw [vU_at, show Lm - l = (Lm - (l + 1)) + 1 by omega]
          rcases s2 with ⟨y1, t, y2, y3⟩ | ⟨y1, y2⟩
          · exact Or.inl ⟨y1, t, y2, y3⟩
          · exact Or.inr ⟨y1, fun ⟨t, z1, z2⟩ => y2 t ⟨z1, z2⟩⟩
        · rw [vU_ne (by omega)]
          exact g3 D' (by omega)
      · have hst : run (d + 3) 1129 55 [xR 376, xI Lm, xI ((2 ^ k - 1 : Nat) : Int), xI l, xI Dn, u5, u6, u7, u8] [] (U, G) = run (d + 3) 1129 79 [xR 376, xI Lm, xI ((2 ^ k - 1 : Nat) : Int), xI l, xI Dn, xI ((dif (2 ^ k - 1) Dn : Nat) : Int), xI 0, xI ((dif (2 ^ k - 1) Dn : Nat) : Int), xI 1] [] (U, G) := by
          rw [bk1129_55]
          simp (disch := first | omega | exact Nat.le_of_ble_eq_true rfl) only [bk1129_0, bk1129_36, bk1129_37, bk1129_44, bk1129_126, bk1129_127, bk1129_138, bk1129_139, bk1129_153, bk1129_174, bk1129_180, Int.reduceToNat, vA_ap, Nat.reduceEqDiff, if_true, if_false, bx_nil, isL_I, isL_R, isL_U, if_ff, bind_some, tl_some, tl_none, bx_iconst, bx_aload_0, gf376_21 hG, bx_ishl, bx_isub, bx_istore_2, bx_istore_3, bx_iload_3, bx_iload_2, bx_ic_gt, gf376_22 hG, ia393 hG, is393 hG, bx_sipush, bx_iload_1, bx_imul, bx_iadd, bx_ic_ne, bx_goto, bx_iinc3, bx_if_lt, bx_istore4, bx_iload4, bx_ixor, bx_iand, bx_istore5, bx_istore6, bx_iload5, bx_istore7, bx_istore8, bx_iload8, bx_if_eq, bx_iload6, bx_if_ne, bx_iload7, bx_ior, cl1130 hG, bx_if_le, bx_iinc4, bx_vret, if_neg (show ¬ ((2 ^ k - 1 : Nat) : Int) < Dn by omega), hdf]
        rw [hst, s1]
        simp (disch := first | omega | exact Nat.le_of_ble_eq_true rfl) only [bk1129_0, bk1129_36, bk1129_37, bk1129_44, bk1129_126, bk1129_127, bk1129_138, bk1129_139, bk1129_153, bk1129_174, bk1129_180, Int.reduceToNat, vA_ap, Nat.reduceEqDiff, if_true, if_false, bx_nil, isL_I, isL_R, isL_U, if_ff, bind_some, tl_some, tl_none, bx_iconst, bx_aload_0, gf376_21 hG, bx_ishl, bx_isub, bx_istore_2, bx_istore_3, bx_iload_3, bx_iload_2, bx_ic_gt, gf376_22 hG, ia393 hG, is393 hG, bx_sipush, bx_iload_1, bx_imul, bx_iadd, bx_ic_ne, bx_goto, bx_iinc3, bx_if_lt, bx_istore4, bx_iload4, bx_ixor, bx_iand, bx_istore5, bx_istore6, bx_iload5, bx_istore7, bx_istore8, bx_iload8, bx_if_eq, bx_iload6, bx_if_ne, bx_iload7, bx_ior, cl1130 hG, bx_if_le, bx_iinc4, bx_vret, is393 hG hr01])
    have hst : run (d + 3) 1129 48 [xR 376, xI Lm, xI ((2 ^ k - 1 : Nat) : Int), xI l, u4, u5, u6, u7, u8] [] (W, G) = run (d + 3) 1129 55 [xR 376, xI Lm, xI ((2 ^ k - 1 : Nat) : Int), xI l, xI 0, u5, u6, u7, u8] [] (W, G) := by
      rw [bk1129_48]
      simp (disch := first | omega | exact Nat.le_of_ble_eq_true rfl) only [bx_iload_3, bx_if_lt, if_neg (show ¬ (l : Int) < 0 by omega), bx_iconst, bx_istore4, isL_I, if_ff, bx_nil]
    rw [hst]
    exact lp _ _ ⟨⟨u5, u6, u7, u8, rfl⟩, W, rfl, fW, hW, fun D' hD' => by omega⟩
  -- all rows
  have rows : ∀ (m : Nat) (W : Nat → Int → Int) (u4 u5 u6 u7 u8 : XV), m ≤ Lm → (∀ b, b ≠ 393 → W b = V b) → (∀ j, m ≤ j → j ≤ Lm → canR p Lm W j) → ∃ U, run (d + 3) 1129 48 [xR 376, xI Lm, xI ((2 ^ k - 1 : Nat) : Int), xI ((m : Int) - 1), u4, u5, u6, u7, u8] [] (W, G) = some (none, (U, G)) ∧ (∀ b, b ≠ 393 → U b = V b) ∧ ∀ j, j ≤ Lm → canR p Lm U j := by
    intro m
    induction m with
    | zero =>
      intro W u4 u5 u6 u7 u8 hm fW hW
      refine ⟨W, ?_, fW, fun j hj => hW j (by omega) hj⟩
      rw [bk1129_48]
      simp (disch := first | omega | exact Nat.le_of_ble_eq_true rfl) only [bk1129_0, bk1129_36, bk1129_37, bk1129_44, bk1129_126, bk1129_127, bk1129_138, bk1129_139, bk1129_153, bk1129_174, bk1129_180, Int.reduceToNat, vA_ap, Nat.reduceEqDiff, if_true, if_false, bx_nil, isL_I, isL_R, isL_U, if_ff, bind_some, tl_some, tl_none, bx_iconst, bx_aload_0, gf376_21 hG, bx_ishl, bx_isub, bx_istore_2, bx_istore_3, bx_iload_3, bx_iload_2, bx_ic_gt, gf376_22 hG, ia393 hG, is393 hG, bx_sipush, bx_iload_1, bx_imul, bx_iadd, bx_ic_ne, bx_goto, bx_iinc3, bx_if_lt, bx_istore4, bx_iload4, bx_ixor, bx_iand, bx_istore5, bx_istore6, bx_iload5, bx_istore7, bx_istore8, bx_iload8, bx_if_eq, bx_iload6, bx_if_ne, bx_iload7, bx_ior, cl1130 hG, bx_if_le, bx_iinc4, bx_vret, if_pos (show ((0 : Nat) : Int) - 1 < 0 by omega)]
    | succ m ih =>
      intro W u4 u5 u6 u7 u8 hm fW hW
      obtain ⟨U, v4, v5, v6, v7, v8, o1, o2, o3⟩ := row m W u4 u5 u6 u7 u8 (by omega) fW (fun j hj hj2 => hW j (by omega) hj2)
      rw [show ((m + 1 : Nat) : Int) - 1 = (m : Int) by omega, o1]
      exact ih U v4 v5 v6 v7 v8 (by omega) o2 (fun j hj hj2 => o3 j (by omega) hj2)
  obtain ⟨U, o1, o2, o3⟩ := rows Lm A xU xU xU xU xU (Nat.le_refl _) a2 (fun j hj hj2 => by
    have : j = Lm := by omega
    rw [this]; exact a3)
  refine ⟨U, ?_, o2, fun l hl => o3 l hl⟩
  rw [← o1, ← a1]
  simp (disch := first | omega | exact Nat.le_of_ble_eq_true rfl) only [bk1129_0, bk1129_36, bk1129_37, bk1129_44, bk1129_126, bk1129_127, bk1129_138, bk1129_139, bk1129_153, bk1129_174, bk1129_180, Int.reduceToNat, vA_ap, Nat.reduceEqDiff, if_true, if_false, bx_nil, isL_I, isL_R, isL_U, if_ff, bind_some, tl_some, tl_none, bx_iconst, bx_aload_0, gf376_21 hG, bx_ishl, bx_isub, bx_istore_2, bx_istore_3, bx_iload_3, bx_iload_2, bx_ic_gt, gf376_22 hG, ia393 hG, is393 hG, bx_sipush, bx_iload_1, bx_imul, bx_iadd, bx_ic_ne, bx_goto, bx_iinc3, bx_if_lt, bx_istore4, bx_iload4, bx_ixor, bx_iand, bx_istore5, bx_istore6, bx_iload5, bx_istore7, bx_istore8, bx_iload8, bx_if_eq, bx_iload6, bx_if_ne, bx_iload7, bx_ior, cl1130 hG, bx_if_le, bx_iinc4, bx_vret, hwk, hsh, hallc]
end ML2
