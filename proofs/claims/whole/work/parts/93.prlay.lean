/-! LAY: the reference, and the pair -/
def bndQ (p : LayP) (b : Int) : Prop := (0 ≤ b ∧ b ≤ 12) ∧ (b = 0 ∨ ¬ bare p (b - 1)) ∧ ∀ l, b ≤ l → l < 12 → bare p l
theorem bnd_one {p : LayP} {b b' : Int} (h : bndQ p b) (h' : bndQ p b') : b = b' := by
  obtain ⟨a1, a2, a3⟩ := h
  obtain ⟨c1, c2, c3⟩ := h'
  apply Classical.byContradiction
  intro hne
  by_cases q : b < b'
  · exact (c2.resolve_left (by omega)) (a3 (b' - 1) (by omega) (by omega))
  · exact (a2.resolve_left (by omega)) (c3 (b - 1) (by omega) (by omega))
section MLP
variable {n L d : Nat} {G : XG} {V : Nat → Int → Int} {p : LayP}
theorem m_least (hG : Good n L G) (h : refOK n p V) : ∀ (m : Nat), m ≤ 12 → (∀ l, (m : Int) ≤ l → l < 12 → bare p l) → ∃ b : Nat, run (d + 3) 1127 3 [xR 376, xI m, xU, xU, xU, xU, xU, xU, xU, xU] [] (V, G) = run (d + 3) 1127 23 [xR 376, xI b, xU, xU, xU, xU, xU, xU, xU, xU] [] (V, G) ∧ bndQ p b := by
  intro m
  induction m with
  | zero =>
    intro hm hb
    refine ⟨0, ?_, by omega, Or.inl rfl, hb⟩
    rw [bk1127_3]
    simp (disch := first | omega | exact Nat.le_of_ble_eq_true rfl) only [bx_iload_1, bx_if_le, if_pos (show ((0 : Nat) : Int) ≤ 0 by omega), Int.reduceToNat]
  | succ m ih =>
    intro hm hb
    obtain ⟨r, r1, r2⟩ := m_isBare (d := d) (l := m) hG h (by omega)
    have r1' : run (d + 2) 1128 0 [xR 376, xI (((m + 1 : Nat) : Int) - 1), xU, xU] [] (V, G) = some (some (xI r), (V, G)) := by
      rw [show ((m + 1 : Nat) : Int) - 1 = (m : Int) by omega]; exact r1
    rcases r2 with ⟨rfl, r2⟩ | ⟨rfl, r2⟩
    · obtain ⟨b, o1, o2⟩ := ih (by omega) (fun l l0 l1 => by
        by_cases e : l = m
        · rw [e]; exact r2
        · exact hb l (by omega) l1)
      refine ⟨b, ?_, o2⟩
      rw [← o1, bk1127_3]
      simp (disch := first | omega | exact Nat.le_of_ble_eq_true rfl) only [bk1127_0, bk1127_23, bk1127_58, bk1127_59, bk1127_64, bk1127_71, bk1127_101, bk1127_108, bk1127_115, bk1127_181, bk1127_193, bk1127_255, bk1127_261, bk1127_274, Int.reduceToNat, vA_ap, Nat.reduceEqDiff, if_true, if_false, bx_nil, isL_I, isL_R, isL_U, if_ff, bind_some, tl_some, tl_none, bx_bipush, bx_istore_1, bx_iload_1, bx_if_le, bx_aload_0, bx_iconst, bx_isub, cl1128 hG, bx_if_eq, bx_iinc1, bx_goto, bx_istore_2, bx_istore_3, bx_iload_2, bx_ic_gt, bx_iload_3, bx_if_ne, cl1129 hG, gf376_22 hG, ia393 hG, is393 hG, bx_iadd, bx_iret, bx_istore4, bx_iload4, bx_ic_ge, gf376_3 hG, ia379 hG, is379 hG, gf376_4 hG, ia380 hG, is380 hG, bx_if_ge, bx_iinc4, bx_istore5, bx_iload5, gf376_21 hG, bx_ishl, bx_ixor, bx_iand, bx_istore6, bx_iload6, bx_istore7, bx_sipush, bx_imul, bx_iload7, bx_ior, cl1130 hG, bx_istore8, bx_iload8, gf376_19 hG, ia391 hG, is391 hG, bx_istore9, bx_ishr, bx_ic_ne, bx_iload9, gf376_20 hG, ia392 hG, is392 hG, bx_iinc8, bx_iinc5, if_neg (show ¬ ((m + 1 : Nat) : Int) ≤ 0 by omega), r1', one_ne, show ((m + 1 : Nat) : Int) + -1 = (m : Int) by omega]
    · refine ⟨m + 1, ?_, by omega, Or.inr (by rw [show ((m + 1 : Nat) : Int) - 1 = (m : Int) by omega]; exact r2), hb⟩
      rw [bk1127_3]
      simp (disch := first | omega | exact Nat.le_of_ble_eq_true rfl) only [bx_iload_1, bx_if_le, if_neg (show ¬ ((m + 1 : Nat) : Int) ≤ 0 by omega), bx_aload_0, bx_iconst, bx_isub, cl1128 hG, r1', bind_some, tl_some, bx_if_eq, if_true, Int.reduceToNat]
theorem m_fewest {b : Int} (hG : Good n L G) (h : refOK n p V) : ∀ (m Lm : Nat) (W : Nat → Int → Int), Lm + m = 13 → b ≤ Lm → (∀ b, b ≠ 393 → W b = V b) → (∀ r', 0 ≤ r' → b ≤ r' → r' < (Lm : Int) → ¬ Cn p (r' - 0).toNat 0 0) → ∃ (W' : Nat → Int → Int) (r : Nat) (f : Int), run (d + 4) 1127 27 [xR 376, xI b, xI Lm, xI 0, xU, xU, xU, xU, xU, xU] [] (W, G) = run (d + 4) 1127 64 [xR 376, xI b, xI r, xI f, xU, xU, xU, xU, xU, xU] [] (W', G) ∧ (∀ b, b ≠ 393 → W' b = V b) ∧ ((f = 1 ∧ r ≤ 12 ∧ FwP p b 0 0 r ∧ ∀ l, l ≤ r → canR p r W' l) ∨ (f = 0 ∧ FwP p b 0 0 13)) := by
  intro m
  induction m with
  | zero =>
    intro Lm W hL hb fW hno
    refine ⟨W, Lm, 0, ?_, fW, Or.inr ⟨rfl, Or.inr ⟨rfl, fun r' a1 a2 a3 => hno r' a1 a2 (by omega)⟩⟩⟩
    rw [bk1127_27]
    simp (disch := first | omega | exact Nat.le_of_ble_eq_true rfl) only [bx_iload_2, bx_bipush, bx_ic_gt, if_pos (show (12 : Int) < Lm by omega), Int.reduceToNat]
  | succ m ih =>
    intro Lm W hL hb fW hno
    obtain ⟨W1, w1, w2, w3⟩ := m_fillCan (d := d) (V := W) (Lm := Lm) hG (refOK_fr (fun b b1 _ => fW b b1) h) (by omega)
    have fW1 : ∀ b, b ≠ 393 → W1 b = V b := fun b hb => (w2 b hb).trans (fW b hb)
    have hc := w3 0 (by omega) 0 (Nat.two_pow_pos _)
    rw [show (1024 * ((0 : Nat) : Int) + ((0 : Nat) : Int)) = 0 by omega, show Lm - 0 = Lm by omega] at hc
    rcases hc with ⟨y1, y2⟩ | ⟨y1, y2⟩
    · refine ⟨W1, Lm, 1, ?_, fW1, Or.inl ⟨rfl, by omega, Or.inl ⟨by omega, ?_, hno⟩, w3⟩⟩
      · have hst : run (d + 4) 1127 27 [xR 376, xI b, xI Lm, xI 0, xU, xU, xU, xU, xU, xU] [] (W, G) = run (d + 4) 1127 27 [xR 376, xI b, xI Lm, xI 1, xU, xU, xU, xU, xU, xU] [] (W1, G) := by
          rw [bk1127_27]
          simp (disch := first | omega | exact Nat.le_of_ble_eq_true rfl) only [bk1127_0, bk1127_23, bk1127_58, bk1127_59, bk1127_64, bk1127_71, bk1127_101, bk1127_108, bk1127_115, bk1127_181, bk1127_193, bk1127_255, bk1127_261, bk1127_274, Int.reduceToNat, vA_ap, Nat.reduceEqDiff, if_true, if_false, bx_nil, isL_I, isL_R, isL_U, if_ff, bind_some, tl_some, tl_none, bx_bipush, bx_istore_1, bx_iload_1, bx_if_le, bx_aload_0, bx_iconst, bx_isub, cl1128 hG, bx_if_eq, bx_iinc1, bx_goto, bx_istore_2, bx_istore_3, bx_iload_2, bx_ic_gt, bx_iload_3, bx_if_ne, cl1129 hG, gf376_22 hG, ia393 hG, is393 hG, bx_iadd, bx_iret, bx_istore4, bx_iload4, bx_ic_ge, gf376_3 hG, ia379 hG, is379 hG, gf376_4 hG, ia380 hG, is380 hG, bx_if_ge, bx_iinc4, bx_istore5, bx_iload5, gf376_21 hG, bx_ishl, bx_ixor, bx_iand, bx_istore6, bx_iload6, bx_istore7, bx_sipush, bx_imul, bx_iload7, bx_ior, cl1130 hG, bx_istore8, bx_iload8, gf376_19 hG, ia391 hG, is391 hG, bx_istore9, bx_ishr, bx_ic_ne, bx_iload9, gf376_20 hG, ia392 hG, is392 hG, bx_iinc8, bx_iinc5, if_neg (show ¬ (12 : Int) < Lm by omega), if_true, w1, y1, one_ne, show (Lm : Int) + 0 = Lm by omega]
        rw [hst, bk1127_27]
        simp (disch := first | omega | exact Nat.le_of_ble_eq_true rfl) only [bx_iload_2, bx_bipush, bx_ic_gt, if_neg (show ¬ (12 : Int) < Lm by omega), bx_iload_3, bx_if_ne, one_ne, if_false, Int.reduceToNat]
      · rw [show ((Lm : Int) - 0).toNat = Lm by omega]; exact y2
    · obtain ⟨W', r, f, o1, o2, o3⟩ := ih (Lm + 1) W1 (by omega) (by omega) fW1 (fun r' a1 a2 a3 => by
        by_cases e : r' = Lm
        · rw [e, show ((Lm : Int) - 0).toNat = Lm by omega]; exact y2
        · exact hno r' a1 a2 (by omega))
      refine ⟨W', r, f, ?_, o2, o3⟩
      rw [← o1, bk1127_27]
      simp (disch := first | omega | exact Nat.le_of_ble_eq_true rfl) only [bk1127_0, bk1127_23, bk1127_58, bk1127_59, bk1127_64, bk1127_71, bk1127_101, bk1127_108, bk1127_115, bk1127_181, bk1127_193, bk1127_255, bk1127_261, bk1127_274, Int.reduceToNat, vA_ap, Nat.reduceEqDiff, if_true, if_false, bx_nil, isL_I, isL_R, isL_U, if_ff, bind_some, tl_some, tl_none, bx_bipush, bx_istore_1, bx_iload_1, bx_if_le, bx_aload_0, bx_iconst, bx_isub, cl1128 hG, bx_if_eq, bx_iinc1, bx_goto, bx_istore_2, bx_istore_3, bx_iload_2, bx_ic_gt, bx_iload_3, bx_if_ne, cl1129 hG, gf376_22 hG, ia393 hG, is393 hG, bx_iadd, bx_iret, bx_istore4, bx_iload4, bx_ic_ge, gf376_3 hG, ia379 hG, is379 hG, gf376_4 hG, ia380 hG, is380 hG, bx_if_ge, bx_iinc4, bx_istore5, bx_iload5, gf376_21 hG, bx_ishl, bx_ixor, bx_iand, bx_istore6, bx_iload6, bx_istore7, bx_sipush, bx_imul, bx_iload7, bx_ior, cl1130 hG, bx_istore8, bx_iload8, gf376_19 hG, ia391 hG, is391 hG, bx_istore9, bx_ishr, bx_ic_ne, bx_iload9, gf376_20 hG, ia392 hG, is392 hG, bx_iinc8, bx_iinc5, if_neg (show ¬ (12 : Int) < Lm by omega), if_true, w1, y1, show ((Lm + 1 : Nat) : Int) = (Lm : Int) + 1 by omega]
/-- the greatest set of a layer -/
theorem m_find {b : Int} {Lm l D k : Nat} {W : Nat → Int → Int} {u1 u3 u8 u9 : XV} (hG : Good n L G) (h : refOK n p W) (hk : p.2.1 = k) (hl : l < Lm) (hL : Lm ≤ 12) (hD : D < 2 ^ k) (hc : canR p Lm W (l + 1)) (hF : FwP p b l D Lm) : ∀ (s : Nat), s &&& dif (2 ^ k - 1) D = s → (∀ t, t &&& dif (2 ^ k - 1) D = t → s < t → ¬ (Vd p l t D ∧ Cn p (Lm - (l + 1)) ((l : Int) + 1) (D ||| t))) → ∃ S : Nat, run (d + 4) 1127 146 [xR 376, u1, xI Lm, u3, xI D, xI l, xI ((dif (2 ^ k - 1) D : Nat) : Int), xI s, u8, u9] [] (W, G) = run (d + 4) 1127 193 [xR 376, u1, xI Lm, u3, xI D, xI l, xI ((dif (2 ^ k - 1) D : Nat) : Int), xI S, u8, u9] [] (W, G) ∧ gsP p b l D Lm S := by
  obtain ⟨h1, h2, h3, h4, h5⟩ := id h
  have hp10 := pow_10 h2.2
  rw [hk] at hp10
  have hfb : ∀ i, (dif (2 ^ k - 1) D).testBit i = (decide (i < k) && !D.testBit i) := fun i => by rw [dif_bit, Nat.testBit_two_pow_sub_one]
  have hfr : dif (2 ^ k - 1) D < 2 ^ k := by have := dif_le (2 ^ k - 1) D; have := Nat.two_pow_pos k; omega
  have hal : allW p = 2 ^ k - 1 := by unfold allW; rw [hk]
  have hnat : ((Lm : Int) - ((l : Int) + 1)).toNat = Lm - (l + 1) := by omega
  intro s
  induction s using Nat.strongRecOn with
  | ind s ih =>
    intro hs hall
    have hsk := sub_ok hfb hs
    have hor : orI (D : Int) (s : Int) = ((D ||| s : Nat) : Int) := or_N (by omega) (by omega)
    have hork : D ||| s < 2 ^ k := Nat.or_lt_two_pow hD hsk
    have hcs := hc (D ||| s) (by rw [hk]; exact hork)
    rw [show ((l + 1 : Nat) : Int) = (l : Int) + 1 by omega] at hcs
    obtain ⟨r, r1, r2⟩ := m_mayDo (d := d + 1) (l := l) (S := s) (D := D) hG h (by omega) (by rw [hk]; exact hsk) (by rw [hk]; exact hD)
    have r1' : run (d + 3) 1130 0 [xR 376, xI l, xI s, xI D, xU, xU, xU] [] (W, G) = some (some (xI r), (W, G)) := r1
    by_cases good : Vd p l s D ∧ Cn p (Lm - (l + 1)) ((l : Int) + 1) (D ||| s)
    · have e1 : W 393 (1024 * ((l : Int) + 1) + ((D ||| s : Nat) : Int)) = 1 := by
        rcases hcs with ⟨y, _⟩ | ⟨_, y⟩
        · exact y
        · exact absurd good.2 y
      have e2 : r = 1 := by
        rcases r2 with ⟨y, _⟩ | ⟨_, y⟩
        · exact y
        · exact absurd good.1 y
      subst e2
      refine ⟨s, ?_, good.1, (FwP_go hF (by omega) (by omega) good.1).mp (by rw [hnat]; exact good.2), fun S' v1 v2 => ?_⟩
      · rw [bk1127_146]
        simp (disch := first | omega | exact Nat.le_of_ble_eq_true rfl) only [bx_aload_0, gf376_22 hG, bx_sipush, bx_iload5, bx_iconst, bx_iadd, bx_imul, bx_iload4, bx_iload7, bx_ior, hor, ia393 hG, e1, bx_if_eq, one_ne, if_false, cl1130 hG, r1', bind_some, tl_some, bx_if_ne, Int.reduceToNat]
      · have v3 := (FwP_go hF (by omega) (by omega) v1).mpr v2
        rw [hnat] at v3
        have hts := vd_sub v1
        rw [hal] at hts
        apply Classical.byContradiction
        intro y
        exact hall S' hts (by omega) ⟨v1, v3⟩
    · have z : ¬ s = 0 := fun z => by
        obtain ⟨t, t1, t2⟩ := FwP_ex hF (by omega) (by omega)
        rw [hnat] at t2
        have hts := vd_sub t1
        rw [hal] at hts
        by_cases e : t = s
        · subst e; exact good ⟨t1, t2⟩
        · exact hall t hts (by omega) ⟨t1, t2⟩
      have hns : andI ((s : Int) - 1) ((dif (2 ^ k - 1) D : Nat) : Int) = (((s - 1) &&& dif (2 ^ k - 1) D : Nat) : Int) := by
        have h := and_N (a := s - 1) (b := dif (2 ^ k - 1) D) (by omega) (by omega)
        rw [show ((s - 1 : Nat) : Int) = (s : Int) - 1 by omega] at h
        exact h
      obtain ⟨S, o1, o2⟩ := ih ((s - 1) &&& dif (2 ^ k - 1) D) (sub_lt (by omega)) (sub_and _ _) (fun t ht hlt => by
        by_cases e : t = s
        · subst e; exact good
        · refine hall t ht ?_
          apply Classical.byContradiction
          intro y2
          have := sub_next s _ t hs ht (by omega)
          omega)
      refine ⟨S, ?_, o2⟩
      have hst : run (d + 4) 1127 146 [xR 376, u1, xI Lm, u3, xI D, xI l, xI ((dif (2 ^ k - 1) D : Nat) : Int), xI s, u8, u9] [] (W, G) = run (d + 4) 1127 146 [xR 376, u1, xI Lm, u3, xI D, xI l, xI ((dif (2 ^ k - 1) D : Nat) : Int), xI (((s - 1) &&& dif (2 ^ k - 1) D : Nat) : Int), u8, u9] [] (W, G) := by
        rw [bk1127_146]
        rcases hcs with ⟨y1, y2⟩ | ⟨y1, y2⟩
        · have r0 : r = 0 := by
            rcases r2 with ⟨_, z⟩ | ⟨z, _⟩
            · exact absurd ⟨z, y2⟩ good
            · exact z
          subst r0
          simp (disch := first | omega | exact Nat.le_of_ble_eq_true rfl) only [bk1127_0, bk1127_23, bk1127_58, bk1127_59, bk1127_64, bk1127_71, bk1127_101, bk1127_108, bk1127_115, bk1127_181, bk1127_193, bk1127_255, bk1127_261, bk1127_274, Int.reduceToNat, vA_ap, Nat.reduceEqDiff, if_true, if_false, bx_nil, isL_I, isL_R, isL_U, if_ff, bind_some, tl_some, tl_none, bx_bipush, bx_istore_1, bx_iload_1, bx_if_le, bx_aload_0, bx_iconst, bx_isub, cl1128 hG, bx_if_eq, bx_iinc1, bx_goto, bx_istore_2, bx_istore_3, bx_iload_2, bx_ic_gt, bx_iload_3, bx_if_ne, cl1129 hG, gf376_22 hG, ia393 hG, is393 hG, bx_iadd, bx_iret, bx_istore4, bx_iload4, bx_ic_ge, gf376_3 hG, ia379 hG, is379 hG, gf376_4 hG, ia380 hG, is380 hG, bx_if_ge, bx_iinc4, bx_istore5, bx_iload5, gf376_21 hG, bx_ishl, bx_ixor, bx_iand, bx_istore6, bx_iload6, bx_istore7, bx_sipush, bx_imul, bx_iload7, bx_ior, cl1130 hG, bx_istore8, bx_iload8, gf376_19 hG, ia391 hG, is391 hG, bx_istore9, bx_ishr, bx_ic_ne, bx_iload9, gf376_20 hG, ia392 hG, is392 hG, bx_iinc8, bx_iinc5, hor, y1, one_ne, r1', if_true, hns]
        · simp (disch := first | omega | exact Nat.le_of_ble_eq_true rfl) only [bk1127_0, bk1127_23, bk1127_58, bk1127_59, bk1127_64, bk1127_71, bk1127_101, bk1127_108, bk1127_115, bk1127_181, bk1127_193, bk1127_255, bk1127_261, bk1127_274, Int.reduceToNat, vA_ap, Nat.reduceEqDiff, if_true, if_false, bx_nil, isL_I, isL_R, isL_U, if_ff, bind_some, tl_some, tl_none, bx_bipush, bx_istore_1, bx_iload_1, bx_if_le, bx_aload_0, bx_iconst, bx_isub, cl1128 hG, bx_if_eq, bx_iinc1, bx_goto, bx_istore_2, bx_istore_3, bx_iload_2, bx_ic_gt, bx_iload_3, bx_if_ne, cl1129 hG, gf376_22 hG, ia393 hG, is393 hG, bx_iadd, bx_iret, bx_istore4, bx_iload4, bx_ic_ge, gf376_3 hG, ia379 hG, is379 hG, gf376_4 hG, ia380 hG, is380 hG, bx_if_ge, bx_iinc4, bx_istore5, bx_iload5, gf376_21 hG, bx_ishl, bx_ixor, bx_iand, bx_istore6, bx_iload6, bx_istore7, bx_sipush, bx_imul, bx_iload7, bx_ior, cl1130 hG, bx_istore8, bx_iload8, gf376_19 hG, ia391 hG, is391 hG, bx_istore9, bx_ishr, bx_ic_ne, bx_iload9, gf376_20 hG, ia392 hG, is392 hG, bx_iinc8, bx_iinc5, hor, y1, if_true, hns]
      rw [hst, o1]
/-- one layer of the reference -/
theorem m_apply {Lm l D S k : Nat} {W : Nat → Int → Int} {u1 u3 u6 u8 u9 : XV} (hG : Good n L G) (h : refOK n p W) (hk : p.2.1 = k) (hl : l ≤ 11) (hS : S < 2 ^ k) (hv : Vd p l S D) (h68 : isL u8 = false) : ∃ u8' u9', run (d + 4) 1127 193 [xR 376, u1, xI Lm, u3, xI D, xI l, u6, xI S, u8, u9] [] (W, G) = run (d + 4) 1127 261 [xR 376, u1, xI Lm, u3, xI D, xI l, u6, xI S, u8', u9'] [] (vA W 379 (plA p (fun i => 6 * (l : Int) + i) l S k (W 379)), G) ∧ isL u8' = false := by
  obtain ⟨h1, h2, h3, h4, h5⟩ := id h
  have hp10 := pow_10 h2.2
  rw [hk] at hp10
  have hwk : W 376 21 = k := by rw [h2.1, hk]
  have hl2 := it_inv (D := d + 4) (q := 1127) (pc := 196) (hi := k) (I := fun w ls μ => (∃ u9, ls = [xR 376, u1, xI Lm, u3, xI D, xI l, u6, xI S, xI w, u9]) ∧ μ = (vA W 379 (plA p (fun i => 6 * (l : Int) + i) l S w.toNat (W 379)), G)) (Q := fun y => ∃ u8' u9', y = run (d + 4) 1127 261 [xR 376, u1, xI Lm, u3, xI D, xI l, u6, xI S, u8', u9'] [] (vA W 379 (plA p (fun i => 6 * (l : Int) + i) l S k (W 379)), G) ∧ isL u8' = false) (fun ls μ hI => by
    obtain ⟨⟨u9, rfl⟩, rfl⟩ := hI
    refine ⟨xI k, u9, ?_, rfl⟩
    rw [bk1127_196, Int.toNat_natCast]
    simp (disch := first | omega | exact Nat.le_of_ble_eq_true rfl) only [bx_iload8, bx_aload_0, gf376_21 hG, vA_ap, Nat.reduceEqDiff, if_false, hwk, bx_ic_ge, if_pos (show (k : Int) ≤ k by omega), Int.reduceToNat]) k 0 (by omega) (fun w ls μ w0 w1 hI => by
    obtain ⟨⟨u9, rfl⟩, rfl⟩ := hI
    obtain ⟨wn, rfl⟩ : ∃ wn : Nat, w = wn := ⟨w.toNat, by omega⟩
    left
    obtain ⟨a1, a2, a3⟩ := h3 wn (by omega)
    have hb := bit_N (a := S) (w := wn) (by omega) (by omega)
    have e3 : plA p (fun i => 6 * (l : Int) + i) l S ((wn : Int) + 1).toNat (W 379) = if S.testBit wn = true ∧ p.2.2.2.2 l (p.2.2.1 wn) = -1 then vU (plA p (fun i => 6 * (l : Int) + i) l S (wn : Int).toNat (W 379)) (6 * (l : Int) + p.2.2.1 wn) (p.2.2.2.1 wn) else plA p (fun i => 6 * (l : Int) + i) l S (wn : Int).toNat (W 379) := by
      rw [show ((wn : Int) + 1).toNat = wn + 1 by omega, Int.toNat_natCast]
      rfl
    rw [e3]
    generalize plA p (fun i => 6 * (l : Int) + i) l S (wn : Int).toNat (W 379) = F
    by_cases q1 : S.testBit wn = true
    · rw [if_pos q1] at hb
      have hc : isC n l (p.2.2.1 wn) := by
        have := (hv.1 wn q1).2.2.1
        rw [h1.1] at this; exact this
      have hst := h4 l _ hc
      have hix := isC_ix (by omega) hc
      have hsb := h5 _ hix.1 hix.2
      rw [hst] at hsb
      by_cases q2 : p.2.2.2.2 l (p.2.2.1 wn) = -1
      · rw [if_pos ⟨q1, q2⟩]
        refine ⟨_, _, ⟨⟨xI (6 * (l : Int) + p.2.2.1 wn), rfl⟩, rfl⟩, ?_⟩
        rw [bk1127_196]
        simp (disch := first | omega | exact Nat.le_of_ble_eq_true rfl) only [bk1127_0, bk1127_23, bk1127_58, bk1127_59, bk1127_64, bk1127_71, bk1127_101, bk1127_108, bk1127_115, bk1127_181, bk1127_193, bk1127_255, bk1127_261, bk1127_274, Int.reduceToNat, vA_ap, Nat.reduceEqDiff, if_true, if_false, bx_nil, isL_I, isL_R, isL_U, if_ff, bind_some, tl_some, tl_none, bx_bipush, bx_istore_1, bx_iload_1, bx_if_le, bx_aload_0, bx_iconst, bx_isub, cl1128 hG, bx_if_eq, bx_iinc1, bx_goto, bx_istore_2, bx_istore_3, bx_iload_2, bx_ic_gt, bx_iload_3, bx_if_ne, cl1129 hG, gf376_22 hG, ia393 hG, is393 hG, bx_iadd, bx_iret, bx_istore4, bx_iload4, bx_ic_ge, gf376_3 hG, ia379 hG, is379 hG, gf376_4 hG, ia380 hG, is380 hG, bx_if_ge, bx_iinc4, bx_istore5, bx_iload5, gf376_21 hG, bx_ishl, bx_ixor, bx_iand, bx_istore6, bx_iload6, bx_istore7, bx_sipush, bx_imul, bx_iload7, bx_ior, cl1130 hG, bx_istore8, bx_iload8, gf376_19 hG, ia391 hG, is391 hG, bx_istore9, bx_ishr, bx_ic_ne, bx_iload9, gf376_20 hG, ia392 hG, is392 hG, bx_iinc8, bx_iinc5, hwk, if_neg (show ¬ (k : Int) ≤ wn by omega), a1, hb, if_true, hst, if_neg (show ¬ 0 ≤ p.2.2.2.2 l (p.2.2.1 wn) by omega), a3, vA_vA]
      · rw [if_neg (fun y => q2 y.2)]
        refine ⟨_, _, ⟨⟨xI (6 * (l : Int) + p.2.2.1 wn), rfl⟩, rfl⟩, ?_⟩
        rw [bk1127_196]
        simp (disch := first | omega | exact Nat.le_of_ble_eq_true rfl) only [bk1127_0, bk1127_23, bk1127_58, bk1127_59, bk1127_64, bk1127_71, bk1127_101, bk1127_108, bk1127_115, bk1127_181, bk1127_193, bk1127_255, bk1127_261, bk1127_274, Int.reduceToNat, vA_ap, Nat.reduceEqDiff, if_true, if_false, bx_nil, isL_I, isL_R, isL_U, if_ff, bind_some, tl_some, tl_none, bx_bipush, bx_istore_1, bx_iload_1, bx_if_le, bx_aload_0, bx_iconst, bx_isub, cl1128 hG, bx_if_eq, bx_iinc1, bx_goto, bx_istore_2, bx_istore_3, bx_iload_2, bx_ic_gt, bx_iload_3, bx_if_ne, cl1129 hG, gf376_22 hG, ia393 hG, is393 hG, bx_iadd, bx_iret, bx_istore4, bx_iload4, bx_ic_ge, gf376_3 hG, ia379 hG, is379 hG, gf376_4 hG, ia380 hG, is380 hG, bx_if_ge, bx_iinc4, bx_istore5, bx_iload5, gf376_21 hG, bx_ishl, bx_ixor, bx_iand, bx_istore6, bx_iload6, bx_istore7, bx_sipush, bx_imul, bx_iload7, bx_ior, cl1130 hG, bx_istore8, bx_iload8, gf376_19 hG, ia391 hG, is391 hG, bx_istore9, bx_ishr, bx_ic_ne, bx_iload9, gf376_20 hG, ia392 hG, is392 hG, bx_iinc8, bx_iinc5, hwk, if_neg (show ¬ (k : Int) ≤ wn by omega), a1, hb, if_true, hst, if_pos (show 0 ≤ p.2.2.2.2 l (p.2.2.1 wn) by omega)]
    · rw [if_neg q1] at hb
      rw [if_neg (fun y => q1 y.1)]
      refine ⟨_, _, ⟨⟨xI (6 * (l : Int) + p.2.2.1 wn), rfl⟩, rfl⟩, ?_⟩
      rw [bk1127_196]
      simp (disch := first | omega | exact Nat.le_of_ble_eq_true rfl) only [bk1127_0, bk1127_23, bk1127_58, bk1127_59, bk1127_64, bk1127_71, bk1127_101, bk1127_108, bk1127_115, bk1127_181, bk1127_193, bk1127_255, bk1127_261, bk1127_274, Int.reduceToNat, vA_ap, Nat.reduceEqDiff, if_true, if_false, bx_nil, isL_I, isL_R, isL_U, if_ff, bind_some, tl_some, tl_none, bx_bipush, bx_istore_1, bx_iload_1, bx_if_le, bx_aload_0, bx_iconst, bx_isub, cl1128 hG, bx_if_eq, bx_iinc1, bx_goto, bx_istore_2, bx_istore_3, bx_iload_2, bx_ic_gt, bx_iload_3, bx_if_ne, cl1129 hG, gf376_22 hG, ia393 hG, is393 hG, bx_iadd, bx_iret, bx_istore4, bx_iload4, bx_ic_ge, gf376_3 hG, ia379 hG, is379 hG, gf376_4 hG, ia380 hG, is380 hG, bx_if_ge, bx_iinc4, bx_istore5, bx_iload5, gf376_21 hG, bx_ishl, bx_ixor, bx_iand, bx_istore6, bx_iload6, bx_istore7, bx_sipush, bx_imul, bx_iload7, bx_ior, cl1130 hG, bx_istore8, bx_iload8, gf376_19 hG, ia391 hG, is391 hG, bx_istore9, bx_ishr, bx_ic_ne, bx_iload9, gf376_20 hG, ia392 hG, is392 hG, bx_iinc8, bx_iinc5, hwk, if_neg (show ¬ (k : Int) ≤ wn by omega), a1, hb, if_neg (show ¬ (0 : Int) = 1 by omega)])
  have hst : run (d + 4) 1127 193 [xR 376, u1, xI Lm, u3, xI D, xI l, u6, xI S, u8, u9] [] (W, G) = run (d + 4) 1127 196 [xR 376, u1, xI Lm, u3, xI D, xI l, u6, xI S, xI 0, u9] [] (W, G) := by
    simp (disch := first | omega | exact Nat.le_of_ble_eq_true rfl) only [bk1127_193, bx_iconst, bx_istore8, isL_I, if_ff, bx_nil]
  rw [hst]
  refine hl2 _ _ ⟨⟨u9, rfl⟩, ?_⟩
  have : plA p (fun i => 6 * (l : Int) + i) l S (0 : Int).toNat (W 379) = W 379 := rfl
  rw [this, vA_self]
end MLP
