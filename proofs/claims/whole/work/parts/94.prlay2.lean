/-! LAY: the pair -/
section MLQ
variable {n L d : Nat} {G : XG} {V : Nat → Int → Int} {p : LayP}
theorem mp_lay (hG : Good n L G) (h : refOK n p V) : ∃ U r b, run (d + 4) 1127 0 [xR 376, xU, xU, xU, xU, xU, xU, xU, xU, xU] [] (V, G) = some (some (xI (if r = 13 then -5 else r)), (U, G)) ∧ FwP p b 0 0 r ∧ bndQ p b ∧ (∀ b, b ≠ 393 → b ≠ 379 → U b = V b) ∧ ((r = 13 ∧ U 379 = V 379) ∨ ((0 ≤ r ∧ r ≤ 12) ∧ ∃ sq, wayP p b r sq ∧ U 379 = layA p (fun l i => 6 * l + i) sq (st0 (V 380) (V 379) 72) r.toNat)) := by
  obtain ⟨h1, h2, h3, h4, h5⟩ := id h
  have hp10 := pow_10 h2.2
  obtain ⟨k, hk⟩ : ∃ k, p.2.1 = k := ⟨_, rfl⟩
  rw [hk] at hp10
  have hwk : V 376 21 = k := by rw [h2.1, hk]
  have h2p := Nat.two_pow_pos k
  have hsh := shl_N (w := k) (by omega)
  have hallc : ((2 ^ k : Nat) : Int) - 1 = ((2 ^ k - 1 : Nat) : Int) := by omega
  obtain ⟨b, b1, b2⟩ := m_least (d := d + 1) hG h 12 (Nat.le_refl _) (fun l l0 l1 => by omega)
  obtain ⟨W, r, f, w1, w2, w3⟩ := m_fewest (d := d) (b := b) (V := V) hG h (13 - b) b V (by have := b2.1; omega) (Int.le_refl _) (fun _ _ => rfl) (fun r' a1 a2 a3 => by omega)
  have hst : run (d + 4) 1127 0 [xR 376, xU, xU, xU, xU, xU, xU, xU, xU, xU] [] (V, G) = run (d + 4) 1127 64 [xR 376, xI b, xI r, xI f, xU, xU, xU, xU, xU, xU] [] (W, G) := by
    have e1 : run (d + 4) 1127 0 [xR 376, xU, xU, xU, xU, xU, xU, xU, xU, xU] [] (V, G) = run (d + 4) 1127 3 [xR 376, xI ((12 : Nat) : Int), xU, xU, xU, xU, xU, xU, xU, xU] [] (V, G) := by
      simp (disch := first | omega | exact Nat.le_of_ble_eq_true rfl) only [bk1127_0, bx_bipush, bx_istore_1, isL_R, if_ff, bx_nil]
      rfl
    have b1' : run (d + 4) 1127 3 [xR 376, xI ((12 : Nat) : Int), xU, xU, xU, xU, xU, xU, xU, xU] [] (V, G) = run (d + 4) 1127 23 [xR 376, xI b, xU, xU, xU, xU, xU, xU, xU, xU] [] (V, G) := b1
    rw [e1, b1', ← w1]
    simp (disch := first | omega | exact Nat.le_of_ble_eq_true rfl) only [bk1127_23, bx_iload_1, bx_istore_2, isL_I, if_ff, bx_iconst, bx_istore_3, bx_nil]
  rw [hst]
  rcases w3 with ⟨rfl, c1, c2, c3⟩ | ⟨rfl, c2⟩
  · -- laid
    have l1 := it_up (D := d + 4) (q := 1127) (pc := 74) (loc := fun j => [xR 376, xI b, xI r, xI 1, xI j, xU, xU, xU, xU, xU]) (F := fun j => (vA W 379 (fl (V 379) (fun c => if V 380 c = -1 then 0 else V 379 c) 0 j), G)) (hi := 72) 72 0 (by omega) (fun j j0 j1 => by
      have e1 : W 380 = V 380 := w2 _ (by decide)
      have e2 : fl (V 379) (fun c => if V 380 c = -1 then 0 else V 379 c) 0 j j = V 379 j := fl_out (by omega)
      have hsb := h5 j j0 j1
      rw [bk1127_74, ← fl_up j0]
      by_cases q : V 380 j = -1
      · rw [if_pos q]
        simp (disch := first | omega | exact Nat.le_of_ble_eq_true rfl) only [bk1127_0, bk1127_23, bk1127_58, bk1127_59, bk1127_64, bk1127_71, bk1127_101, bk1127_108, bk1127_115, bk1127_181, bk1127_193, bk1127_255, bk1127_261, bk1127_274, Int.reduceToNat, vA_ap, Nat.reduceEqDiff, if_true, if_false, bx_nil, isL_I, isL_R, isL_U, if_ff, bind_some, tl_some, tl_none, bx_bipush, bx_istore_1, bx_iload_1, bx_if_le, bx_aload_0, bx_iconst, bx_isub, cl1128 hG, bx_if_eq, bx_iinc1, bx_goto, bx_istore_2, bx_istore_3, bx_iload_2, bx_ic_gt, bx_iload_3, bx_if_ne, cl1129 hG, gf376_22 hG, ia393 hG, is393 hG, bx_iadd, bx_iret, bx_istore4, bx_iload4, bx_ic_ge, gf376_3 hG, ia379 hG, is379 hG, gf376_4 hG, ia380 hG, is380 hG, bx_if_ge, bx_iinc4, bx_istore5, bx_iload5, gf376_21 hG, bx_ishl, bx_ixor, bx_iand, bx_istore6, bx_iload6, bx_istore7, bx_sipush, bx_imul, bx_iload7, bx_ior, cl1130 hG, bx_istore8, bx_iload8, gf376_19 hG, ia391 hG, is391 hG, bx_istore9, bx_ishr, bx_ic_ne, bx_iload9, gf376_20 hG, ia392 hG, is392 hG, bx_iinc8, bx_iinc5, if_neg (show ¬ 72 ≤ j by omega), e1, if_neg (show ¬ 0 ≤ V 380 j by omega), vA_vA]
      · rw [if_neg q]
        simp (disch := first | omega | exact Nat.le_of_ble_eq_true rfl) only [bk1127_0, bk1127_23, bk1127_58, bk1127_59, bk1127_64, bk1127_71, bk1127_101, bk1127_108, bk1127_115, bk1127_181, bk1127_193, bk1127_255, bk1127_261, bk1127_274, Int.reduceToNat, vA_ap, Nat.reduceEqDiff, if_true, if_false, bx_nil, isL_I, isL_R, isL_U, if_ff, bind_some, tl_some, tl_none, bx_bipush, bx_istore_1, bx_iload_1, bx_if_le, bx_aload_0, bx_iconst, bx_isub, cl1128 hG, bx_if_eq, bx_iinc1, bx_goto, bx_istore_2, bx_istore_3, bx_iload_2, bx_ic_gt, bx_iload_3, bx_if_ne, cl1129 hG, gf376_22 hG, ia393 hG, is393 hG, bx_iadd, bx_iret, bx_istore4, bx_iload4, bx_ic_ge, gf376_3 hG, ia379 hG, is379 hG, gf376_4 hG, ia380 hG, is380 hG, bx_if_ge, bx_iinc4, bx_istore5, bx_iload5, gf376_21 hG, bx_ishl, bx_ixor, bx_iand, bx_istore6, bx_iload6, bx_istore7, bx_sipush, bx_imul, bx_iload7, bx_ior, cl1130 hG, bx_istore8, bx_iload8, gf376_19 hG, ia391 hG, is391 hG, bx_istore9, bx_ishr, bx_ic_ne, bx_iload9, gf376_20 hG, ia392 hG, is392 hG, bx_iinc8, bx_iinc5, if_neg (show ¬ 72 ≤ j by omega), e1, if_pos (show 0 ≤ V 380 j by omega), e2, vA_vA])
    rw [fl_nil, show vA W 379 (V 379) = W by rw [← w2 379 (by decide), vA_self]] at l1
    obtain ⟨A, hA⟩ : ∃ A, A = vA W 379 (fl (V 379) (fun c => if V 380 c = -1 then 0 else V 379 c) 0 72) := ⟨_, rfl⟩
    rw [← hA] at l1
    have fA : ∀ b, b ≠ 379 → A b = W b := fun b hb => by rw [hA, vA_ne hb]
    have l2 := it_inv (D := d + 4) (q := 1127) (pc := 121) (hi := r) (I := fun l ls μ => ∃ (sq : Nat → Nat) (U : Nat → Int → Int), (∃ u6 u7 u8 u9, ls = [xR 376, xI b, xI r, xI 1, xI ((dnF sq l.toNat : Nat) : Int), xI l, u6, u7, u8, u9] ∧ isL u8 = false) ∧ μ = (U, G) ∧ (∀ b, b ≠ 379 → U b = W b) ∧ (∀ j : Nat, (j : Int) < l → gsP p b j (dnF sq j) r (sq j)) ∧ FwP p b l (dnF sq l.toNat) r ∧ dnF sq l.toNat < 2 ^ k ∧ U 379 = layA p (fun l i => 6 * l + i) sq (st0 (V 380) (V 379) 72) l.toNat) (Q := fun y => ∃ (U : Nat → Int → Int) (sq : Nat → Nat), y = some (some (xI r), (U, G)) ∧ (∀ b, b ≠ 379 → U b = W b) ∧ wayP p b r sq ∧ U 379 = layA p (fun l i => 6 * l + i) sq (st0 (V 380) (V 379) 72) r) (fun ls μ hI => by
      obtain ⟨sq, U, ⟨u6, u7, u8, u9, rfl, hu⟩, rfl, u1, u2, u3, u4, u5⟩ := hI
      rw [Int.toNat_natCast] at u5
      refine ⟨U, sq, ?_, u1, u2, u5⟩
      rw [bk1127_121]
      simp (disch := first | omega | exact Nat.le_of_ble_eq_true rfl) only [bk1127_0, bk1127_23, bk1127_58, bk1127_59, bk1127_64, bk1127_71, bk1127_101, bk1127_108, bk1127_115, bk1127_181, bk1127_193, bk1127_255, bk1127_261, bk1127_274, Int.reduceToNat, vA_ap, Nat.reduceEqDiff, if_true, if_false, bx_nil, isL_I, isL_R, isL_U, if_ff, bind_some, tl_some, tl_none, bx_bipush, bx_istore_1, bx_iload_1, bx_if_le, bx_aload_0, bx_iconst, bx_isub, cl1128 hG, bx_if_eq, bx_iinc1, bx_goto, bx_istore_2, bx_istore_3, bx_iload_2, bx_ic_gt, bx_iload_3, bx_if_ne, cl1129 hG, gf376_22 hG, ia393 hG, is393 hG, bx_iadd, bx_iret, bx_istore4, bx_iload4, bx_ic_ge, gf376_3 hG, ia379 hG, is379 hG, gf376_4 hG, ia380 hG, is380 hG, bx_if_ge, bx_iinc4, bx_istore5, bx_iload5, gf376_21 hG, bx_ishl, bx_ixor, bx_iand, bx_istore6, bx_iload6, bx_istore7, bx_sipush, bx_imul, bx_iload7, bx_ior, cl1130 hG, bx_istore8, bx_iload8, gf376_19 hG, ia391 hG, is391 hG, bx_istore9, bx_ishr, bx_ic_ne, bx_iload9, gf376_20 hG, ia392 hG, is392 hG, bx_iinc8, bx_iinc5, if_pos (show (r : Int) ≤ r by omega)]) r 0 (by omega) (fun l ls μ l0 l1 hI => by
      obtain ⟨sq, U, ⟨u6, u7, u8, u9, rfl, hu⟩, rfl, u1, u2, u3, u4, u5⟩ := hI
      obtain ⟨ln, rfl⟩ : ∃ ln : Nat, l = ln := ⟨l.toNat, by omega⟩
      rw [Int.toNat_natCast] at u3 u4 u5 ⊢
      left
      have fU : ∀ b, b ≠ 393 → b ≠ 379 → U b = V b := fun b b1 b2 => (u1 b b2).trans (w2 b b1)
      have hOK := refOK_fr fU h
      have hcU : canR p r U (ln + 1) := fun D hD => by
        rw [u1 _ (by decide)]
        exact c3 (ln + 1) (by omega) D hD
      have hdf := dif_N (a := 2 ^ k - 1) (b := dnF sq ln) (by omega) (by omega)
      have w376 : U 376 21 = k := by rw [fU _ (by decide) (by decide)]; exact hwk
      obtain ⟨S, s1, s2⟩ := m_find (d := d) (b := b) (u1 := xI b) (u3 := xI 1) (u8 := u8) (u9 := u9) (W := U) (D := dnF sq ln) hG hOK hk (show ln < r by omega) c1 u4 hcU u3 (dif (2 ^ k - 1) (dnF sq ln)) (Nat.and_self _) (fun t ht hlt => by
        have : t ≤ dif (2 ^ k - 1) (dnF sq ln) := by rw [← ht]; exact Nat.and_le_right
        omega)
      have hS : S < 2 ^ k := by have := vd_lt s2.1; rw [hk] at this; exact this
      obtain ⟨u8', u9', t1, t2⟩ := m_apply (d := d) (Lm := r) (u1 := xI b) (u3 := xI 1) (u6 := xI ((dif (2 ^ k - 1) (dnF sq ln) : Nat) : Int)) (u8 := u8) (u9 := u9) (W := U) (D := dnF sq ln) hG hOK hk (show ln ≤ 11 by omega) hS s2.1 hu
      have hor : orI ((dnF sq ln : Nat) : Int) (S : Int) = ((dnF sq ln ||| S : Nat) : Int) := or_N (by omega) (by omega)
      obtain ⟨sq', hsq⟩ : ∃ sq' : Nat → Nat, sq' = fun j => if j = ln then S else sq j := ⟨_, rfl⟩
      have q1 : ∀ j, j < ln → sq' j = sq j := fun j hj => by rw [hsq]; exact if_neg (by omega)
      have q2 : sq' ln = S := by rw [hsq]; exact if_pos rfl
      have hd1 : dnF sq' (ln + 1) = dnF sq ln ||| S := by
        show dnF sq' ln ||| sq' ln = _
        rw [dnF_cong ln q1, q2]
      refine ⟨_, _, ⟨sq', vA U 379 (plA p (fun i => 6 * (ln : Int) + i) ln S k (U 379)), ⟨xI ((dif (2 ^ k - 1) (dnF sq ln) : Nat) : Int), xI S, u8', u9', rfl, t2⟩, rfl, fun b hb => by rw [vA_ne hb]; exact u1 b hb, fun j hj => ?_, ?_, ?_, ?_⟩, ?_⟩
      · by_cases e : j = ln
        · subst e
          rw [dnF_cong j q1, q2]
          exact s2
        · rw [dnF_cong j (fun i hi => q1 i (by omega)), q1 j (by omega)]
          exact u2 j (by omega)
      · rw [show ((ln : Int) + 1).toNat = ln + 1 by omega, hd1]
        exact s2.2.1
      · rw [show ((ln : Int) + 1).toNat = ln + 1 by omega, hd1]
        exact Nat.or_lt_two_pow u4 hS
      · rw [vA_same, show ((ln : Int) + 1).toNat = ln + 1 by omega, u5]
        show _ = plA p (fun i => 6 * (ln : Int) + i) ln (sq' ln) p.2.1 (layA p (fun l i => 6 * l + i) sq' (st0 (V 380) (V 379) 72) ln)
        rw [q2, layA_cong ln q1, hk]
      · have e1 : run (d + 4) 1127 121 [xR 376, xI b, xI r, xI 1, xI ((dnF sq ln : Nat) : Int), xI ln, u6, u7, u8, u9] [] (U, G) = run (d + 4) 1127 146 [xR 376, xI b, xI r, xI 1, xI ((dnF sq ln : Nat) : Int), xI ln, xI ((dif (2 ^ k - 1) (dnF sq ln) : Nat) : Int), xI ((dif (2 ^ k - 1) (dnF sq ln) : Nat) : Int), u8, u9] [] (U, G) := by
          rw [bk1127_121]
          simp (disch := first | omega | exact Nat.le_of_ble_eq_true rfl) only [bx_iload5, bx_iload_2, bx_ic_ge, if_neg (show ¬ (r : Int) ≤ ln by omega), bx_iconst, bx_aload_0, gf376_21 hG, w376, bx_ishl, hsh, bx_isub, hallc, bx_iload4, bx_ixor, bx_iand, hdf, bx_istore6, isL_I, if_ff, bx_iload6, bx_istore7, bx_nil]
        rw [show ((ln : Int) + 1).toNat = ln + 1 by omega, hd1, e1, s1, t1]
        simp (disch := first | omega | exact Nat.le_of_ble_eq_true rfl) only [bk1127_261, bx_iload4, bx_iload7, bx_ior, hor, bx_istore4, isL_I, if_ff, bx_iinc5, bx_goto, Int.reduceToNat])
    have hst2 : run (d + 4) 1127 64 [xR 376, xI b, xI r, xI 1, xU, xU, xU, xU, xU, xU] [] (W, G) = run (d + 4) 1127 121 [xR 376, xI b, xI r, xI 1, xI 0, xI 0, xU, xU, xU, xU] [] (A, G) := by
      have e1 : run (d + 4) 1127 64 [xR 376, xI b, xI r, xI 1, xU, xU, xU, xU, xU, xU] [] (W, G) = run (d + 4) 1127 74 [xR 376, xI b, xI r, xI 1, xI 0, xU, xU, xU, xU, xU] [] (W, G) := by
        simp (disch := first | omega | exact Nat.le_of_ble_eq_true rfl) only [bk1127_64, bx_iload_3, bx_if_ne, one_ne, if_false, Int.reduceToNat, bk1127_71, bx_iconst, bx_istore4, isL_I, if_ff, bx_nil]
      rw [e1, l1, bk1127_74]
      simp (disch := first | omega | exact Nat.le_of_ble_eq_true rfl) only [bx_iload4, bx_bipush, bx_ic_ge, if_pos (show (72 : Int) ≤ 72 by omega), Int.reduceToNat, bk1127_115, bx_iconst, bx_istore4, bx_istore5, isL_I, if_ff, bx_nil]
    obtain ⟨U, sq, o1, o2, o3, o4⟩ := l2 [xR 376, xI b, xI r, xI 1, xI 0, xI 0, xU, xU, xU, xU] (A, G) ⟨fun _ => 0, A, ⟨xU, xU, xU, xU, rfl, rfl⟩, rfl, fA, fun j hj => by omega, c2, h2p, by rw [hA, vA_same]; rfl⟩
    refine ⟨U, r, b, ?_, c2, b2, fun b b1 b2 => (o2 b b2).trans (w2 b b1), Or.inr ⟨by omega, sq, o3, by rw [Int.toNat_natCast]; exact o4⟩⟩
    rw [hst2, o1, if_neg (by omega)]
  · refine ⟨W, 13, b, ?_, c2, b2, fun b b1 b2 => w2 b b1, Or.inl ⟨rfl, w2 _ (by decide)⟩⟩
    rw [if_pos rfl]
    simp (disch := first | omega | exact Nat.le_of_ble_eq_true rfl) only [bk1127_0, bk1127_23, bk1127_58, bk1127_59, bk1127_64, bk1127_71, bk1127_101, bk1127_108, bk1127_115, bk1127_181, bk1127_193, bk1127_255, bk1127_261, bk1127_274, Int.reduceToNat, vA_ap, Nat.reduceEqDiff, if_true, if_false, bx_nil, isL_I, isL_R, isL_U, if_ff, bind_some, tl_some, tl_none, bx_bipush, bx_istore_1, bx_iload_1, bx_if_le, bx_aload_0, bx_iconst, bx_isub, cl1128 hG, bx_if_eq, bx_iinc1, bx_goto, bx_istore_2, bx_istore_3, bx_iload_2, bx_ic_gt, bx_iload_3, bx_if_ne, cl1129 hG, gf376_22 hG, ia393 hG, is393 hG, bx_iadd, bx_iret, bx_istore4, bx_iload4, bx_ic_ge, gf376_3 hG, ia379 hG, is379 hG, gf376_4 hG, ia380 hG, is380 hG, bx_if_ge, bx_iinc4, bx_istore5, bx_iload5, gf376_21 hG, bx_ishl, bx_ixor, bx_iand, bx_istore6, bx_iload6, bx_istore7, bx_sipush, bx_imul, bx_iload7, bx_ior, cl1130 hG, bx_istore8, bx_iload8, gf376_19 hG, ia391 hG, is391 hG, bx_istore9, bx_ishr, bx_ic_ne, bx_iload9, gf376_20 hG, ia392 hG, is392 hG, bx_iinc8, bx_iinc5, if_true]
/-- settings of both sides go together -/
theorem plA_rel {l : Int} {S D : Nat} (hn : p.1 = (n : Int) ∧ n ≤ 6) (hv : Vd p l S D) (hw : ∀ w : Nat, w < p.2.1 → 0 ≤ p.2.2.2.1 w ∧ p.2.2.2.1 w ≤ 95) : ∀ (w : Nat) (F M : Int → Int), w ≤ p.2.1 → plcP n F M 0 0 95 → plcP n (plA p (xi l) l S w F) (plA p (fun i => 6 * l + i) l S w M) 0 0 95
  | 0, _, _, _, h => h
  | w + 1, F, M, hle, h => by
    unfold plA
    have ih := plA_rel hn hv hw w F M (by omega) h
    by_cases q : S.testBit w = true ∧ p.2.2.2.2 l (p.2.2.1 w) = -1
    · rw [if_pos q, if_pos q]
      have hc := (hv.1 w q.1).2.2.1
      rw [hn.1] at hc
      exact plcP_up hn.2 ih hc (hw w (by omega))
    · rw [if_neg q, if_neg q]; exact ih
theorem layA_rel {b r : Int} {sq : Nat → Nat} {F M : Int → Int} (hn : p.1 = (n : Int) ∧ n ≤ 6) (hw : ∀ w : Nat, w < p.2.1 → 0 ≤ p.2.2.2.1 w ∧ p.2.2.2.1 w ≤ 95) (hway : wayP p b r sq) (h : plcP n F M 0 0 95) : ∀ (l : Nat), (l : Int) ≤ r → plcP n (layA p xi sq F l) (layA p (fun l i => 6 * l + i) sq M l) 0 0 95
  | 0, _ => h
  | l + 1, hl => by
    unfold layA
    exact plA_rel hn (hway l (by omega)).1 hw _ _ _ (Nat.le_refl _) (layA_rel hn hw hway h l (by omega))
theorem st0_rel {SX SM F M : Int → Int} (hS : plcP n SX SM (-1) (-1) 95) (h : plcP n F M 0 0 95) : plcP n (st0 SX F 36) (st0 SM M 72) 0 0 95 := by
  unfold st0
  refine ⟨fun c c0 c1 => ?_, fun l i l0 l1 i0 i1 hc => ?_, fun k k0 k1 => ?_⟩
  · rw [fl_in c0 c1, fl_in (ix_bd ⟨c0, c1⟩).1 (ix_bd ⟨c0, c1⟩).2, hS.1 c c0 c1, h.1 c c0 c1]
  · rw [fl_in (by omega) (by omega), h.2.1 l i l0 l1 i0 i1 hc]
    split <;> rfl
  · rw [fl_in k0 k1]
    split
    · omega
    · exact h.2.2 k k0 k1
theorem pr_lay (hG : Good n L G) (h : Inv n V) : pair n G V 1016 1127 [xR 1] [xR 376, xU, xU, xU, xU, xU, xU, xU, xU, xU] := by
  have hn := h.nn
  obtain ⟨k1, k2, k3⟩ := h.wrk
  have hlX : layX n V := ⟨hn, k2, fun w w0 w1 => by
    obtain ⟨y1, y2, y3, y4⟩ := k3 w w0 w1
    rw [y1, y2]; exact ⟨y3, y4⟩, plcP_rg h.stk, h.lan, h.l5⟩
  obtain ⟨W, r, b, x1, x2, x3, x4, x5⟩ := xp_lay (d := 780) hG hlX (fun c c0 c1 hc => cZ_x h.stk.1 h.stk.2.1 ⟨c0, c1⟩ hc)
  have fm : ∀ b, 376 ≤ b → W b = V b := fun b hb => x4 b (by omega) (by omega)
  have hOK : refOK n (lpX n V) W := by
    refine ⟨⟨rfl, by rw [fm _ (by decide)]; exact h.lm, hn⟩, ⟨?_, ?_⟩, fun w hw => ?_, fun l i hc => ?_, ?_⟩
    · rw [fm _ (by decide), k1]
      show V 29 2 = (((V 29 2).toNat : Nat) : Int)
      omega
    · show (V 29 2).toNat ≤ 10; omega
    · have hw' : w < (V 29 2).toNat := hw
      obtain ⟨y1, y2, y3, y4⟩ := k3 w (by omega) (by omega)
      rw [fm _ (by decide), fm _ (by decide)]
      show V 391 w = V 30 w ∧ (0 ≤ V 30 w ∧ V 30 w + 1 < (n : Int)) ∧ V 392 w = V 31 w
      rw [y1, y2]
      exact ⟨rfl, y3, rfl⟩
    · rw [fm _ (by decide)]
      exact (h.xy hc h.stk).1.symm
    · rw [fm _ (by decide)]; exact h.stk.2.2
  obtain ⟨U, r', b', m1, m2, m3, m4, m5⟩ := mp_lay (d := 795) hG hOK
  have eb : b = b' := bnd_one (p := lpX n V) x3 m3
  subst eb
  have er : r = r' := FwP_one x2 m2
  subst er
  refine mkpair x1 m1 ?_
  have hset : plcP n (U 7) (U 379) 0 0 95 := by
    rw [m4 7 (by decide) (by decide)]
    rcases x5 with ⟨y1, y2⟩ | ⟨y1, sq, y2, y3⟩
    · rcases m5 with ⟨_, z2⟩ | ⟨z1, _⟩
      · rw [y2, z2, fm _ (by decide)]; exact h.set
      · omega
    · rcases m5 with ⟨z1, _⟩ | ⟨_, sq', z2, z3⟩
      · omega
      · have hsq := way_one y2 z2
        rw [y3, z3, fm _ (by decide), fm _ (by decide), ← layA_cong r.toNat (fun j hj => hsq j (by omega))]
        refine layA_rel ⟨rfl, hn.2⟩ (fun w hw => ?_) y2 (st0_rel h.stk h.set) _ (by omega)
        have hw' : w < (V 29 2).toNat := hw
        obtain ⟨v1, v2, v3, v4⟩ := k3 w (by omega) (by omega)
        show 0 ≤ V 31 w ∧ V 31 w ≤ 95
        rw [v2]; exact v4
  have fr : ∀ b, b ≠ 7 → ¬ (32 ≤ b ∧ b < 35) → b ≠ 393 → b ≠ 379 → U b = V b := fun b b1 b2 b3 b4 => (m4 b b3 b4).trans (x4 b b1 b2)
  obtain ⟨g, hV⟩ : ∃ g : Nat → Int → Int, U = fun b => if b = 7 then g b else if 32 ≤ b ∧ b < 35 then g b else if b = 393 then g b else if b = 379 then g b else V b := by
    refine ⟨U, funext fun b => ?_⟩
    by_cases c1 : b = 7
    · rw [if_pos c1]
    rw [if_neg c1]
    by_cases c2 : 32 ≤ b ∧ b < 35
    · rw [if_pos c2]
    rw [if_neg c2]
    by_cases c3 : b = 393
    · rw [if_pos c3]
    rw [if_neg c3]
    by_cases c4 : b = 379
    · rw [if_pos c4]
    rw [if_neg c4]
    exact fr b c1 c2 c3 c4
  have ftld : tldP n U := tldP_tr hn.2 h.tld (fun c hc => fr _ (by omega) (by omega) (by omega) (by omega)) (fr _ (by decide) (by decide) (by decide) (by decide))
  have fsgn : sgnP n U := sgnP_tr hn.2 h.sgn (fun c hc => fr _ (by omega) (by omega) (by omega) (by omega)) (fr _ (by decide) (by decide) (by decide) (by decide)) (fr _ (by decide) (by decide) (by decide) (by decide))
  have frns : runP n U := runP_tr h.rns (fun c hc => ⟨fr _ (by omega) (by omega) (by omega) (by omega), fr _ (by omega) (by omega) (by omega) (by omega), fr _ (by omega) (by omega) (by omega) (by omega)⟩) ⟨fr _ (by decide) (by decide) (by decide) (by decide), fr _ (by decide) (by decide) (by decide) (by decide), fr _ (by decide) (by decide) (by decide) (by decide)⟩ (by rw [hV]; rfl)
  subst hV
  exact ⟨h.nn, h.l5, h.l12, h.l35, h.lm, h.lim, h.cc, h.ss, h.rC, h.rS, h.lan, hset, h.stk, h.off, h.own, h.cre, h.lig, ftld, h.stp, h.spl, fsgn, h.wrk, h.tap, h.ent, h.fnd, frns, h.prb⟩
end MLQ
