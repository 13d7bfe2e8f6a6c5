/-! MEETING, both sides -/
def mmF (own : Int → Int) (n : Int) : Nat → Int → Int × Int → Int × Int
  | 0, _, s => s
  | m + 1, l, s => mmF own n m (l + 1) (mlF own n l 3 (l % 2) s)
theorem mlF_bd {own : Int → Int} {n l : Int} (h6 : n ≤ 6) : ∀ (m : Nat) (i : Int) (s : Int × Int), 0 ≤ i → (0 ≤ s.1 ∧ s.1 < 64) → 0 ≤ (mlF own n l m i s).1 ∧ (mlF own n l m i s).1 < 64
  | 0, _, _, _, h => h
  | m + 1, i, s, h0, h => by
    unfold mlF
    split
    · exact mlF_bd h6 m (i + 2) _ (by omega) (mtS_bd h (by omega))
    · exact h
theorem mm_mt {n : Int} {LN own ownM : Int → Int} (h2 : 2 ≤ n) (h6 : n ≤ 6) (hL : lanOK n LN) (ho : ∀ l i, isC n l i → ownM (6 * l + i) = own (xi l i)) : ∀ (m : Nat) (l : Int) (s : Int × Int), 0 ≤ l → l + m ≤ 12 → mmF ownM n m l s = mtF LN own (3 * m) (3 * l) s
  | 0, _, _, _, _ => rfl
  | m + 1, l, s, h0, h1 => by
    unfold mmF
    rw [mm_mt h2 h6 hL ho m (l + 1) _ (by omega) (by omega), ml_mt h2 h6 ⟨h0, by omega⟩ hL (fun i hi => ho l i hi), show 3 * (m + 1) = 3 + 3 * m by omega, mtF_add, show 3 * l + ((3 : Nat) : Int) = 3 * (l + 1) by omega]
section MT2
variable {n L d : Nat} {G : XG} {V : Nat → Int → Int}
theorem m_meets_in {a l : Int} (hG : Good n L G) (hn : V 376 0 = n) (h26 : 2 ≤ n ∧ n ≤ 6) (hl : 0 ≤ l ∧ l ≤ 11) (ho : rg (V 381) 72 (-1) 1) : ∀ (m : Nat) (i : Int) (s : Int × Int), 0 ≤ i → i ≤ 7 → (n : Int) - 1 ≤ i + 2 * m → 0 ≤ s.1 ∧ s.1 < 64 → ∃ i' : Int, run d 1162 22 [xR 376, xI a, xI s.1, xI s.2, xI l, xI i] [] (V, G) = run d 1162 9 [xR 376, xI a, xI (mlF (V 381) n l m i s).1, xI (mlF (V 381) n l m i s).2, xI (l + 1), xI i'] [] (V, G) := by
  intro m
  induction m with
  | zero =>
    intro i s h0 h7 hm hs
    refine ⟨i, ?_⟩
    rw [bk1162_22]
    simp (disch := first | omega | exact Nat.le_of_ble_eq_true rfl) only [bk1162_0, bk1162_45, bk1162_86, bk1162_92, bk1162_98, Int.reduceToNat, vA_ap, Nat.reduceEqDiff, if_true, if_false, bx_nil, isL_I, isL_R, isL_U, if_ff, bind_some, tl_some, tl_none, bx_iconst, bx_iload_1, bx_ishl, bx_istore_2, bx_istore_3, bx_istore4, bx_iload4, bx_bipush, bx_ic_ge, bx_irem, bx_istore5, bx_iload5, bx_aload_0, gf376_0 hG, bx_isub, bx_iload_2, bx_ishr, bx_iand, bx_if_ne, bx_goto, bx_ior, gf376_5 hG, ia381 hG, is381 hG, bx_imul, bx_iadd, bx_if_lt, bx_iload_3, bx_iinc5, bx_iinc4, bx_iret, hn, if_pos (show (n : Int) - 1 ≤ i by omega)]
    rfl
  | succ m ih =>
    intro i s h0 h7 hm hs
    by_cases hi : i < (n : Int) - 1
    · have hu := ho (6 * l + i) (by omega) (by omega)
      obtain ⟨t1, t2, t3⟩ := lit_1 (k := s.1) (i := i) hs (by omega)
      have hst : run d 1162 22 [xR 376, xI a, xI s.1, xI s.2, xI l, xI i] [] (V, G) = run d 1162 22 [xR 376, xI a, xI (mtS i (V 381 (6 * l + i)) s).1, xI (mtS i (V 381 (6 * l + i)) s).2, xI l, xI (i + 2)] [] (V, G) := by
        rw [bk1162_22]
        unfold mtS
        by_cases g : btI s.1 i = 0 ∧ btI s.1 (i + 1) = 0
        · have g' := t1.mpr g
          rw [if_pos g]
          simp (disch := first | omega | exact Nat.le_of_ble_eq_true rfl) only [bk1162_0, bk1162_45, bk1162_86, bk1162_92, bk1162_98, Int.reduceToNat, vA_ap, Nat.reduceEqDiff, if_true, if_false, bx_nil, isL_I, isL_R, isL_U, if_ff, bind_some, tl_some, tl_none, bx_iconst, bx_iload_1, bx_ishl, bx_istore_2, bx_istore_3, bx_istore4, bx_iload4, bx_bipush, bx_ic_ge, bx_irem, bx_istore5, bx_iload5, bx_aload_0, gf376_0 hG, bx_isub, bx_iload_2, bx_ishr, bx_iand, bx_if_ne, bx_goto, bx_ior, gf376_5 hG, ia381 hG, is381 hG, bx_imul, bx_iadd, bx_if_lt, bx_iload_3, bx_iinc5, bx_iinc4, bx_iret, hn, if_neg (show ¬ (n : Int) - 1 ≤ i by omega), if_pos g']
        · have g' : ¬ andI (shrI s.1 i) 3 = 0 := fun y => g (t1.mp y)
          rw [if_neg g]
          by_cases y : V 381 (6 * l + i) = -1
          · simp (disch := first | omega | exact Nat.le_of_ble_eq_true rfl) only [bk1162_0, bk1162_45, bk1162_86, bk1162_92, bk1162_98, Int.reduceToNat, vA_ap, Nat.reduceEqDiff, if_true, if_false, bx_nil, isL_I, isL_R, isL_U, if_ff, bind_some, tl_some, tl_none, bx_iconst, bx_iload_1, bx_ishl, bx_istore_2, bx_istore_3, bx_istore4, bx_iload4, bx_bipush, bx_ic_ge, bx_irem, bx_istore5, bx_iload5, bx_aload_0, gf376_0 hG, bx_isub, bx_iload_2, bx_ishr, bx_iand, bx_if_ne, bx_goto, bx_ior, gf376_5 hG, ia381 hG, is381 hG, bx_imul, bx_iadd, bx_if_lt, bx_iload_3, bx_iinc5, bx_iinc4, bx_iret, hn, if_neg (show ¬ (n : Int) - 1 ≤ i by omega), if_neg g', if_pos (show V 381 (6 * l + i) < 0 by omega), if_pos y]
          · simp (disch := first | omega | exact Nat.le_of_ble_eq_true rfl) only [bk1162_0, bk1162_45, bk1162_86, bk1162_92, bk1162_98, Int.reduceToNat, vA_ap, Nat.reduceEqDiff, if_true, if_false, bx_nil, isL_I, isL_R, isL_U, if_ff, bind_some, tl_some, tl_none, bx_iconst, bx_iload_1, bx_ishl, bx_istore_2, bx_istore_3, bx_istore4, bx_iload4, bx_bipush, bx_ic_ge, bx_irem, bx_istore5, bx_iload5, bx_aload_0, gf376_0 hG, bx_isub, bx_iload_2, bx_ishr, bx_iand, bx_if_ne, bx_goto, bx_ior, gf376_5 hG, ia381 hG, is381 hG, bx_imul, bx_iadd, bx_if_lt, bx_iload_3, bx_iinc5, bx_iinc4, bx_iret, hn, if_neg (show ¬ (n : Int) - 1 ≤ i by omega), if_neg g', if_neg (show ¬ V 381 (6 * l + i) < 0 by omega), if_neg y]
      obtain ⟨i', e⟩ := ih (i + 2) (mtS i (V 381 (6 * l + i)) s) (by omega) (by omega) (by omega) (mtS_bd hs (by omega))
      refine ⟨i', ?_⟩
      rw [hst, e]
      conv => rhs; unfold mlF
      rw [if_pos hi]
    · refine ⟨i, ?_⟩
      rw [bk1162_22]
      simp (disch := first | omega | exact Nat.le_of_ble_eq_true rfl) only [bk1162_0, bk1162_45, bk1162_86, bk1162_92, bk1162_98, Int.reduceToNat, vA_ap, Nat.reduceEqDiff, if_true, if_false, bx_nil, isL_I, isL_R, isL_U, if_ff, bind_some, tl_some, tl_none, bx_iconst, bx_iload_1, bx_ishl, bx_istore_2, bx_istore_3, bx_istore4, bx_iload4, bx_bipush, bx_ic_ge, bx_irem, bx_istore5, bx_iload5, bx_aload_0, gf376_0 hG, bx_isub, bx_iload_2, bx_ishr, bx_iand, bx_if_ne, bx_goto, bx_ior, gf376_5 hG, ia381 hG, is381 hG, bx_imul, bx_iadd, bx_if_lt, bx_iload_3, bx_iinc5, bx_iinc4, bx_iret, hn, if_pos (show (n : Int) - 1 ≤ i by omega)]
      unfold mlF
      rw [if_neg hi]
theorem m_meets_out {a : Int} (hG : Good n L G) (hn : V 376 0 = n) (h26 : 2 ≤ n ∧ n ≤ 6) (ho : rg (V 381) 72 (-1) 1) : ∀ (m : Nat) (l : Int) (z : XV) (s : Int × Int), 0 ≤ l → l + m = 12 → 0 ≤ s.1 ∧ s.1 < 64 → run d 1162 9 [xR 376, xI a, xI s.1, xI s.2, xI l, z] [] (V, G) = some (some (xI (mmF (V 381) n m l s).2), (V, G)) := by
  intro m
  induction m with
  | zero =>
    intro l z s h0 hm hs
    rw [bk1162_9]
    simp (disch := first | omega | exact Nat.le_of_ble_eq_true rfl) only [bk1162_0, bk1162_45, bk1162_86, bk1162_92, bk1162_98, Int.reduceToNat, vA_ap, Nat.reduceEqDiff, if_true, if_false, bx_nil, isL_I, isL_R, isL_U, if_ff, bind_some, tl_some, tl_none, bx_iconst, bx_iload_1, bx_ishl, bx_istore_2, bx_istore_3, bx_istore4, bx_iload4, bx_bipush, bx_ic_ge, bx_irem, bx_istore5, bx_iload5, bx_aload_0, gf376_0 hG, bx_isub, bx_iload_2, bx_ishr, bx_iand, bx_if_ne, bx_goto, bx_ior, gf376_5 hG, ia381 hG, is381 hG, bx_imul, bx_iadd, bx_if_lt, bx_iload_3, bx_iinc5, bx_iinc4, bx_iret, if_pos (show 12 ≤ l by omega)]
    rfl
  | succ m ih =>
    intro l z s h0 hm hs
    rw [bk1162_9]
    simp (disch := first | omega | exact Nat.le_of_ble_eq_true rfl) only [bk1162_0, bk1162_45, bk1162_86, bk1162_92, bk1162_98, Int.reduceToNat, vA_ap, Nat.reduceEqDiff, if_true, if_false, bx_nil, isL_I, isL_R, isL_U, if_ff, bind_some, tl_some, tl_none, bx_iconst, bx_iload_1, bx_ishl, bx_istore_2, bx_istore_3, bx_istore4, bx_iload4, bx_bipush, bx_ic_ge, bx_irem, bx_istore5, bx_iload5, bx_aload_0, gf376_0 hG, bx_isub, bx_iload_2, bx_ishr, bx_iand, bx_if_ne, bx_goto, bx_ior, gf376_5 hG, ia381 hG, is381 hG, bx_imul, bx_iadd, bx_if_lt, bx_iload_3, bx_iinc5, bx_iinc4, bx_iret, if_neg (show ¬ 12 ≤ l by omega)]
    rw [tm_pos h0 (by omega)]
    obtain ⟨i', e⟩ := m_meets_in (d := d) (a := a) hG hn h26 (show 0 ≤ l ∧ l ≤ 11 by omega) ho 3 (l % 2) s (by omega) (by omega) (by omega) hs
    rw [e, ih (l + 1) _ _ (by omega) (by omega) (mlF_bd (by omega) 3 _ s (by omega) hs)]
    rfl
theorem m_meets {a : Int} (hG : Good n L G) (hn : V 376 0 = n) (h26 : 2 ≤ n ∧ n ≤ 6) (ho : rg (V 381) 72 (-1) 1) (ha : 0 ≤ a ∧ a < 6) : run d 1162 0 [xR 376, xI a, xU, xU, xU, xU] [] (V, G) = some (some (xI (mmF (V 381) n 12 0 (shlI 1 a, 0)).2), (V, G)) := by
  simp (disch := first | omega | exact Nat.le_of_ble_eq_true rfl) only [bk1162_0, bk1162_45, bk1162_86, bk1162_92, bk1162_98, Int.reduceToNat, vA_ap, Nat.reduceEqDiff, if_true, if_false, bx_nil, isL_I, isL_R, isL_U, if_ff, bind_some, tl_some, tl_none, bx_iconst, bx_iload_1, bx_ishl, bx_istore_2, bx_istore_3, bx_istore4, bx_iload4, bx_bipush, bx_ic_ge, bx_irem, bx_istore5, bx_iload5, bx_aload_0, gf376_0 hG, bx_isub, bx_iload_2, bx_ishr, bx_iand, bx_if_ne, bx_goto, bx_ior, gf376_5 hG, ia381 hG, is381 hG, bx_imul, bx_iadd, bx_if_lt, bx_iload_3, bx_iinc5, bx_iinc4, bx_iret]
  exact m_meets_out hG hn h26 ho 12 0 xU (shlI 1 a, 0) (by omega) (by omega) (lit_0 ha).1
theorem mp_meeting {p : Int → Bool} (hG : Good n L G) (hn : V 376 0 = n) (h26 : 2 ≤ n ∧ n ≤ 6) (ho : rg (V 381) 72 (-1) 1) (hp : ∀ a, 0 ≤ a → a < (n : Int) → p a = decide ((mmF (V 381) n 12 0 (shlI 1 a, 0)).2 = 3)) : run (d + 1) 1161 0 [xR 376, xU] [] (V, G) = some (some (xI ((lstF p n 0).getD (-5))), (V, G)) := by
  have h := it_ex (D := d + 1) (q := 1161) (pc := 2) (loc := fun k => [xR 376, xI k]) (F := fun _ => (V, G)) (res := fun k => some (some (xI k), (V, G))) (hi := n) p n 0 (by omega) (fun k h1 h2 hk => by
    have hk' : ¬ (mmF (V 381) n 12 0 (shlI 1 k, 0)).2 = 3 := by rw [hp k h1 h2] at hk; simpa using hk
    rw [bk1161_2]
    simp (disch := first | omega | exact Nat.le_of_ble_eq_true rfl) only [bk1161_0, bk1161_21, bk1161_27, Int.reduceToNat, vA_ap, Nat.reduceEqDiff, if_true, if_false, bx_nil, isL_I, isL_R, isL_U, if_ff, bind_some, tl_some, tl_none, bx_iconst, bx_istore_1, bx_iload_1, bx_aload_0, gf376_0 hG, bx_ic_ge, cl1162 hG, bx_ic_ne, bx_iret, bx_iinc1, bx_goto, bx_bipush, hn, if_neg (show ¬ (n : Int) ≤ k by omega), m_meets hG hn h26 ho (show 0 ≤ k ∧ k < 6 by omega), if_neg hk']) (fun k h1 h2 hk => by
    have hk' : (mmF (V 381) n 12 0 (shlI 1 k, 0)).2 = 3 := by rw [hp k h1 h2] at hk; simpa using hk
    rw [bk1161_2]
    simp (disch := first | omega | exact Nat.le_of_ble_eq_true rfl) only [bk1161_0, bk1161_21, bk1161_27, Int.reduceToNat, vA_ap, Nat.reduceEqDiff, if_true, if_false, bx_nil, isL_I, isL_R, isL_U, if_ff, bind_some, tl_some, tl_none, bx_iconst, bx_istore_1, bx_iload_1, bx_aload_0, gf376_0 hG, bx_ic_ge, cl1162 hG, bx_ic_ne, bx_iret, bx_iinc1, bx_goto, bx_bipush, hn, if_neg (show ¬ (n : Int) ≤ k by omega), m_meets hG hn h26 ho (show 0 ≤ k ∧ k < 6 by omega), if_pos hk'])
  simp (disch := first | omega | exact Nat.le_of_ble_eq_true rfl) only [bk1161_0, bk1161_21, bk1161_27, Int.reduceToNat, vA_ap, Nat.reduceEqDiff, if_true, if_false, bx_nil, isL_I, isL_R, isL_U, if_ff, bind_some, tl_some, tl_none, bx_iconst, bx_istore_1, bx_iload_1, bx_aload_0, gf376_0 hG, bx_ic_ge, cl1162 hG, bx_ic_ne, bx_iret, bx_iinc1, bx_goto, bx_bipush]
  rw [h]
  cases hc : lstF p n 0 with
  | some k => rfl
  | none =>
    show run (d + 1) 1161 2 [xR 376, xI n] [] (V, G) = _
    rw [bk1161_2]
    simp (disch := first | omega | exact Nat.le_of_ble_eq_true rfl) only [bk1161_0, bk1161_21, bk1161_27, Int.reduceToNat, vA_ap, Nat.reduceEqDiff, if_true, if_false, bx_nil, isL_I, isL_R, isL_U, if_ff, bind_some, tl_some, tl_none, bx_iconst, bx_istore_1, bx_iload_1, bx_aload_0, gf376_0 hG, bx_ic_ge, cl1162 hG, bx_ic_ne, bx_iret, bx_iinc1, bx_goto, bx_bipush, hn, if_pos (show (n : Int) ≤ n by omega)]
    rfl
theorem xp_meeting (hG : Good n L G) (hn : V 5 0 = n) (h26 : 2 ≤ n ∧ n ≤ 6) (hL : lanOK n (V 6)) (ho : rg (V 374) 36 (-1) 1) : ∃ U, run (d + 1) 1032 0 [xR 1, xU] [] (V, G) = some (some (xI ((lstF (metP V) n 0).getD (-5))), (U, G)) ∧ ∀ b, b ≠ 375 → U b = V b := by
  have h := it_inv (D := d + 1) (q := 1032) (pc := 2) (hi := n) (I := fun k ls μ => ls = [xR 1, xI k] ∧ ∃ W, μ = (W, G) ∧ (∀ b, b ≠ 375 → W b = V b) ∧ ∀ j, 0 ≤ j → j < k → metP V j = false) (Q := fun y => ∃ U, y = some (some (xI ((lstF (metP V) n 0).getD (-5))), (U, G)) ∧ ∀ b, b ≠ 375 → U b = V b) (fun ls μ hI => by
    obtain ⟨rfl, W, rfl, w1, w2⟩ := hI
    have f5 : W 5 = V 5 := w1 5 (by decide)
    refine ⟨W, ?_, w1⟩
    rw [bk1032_2, lstF_no n 0 (fun j j0 j1 => w2 j j0 (by omega))]
    simp (disch := first | omega | exact Nat.le_of_ble_eq_true rfl) only [bk1032_0, bk1032_26, bk1032_32, Int.reduceToNat, vA_ap, Nat.reduceEqDiff, if_true, if_false, bx_nil, isL_I, isL_R, isL_U, if_ff, bind_some, tl_some, tl_none, bx_iconst, bx_istore_1, bx_iload_1, bx_aload_0, gf1_1 hG, gf5_0 hG, bx_ic_ge, gf1_9 hG, cl901 hG, bx_if_eq, bx_iret, bx_iinc1, bx_goto, bx_bipush, f5, hn, if_pos (show (n : Int) ≤ n by omega)]
    rfl) n 0 (by omega) (fun k ls μ h1 h2 hI => by
    obtain ⟨rfl, W, rfl, w1, w2⟩ := hI
    have f5 : W 5 = V 5 := w1 5 (by decide)
    obtain ⟨U, u0, u1⟩ := x_both (d := d) hG h26 hL ho ⟨h1, h2⟩ w1
    by_cases g : metP V k = true
    · right
      refine ⟨U, ?_, u1⟩
      rw [bk1032_2, lstF_is n 0 k h1 (by omega) g w2]
      simp (disch := first | omega | exact Nat.le_of_ble_eq_true rfl) only [bk1032_0, bk1032_26, bk1032_32, Int.reduceToNat, vA_ap, Nat.reduceEqDiff, if_true, if_false, bx_nil, isL_I, isL_R, isL_U, if_ff, bind_some, tl_some, tl_none, bx_iconst, bx_istore_1, bx_iload_1, bx_aload_0, gf1_1 hG, gf5_0 hG, bx_ic_ge, gf1_9 hG, cl901 hG, bx_if_eq, bx_iret, bx_iinc1, bx_goto, bx_bipush, f5, hn, if_neg (show ¬ (n : Int) ≤ k by omega), u0, b1_t g, one_ne]
      rfl
    · left
      refine ⟨_, _, ⟨rfl, U, rfl, u1, fun j j0 j1 => ?_⟩, ?_⟩
      · by_cases e : j = k
        · rw [e]; simpa using g
        · exact w2 j j0 (by omega)
      · rw [bk1032_2]
        simp (disch := first | omega | exact Nat.le_of_ble_eq_true rfl) only [bk1032_0, bk1032_26, bk1032_32, Int.reduceToNat, vA_ap, Nat.reduceEqDiff, if_true, if_false, bx_nil, isL_I, isL_R, isL_U, if_ff, bind_some, tl_some, tl_none, bx_iconst, bx_istore_1, bx_iload_1, bx_aload_0, gf1_1 hG, gf5_0 hG, bx_ic_ge, gf1_9 hG, cl901 hG, bx_if_eq, bx_iret, bx_iinc1, bx_goto, bx_bipush, f5, hn, if_neg (show ¬ (n : Int) ≤ k by omega), u0, b1_f g]) [xR 1, xI 0] (V, G) ⟨rfl, V, rfl, fun b _ => rfl, fun r r0 r1 => by omega⟩
  simp (disch := first | omega | exact Nat.le_of_ble_eq_true rfl) only [bk1032_0, bk1032_26, bk1032_32, Int.reduceToNat, vA_ap, Nat.reduceEqDiff, if_true, if_false, bx_nil, isL_I, isL_R, isL_U, if_ff, bind_some, tl_some, tl_none, bx_iconst, bx_istore_1, bx_iload_1, bx_aload_0, gf1_1 hG, gf5_0 hG, bx_ic_ge, gf1_9 hG, cl901 hG, bx_if_eq, bx_iret, bx_iinc1, bx_goto, bx_bipush]
  exact h
theorem pr_meeting (hG : Good n L G) (h : Inv n V) : pair n G V 1032 1161 [xR 1, xU] [xR 376, xU] := by
  have hn := h.nn
  obtain ⟨U, hx, fr⟩ := xp_meeting (d := 798) hG h.l5 hn h.lan (plcP_rg h.own)
  have hU : Inv n U := by
    obtain ⟨g, hV⟩ : ∃ g : Nat → Int → Int, U = fun b => if b = 375 then g b else V b := by
      refine ⟨U, funext fun b => ?_⟩
      repeat' split
      all_goals first | rfl | (apply fr <;> assumption)
    subst hV
    exact ⟨h.nn, h.l5, h.l12, h.l35, h.lm, h.lim, h.cc, h.ss, h.rC, h.rS, h.lan, h.set, h.stk, h.off, h.own, h.cre, h.lig, tldP_tr hn.2 h.tld (fun c hc => fr _ (by omega)) rfl, h.stp, h.spl, sgnP_tr hn.2 h.sgn (fun c hc => fr _ (by omega)) rfl rfl, h.wrk, h.tap, h.ent, h.fnd, runP_tr h.rns (fun c hc => ⟨fr _ (by omega), fr _ (by omega), fr _ (by omega)⟩) ⟨rfl, rfl, rfl⟩ rfl, h.prb⟩
  refine mkpair hx (mp_meeting (d := 798) (V := U) hG hU.lm hn hU.own.2.2 (fun a a0 a1 => ?_)) hU
  unfold metP
  have ho : ∀ l i, isC n l i → U 381 (6 * l + i) = V 374 (xi l i) := fun l i hc => by
    rw [fr 381 (by decide)]
    exact (h.xy hc h.own).1.symm
  rw [mm_mt (by omega) (by omega) h.lan ho 12 0 _ (by omega) (by omega)]
  rfl
end MT2
