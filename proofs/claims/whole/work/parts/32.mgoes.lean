/-! THE REFERENCE: asNow, goes -/
theorem lyr_rg {C S : Int → Int} {t : Int → Int → Int} {n l N : Int} : ∀ (m : Nat) (i : Int) (f : Int → Int), rg f N 0 96 → rg (lyr C S t n l m i f) N 0 96
  | 0, _, _, h => h
  | m + 1, i, f, h => by
    unfold lyr
    split
    · exact lyr_rg m (i + 2) _ (turnL_rg h)
    · exact h
theorem plt_rg {C S : Int → Int} {t : Int → Int → Int} {n N : Int} : ∀ (m : Nat) (l : Int) (f : Int → Int), rg f N 0 96 → rg (plt C S t n m l f) N 0 96
  | 0, _, _, h => h
  | m + 1, l, f, h => by
    unfold plt
    exact plt_rg m (l + 1) _ (lyr_rg 3 _ f h)
section MG
variable {n L d : Nat} {G : XG} {μ : XM}
theorem m_asNow_lp (hG : Good n L G) : ∀ (m : Nat) (k : Int) (V : Nat → Int → Int), 0 ≤ k → k ≤ 72 → (72 - k).toNat = m → run d 1110 2 [xR 376, xI k] [] (V, G) = some (none, (vA (vA V 383 (fun j => if k ≤ j ∧ j < 72 then V 379 j else V 383 j)) 384 (fun j => if k ≤ j ∧ j < 72 then V 382 j else V 384 j), G)) := by
  intro m
  induction m with
  | zero =>
    intro k V h0 h1 hm
    rw [bk1110_2]
    simp (disch := first | omega | exact Nat.le_of_ble_eq_true rfl) only [bk1110_0, bk1110_38, Int.reduceToNat, vA_ap, Nat.reduceEqDiff, if_true, if_false, bx_nil, isL_I, isL_R, isL_U, if_ff, bind_some, tl_some, tl_none, bx_iconst, bx_istore_1, bx_iload_1, bx_bipush, bx_ic_ge, bx_aload_0, gf376_8 hG, ia383 hG, is383 hG, gf376_3 hG, ia379 hG, is379 hG, gf376_9 hG, ia384 hG, is384 hG, gf376_6 hG, ia382 hG, is382 hG, bx_iinc1, bx_goto, bx_vret, if_pos (show 72 ≤ k by omega)]
    rw [vA_id (V := V) (fun j => if_neg (by omega)), vA_id (fun j => if_neg (by omega))]
  | succ m ih =>
    intro k V h0 h1 hm
    rw [bk1110_2]
    simp (disch := first | omega | exact Nat.le_of_ble_eq_true rfl) only [bk1110_0, bk1110_38, Int.reduceToNat, vA_ap, Nat.reduceEqDiff, if_true, if_false, bx_nil, isL_I, isL_R, isL_U, if_ff, bind_some, tl_some, tl_none, bx_iconst, bx_istore_1, bx_iload_1, bx_bipush, bx_ic_ge, bx_aload_0, gf376_8 hG, ia383 hG, is383 hG, gf376_3 hG, ia379 hG, is379 hG, gf376_9 hG, ia384 hG, is384 hG, gf376_6 hG, ia382 hG, is382 hG, bx_iinc1, bx_goto, bx_vret, if_neg (show ¬ 72 ≤ k by omega)]
    rw [ih (k + 1) _ (by omega) (by omega) (by omega)]
    refine congrArg (fun z => some (none, (z, G))) (funext fun b => ?_)
    by_cases h1 : b = 384
    · subst h1
      funext j
      by_cases h : j = k
      · subst h
        simp [vA, vU]
        omega
      · by_cases h2 : k ≤ j ∧ j < 72
        · simp [vA, vU, h, h2, show k + 1 ≤ j by omega]
        · simp [vA, vU, h, h2, show ¬ (k + 1 ≤ j ∧ j < 72) by omega]
    · by_cases h3 : b = 383
      · subst h3
        funext j
        by_cases h : j = k
        · subst h
          simp [vA, vU]
          omega
        · by_cases h2 : k ≤ j ∧ j < 72
          · simp [vA, vU, h, h2, show k + 1 ≤ j by omega]
          · simp [vA, vU, h, h2, show ¬ (k + 1 ≤ j ∧ j < 72) by omega]
      · simp [vA, h1, h3]
theorem m_asNow {V : Nat → Int → Int} (hG : Good n L G) : run d 1110 0 [xR 376, xU] [] (V, G) = some (none, (vA (vA V 383 (fun j => if 0 ≤ j ∧ j < 72 then V 379 j else V 383 j)) 384 (fun j => if 0 ≤ j ∧ j < 72 then V 382 j else V 384 j), G)) := by
  simp (disch := first | omega | exact Nat.le_of_ble_eq_true rfl) only [bk1110_0, bk1110_38, Int.reduceToNat, vA_ap, Nat.reduceEqDiff, if_true, if_false, bx_nil, isL_I, isL_R, isL_U, if_ff, bind_some, tl_some, tl_none, bx_iconst, bx_istore_1, bx_iload_1, bx_bipush, bx_ic_ge, bx_aload_0, gf376_8 hG, ia383 hG, is383 hG, gf376_3 hG, ia379 hG, is379 hG, gf376_9 hG, ia384 hG, is384 hG, gf376_6 hG, ia382 hG, is382 hG, bx_iinc1, bx_goto, bx_vret]
  exact m_asNow_lp hG _ 0 V (by omega) (by omega) rfl
/-- what 'goes' needs of the memory -/
def mOK (n : Nat) (V : Nat → Int → Int) : Prop := V 376 0 = n ∧ (2 ≤ n ∧ n ≤ 6) ∧ rg (V 380) 72 (-1) 95 ∧ rg (V 383) 72 0 95 ∧ rg (V 384) 72 (-100) 100 ∧ (1 ≤ V 376 7 ∧ V 376 7 ≤ 99) ∧ rg (V 377) 96 0 96 ∧ rg (V 378) 96 0 96 ∧ rg (V 385) 6 0 96
theorem mOK_li {V : Nat → Int → Int} {f : Int → Int} (h : mOK n V) (hf : rg f 6 0 96) : mOK n (vA V 385 f) := by
  obtain ⟨a1, a2, a3, a4, a5, a6, a7, a8, a9⟩ := h
  refine ⟨a1, a2, a3, a4, a5, a6, a7, a8, ?_⟩
  rw [vA_same]
  exact hf
/-- the turn that a cell gives -/
def gT (n : Nat) (V : Nat → Int → Int) (b : Int) (l i : Int) : Int := if b = 0 then tO (V 380) (V 383) (6 * l + i) else ttM n (V 380) (V 383) (V 384) (V 376 7) l i
theorem gT_li {V : Nat → Int → Int} {f : Int → Int} {b : Int} : gT n (vA V 385 f) b = gT n V b := rfl
theorem ttM_bd {N l i : Int} {S B O : Int → Int} {cr : Int} (hs : S (6 * l + i) ≤ 95) : 0 ≤ ttM N S B O cr l i ∧ ttM N S B O cr l i ≤ 95 := by
  unfold ttM
  split
  · omega
  · omega
theorem gT_bd {V : Nat → Int → Int} {b l i : Int} (h : mOK n V) (hc : isC n l i) : 0 ≤ gT n V b l i ∧ gT n V b l i ≤ 95 := by
  obtain ⟨a1, a2, a3, a4, a5, a6, a7, a8, a9⟩ := h
  obtain ⟨g1, g2⟩ := isC_ix (by omega) hc
  unfold gT
  split
  · exact tO_bd (a3 _ g1 g2) (a4 _ g1 g2)
  · exact ttM_bd (a3 _ g1 g2).2
theorem lyr_stop {C S : Int → Int} {t : Int → Int → Int} {N l : Int} {f : Int → Int} : ∀ (m : Nat) (i : Int), ¬ i < N - 1 → lyr C S t N l m i f = f
  | 0, _, _ => rfl
  | m + 1, i, h => by unfold lyr; rw [if_neg h]
theorem m_goes_in (hG : Good n L G) {b : Int} (hb : b = 0 ∨ b = 1) {l : Int} (hl : 0 ≤ l ∧ l ≤ 11) : ∀ (m : Nat) (i : Int) (V : Nat → Int → Int), mOK n V → 0 ≤ i → i % 2 = l % 2 → i ≤ 7 → (n : Int) - 1 ≤ i + 2 * m → ∃ i' : Int, run (d + 4) 1117 12 [xR 376, xI b, xI l, xI i] [] (V, G) = run (d + 4) 1117 2 [xR 376, xI b, xI (l + 1), xI i'] [] (vA V 385 (lyr (V 377) (V 378) (gT n V b) n l m i (V 385)), G) := by
  intro m
  induction m with
  | zero =>
    intro i V h h0 h2 h7 hm
    refine ⟨i, ?_⟩
    have hn := h.1
    rw [bk1117_12]
    have h21 := h.2.1
    simp (disch := first | omega | exact Nat.le_of_ble_eq_true rfl) only [bk1117_0, bk1117_37, bk1117_47, bk1117_56, bk1117_62, Int.reduceToNat, vA_ap, Nat.reduceEqDiff, if_true, if_false, bx_nil, isL_I, isL_R, isL_U, if_ff, bind_some, tl_some, tl_none, bx_iconst, bx_istore_2, bx_iload_2, bx_bipush, bx_ic_ge, bx_irem, bx_istore_3, bx_iload_3, bx_aload_0, gf376_0 hG, bx_isub, bx_iload_1, bx_if_eq, cl1113 hG, bx_goto, bx_imul, bx_iadd, cl1112 hG, cl1118 hG, bx_iinc3, bx_iinc2, bx_vret, hn, if_pos (show (n : Int) - 1 ≤ i by omega)]
    rw [show lyr (V 377) (V 378) (gT n V b) n l 0 i (V 385) = V 385 from rfl, vA_self]
  | succ m ih =>
    intro i V h h0 h2 h7 hm
    have hn := h.1
    have h21 := h.2.1
    by_cases hi : i < (n : Int) - 1
    · have hc : isC n l i := ⟨hl, ⟨h0, by omega⟩, h2⟩
      obtain ⟨g1, g2⟩ := isC_ix (by omega) hc
      have hbd := gT_bd (b := b) h hc
      obtain ⟨a1, a2, a3, a4, a5, a6, a7, a8, a9⟩ := id h
      have ht : run (d + 4) 1117 12 [xR 376, xI b, xI l, xI i] [] (V, G) = run (d + 4) 1117 12 [xR 376, xI b, xI l, xI (i + 2)] [] (vA V 385 (turnL (V 377) (V 378) (V 385) i (gT n V b l i)), G) := by
        rw [bk1117_12]
        rcases hb with rfl | rfl
        · have e : gT n V 0 l i = tO (V 380) (V 383) (6 * l + i) := rfl
          rw [e] at hbd ⊢
          simp (disch := first | omega | exact Nat.le_of_ble_eq_true rfl) only [bk1117_0, bk1117_37, bk1117_47, bk1117_56, bk1117_62, Int.reduceToNat, vA_ap, Nat.reduceEqDiff, if_true, if_false, bx_nil, isL_I, isL_R, isL_U, if_ff, bind_some, tl_some, tl_none, bx_iconst, bx_istore_2, bx_iload_2, bx_bipush, bx_ic_ge, bx_irem, bx_istore_3, bx_iload_3, bx_aload_0, gf376_0 hG, bx_isub, bx_iload_1, bx_if_eq, cl1113 hG, bx_goto, bx_imul, bx_iadd, cl1112 hG, cl1118 hG, bx_iinc3, bx_iinc2, bx_vret, hn, if_neg (show ¬ (n : Int) - 1 ≤ i by omega), m_turnOf hG, m_turns hG (show 0 ≤ i ∧ i ≤ 4 by omega) hbd a7 a8 a9]
        · have e : gT n V 1 l i = ttM n (V 380) (V 383) (V 384) (V 376 7) l i := rfl
          rw [e] at hbd ⊢
          simp (disch := first | omega | exact Nat.le_of_ble_eq_true rfl) only [bk1117_0, bk1117_37, bk1117_47, bk1117_56, bk1117_62, Int.reduceToNat, vA_ap, Nat.reduceEqDiff, if_true, if_false, bx_nil, isL_I, isL_R, isL_U, if_ff, bind_some, tl_some, tl_none, bx_iconst, bx_istore_2, bx_iload_2, bx_bipush, bx_ic_ge, bx_irem, bx_istore_3, bx_iload_3, bx_aload_0, gf376_0 hG, bx_isub, bx_iload_1, bx_if_eq, cl1113 hG, bx_goto, bx_imul, bx_iadd, cl1112 hG, cl1118 hG, bx_iinc3, bx_iinc2, bx_vret, hn, if_neg (show ¬ (n : Int) - 1 ≤ i by omega), if_neg (show ¬ (1 : Int) = 0 by omega), m_trueTurn hG a1 a2.1 a2.2 a3 a4 a5 a6 hc, m_turns hG (show 0 ≤ i ∧ i ≤ 4 by omega) hbd a7 a8 a9]
      obtain ⟨i', e⟩ := ih (i + 2) (vA V 385 (turnL (V 377) (V 378) (V 385) i (gT n V b l i))) (mOK_li h (turnL_rg a9)) (by omega) (by omega) (by omega) (by omega)
      refine ⟨i', ?_⟩
      rw [ht, e, vA_vA]
      refine congrArg (fun z => run (d + 4) 1117 2 [xR 376, xI b, xI (l + 1), xI i'] [] (vA V 385 z, G)) ?_
      rw [vA_same, gT_li]
      conv => rhs; unfold lyr
      rw [if_pos hi]
      rfl
    · refine ⟨i, ?_⟩
      rw [bk1117_12]
      simp (disch := first | omega | exact Nat.le_of_ble_eq_true rfl) only [bk1117_0, bk1117_37, bk1117_47, bk1117_56, bk1117_62, Int.reduceToNat, vA_ap, Nat.reduceEqDiff, if_true, if_false, bx_nil, isL_I, isL_R, isL_U, if_ff, bind_some, tl_some, tl_none, bx_iconst, bx_istore_2, bx_iload_2, bx_bipush, bx_ic_ge, bx_irem, bx_istore_3, bx_iload_3, bx_aload_0, gf376_0 hG, bx_isub, bx_iload_1, bx_if_eq, cl1113 hG, bx_goto, bx_imul, bx_iadd, cl1112 hG, cl1118 hG, bx_iinc3, bx_iinc2, bx_vret, hn, if_pos (show (n : Int) - 1 ≤ i by omega)]
      rw [lyr_stop (m + 1) i hi, vA_self]
theorem m_goes_out (hG : Good n L G) {b : Int} (hb : b = 0 ∨ b = 1) : ∀ (m : Nat) (l : Int) (z : XV) (V : Nat → Int → Int), mOK n V → 0 ≤ l → l + m = 12 → run (d + 4) 1117 2 [xR 376, xI b, xI l, z] [] (V, G) = some (none, (vA V 385 (plt (V 377) (V 378) (gT n V b) n m l (V 385)), G)) := by
  intro m
  induction m with
  | zero =>
    intro l z V h h0 hm
    rw [bk1117_2]
    simp (disch := first | omega | exact Nat.le_of_ble_eq_true rfl) only [bk1117_0, bk1117_37, bk1117_47, bk1117_56, bk1117_62, Int.reduceToNat, vA_ap, Nat.reduceEqDiff, if_true, if_false, bx_nil, isL_I, isL_R, isL_U, if_ff, bind_some, tl_some, tl_none, bx_iconst, bx_istore_2, bx_iload_2, bx_bipush, bx_ic_ge, bx_irem, bx_istore_3, bx_iload_3, bx_aload_0, gf376_0 hG, bx_isub, bx_iload_1, bx_if_eq, cl1113 hG, bx_goto, bx_imul, bx_iadd, cl1112 hG, cl1118 hG, bx_iinc3, bx_iinc2, bx_vret, if_pos (show 12 ≤ l by omega)]
    rw [show plt (V 377) (V 378) (gT n V b) n 0 l (V 385) = V 385 from rfl, vA_self]
  | succ m ih =>
    intro l z V h h0 hm
    rw [bk1117_2]
    simp (disch := first | omega | exact Nat.le_of_ble_eq_true rfl) only [bk1117_0, bk1117_37, bk1117_47, bk1117_56, bk1117_62, Int.reduceToNat, vA_ap, Nat.reduceEqDiff, if_true, if_false, bx_nil, isL_I, isL_R, isL_U, if_ff, bind_some, tl_some, tl_none, bx_iconst, bx_istore_2, bx_iload_2, bx_bipush, bx_ic_ge, bx_irem, bx_istore_3, bx_iload_3, bx_aload_0, gf376_0 hG, bx_isub, bx_iload_1, bx_if_eq, cl1113 hG, bx_goto, bx_imul, bx_iadd, cl1112 hG, cl1118 hG, bx_iinc3, bx_iinc2, bx_vret, if_neg (show ¬ 12 ≤ l by omega)]
    rw [tm_pos h0 (by omega)]
    obtain ⟨i', e⟩ := m_goes_in (d := d) hG hb (show 0 ≤ l ∧ l ≤ 11 by omega) 3 (l % 2) V h (by omega) (by omega) (by omega) (by have := h.2.1; omega)
    rw [e, ih (l + 1) _ _ (mOK_li h (lyr_rg 3 _ _ h.2.2.2.2.2.2.2.2)) (by omega) (by omega), vA_vA, vA_same, gT_li]
    rfl
theorem m_goes {V : Nat → Int → Int} (hG : Good n L G) {b : Int} (hb : b = 0 ∨ b = 1) (h : mOK n V) : run (d + 4) 1117 0 [xR 376, xI b, xU, xU] [] (V, G) = some (none, (vA V 385 (plt (V 377) (V 378) (gT n V b) n 12 0 (V 385)), G)) := by
  simp (disch := first | omega | exact Nat.le_of_ble_eq_true rfl) only [bk1117_0, bk1117_37, bk1117_47, bk1117_56, bk1117_62, Int.reduceToNat, vA_ap, Nat.reduceEqDiff, if_true, if_false, bx_nil, isL_I, isL_R, isL_U, if_ff, bind_some, tl_some, tl_none, bx_iconst, bx_istore_2, bx_iload_2, bx_bipush, bx_ic_ge, bx_irem, bx_istore_3, bx_iload_3, bx_aload_0, gf376_0 hG, bx_isub, bx_iload_1, bx_if_eq, cl1113 hG, bx_goto, bx_imul, bx_iadd, cl1112 hG, cl1118 hG, bx_iinc3, bx_iinc2, bx_vret]
  exact m_goes_out hG hb 12 0 xU V h (by omega) (by omega)
end MG
