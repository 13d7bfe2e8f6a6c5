/-! THE LAW: its calls, one by one -/
section LW
variable {n L : Nat} {G : XG} {V : Nat → Int → Int} {i : Int}
theorem lw_c0 (hG : Good n L G) (hL : L ≤ 2561) (hiv : ∀ j, G.2.2.2.2 j ≠ 0) (hs : ∀ j, i32 (V 0 j)) (h : Inv n V) (hi : 1 ≤ i ∧ i + 5 ≤ L) : ∃ V'', run 800 1201 176 [xR 0, xR 1, xR 376, xI i] [] (V, G) = run 800 1201 28 [xR 0, xR 1, xR 376, xI (i + 5)] [] (V'', G) ∧ Inv n V'' ∧ V'' 0 = V 0 := by
  obtain ⟨r, V', V'', h1, h2, h3⟩ := pr_turn (k := V 0 (i + 1)) (w := V 0 (i + 2)) hG (hs _) h
  have k1 : V' 0 = V 0 := (kp_run hG.1 hiv h1).1
  have k2 : V'' 0 = V' 0 := (kp_run hG.1 hiv h2).1
  refine ⟨V'', ?_, h3, k2.trans k1⟩
  simp (disch := first | omega | exact Nat.le_of_ble_eq_true rfl) only [bk1201_176, bx_aload_0, bx_aload_1, bx_aload_2, bx_iload_3, bx_iconst, bx_bipush, bx_iadd, bx_sald hG.1, bx_i2l, bx_lshl, bx_ldc2, bx_land, bx_lor, bind_some, tl_some, bx_ic_eq, if_true, Int.reduceToNat, bk1201_1066, bx_iinc3, isL_R, if_ff, bx_goto, cl1001 hG, h1, k1, cl1102 hG, h2]
theorem lw_c1 (hG : Good n L G) (hL : L ≤ 2561) (hiv : ∀ j, G.2.2.2.2 j ≠ 0) (hs : ∀ j, i32 (V 0 j)) (h : Inv n V) (hi : 1 ≤ i ∧ i + 5 ≤ L) : ∃ V'', run 800 1201 209 [xR 0, xR 1, xR 376, xI i] [] (V, G) = run 800 1201 28 [xR 0, xR 1, xR 376, xI (i + 5)] [] (V'', G) ∧ Inv n V'' ∧ V'' 0 = V 0 := by
  obtain ⟨r, V', V'', h1, h2, h3⟩ := pr_set (l := V 0 (i + 1)) (i := V 0 (i + 2)) (k := V 0 (i + 3)) hG h
  have k1 : V' 0 = V 0 := (kp_run hG.1 hiv h1).1
  have k2 : V'' 0 = V' 0 := (kp_run hG.1 hiv h2).1
  refine ⟨V'', ?_, h3, k2.trans k1⟩
  simp (disch := first | omega | exact Nat.le_of_ble_eq_true rfl) only [bk1201_209, bx_aload_0, bx_aload_1, bx_aload_2, bx_iload_3, bx_iconst, bx_bipush, bx_iadd, bx_sald hG.1, bx_i2l, bx_lshl, bx_ldc2, bx_land, bx_lor, bind_some, tl_some, bx_ic_eq, if_true, Int.reduceToNat, bk1201_1066, bx_iinc3, isL_R, if_ff, bx_goto, cl1002 hG, h1, k1, cl1104 hG, h2]
theorem lw_c2 (hG : Good n L G) (hL : L ≤ 2561) (hiv : ∀ j, G.2.2.2.2 j ≠ 0) (hs : ∀ j, i32 (V 0 j)) (h : Inv n V) (hi : 1 ≤ i ∧ i + 5 ≤ L) : ∃ V'', run 800 1201 252 [xR 0, xR 1, xR 376, xI i] [] (V, G) = run 800 1201 28 [xR 0, xR 1, xR 376, xI (i + 5)] [] (V'', G) ∧ Inv n V'' ∧ V'' 0 = V 0 := by
  obtain ⟨r, V', V'', h1, h2, h3⟩ := pr_dies (l := V 0 (i + 1)) (i := V 0 (i + 2)) (k := V 0 (i + 3)) hG h
  have k1 : V' 0 = V 0 := (kp_run hG.1 hiv h1).1
  have k2 : V'' 0 = V' 0 := (kp_run hG.1 hiv h2).1
  refine ⟨V'', ?_, h3, k2.trans k1⟩
  simp (disch := first | omega | exact Nat.le_of_ble_eq_true rfl) only [bk1201_252, bx_aload_0, bx_aload_1, bx_aload_2, bx_iload_3, bx_iconst, bx_bipush, bx_iadd, bx_sald hG.1, bx_i2l, bx_lshl, bx_ldc2, bx_land, bx_lor, bind_some, tl_some, bx_ic_eq, if_true, Int.reduceToNat, bk1201_1066, bx_iinc3, isL_R, if_ff, bx_goto, cl1004 hG, h1, k1, cl1107 hG, h2]
theorem lw_c3 (hG : Good n L G) (hL : L ≤ 2561) (hiv : ∀ j, G.2.2.2.2 j ≠ 0) (hs : ∀ j, i32 (V 0 j)) (h : Inv n V) (hi : 1 ≤ i ∧ i + 5 ≤ L) : ∃ V'', run 800 1201 295 [xR 0, xR 1, xR 376, xI i] [] (V, G) = run 800 1201 28 [xR 0, xR 1, xR 376, xI (i + 5)] [] (V'', G) ∧ Inv n V'' ∧ V'' 0 = V 0 := by
  obtain ⟨r, V', V'', h1, h2, h3⟩ := pr_mend (l := V 0 (i + 1)) (i := V 0 (i + 2)) hG h
  have k1 : V' 0 = V 0 := (kp_run hG.1 hiv h1).1
  have k2 : V'' 0 = V' 0 := (kp_run hG.1 hiv h2).1
  refine ⟨V'', ?_, h3, k2.trans k1⟩
  simp (disch := first | omega | exact Nat.le_of_ble_eq_true rfl) only [bk1201_295, bx_aload_0, bx_aload_1, bx_aload_2, bx_iload_3, bx_iconst, bx_bipush, bx_iadd, bx_sald hG.1, bx_i2l, bx_lshl, bx_ldc2, bx_land, bx_lor, bind_some, tl_some, bx_ic_eq, if_true, Int.reduceToNat, bk1201_1066, bx_iinc3, isL_R, if_ff, bx_goto, cl1005 hG, h1, k1, cl1108 hG, h2]
theorem lw_c4 (hG : Good n L G) (hL : L ≤ 2561) (hiv : ∀ j, G.2.2.2.2 j ≠ 0) (hs : ∀ j, i32 (V 0 j)) (h : Inv n V) (hi : 1 ≤ i ∧ i + 5 ≤ L) : ∃ V'', run 800 1201 328 [xR 0, xR 1, xR 376, xI i] [] (V, G) = run 800 1201 28 [xR 0, xR 1, xR 376, xI (i + 5)] [] (V'', G) ∧ Inv n V'' ∧ V'' 0 = V 0 := by
  obtain ⟨r, V', V'', h1, h2, h3⟩ := pr_cell (l := V 0 (i + 1)) (i := V 0 (i + 2)) (w := V 0 (i + 3)) hG h
  have k1 : V' 0 = V 0 := (kp_run hG.1 hiv h1).1
  have k2 : V'' 0 = V' 0 := (kp_run hG.1 hiv h2).1
  refine ⟨V'', ?_, h3, k2.trans k1⟩
  simp (disch := first | omega | exact Nat.le_of_ble_eq_true rfl) only [bk1201_328, bx_aload_0, bx_aload_1, bx_aload_2, bx_iload_3, bx_iconst, bx_bipush, bx_iadd, bx_sald hG.1, bx_i2l, bx_lshl, bx_ldc2, bx_land, bx_lor, bind_some, tl_some, bx_ic_eq, if_true, Int.reduceToNat, bk1201_1066, bx_iinc3, isL_R, if_ff, bx_goto, cl1006 hG, h1, k1, cl1109 hG, h2]
theorem lw_c5 (hG : Good n L G) (hL : L ≤ 2561) (hiv : ∀ j, G.2.2.2.2 j ≠ 0) (hs : ∀ j, i32 (V 0 j)) (h : Inv n V) (hi : 1 ≤ i ∧ i + 5 ≤ L) : ∃ V'', run 800 1201 371 [xR 0, xR 1, xR 376, xI i] [] (V, G) = run 800 1201 28 [xR 0, xR 1, xR 376, xI (i + 5)] [] (V'', G) ∧ Inv n V'' ∧ V'' 0 = V 0 := by
  obtain ⟨r, V', V'', h1, h2, h3⟩ := pr_table (r := V 0 (i + 1)) (c := V 0 (i + 2)) hG h
  have k1 : V' 0 = V 0 := (kp_run hG.1 hiv h1).1
  have k2 : V'' 0 = V' 0 := (kp_run hG.1 hiv h2).1
  refine ⟨V'', ?_, h3, k2.trans k1⟩
  simp (disch := first | omega | exact Nat.le_of_ble_eq_true rfl) only [bk1201_371, bx_aload_0, bx_aload_1, bx_aload_2, bx_iload_3, bx_iconst, bx_bipush, bx_iadd, bx_sald hG.1, bx_i2l, bx_lshl, bx_ldc2, bx_land, bx_lor, bind_some, tl_some, bx_ic_eq, if_true, Int.reduceToNat, bk1201_1066, bx_iinc3, isL_R, if_ff, bx_goto, cl1007 hG, h1, k1, cl1114 hG, h2]
theorem lw_c6 (hG : Good n L G) (hL : L ≤ 2561) (hiv : ∀ j, G.2.2.2.2 j ≠ 0) (hs : ∀ j, i32 (V 0 j)) (h : Inv n V) (hi : 1 ≤ i ∧ i + 5 ≤ L) : ∃ V'', run 800 1201 404 [xR 0, xR 1, xR 376, xI i] [] (V, G) = run 800 1201 28 [xR 0, xR 1, xR 376, xI (i + 5)] [] (V'', G) ∧ Inv n V'' ∧ V'' 0 = V 0 := by
  obtain ⟨r, V', V'', h1, h2, h3⟩ := pr_entry (r := V 0 (i + 1)) (c := V 0 (i + 2)) (v := V 0 (i + 3)) hG h
  have k1 : V' 0 = V 0 := (kp_run hG.1 hiv h1).1
  have k2 : V'' 0 = V' 0 := (kp_run hG.1 hiv h2).1
  refine ⟨V'', ?_, h3, k2.trans k1⟩
  simp (disch := first | omega | exact Nat.le_of_ble_eq_true rfl) only [bk1201_404, bx_aload_0, bx_aload_1, bx_aload_2, bx_iload_3, bx_iconst, bx_bipush, bx_iadd, bx_sald hG.1, bx_i2l, bx_lshl, bx_ldc2, bx_land, bx_lor, bind_some, tl_some, bx_ic_eq, if_true, Int.reduceToNat, bk1201_1066, bx_iinc3, isL_R, if_ff, bx_goto, cl1009 hG, h1, k1, cl1119 hG, h2]
theorem lw_c7 (hG : Good n L G) (hL : L ≤ 2561) (hiv : ∀ j, G.2.2.2.2 j ≠ 0) (hs : ∀ j, i32 (V 0 j)) (h : Inv n V) (hi : 1 ≤ i ∧ i + 5 ≤ L) : ∃ V'', run 800 1201 447 [xR 0, xR 1, xR 376, xI i] [] (V, G) = run 800 1201 28 [xR 0, xR 1, xR 376, xI (i + 5)] [] (V'', G) ∧ Inv n V'' ∧ V'' 0 = V 0 := by
  obtain ⟨r, V', V'', h1, h2, h3⟩ := pr_take hG h
  have k1 : V' 0 = V 0 := (kp_run hG.1 hiv h1).1
  have k2 : V'' 0 = V' 0 := (kp_run hG.1 hiv h2).1
  refine ⟨V'', ?_, h3, k2.trans k1⟩
  simp (disch := first | omega | exact Nat.le_of_ble_eq_true rfl) only [bk1201_447, bx_aload_0, bx_aload_1, bx_aload_2, bx_iload_3, bx_iconst, bx_bipush, bx_iadd, bx_sald hG.1, bx_i2l, bx_lshl, bx_ldc2, bx_land, bx_lor, bind_some, tl_some, bx_ic_eq, if_true, Int.reduceToNat, bk1201_1066, bx_iinc3, isL_R, if_ff, bx_goto, cl1010 hG, h1, k1, cl1120 hG, h2]
theorem lw_c8 (hG : Good n L G) (hL : L ≤ 2561) (hiv : ∀ j, G.2.2.2.2 j ≠ 0) (hs : ∀ j, i32 (V 0 j)) (h : Inv n V) (hi : 1 ≤ i ∧ i + 5 ≤ L) : ∃ V'', run 800 1201 460 [xR 0, xR 1, xR 376, xI i] [] (V, G) = run 800 1201 28 [xR 0, xR 1, xR 376, xI (i + 5)] [] (V'', G) ∧ Inv n V'' ∧ V'' 0 = V 0 := by
  obtain ⟨r, V', V'', h1, h2, h3⟩ := pr_right hG h
  have k1 : V' 0 = V 0 := (kp_run hG.1 hiv h1).1
  have k2 : V'' 0 = V' 0 := (kp_run hG.1 hiv h2).1
  refine ⟨V'', ?_, h3, k2.trans k1⟩
  simp (disch := first | omega | exact Nat.le_of_ble_eq_true rfl) only [bk1201_460, bx_aload_0, bx_aload_1, bx_aload_2, bx_iload_3, bx_iconst, bx_bipush, bx_iadd, bx_sald hG.1, bx_i2l, bx_lshl, bx_ldc2, bx_land, bx_lor, bind_some, tl_some, bx_ic_eq, if_true, Int.reduceToNat, bk1201_1066, bx_iinc3, isL_R, if_ff, bx_goto, cl1011 hG, h1, k1, cl1121 hG, h2]
theorem lw_c9 (hG : Good n L G) (hL : L ≤ 2561) (hiv : ∀ j, G.2.2.2.2 j ≠ 0) (hs : ∀ j, i32 (V 0 j)) (h : Inv n V) (hi : 1 ≤ i ∧ i + 5 ≤ L) : ∃ V'', run 800 1201 473 [xR 0, xR 1, xR 376, xI i] [] (V, G) = run 800 1201 28 [xR 0, xR 1, xR 376, xI (i + 5)] [] (V'', G) ∧ Inv n V'' ∧ V'' 0 = V 0 := by
  obtain ⟨r, V', V'', h1, h2, h3⟩ := pr_split hG h
  have k1 : V' 0 = V 0 := (kp_run hG.1 hiv h1).1
  have k2 : V'' 0 = V' 0 := (kp_run hG.1 hiv h2).1
  refine ⟨V'', ?_, h3, k2.trans k1⟩
  simp (disch := first | omega | exact Nat.le_of_ble_eq_true rfl) only [bk1201_473, bx_aload_0, bx_aload_1, bx_aload_2, bx_iload_3, bx_iconst, bx_bipush, bx_iadd, bx_sald hG.1, bx_i2l, bx_lshl, bx_ldc2, bx_land, bx_lor, bind_some, tl_some, bx_ic_eq, if_true, Int.reduceToNat, bk1201_1066, bx_iinc3, isL_R, if_ff, bx_goto, cl1012 hG, h1, k1, cl1122 hG, h2]
theorem lw_c10 (hG : Good n L G) (hL : L ≤ 2561) (hiv : ∀ j, G.2.2.2.2 j ≠ 0) (hs : ∀ j, i32 (V 0 j)) (h : Inv n V) (hi : 1 ≤ i ∧ i + 5 ≤ L) : ∃ V'', run 800 1201 486 [xR 0, xR 1, xR 376, xI i] [] (V, G) = run 800 1201 28 [xR 0, xR 1, xR 376, xI (i + 5)] [] (V'', G) ∧ Inv n V'' ∧ V'' 0 = V 0 := by
  obtain ⟨r, V', V'', h1, h2, h3⟩ := pr_step (i := V 0 (i + 1)) (w := V 0 (i + 2)) hG h
  have k1 : V' 0 = V 0 := (kp_run hG.1 hiv h1).1
  have k2 : V'' 0 = V' 0 := (kp_run hG.1 hiv h2).1
  refine ⟨V'', ?_, h3, k2.trans k1⟩
  simp (disch := first | omega | exact Nat.le_of_ble_eq_true rfl) only [bk1201_486, bx_aload_0, bx_aload_1, bx_aload_2, bx_iload_3, bx_iconst, bx_bipush, bx_iadd, bx_sald hG.1, bx_i2l, bx_lshl, bx_ldc2, bx_land, bx_lor, bind_some, tl_some, bx_ic_eq, if_true, Int.reduceToNat, bk1201_1066, bx_iinc3, isL_R, if_ff, bx_goto, cl1013 hG, h1, k1, cl1124 hG, h2]
theorem lw_c11 (hG : Good n L G) (hL : L ≤ 2561) (hiv : ∀ j, G.2.2.2.2 j ≠ 0) (hs : ∀ j, i32 (V 0 j)) (h : Inv n V) (hi : 1 ≤ i ∧ i + 5 ≤ L) : ∃ V'', run 800 1201 519 [xR 0, xR 1, xR 376, xI i] [] (V, G) = run 800 1201 28 [xR 0, xR 1, xR 376, xI (i + 5)] [] (V'', G) ∧ Inv n V'' ∧ V'' 0 = V 0 := by
  obtain ⟨r, V', V'', h1, h2, h3⟩ := pr_undo hG h
  have k1 : V' 0 = V 0 := (kp_run hG.1 hiv h1).1
  have k2 : V'' 0 = V' 0 := (kp_run hG.1 hiv h2).1
  refine ⟨V'', ?_, h3, k2.trans k1⟩
  simp (disch := first | omega | exact Nat.le_of_ble_eq_true rfl) only [bk1201_519, bx_aload_0, bx_aload_1, bx_aload_2, bx_iload_3, bx_iconst, bx_bipush, bx_iadd, bx_sald hG.1, bx_i2l, bx_lshl, bx_ldc2, bx_land, bx_lor, bind_some, tl_some, bx_ic_eq, if_true, Int.reduceToNat, bk1201_1066, bx_iinc3, isL_R, if_ff, bx_goto, cl1014 hG, h1, k1, cl1125 hG, h2]
theorem lw_c12 (hG : Good n L G) (hL : L ≤ 2561) (hiv : ∀ j, G.2.2.2.2 j ≠ 0) (hs : ∀ j, i32 (V 0 j)) (h : Inv n V) (hi : 1 ≤ i ∧ i + 5 ≤ L) : ∃ V'', run 800 1201 532 [xR 0, xR 1, xR 376, xI i] [] (V, G) = run 800 1201 28 [xR 0, xR 1, xR 376, xI (i + 5)] [] (V'', G) ∧ Inv n V'' ∧ V'' 0 = V 0 := by
  obtain ⟨r, V', V'', h1, h2, h3⟩ := pr_work (i := V 0 (i + 1)) (w := V 0 (i + 2)) hG h
  have k1 : V' 0 = V 0 := (kp_run hG.1 hiv h1).1
  have k2 : V'' 0 = V' 0 := (kp_run hG.1 hiv h2).1
  refine ⟨V'', ?_, h3, k2.trans k1⟩
  simp (disch := first | omega | exact Nat.le_of_ble_eq_true rfl) only [bk1201_532, bx_aload_0, bx_aload_1, bx_aload_2, bx_iload_3, bx_iconst, bx_bipush, bx_iadd, bx_sald hG.1, bx_i2l, bx_lshl, bx_ldc2, bx_land, bx_lor, bind_some, tl_some, bx_ic_eq, if_true, Int.reduceToNat, bk1201_1066, bx_iinc3, isL_R, if_ff, bx_goto, cl1015 hG, h1, k1, cl1126 hG, h2]
theorem lw_c13 (hG : Good n L G) (hL : L ≤ 2561) (hiv : ∀ j, G.2.2.2.2 j ≠ 0) (hs : ∀ j, i32 (V 0 j)) (h : Inv n V) (hi : 1 ≤ i ∧ i + 5 ≤ L) : ∃ V'', run 800 1201 565 [xR 0, xR 1, xR 376, xI i] [] (V, G) = run 800 1201 28 [xR 0, xR 1, xR 376, xI (i + 5)] [] (V'', G) ∧ Inv n V'' ∧ V'' 0 = V 0 := by
  obtain ⟨r, V', V'', h1, h2, h3⟩ := pr_lay hG h
  have k1 : V' 0 = V 0 := (kp_run hG.1 hiv h1).1
  have k2 : V'' 0 = V' 0 := (kp_run hG.1 hiv h2).1
  refine ⟨V'', ?_, h3, k2.trans k1⟩
  simp (disch := first | omega | exact Nat.le_of_ble_eq_true rfl) only [bk1201_565, bx_aload_0, bx_aload_1, bx_aload_2, bx_iload_3, bx_iconst, bx_bipush, bx_iadd, bx_sald hG.1, bx_i2l, bx_lshl, bx_ldc2, bx_land, bx_lor, bind_some, tl_some, bx_ic_eq, if_true, Int.reduceToNat, bk1201_1066, bx_iinc3, isL_R, if_ff, bx_goto, cl1016 hG, h1, k1, cl1127 hG, h2]
theorem lw_c14 (hG : Good n L G) (hL : L ≤ 2561) (hiv : ∀ j, G.2.2.2.2 j ≠ 0) (hs : ∀ j, i32 (V 0 j)) (h : Inv n V) (hi : 1 ≤ i ∧ i + 5 ≤ L) : ∃ V'', run 800 1201 578 [xR 0, xR 1, xR 376, xI i] [] (V, G) = run 800 1201 28 [xR 0, xR 1, xR 376, xI (i + 5)] [] (V'', G) ∧ Inv n V'' ∧ V'' 0 = V 0 := by
  obtain ⟨r, V', V'', h1, h2, h3⟩ := pr_feed (w := (b64 (fun a b => a ||| b) (s64 (fun a b => a <<< (b.toInt64 &&& 63)) (V 0 (i + 1)) 32) (b64 (fun a b => a &&& b) (V 0 (i + 2)) 4294967295))) (N := V 0 (i + 3)) hG h (hs _)
  have k1 : V' 0 = V 0 := (kp_run hG.1 hiv h1).1
  have k2 : V'' 0 = V' 0 := (kp_run hG.1 hiv h2).1
  refine ⟨V'', ?_, h3, k2.trans k1⟩
  simp (disch := first | omega | exact Nat.le_of_ble_eq_true rfl) only [bk1201_578, bx_aload_0, bx_aload_1, bx_aload_2, bx_iload_3, bx_iconst, bx_bipush, bx_iadd, bx_sald hG.1, bx_i2l, bx_lshl, bx_ldc2, bx_land, bx_lor, bind_some, tl_some, bx_ic_eq, if_true, Int.reduceToNat, bk1201_1066, bx_iinc3, isL_R, if_ff, bx_goto, cl1017 hG, h1, k1, cl1132 hG, h2]
theorem lw_c15 (hG : Good n L G) (hL : L ≤ 2561) (hiv : ∀ j, G.2.2.2.2 j ≠ 0) (hs : ∀ j, i32 (V 0 j)) (h : Inv n V) (hi : 1 ≤ i ∧ i + 5 ≤ L) : ∃ V'', run 800 1201 641 [xR 0, xR 1, xR 376, xI i] [] (V, G) = run 800 1201 28 [xR 0, xR 1, xR 376, xI (i + 5)] [] (V'', G) ∧ Inv n V'' ∧ V'' 0 = V 0 := by
  obtain ⟨r, V', V'', h1, h2, h3⟩ := pr_program hG h
  have k1 : V' 0 = V 0 := (kp_run hG.1 hiv h1).1
  have k2 : V'' 0 = V' 0 := (kp_run hG.1 hiv h2).1
  refine ⟨V'', ?_, h3, k2.trans k1⟩
  simp (disch := first | omega | exact Nat.le_of_ble_eq_true rfl) only [bk1201_641, bx_aload_0, bx_aload_1, bx_aload_2, bx_iload_3, bx_iconst, bx_bipush, bx_iadd, bx_sald hG.1, bx_i2l, bx_lshl, bx_ldc2, bx_land, bx_lor, bind_some, tl_some, bx_ic_eq, if_true, Int.reduceToNat, bk1201_1066, bx_iinc3, isL_R, if_ff, bx_goto, cl1018 hG, h1, k1, cl1133 hG, h2]
theorem lw_c16 (hG : Good n L G) (hL : L ≤ 2561) (hiv : ∀ j, G.2.2.2.2 j ≠ 0) (hs : ∀ j, i32 (V 0 j)) (h : Inv n V) (hi : 1 ≤ i ∧ i + 5 ≤ L) : ∃ V'', run 800 1201 654 [xR 0, xR 1, xR 376, xI i] [] (V, G) = run 800 1201 28 [xR 0, xR 1, xR 376, xI (i + 5)] [] (V'', G) ∧ Inv n V'' ∧ V'' 0 = V 0 := by
  obtain ⟨r, V', V'', h1, h2, h3⟩ := pr_creep (k := V 0 (i + 1)) hG h
  have k1 : V' 0 = V 0 := (kp_run hG.1 hiv h1).1
  have k2 : V'' 0 = V' 0 := (kp_run hG.1 hiv h2).1
  refine ⟨V'', ?_, h3, k2.trans k1⟩
  simp (disch := first | omega | exact Nat.le_of_ble_eq_true rfl) only [bk1201_654, bx_aload_0, bx_aload_1, bx_aload_2, bx_iload_3, bx_iconst, bx_bipush, bx_iadd, bx_sald hG.1, bx_i2l, bx_lshl, bx_ldc2, bx_land, bx_lor, bind_some, tl_some, bx_ic_eq, if_true, Int.reduceToNat, bk1201_1066, bx_iinc3, isL_R, if_ff, bx_goto, cl1019 hG, h1, k1, cl1144 hG, h2]
theorem lw_c17 (hG : Good n L G) (hL : L ≤ 2561) (hiv : ∀ j, G.2.2.2.2 j ≠ 0) (hs : ∀ j, i32 (V 0 j)) (h : Inv n V) (hi : 1 ≤ i ∧ i + 5 ≤ L) : ∃ V'', run 800 1201 677 [xR 0, xR 1, xR 376, xI i] [] (V, G) = run 800 1201 28 [xR 0, xR 1, xR 376, xI (i + 5)] [] (V'', G) ∧ Inv n V'' ∧ V'' 0 = V 0 := by
  obtain ⟨r, V', V'', h1, h2, h3⟩ := pr_offset (l := V 0 (i + 1)) (i := V 0 (i + 2)) (k := V 0 (i + 3)) hG h
  have k1 : V' 0 = V 0 := (kp_run hG.1 hiv h1).1
  have k2 : V'' 0 = V' 0 := (kp_run hG.1 hiv h2).1
  refine ⟨V'', ?_, h3, k2.trans k1⟩
  simp (disch := first | omega | exact Nat.le_of_ble_eq_true rfl) only [bk1201_677, bx_aload_0, bx_aload_1, bx_aload_2, bx_iload_3, bx_iconst, bx_bipush, bx_iadd, bx_sald hG.1, bx_i2l, bx_lshl, bx_ldc2, bx_land, bx_lor, bind_some, tl_some, bx_ic_eq, if_true, Int.reduceToNat, bk1201_1066, bx_iinc3, isL_R, if_ff, bx_goto, cl1020 hG, h1, k1, cl1145 hG, h2]
theorem lw_c18 (hG : Good n L G) (hL : L ≤ 2561) (hiv : ∀ j, G.2.2.2.2 j ≠ 0) (hs : ∀ j, i32 (V 0 j)) (h : Inv n V) (hi : 1 ≤ i ∧ i + 5 ≤ L) : ∃ V'', run 800 1201 720 [xR 0, xR 1, xR 376, xI i] [] (V, G) = run 800 1201 28 [xR 0, xR 1, xR 376, xI (i + 5)] [] (V'', G) ∧ Inv n V'' ∧ V'' 0 = V 0 := by
  obtain ⟨r, V', V'', h1, h2, h3⟩ := pr_run (w := (b64 (fun a b => a ||| b) (s64 (fun a b => a <<< (b.toInt64 &&& 63)) (V 0 (i + 1)) 32) (b64 (fun a b => a &&& b) (V 0 (i + 2)) 4294967295))) hG h
  have k1 : V' 0 = V 0 := (kp_run hG.1 hiv h1).1
  have k2 : V'' 0 = V' 0 := (kp_run hG.1 hiv h2).1
  refine ⟨V'', ?_, h3, k2.trans k1⟩
  simp (disch := first | omega | exact Nat.le_of_ble_eq_true rfl) only [bk1201_720, bx_aload_0, bx_aload_1, bx_aload_2, bx_iload_3, bx_iconst, bx_bipush, bx_iadd, bx_sald hG.1, bx_i2l, bx_lshl, bx_ldc2, bx_land, bx_lor, bind_some, tl_some, bx_ic_eq, if_true, Int.reduceToNat, bk1201_1066, bx_iinc3, isL_R, if_ff, bx_goto, cl1022 hG, h1, k1, cl1146 hG, h2]
theorem lw_c19 (hG : Good n L G) (hL : L ≤ 2561) (hiv : ∀ j, G.2.2.2.2 j ≠ 0) (hs : ∀ j, i32 (V 0 j)) (h : Inv n V) (hi : 1 ≤ i ∧ i + 5 ≤ L) : ∃ V'', run 800 1201 773 [xR 0, xR 1, xR 376, xI i] [] (V, G) = run 800 1201 28 [xR 0, xR 1, xR 376, xI (i + 5)] [] (V'', G) ∧ Inv n V'' ∧ V'' 0 = V 0 := by
  obtain ⟨r, V', V'', h1, h2, h3⟩ := pr_out (r := V 0 (i + 1)) (l := V 0 (i + 2)) hG h
  have k1 : V' 0 = V 0 := (kp_run hG.1 hiv h1).1
  have k2 : V'' 0 = V' 0 := (kp_run hG.1 hiv h2).1
  refine ⟨V'', ?_, h3, k2.trans k1⟩
  simp (disch := first | omega | exact Nat.le_of_ble_eq_true rfl) only [bk1201_773, bx_aload_0, bx_aload_1, bx_aload_2, bx_iload_3, bx_iconst, bx_bipush, bx_iadd, bx_sald hG.1, bx_i2l, bx_lshl, bx_ldc2, bx_land, bx_lor, bind_some, tl_some, bx_ic_eq, if_true, Int.reduceToNat, bk1201_1066, bx_iinc3, isL_R, if_ff, bx_goto, cl1023 hG, h1, k1, cl1147 hG, h2]
theorem lw_c20 (hG : Good n L G) (hL : L ≤ 2561) (hiv : ∀ j, G.2.2.2.2 j ≠ 0) (hs : ∀ j, i32 (V 0 j)) (h : Inv n V) (hi : 1 ≤ i ∧ i + 5 ≤ L) : ∃ V'', run 800 1201 806 [xR 0, xR 1, xR 376, xI i] [] (V, G) = run 800 1201 28 [xR 0, xR 1, xR 376, xI (i + 5)] [] (V'', G) ∧ Inv n V'' ∧ V'' 0 = V 0 := by
  obtain ⟨r, V', V'', h1, h2, h3⟩ := pr_reworked (r := V 0 (i + 1)) (l := V 0 (i + 2)) hG h
  have k1 : V' 0 = V 0 := (kp_run hG.1 hiv h1).1
  have k2 : V'' 0 = V' 0 := (kp_run hG.1 hiv h2).1
  refine ⟨V'', ?_, h3, k2.trans k1⟩
  simp (disch := first | omega | exact Nat.le_of_ble_eq_true rfl) only [bk1201_806, bx_aload_0, bx_aload_1, bx_aload_2, bx_iload_3, bx_iconst, bx_bipush, bx_iadd, bx_sald hG.1, bx_i2l, bx_lshl, bx_ldc2, bx_land, bx_lor, bind_some, tl_some, bx_ic_eq, if_true, Int.reduceToNat, bk1201_1066, bx_iinc3, isL_R, if_ff, bx_goto, cl1024 hG, h1, k1, cl1149 hG, h2]
theorem lw_c21 (hG : Good n L G) (hL : L ≤ 2561) (hiv : ∀ j, G.2.2.2.2 j ≠ 0) (hs : ∀ j, i32 (V 0 j)) (h : Inv n V) (hi : 1 ≤ i ∧ i + 5 ≤ L) : ∃ V'', run 800 1201 839 [xR 0, xR 1, xR 376, xI i] [] (V, G) = run 800 1201 28 [xR 0, xR 1, xR 376, xI (i + 5)] [] (V'', G) ∧ Inv n V'' ∧ V'' 0 = V 0 := by
  obtain ⟨r, V', V'', h1, h2, h3⟩ := pr_since hG h
  have k1 : V' 0 = V 0 := (kp_run hG.1 hiv h1).1
  have k2 : V'' 0 = V' 0 := (kp_run hG.1 hiv h2).1
  refine ⟨V'', ?_, h3, k2.trans k1⟩
  simp (disch := first | omega | exact Nat.le_of_ble_eq_true rfl) only [bk1201_839, bx_aload_0, bx_aload_1, bx_aload_2, bx_iload_3, bx_iconst, bx_bipush, bx_iadd, bx_sald hG.1, bx_i2l, bx_lshl, bx_ldc2, bx_land, bx_lor, bind_some, tl_some, bx_ic_eq, if_true, Int.reduceToNat, bk1201_1066, bx_iinc3, isL_R, if_ff, bx_goto, cl1025 hG, h1, k1, cl1152 hG, h2]
theorem lw_c22 (hG : Good n L G) (hL : L ≤ 2561) (hiv : ∀ j, G.2.2.2.2 j ≠ 0) (hs : ∀ j, i32 (V 0 j)) (h : Inv n V) (hi : 1 ≤ i ∧ i + 5 ≤ L) : ∃ V'', run 800 1201 852 [xR 0, xR 1, xR 376, xI i] [] (V, G) = run 800 1201 28 [xR 0, xR 1, xR 376, xI (i + 5)] [] (V'', G) ∧ Inv n V'' ∧ V'' 0 = V 0 := by
  obtain ⟨r, V', V'', h1, h2, h3⟩ := pr_found (l := V 0 (i + 1)) (i := V 0 (i + 2)) (k := V 0 (i + 3)) (t := V 0 (i + 4)) hG h
  have k1 : V' 0 = V 0 := (kp_run hG.1 hiv h1).1
  have k2 : V'' 0 = V' 0 := (kp_run hG.1 hiv h2).1
  refine ⟨V'', ?_, h3, k2.trans k1⟩
  simp (disch := first | omega | exact Nat.le_of_ble_eq_true rfl) only [bk1201_852, bx_aload_0, bx_aload_1, bx_aload_2, bx_iload_3, bx_iconst, bx_bipush, bx_iadd, bx_sald hG.1, bx_i2l, bx_lshl, bx_ldc2, bx_land, bx_lor, bind_some, tl_some, bx_ic_eq, if_true, Int.reduceToNat, bk1201_1066, bx_iinc3, isL_R, if_ff, bx_goto, cl1026 hG, h1, k1, cl1153 hG, h2]
theorem lw_c23 (hG : Good n L G) (hL : L ≤ 2561) (hiv : ∀ j, G.2.2.2.2 j ≠ 0) (hs : ∀ j, i32 (V 0 j)) (h : Inv n V) (hi : 1 ≤ i ∧ i + 5 ≤ L) : ∃ V'', run 800 1201 905 [xR 0, xR 1, xR 376, xI i] [] (V, G) = run 800 1201 28 [xR 0, xR 1, xR 376, xI (i + 5)] [] (V'', G) ∧ Inv n V'' ∧ V'' 0 = V 0 := by
  obtain ⟨r, V', V'', h1, h2, h3⟩ := pr_probing hG h
  have k1 : V' 0 = V 0 := (kp_run hG.1 hiv h1).1
  have k2 : V'' 0 = V' 0 := (kp_run hG.1 hiv h2).1
  refine ⟨V'', ?_, h3, k2.trans k1⟩
  simp (disch := first | omega | exact Nat.le_of_ble_eq_true rfl) only [bk1201_905, bx_aload_0, bx_aload_1, bx_aload_2, bx_iload_3, bx_iconst, bx_bipush, bx_iadd, bx_sald hG.1, bx_i2l, bx_lshl, bx_ldc2, bx_land, bx_lor, bind_some, tl_some, bx_ic_eq, if_true, Int.reduceToNat, bk1201_1066, bx_iinc3, isL_R, if_ff, bx_goto, cl1027 hG, h1, k1, cl1154 hG, h2]
theorem lw_c24 (hG : Good n L G) (hL : L ≤ 2561) (hiv : ∀ j, G.2.2.2.2 j ≠ 0) (hs : ∀ j, i32 (V 0 j)) (h : Inv n V) (hi : 1 ≤ i ∧ i + 5 ≤ L) : ∃ V'', run 800 1201 918 [xR 0, xR 1, xR 376, xI i] [] (V, G) = run 800 1201 28 [xR 0, xR 1, xR 376, xI (i + 5)] [] (V'', G) ∧ Inv n V'' ∧ V'' 0 = V 0 := by
  obtain ⟨r, V', V'', h1, h2, h3⟩ := pr_probe (j := V 0 (i + 1)) (m := V 0 (i + 2)) hG h
  have k1 : V' 0 = V 0 := (kp_run hG.1 hiv h1).1
  have k2 : V'' 0 = V' 0 := (kp_run hG.1 hiv h2).1
  refine ⟨V'', ?_, h3, k2.trans k1⟩
  simp (disch := first | omega | exact Nat.le_of_ble_eq_true rfl) only [bk1201_918, bx_aload_0, bx_aload_1, bx_aload_2, bx_iload_3, bx_iconst, bx_bipush, bx_iadd, bx_sald hG.1, bx_i2l, bx_lshl, bx_ldc2, bx_land, bx_lor, bind_some, tl_some, bx_ic_eq, if_true, Int.reduceToNat, bk1201_1066, bx_iinc3, isL_R, if_ff, bx_goto, cl1028 hG, h1, k1, cl1155 hG, h2]
theorem lw_c25 (hG : Good n L G) (hL : L ≤ 2561) (hiv : ∀ j, G.2.2.2.2 j ≠ 0) (hs : ∀ j, i32 (V 0 j)) (h : Inv n V) (hi : 1 ≤ i ∧ i + 5 ≤ L) : ∃ V'', run 800 1201 951 [xR 0, xR 1, xR 376, xI i] [] (V, G) = run 800 1201 28 [xR 0, xR 1, xR 376, xI (i + 5)] [] (V'', G) ∧ Inv n V'' ∧ V'' 0 = V 0 := by
  obtain ⟨r, V', V'', h1, h2, h3⟩ := pr_held (i := V 0 (i + 1)) hG h
  have k1 : V' 0 = V 0 := (kp_run hG.1 hiv h1).1
  have k2 : V'' 0 = V' 0 := (kp_run hG.1 hiv h2).1
  refine ⟨V'', ?_, h3, k2.trans k1⟩
  simp (disch := first | omega | exact Nat.le_of_ble_eq_true rfl) only [bk1201_951, bx_aload_0, bx_aload_1, bx_aload_2, bx_iload_3, bx_iconst, bx_bipush, bx_iadd, bx_sald hG.1, bx_i2l, bx_lshl, bx_ldc2, bx_land, bx_lor, bind_some, tl_some, bx_ic_eq, if_true, Int.reduceToNat, bk1201_1066, bx_iinc3, isL_R, if_ff, bx_goto, cl1029 hG, h1, k1, cl1158 hG, h2]
theorem lw_c26 (hG : Good n L G) (hL : L ≤ 2561) (hiv : ∀ j, G.2.2.2.2 j ≠ 0) (hs : ∀ j, i32 (V 0 j)) (h : Inv n V) (hi : 1 ≤ i ∧ i + 5 ≤ L) : ∃ V'', run 800 1201 974 [xR 0, xR 1, xR 376, xI i] [] (V, G) = run 800 1201 28 [xR 0, xR 1, xR 376, xI (i + 5)] [] (V'', G) ∧ Inv n V'' ∧ V'' 0 = V 0 := by
  obtain ⟨r, V', V'', h1, h2, h3⟩ := pr_next hG h
  have k1 : V' 0 = V 0 := (kp_run hG.1 hiv h1).1
  have k2 : V'' 0 = V' 0 := (kp_run hG.1 hiv h2).1
  refine ⟨V'', ?_, h3, k2.trans k1⟩
  simp (disch := first | omega | exact Nat.le_of_ble_eq_true rfl) only [bk1201_974, bx_aload_0, bx_aload_1, bx_aload_2, bx_iload_3, bx_iconst, bx_bipush, bx_iadd, bx_sald hG.1, bx_i2l, bx_lshl, bx_ldc2, bx_land, bx_lor, bind_some, tl_some, bx_ic_eq, if_true, Int.reduceToNat, bk1201_1066, bx_iinc3, isL_R, if_ff, bx_goto, cl1030 hG, h1, k1, cl1159 hG, h2]
theorem lw_c27 (hG : Good n L G) (hL : L ≤ 2561) (hiv : ∀ j, G.2.2.2.2 j ≠ 0) (hs : ∀ j, i32 (V 0 j)) (h : Inv n V) (hi : 1 ≤ i ∧ i + 5 ≤ L) : ∃ V'', run 800 1201 987 [xR 0, xR 1, xR 376, xI i] [] (V, G) = run 800 1201 28 [xR 0, xR 1, xR 376, xI (i + 5)] [] (V'', G) ∧ Inv n V'' ∧ V'' 0 = V 0 := by
  obtain ⟨r, V', V'', h1, h2, h3⟩ := pr_claim (u := V 0 (i + 1)) (l := V 0 (i + 2)) (i := V 0 (i + 3)) hG h
  have k1 : V' 0 = V 0 := (kp_run hG.1 hiv h1).1
  have k2 : V'' 0 = V' 0 := (kp_run hG.1 hiv h2).1
  refine ⟨V'', ?_, h3, k2.trans k1⟩
  simp (disch := first | omega | exact Nat.le_of_ble_eq_true rfl) only [bk1201_987, bx_aload_0, bx_aload_1, bx_aload_2, bx_iload_3, bx_iconst, bx_bipush, bx_iadd, bx_sald hG.1, bx_i2l, bx_lshl, bx_ldc2, bx_land, bx_lor, bind_some, tl_some, bx_ic_eq, if_true, Int.reduceToNat, bk1201_1066, bx_iinc3, isL_R, if_ff, bx_goto, cl1031 hG, h1, k1, cl1160 hG, h2]
theorem lw_c28 (hG : Good n L G) (hL : L ≤ 2561) (hiv : ∀ j, G.2.2.2.2 j ≠ 0) (hs : ∀ j, i32 (V 0 j)) (h : Inv n V) (hi : 1 ≤ i ∧ i + 5 ≤ L) : ∃ V'', run 800 1201 1030 [xR 0, xR 1, xR 376, xI i] [] (V, G) = run 800 1201 28 [xR 0, xR 1, xR 376, xI (i + 5)] [] (V'', G) ∧ Inv n V'' ∧ V'' 0 = V 0 := by
  obtain ⟨r, V', V'', h1, h2, h3⟩ := pr_meeting hG h
  have k1 : V' 0 = V 0 := (kp_run hG.1 hiv h1).1
  have k2 : V'' 0 = V' 0 := (kp_run hG.1 hiv h2).1
  refine ⟨V'', ?_, h3, k2.trans k1⟩
  simp (disch := first | omega | exact Nat.le_of_ble_eq_true rfl) only [bk1201_1030, bx_aload_0, bx_aload_1, bx_aload_2, bx_iload_3, bx_iconst, bx_bipush, bx_iadd, bx_sald hG.1, bx_i2l, bx_lshl, bx_ldc2, bx_land, bx_lor, bind_some, tl_some, bx_ic_eq, if_true, Int.reduceToNat, bk1201_1066, bx_iinc3, isL_R, if_ff, bx_goto, cl1032 hG, h1, k1, cl1161 hG, h2]
theorem lw_c29 (hG : Good n L G) (hL : L ≤ 2561) (hiv : ∀ j, G.2.2.2.2 j ≠ 0) (hs : ∀ j, i32 (V 0 j)) (h : Inv n V) (hi : 1 ≤ i ∧ i + 5 ≤ L) : ∃ V'', run 800 1201 1043 [xR 0, xR 1, xR 376, xI i] [] (V, G) = run 800 1201 28 [xR 0, xR 1, xR 376, xI (i + 5)] [] (V'', G) ∧ Inv n V'' ∧ V'' 0 = V 0 := by
  obtain ⟨r, V', V'', h1, h2, h3⟩ := pr_count (w := V 0 (i + 1)) hG h
  have k1 : V' 0 = V 0 := (kp_run hG.1 hiv h1).1
  have k2 : V'' 0 = V' 0 := (kp_run hG.1 hiv h2).1
  refine ⟨V'', ?_, h3, k2.trans k1⟩
  simp (disch := first | omega | exact Nat.le_of_ble_eq_true rfl) only [bk1201_1043, bx_aload_0, bx_aload_1, bx_aload_2, bx_iload_3, bx_iconst, bx_bipush, bx_iadd, bx_sald hG.1, bx_i2l, bx_lshl, bx_ldc2, bx_land, bx_lor, bind_some, tl_some, bx_ic_eq, if_true, Int.reduceToNat, bk1201_1066, bx_iinc3, isL_R, if_ff, bx_goto, cl1033 hG, h1, k1, cl1163 hG, h2]
end LW
theorem and31 (v : Int) : 0 ≤ andI v 31 ∧ andI v 31 ≤ 31 := by
  have h1 : ((Int32.ofInt v).toBitVec &&& 31#32).toNat ≤ 31 := by
    rw [BitVec.toNat_and]
    exact Nat.and_le_right
  have h2 : andI v 31 = ((Int32.ofInt v).toBitVec &&& 31#32).toInt := rfl
  rw [h2, BitVec.toInt_eq_toNat_of_lt (by omega)]
  omega
section LL
variable {n L : Nat} {G : XG}
theorem law_loop (hG : Good n L G) (hL : L ≤ 2561) (hiv : ∀ j, G.2.2.2.2 j ≠ 0) : ∀ (m : Nat) (i : Int) (V : Nat → Int → Int), 1 ≤ i → i ≤ 5000 → (L : Int) - 4 ≤ i + 5 * m → (∀ j, i32 (V 0 j)) → Inv n V → ∃ V', run 800 1201 28 [xR 0, xR 1, xR 376, xI i] [] (V, G) = some (some (xI 1), (V', G)) := by
  intro m
  have hend : ∀ (i : Int) (V : Nat → Int → Int), 1 ≤ i → (L : Int) - 4 ≤ i → ∃ V', run 800 1201 28 [xR 0, xR 1, xR 376, xI i] [] (V, G) = some (some (xI 1), (V', G)) := fun i V h1 h2 => ⟨V, by
    rw [bk1201_28]
    simp (disch := first | omega | exact Nat.le_of_ble_eq_true rfl) only [bx_iload_3, bx_aload_0, bx_alen hG.1 ⟨Or.inr (Or.inr rfl), show L ≤ 100000 by omega⟩, bx_iconst, bx_isub, bx_ic_gt, if_pos (show (L : Int) - 5 < i by omega), Int.reduceToNat, bk1201_1072, bx_zret (Or.inr rfl : (1 : Int) = 0 ∨ (1 : Int) = 1)]⟩
  induction m with
  | zero => intro i V h1 _ h2 _ _; exact hend i V h1 (by omega)
  | succ m ih =>
    intro i V h1 h5 h2 hs h
    by_cases q : (L : Int) - 4 ≤ i
    · exact hend i V h1 q
    · have hi : 1 ≤ i ∧ i + 5 ≤ L := by omega
      have go : ∀ W : Nat → Int → Int, Inv n W → W 0 = V 0 → ∃ V', run 800 1201 28 [xR 0, xR 1, xR 376, xI (i + 5)] [] (W, G) = some (some (xI 1), (V', G)) := fun W hW e => ih (i + 5) W (by omega) (by omega) (by omega) (fun j => by rw [e]; exact hs j) hW
      have hb := and31 (V 0 i)
      generalize hx : andI (V 0 i) 31 = x at hb
      have hcase : x = 0 ∨ x = 1 ∨ x = 2 ∨ x = 3 ∨ x = 4 ∨ x = 5 ∨ x = 6 ∨ x = 7 ∨ x = 8 ∨ x = 9 ∨ x = 10 ∨ x = 11 ∨ x = 12 ∨ x = 13 ∨ x = 14 ∨ x = 15 ∨ x = 16 ∨ x = 17 ∨ x = 18 ∨ x = 19 ∨ x = 20 ∨ x = 21 ∨ x = 22 ∨ x = 23 ∨ x = 24 ∨ x = 25 ∨ x = 26 ∨ x = 27 ∨ x = 28 ∨ x = 29 ∨ 29 < x := by omega
      rcases hcase with rfl | rfl | rfl | rfl | rfl | rfl | rfl | rfl | rfl | rfl | rfl | rfl | rfl | rfl | rfl | rfl | rfl | rfl | rfl | rfl | rfl | rfl | rfl | rfl | rfl | rfl | rfl | rfl | rfl | rfl | hx2
      · obtain ⟨W, e1, e2, e3⟩ := lw_c0 (i := i) hG hL hiv hs h hi
        obtain ⟨V', e4⟩ := go W e2 e3
        refine ⟨V', ?_⟩
        rw [← e4, ← e1, bk1201_28]
        simp (disch := first | omega | exact Nat.le_of_ble_eq_true rfl) only [bx_iload_3, bx_aload_0, bx_alen hG.1 ⟨Or.inr (Or.inr rfl), show L ≤ 100000 by omega⟩, bx_iconst, bx_isub, bx_ic_gt, if_neg (show ¬ (L : Int) - 5 < i by omega), bx_sald hG.1, bx_bipush, bx_iand, hx, (bx_tabI (dd := 1066) (lo := 0) (hi := 29) (offs := #[176, 209, 252, 295, 328, 371, 404, 447, 460, 473, 486, 519, 532, 565, 578, 641, 654, 677, 720, 773, 806, 839, 852, 905, 918, 951, 974, 987, 1030, 1043]) (x := 0) (t := 176) (by omega) rfl), Int.reduceToNat]
      · obtain ⟨W, e1, e2, e3⟩ := lw_c1 (i := i) hG hL hiv hs h hi
        obtain ⟨V', e4⟩ := go W e2 e3
        refine ⟨V', ?_⟩
        rw [← e4, ← e1, bk1201_28]
        simp (disch := first | omega | exact Nat.le_of_ble_eq_true rfl) only [bx_iload_3, bx_aload_0, bx_alen hG.1 ⟨Or.inr (Or.inr rfl), show L ≤ 100000 by omega⟩, bx_iconst, bx_isub, bx_ic_gt, if_neg (show ¬ (L : Int) - 5 < i by omega), bx_sald hG.1, bx_bipush, bx_iand, hx, (bx_tabI (dd := 1066) (lo := 0) (hi := 29) (offs := #[176, 209, 252, 295, 328, 371, 404, 447, 460, 473, 486, 519, 532, 565, 578, 641, 654, 677, 720, 773, 806, 839, 852, 905, 918, 951, 974, 987, 1030, 1043]) (x := 1) (t := 209) (by omega) rfl), Int.reduceToNat]
      · obtain ⟨W, e1, e2, e3⟩ := lw_c2 (i := i) hG hL hiv hs h hi
        obtain ⟨V', e4⟩ := go W e2 e3
        refine ⟨V', ?_⟩
        rw [← e4, ← e1, bk1201_28]
        simp (disch := first | omega | exact Nat.le_of_ble_eq_true rfl) only [bx_iload_3, bx_aload_0, bx_alen hG.1 ⟨Or.inr (Or.inr rfl), show L ≤ 100000 by omega⟩, bx_iconst, bx_isub, bx_ic_gt, if_neg (show ¬ (L : Int) - 5 < i by omega), bx_sald hG.1, bx_bipush, bx_iand, hx, (bx_tabI (dd := 1066) (lo := 0) (hi := 29) (offs := #[176, 209, 252, 295, 328, 371, 404, 447, 460, 473, 486, 519, 532, 565, 578, 641, 654, 677, 720, 773, 806, 839, 852, 905, 918, 951, 974, 987, 1030, 1043]) (x := 2) (t := 252) (by omega) rfl), Int.reduceToNat]
      · obtain ⟨W, e1, e2, e3⟩ := lw_c3 (i := i) hG hL hiv hs h hi
        obtain ⟨V', e4⟩ := go W e2 e3
        refine ⟨V', ?_⟩
        rw [← e4, ← e1, bk1201_28]
        simp (disch := first | omega | exact Nat.le_of_ble_eq_true rfl) only [bx_iload_3, bx_aload_0, bx_alen hG.1 ⟨Or.inr (Or.inr rfl), show L ≤ 100000 by omega⟩, bx_iconst, bx_isub, bx_ic_gt, if_neg (show ¬ (L : Int) - 5 < i by omega), bx_sald hG.1, bx_bipush, bx_iand, hx, (bx_tabI (dd := 1066) (lo := 0) (hi := 29) (offs := #[176, 209, 252, 295, 328, 371, 404, 447, 460, 473, 486, 519, 532, 565, 578, 641, 654, 677, 720, 773, 806, 839, 852, 905, 918, 951, 974, 987, 1030, 1043]) (x := 3) (t := 295) (by omega) rfl), Int.reduceToNat]
      · obtain ⟨W, e1, e2, e3⟩ := lw_c4 (i := i) hG hL hiv hs h hi
        obtain ⟨V', e4⟩ := go W e2 e3
        refine ⟨V', ?_⟩
        rw [← e4, ← e1, bk1201_28]
        simp (disch := first | omega | exact Nat.le_of_ble_eq_true rfl) only [bx_iload_3, bx_aload_0, bx_alen hG.1 ⟨Or.inr (Or.inr rfl), show L ≤ 100000 by omega⟩, bx_iconst, bx_isub, bx_ic_gt, if_neg (show ¬ (L : Int) - 5 < i by omega), bx_sald hG.1, bx_bipush, bx_iand, hx, (bx_tabI (dd := 1066) (lo := 0) (hi := 29) (offs := #[176, 209, 252, 295, 328, 371, 404, 447, 460, 473, 486, 519, 532, 565, 578, 641, 654, 677, 720, 773, 806, 839, 852, 905, 918, 951, 974, 987, 1030, 1043]) (x := 4) (t := 328) (by omega) rfl), Int.reduceToNat]
      · obtain ⟨W, e1, e2, e3⟩ := lw_c5 (i := i) hG hL hiv hs h hi
        obtain ⟨V', e4⟩ := go W e2 e3
        refine ⟨V', ?_⟩
        rw [← e4, ← e1, bk1201_28]
        simp (disch := first | omega | exact Nat.le_of_ble_eq_true rfl) only [bx_iload_3, bx_aload_0, bx_alen hG.1 ⟨Or.inr (Or.inr rfl), show L ≤ 100000 by omega⟩, bx_iconst, bx_isub, bx_ic_gt, if_neg (show ¬ (L : Int) - 5 < i by omega), bx_sald hG.1, bx_bipush, bx_iand, hx, (bx_tabI (dd := 1066) (lo := 0) (hi := 29) (offs := #[176, 209, 252, 295, 328, 371, 404, 447, 460, 473, 486, 519, 532, 565, 578, 641, 654, 677, 720, 773, 806, 839, 852, 905, 918, 951, 974, 987, 1030, 1043]) (x := 5) (t := 371) (by omega) rfl), Int.reduceToNat]
      · obtain ⟨W, e1, e2, e3⟩ := lw_c6 (i := i) hG hL hiv hs h hi
        obtain ⟨V', e4⟩ := go W e2 e3
        refine ⟨V', ?_⟩
        rw [← e4, ← e1, bk1201_28]
        simp (disch := first | omega | exact Nat.le_of_ble_eq_true rfl) only [bx_iload_3, bx_aload_0, bx_alen hG.1 ⟨Or.inr (Or.inr rfl), show L ≤ 100000 by omega⟩, bx_iconst, bx_isub, bx_ic_gt, if_neg (show ¬ (L : Int) - 5 < i by omega), bx_sald hG.1, bx_bipush, bx_iand, hx, (bx_tabI (dd := 1066) (lo := 0) (hi := 29) (offs := #[176, 209, 252, 295, 328, 371, 404, 447, 460, 473, 486, 519, 532, 565, 578, 641, 654, 677, 720, 773, 806, 839, 852, 905, 918, 951, 974, 987, 1030, 1043]) (x := 6) (t := 404) (by omega) rfl), Int.reduceToNat]
      · obtain ⟨W, e1, e2, e3⟩ := lw_c7 (i := i) hG hL hiv hs h hi
        obtain ⟨V', e4⟩ := go W e2 e3
        refine ⟨V', ?_⟩
        rw [← e4, ← e1, bk1201_28]
        simp (disch := first | omega | exact Nat.le_of_ble_eq_true rfl) only [bx_iload_3, bx_aload_0, bx_alen hG.1 ⟨Or.inr (Or.inr rfl), show L ≤ 100000 by omega⟩, bx_iconst, bx_isub, bx_ic_gt, if_neg (show ¬ (L : Int) - 5 < i by omega), bx_sald hG.1, bx_bipush, bx_iand, hx, (bx_tabI (dd := 1066) (lo := 0) (hi := 29) (offs := #[176, 209, 252, 295, 328, 371, 404, 447, 460, 473, 486, 519, 532, 565, 578, 641, 654, 677, 720, 773, 806, 839, 852, 905, 918, 951, 974, 987, 1030, 1043]) (x := 7) (t := 447) (by omega) rfl), Int.reduceToNat]
      · obtain ⟨W, e1, e2, e3⟩ := lw_c8 (i := i) hG hL hiv hs h hi
        obtain ⟨V', e4⟩ := go W e2 e3
        refine ⟨V', ?_⟩
        rw [← e4, ← e1, bk1201_28]
        simp (disch := first | omega | exact Nat.le_of_ble_eq_true rfl) only [bx_iload_3, bx_aload_0, bx_alen hG.1 ⟨Or.inr (Or.inr rfl), show L ≤ 100000 by omega⟩, bx_iconst, bx_isub, bx_ic_gt, if_neg (show ¬ (L : Int) - 5 < i by omega), bx_sald hG.1, bx_bipush, bx_iand, hx, (bx_tabI (dd := 1066) (lo := 0) (hi := 29) (offs := #[176, 209, 252, 295, 328, 371, 404, 447, 460, 473, 486, 519, 532, 565, 578, 641, 654, 677, 720, 773, 806, 839, 852, 905, 918, 951, 974, 987, 1030, 1043]) (x := 8) (t := 460) (by omega) rfl), Int.reduceToNat]
      · obtain ⟨W, e1, e2, e3⟩ := lw_c9 (i := i) hG hL hiv hs h hi
        obtain ⟨V', e4⟩ := go W e2 e3
        refine ⟨V', ?_⟩
        rw [← e4, ← e1, bk1201_28]
        simp (disch := first | omega | exact Nat.le_of_ble_eq_true rfl) only [bx_iload_3, bx_aload_0, bx_alen hG.1 ⟨Or.inr (Or.inr rfl), show L ≤ 100000 by omega⟩, bx_iconst, bx_isub, bx_ic_gt, if_neg (show ¬ (L : Int) - 5 < i by omega), bx_sald hG.1, bx_bipush, bx_iand, hx, (bx_tabI (dd := 1066) (lo := 0) (hi := 29) (offs := #[176, 209, 252, 295, 328, 371, 404, 447, 460, 473, 486, 519, 532, 565, 578, 641, 654, 677, 720, 773, 806, 839, 852, 905, 918, 951, 974, 987, 1030, 1043]) (x := 9) (t := 473) (by omega) rfl), Int.reduceToNat]
      · obtain ⟨W, e1, e2, e3⟩ := lw_c10 (i := i) hG hL hiv hs h hi
        obtain ⟨V', e4⟩ := go W e2 e3
        refine ⟨V', ?_⟩
        rw [← e4, ← e1, bk1201_28]
        simp (disch := first | omega | exact Nat.le_of_ble_eq_true rfl) only [bx_iload_3, bx_aload_0, bx_alen hG.1 ⟨Or.inr (Or.inr rfl), show L ≤ 100000 by omega⟩, bx_iconst, bx_isub, bx_ic_gt, if_neg (show ¬ (L : Int) - 5 < i by omega), bx_sald hG.1, bx_bipush, bx_iand, hx, (bx_tabI (dd := 1066) (lo := 0) (hi := 29) (offs := #[176, 209, 252, 295, 328, 371, 404, 447, 460, 473, 486, 519, 532, 565, 578, 641, 654, 677, 720, 773, 806, 839, 852, 905, 918, 951, 974, 987, 1030, 1043]) (x := 10) (t := 486) (by omega) rfl), Int.reduceToNat]
      · obtain ⟨W, e1, e2, e3⟩ := lw_c11 (i := i) hG hL hiv hs h hi
        obtain ⟨V', e4⟩ := go W e2 e3
        refine ⟨V', ?_⟩
        rw [← e4, ← e1, bk1201_28]
        simp (disch := first | omega | exact Nat.le_of_ble_eq_true rfl) only [bx_iload_3, bx_aload_0, bx_alen hG.1 ⟨Or.inr (Or.inr rfl), show L ≤ 100000 by omega⟩, bx_iconst, bx_isub, bx_ic_gt, if_neg (show ¬ (L : Int) - 5 < i by omega), bx_sald hG.1, bx_bipush, bx_iand, hx, (bx_tabI (dd := 1066) (lo := 0) (hi := 29) (offs := #[176, 209, 252, 295, 328, 371, 404, 447, 460, 473, 486, 519, 532, 565, 578, 641, 654, 677, 720, 773, 806, 839, 852, 905, 918, 951, 974, 987, 1030, 1043]) (x := 11) (t := 519) (by omega) rfl), Int.reduceToNat]
      · obtain ⟨W, e1, e2, e3⟩ := lw_c12 (i := i) hG hL hiv hs h hi
        obtain ⟨V', e4⟩ := go W e2 e3
        refine ⟨V', ?_⟩
        rw [← e4, ← e1, bk1201_28]
        simp (disch := first | omega | exact Nat.le_of_ble_eq_true rfl) only [bx_iload_3, bx_aload_0, bx_alen hG.1 ⟨Or.inr (Or.inr rfl), show L ≤ 100000 by omega⟩, bx_iconst, bx_isub, bx_ic_gt, if_neg (show ¬ (L : Int) - 5 < i by omega), bx_sald hG.1, bx_bipush, bx_iand, hx, (bx_tabI (dd := 1066) (lo := 0) (hi := 29) (offs := #[176, 209, 252, 295, 328, 371, 404, 447, 460, 473, 486, 519, 532, 565, 578, 641, 654, 677, 720, 773, 806, 839, 852, 905, 918, 951, 974, 987, 1030, 1043]) (x := 12) (t := 532) (by omega) rfl), Int.reduceToNat]
      · obtain ⟨W, e1, e2, e3⟩ := lw_c13 (i := i) hG hL hiv hs h hi
        obtain ⟨V', e4⟩ := go W e2 e3
        refine ⟨V', ?_⟩
        rw [← e4, ← e1, bk1201_28]
        simp (disch := first | omega | exact Nat.le_of_ble_eq_true rfl) only [bx_iload_3, bx_aload_0, bx_alen hG.1 ⟨Or.inr (Or.inr rfl), show L ≤ 100000 by omega⟩, bx_iconst, bx_isub, bx_ic_gt, if_neg (show ¬ (L : Int) - 5 < i by omega), bx_sald hG.1, bx_bipush, bx_iand, hx, (bx_tabI (dd := 1066) (lo := 0) (hi := 29) (offs := #[176, 209, 252, 295, 328, 371, 404, 447, 460, 473, 486, 519, 532, 565, 578, 641, 654, 677, 720, 773, 806, 839, 852, 905, 918, 951, 974, 987, 1030, 1043]) (x := 13) (t := 565) (by omega) rfl), Int.reduceToNat]
      · obtain ⟨W, e1, e2, e3⟩ := lw_c14 (i := i) hG hL hiv hs h hi
        obtain ⟨V', e4⟩ := go W e2 e3
        refine ⟨V', ?_⟩
        rw [← e4, ← e1, bk1201_28]
        simp (disch := first | omega | exact Nat.le_of_ble_eq_true rfl) only [bx_iload_3, bx_aload_0, bx_alen hG.1 ⟨Or.inr (Or.inr rfl), show L ≤ 100000 by omega⟩, bx_iconst, bx_isub, bx_ic_gt, if_neg (show ¬ (L : Int) - 5 < i by omega), bx_sald hG.1, bx_bipush, bx_iand, hx, (bx_tabI (dd := 1066) (lo := 0) (hi := 29) (offs := #[176, 209, 252, 295, 328, 371, 404, 447, 460, 473, 486, 519, 532, 565, 578, 641, 654, 677, 720, 773, 806, 839, 852, 905, 918, 951, 974, 987, 1030, 1043]) (x := 14) (t := 578) (by omega) rfl), Int.reduceToNat]
      · obtain ⟨W, e1, e2, e3⟩ := lw_c15 (i := i) hG hL hiv hs h hi
        obtain ⟨V', e4⟩ := go W e2 e3
        refine ⟨V', ?_⟩
        rw [← e4, ← e1, bk1201_28]
        simp (disch := first | omega | exact Nat.le_of_ble_eq_true rfl) only [bx_iload_3, bx_aload_0, bx_alen hG.1 ⟨Or.inr (Or.inr rfl), show L ≤ 100000 by omega⟩, bx_iconst, bx_isub, bx_ic_gt, if_neg (show ¬ (L : Int) - 5 < i by omega), bx_sald hG.1, bx_bipush, bx_iand, hx, (bx_tabI (dd := 1066) (lo := 0) (hi := 29) (offs := #[176, 209, 252, 295, 328, 371, 404, 447, 460, 473, 486, 519, 532, 565, 578, 641, 654, 677, 720, 773, 806, 839, 852, 905, 918, 951, 974, 987, 1030, 1043]) (x := 15) (t := 641) (by omega) rfl), Int.reduceToNat]
      · obtain ⟨W, e1, e2, e3⟩ := lw_c16 (i := i) hG hL hiv hs h hi
        obtain ⟨V', e4⟩ := go W e2 e3
        refine ⟨V', ?_⟩
        rw [← e4, ← e1, bk1201_28]
        simp (disch := first | omega | exact Nat.le_of_ble_eq_true rfl) only [bx_iload_3, bx_aload_0, bx_alen hG.1 ⟨Or.inr (Or.inr rfl), show L ≤ 100000 by omega⟩, bx_iconst, bx_isub, bx_ic_gt, if_neg (show ¬ (L : Int) - 5 < i by omega), bx_sald hG.1, bx_bipush, bx_iand, hx, (bx_tabI (dd := 1066) (lo := 0) (hi := 29) (offs := #[176, 209, 252, 295, 328, 371, 404, 447, 460, 473, 486, 519, 532, 565, 578, 641, 654, 677, 720, 773, 806, 839, 852, 905, 918, 951, 974, 987, 1030, 1043]) (x := 16) (t := 654) (by omega) rfl), Int.reduceToNat]
      · obtain ⟨W, e1, e2, e3⟩ := lw_c17 (i := i) hG hL hiv hs h hi
        obtain ⟨V', e4⟩ := go W e2 e3
        refine ⟨V', ?_⟩
        rw [← e4, ← e1, bk1201_28]
        simp (disch := first | omega | exact Nat.le_of_ble_eq_true rfl) only [bx_iload_3, bx_aload_0, bx_alen hG.1 ⟨Or.inr (Or.inr rfl), show L ≤ 100000 by omega⟩, bx_iconst, bx_isub, bx_ic_gt, if_neg (show ¬ (L : Int) - 5 < i by omega), bx_sald hG.1, bx_bipush, bx_iand, hx, (bx_tabI (dd := 1066) (lo := 0) (hi := 29) (offs := #[176, 209, 252, 295, 328, 371, 404, 447, 460, 473, 486, 519, 532, 565, 578, 641, 654, 677, 720, 773, 806, 839, 852, 905, 918, 951, 974, 987, 1030, 1043]) (x := 17) (t := 677) (by omega) rfl), Int.reduceToNat]
      · obtain ⟨W, e1, e2, e3⟩ := lw_c18 (i := i) hG hL hiv hs h hi
        obtain ⟨V', e4⟩ := go W e2 e3
        refine ⟨V', ?_⟩
        rw [← e4, ← e1, bk1201_28]
        simp (disch := first | omega | exact Nat.le_of_ble_eq_true rfl) only [bx_iload_3, bx_aload_0, bx_alen hG.1 ⟨Or.inr (Or.inr rfl), show L ≤ 100000 by omega⟩, bx_iconst, bx_isub, bx_ic_gt, if_neg (show ¬ (L : Int) - 5 < i by omega), bx_sald hG.1, bx_bipush, bx_iand, hx, (bx_tabI (dd := 1066) (lo := 0) (hi := 29) (offs := #[176, 209, 252, 295, 328, 371, 404, 447, 460, 473, 486, 519, 532, 565, 578, 641, 654, 677, 720, 773, 806, 839, 852, 905, 918, 951, 974, 987, 1030, 1043]) (x := 18) (t := 720) (by omega) rfl), Int.reduceToNat]
      · obtain ⟨W, e1, e2, e3⟩ := lw_c19 (i := i) hG hL hiv hs h hi
        obtain ⟨V', e4⟩ := go W e2 e3
        refine ⟨V', ?_⟩
        rw [← e4, ← e1, bk1201_28]
        simp (disch := first | omega | exact Nat.le_of_ble_eq_true rfl) only [bx_iload_3, bx_aload_0, bx_alen hG.1 ⟨Or.inr (Or.inr rfl), show L ≤ 100000 by omega⟩, bx_iconst, bx_isub, bx_ic_gt, if_neg (show ¬ (L : Int) - 5 < i by omega), bx_sald hG.1, bx_bipush, bx_iand, hx, (bx_tabI (dd := 1066) (lo := 0) (hi := 29) (offs := #[176, 209, 252, 295, 328, 371, 404, 447, 460, 473, 486, 519, 532, 565, 578, 641, 654, 677, 720, 773, 806, 839, 852, 905, 918, 951, 974, 987, 1030, 1043]) (x := 19) (t := 773) (by omega) rfl), Int.reduceToNat]
      · obtain ⟨W, e1, e2, e3⟩ := lw_c20 (i := i) hG hL hiv hs h hi
        obtain ⟨V', e4⟩ := go W e2 e3
        refine ⟨V', ?_⟩
        rw [← e4, ← e1, bk1201_28]
        simp (disch := first | omega | exact Nat.le_of_ble_eq_true rfl) only [bx_iload_3, bx_aload_0, bx_alen hG.1 ⟨Or.inr (Or.inr rfl), show L ≤ 100000 by omega⟩, bx_iconst, bx_isub, bx_ic_gt, if_neg (show ¬ (L : Int) - 5 < i by omega), bx_sald hG.1, bx_bipush, bx_iand, hx, (bx_tabI (dd := 1066) (lo := 0) (hi := 29) (offs := #[176, 209, 252, 295, 328, 371, 404, 447, 460, 473, 486, 519, 532, 565, 578, 641, 654, 677, 720, 773, 806, 839, 852, 905, 918, 951, 974, 987, 1030, 1043]) (x := 20) (t := 806) (by omega) rfl), Int.reduceToNat]
      · obtain ⟨W, e1, e2, e3⟩ := lw_c21 (i := i) hG hL hiv hs h hi
        obtain ⟨V', e4⟩ := go W e2 e3
        refine ⟨V', ?_⟩
        rw [← e4, ← e1, bk1201_28]
        simp (disch := first | omega | exact Nat.le_of_ble_eq_true rfl) only [bx_iload_3, bx_aload_0, bx_alen hG.1 ⟨Or.inr (Or.inr rfl), show L ≤ 100000 by omega⟩, bx_iconst, bx_isub, bx_ic_gt, if_neg (show ¬ (L : Int) - 5 < i by omega), bx_sald hG.1, bx_bipush, bx_iand, hx, (bx_tabI (dd := 1066) (lo := 0) (hi := 29) (offs := #[176, 209, 252, 295, 328, 371, 404, 447, 460, 473, 486, 519, 532, 565, 578, 641, 654, 677, 720, 773, 806, 839, 852, 905, 918, 951, 974, 987, 1030, 1043]) (x := 21) (t := 839) (by omega) rfl), Int.reduceToNat]
      · obtain ⟨W, e1, e2, e3⟩ := lw_c22 (i := i) hG hL hiv hs h hi
        obtain ⟨V', e4⟩ := go W e2 e3
        refine ⟨V', ?_⟩
        rw [← e4, ← e1, bk1201_28]
        simp (disch := first | omega | exact Nat.le_of_ble_eq_true rfl) only [bx_iload_3, bx_aload_0, bx_alen hG.1 ⟨Or.inr (Or.inr rfl), show L ≤ 100000 by omega⟩, bx_iconst, bx_isub, bx_ic_gt, if_neg (show ¬ (L : Int) - 5 < i by omega), bx_sald hG.1, bx_bipush, bx_iand, hx, (bx_tabI (dd := 1066) (lo := 0) (hi := 29) (offs := #[176, 209, 252, 295, 328, 371, 404, 447, 460, 473, 486, 519, 532, 565, 578, 641, 654, 677, 720, 773, 806, 839, 852, 905, 918, 951, 974, 987, 1030, 1043]) (x := 22) (t := 852) (by omega) rfl), Int.reduceToNat]
      · obtain ⟨W, e1, e2, e3⟩ := lw_c23 (i := i) hG hL hiv hs h hi
        obtain ⟨V', e4⟩ := go W e2 e3
        refine ⟨V', ?_⟩
        rw [← e4, ← e1, bk1201_28]
        simp (disch := first | omega | exact Nat.le_of_ble_eq_true rfl) only [bx_iload_3, bx_aload_0, bx_alen hG.1 ⟨Or.inr (Or.inr rfl), show L ≤ 100000 by omega⟩, bx_iconst, bx_isub, bx_ic_gt, if_neg (show ¬ (L : Int) - 5 < i by omega), bx_sald hG.1, bx_bipush, bx_iand, hx, (bx_tabI (dd := 1066) (lo := 0) (hi := 29) (offs := #[176, 209, 252, 295, 328, 371, 404, 447, 460, 473, 486, 519, 532, 565, 578, 641, 654, 677, 720, 773, 806, 839, 852, 905, 918, 951, 974, 987, 1030, 1043]) (x := 23) (t := 905) (by omega) rfl), Int.reduceToNat]
      · obtain ⟨W, e1, e2, e3⟩ := lw_c24 (i := i) hG hL hiv hs h hi
        obtain ⟨V', e4⟩ := go W e2 e3
        refine ⟨V', ?_⟩
        rw [← e4, ← e1, bk1201_28]
        simp (disch := first | omega | exact Nat.le_of_ble_eq_true rfl) only [bx_iload_3, bx_aload_0, bx_alen hG.1 ⟨Or.inr (Or.inr rfl), show L ≤ 100000 by omega⟩, bx_iconst, bx_isub, bx_ic_gt, if_neg (show ¬ (L : Int) - 5 < i by omega), bx_sald hG.1, bx_bipush, bx_iand, hx, (bx_tabI (dd := 1066) (lo := 0) (hi := 29) (offs := #[176, 209, 252, 295, 328, 371, 404, 447, 460, 473, 486, 519, 532, 565, 578, 641, 654, 677, 720, 773, 806, 839, 852, 905, 918, 951, 974, 987, 1030, 1043]) (x := 24) (t := 918) (by omega) rfl), Int.reduceToNat]
      · obtain ⟨W, e1, e2, e3⟩ := lw_c25 (i := i) hG hL hiv hs h hi
        obtain ⟨V', e4⟩ := go W e2 e3
        refine ⟨V', ?_⟩
        rw [← e4, ← e1, bk1201_28]
        simp (disch := first | omega | exact Nat.le_of_ble_eq_true rfl) only [bx_iload_3, bx_aload_0, bx_alen hG.1 ⟨Or.inr (Or.inr rfl), show L ≤ 100000 by omega⟩, bx_iconst, bx_isub, bx_ic_gt, if_neg (show ¬ (L : Int) - 5 < i by omega), bx_sald hG.1, bx_bipush, bx_iand, hx, (bx_tabI (dd := 1066) (lo := 0) (hi := 29) (offs := #[176, 209, 252, 295, 328, 371, 404, 447, 460, 473, 486, 519, 532, 565, 578, 641, 654, 677, 720, 773, 806, 839, 852, 905, 918, 951, 974, 987, 1030, 1043]) (x := 25) (t := 951) (by omega) rfl), Int.reduceToNat]
      · obtain ⟨W, e1, e2, e3⟩ := lw_c26 (i := i) hG hL hiv hs h hi
        obtain ⟨V', e4⟩ := go W e2 e3
        refine ⟨V', ?_⟩
        rw [← e4, ← e1, bk1201_28]
        simp (disch := first | omega | exact Nat.le_of_ble_eq_true rfl) only [bx_iload_3, bx_aload_0, bx_alen hG.1 ⟨Or.inr (Or.inr rfl), show L ≤ 100000 by omega⟩, bx_iconst, bx_isub, bx_ic_gt, if_neg (show ¬ (L : Int) - 5 < i by omega), bx_sald hG.1, bx_bipush, bx_iand, hx, (bx_tabI (dd := 1066) (lo := 0) (hi := 29) (offs := #[176, 209, 252, 295, 328, 371, 404, 447, 460, 473, 486, 519, 532, 565, 578, 641, 654, 677, 720, 773, 806, 839, 852, 905, 918, 951, 974, 987, 1030, 1043]) (x := 26) (t := 974) (by omega) rfl), Int.reduceToNat]
      · obtain ⟨W, e1, e2, e3⟩ := lw_c27 (i := i) hG hL hiv hs h hi
        obtain ⟨V', e4⟩ := go W e2 e3
        refine ⟨V', ?_⟩
        rw [← e4, ← e1, bk1201_28]
        simp (disch := first | omega | exact Nat.le_of_ble_eq_true rfl) only [bx_iload_3, bx_aload_0, bx_alen hG.1 ⟨Or.inr (Or.inr rfl), show L ≤ 100000 by omega⟩, bx_iconst, bx_isub, bx_ic_gt, if_neg (show ¬ (L : Int) - 5 < i by omega), bx_sald hG.1, bx_bipush, bx_iand, hx, (bx_tabI (dd := 1066) (lo := 0) (hi := 29) (offs := #[176, 209, 252, 295, 328, 371, 404, 447, 460, 473, 486, 519, 532, 565, 578, 641, 654, 677, 720, 773, 806, 839, 852, 905, 918, 951, 974, 987, 1030, 1043]) (x := 27) (t := 987) (by omega) rfl), Int.reduceToNat]
      · obtain ⟨W, e1, e2, e3⟩ := lw_c28 (i := i) hG hL hiv hs h hi
        obtain ⟨V', e4⟩ := go W e2 e3
        refine ⟨V', ?_⟩
        rw [← e4, ← e1, bk1201_28]
        simp (disch := first | omega | exact Nat.le_of_ble_eq_true rfl) only [bx_iload_3, bx_aload_0, bx_alen hG.1 ⟨Or.inr (Or.inr rfl), show L ≤ 100000 by omega⟩, bx_iconst, bx_isub, bx_ic_gt, if_neg (show ¬ (L : Int) - 5 < i by omega), bx_sald hG.1, bx_bipush, bx_iand, hx, (bx_tabI (dd := 1066) (lo := 0) (hi := 29) (offs := #[176, 209, 252, 295, 328, 371, 404, 447, 460, 473, 486, 519, 532, 565, 578, 641, 654, 677, 720, 773, 806, 839, 852, 905, 918, 951, 974, 987, 1030, 1043]) (x := 28) (t := 1030) (by omega) rfl), Int.reduceToNat]
      · obtain ⟨W, e1, e2, e3⟩ := lw_c29 (i := i) hG hL hiv hs h hi
        obtain ⟨V', e4⟩ := go W e2 e3
        refine ⟨V', ?_⟩
        rw [← e4, ← e1, bk1201_28]
        simp (disch := first | omega | exact Nat.le_of_ble_eq_true rfl) only [bx_iload_3, bx_aload_0, bx_alen hG.1 ⟨Or.inr (Or.inr rfl), show L ≤ 100000 by omega⟩, bx_iconst, bx_isub, bx_ic_gt, if_neg (show ¬ (L : Int) - 5 < i by omega), bx_sald hG.1, bx_bipush, bx_iand, hx, (bx_tabI (dd := 1066) (lo := 0) (hi := 29) (offs := #[176, 209, 252, 295, 328, 371, 404, 447, 460, 473, 486, 519, 532, 565, 578, 641, 654, 677, 720, 773, 806, 839, 852, 905, 918, 951, 974, 987, 1030, 1043]) (x := 29) (t := 1043) (by omega) rfl), Int.reduceToNat]
      · obtain ⟨V', e4⟩ := go V h rfl
        refine ⟨V', ?_⟩
        rw [← e4, bk1201_28]
        simp (disch := first | omega | exact Nat.le_of_ble_eq_true rfl) only [bx_iload_3, bx_aload_0, bx_alen hG.1 ⟨Or.inr (Or.inr rfl), show L ≤ 100000 by omega⟩, bx_iconst, bx_isub, bx_ic_gt, if_neg (show ¬ (L : Int) - 5 < i by omega), bx_sald hG.1, bx_bipush, bx_iand, hx, bx_tabO (Or.inr hx2), Int.reduceToNat, bk1201_1066, bx_iinc3, isL_R, if_ff, bx_goto]
end LL
