/-! PROGRAM: brackets and names, and any statement -/
section UN2
variable {n L d e : Nat} {G : XG} {V A B : Nat → Int → Int}
theorem pv_unk {x : Int} (h : pvR n A B) (hx : -1 ≤ x ∧ x ≤ 100) : pvR n (vA A 35 (vU (A 35) 9 x)) (vA B 376 (vU (B 376) 33 x)) := by
  obtain ⟨⟨i1, i2, i3, i4, i5⟩, h2, h3, h4, h5⟩ := h
  have er : ∀ r, r ≠ 35 → r + 1 ≠ 35 → r + 2 ≠ 35 → rowOf (vA A 35 (vU (A 35) 9 x)) r = rowOf A r := fun r r0 r1 r2 => by
    unfold rowOf
    rw [vA_ne r0, vA_ne r1, vA_ne r2]
  refine ⟨⟨i1, i2, i3, i4, ⟨rfl, hx⟩⟩, h2, fun k hk => ?_, h4, fun m hm => ?_⟩
  · rw [er _ (by omega) (by omega) (by omega)]; exact h3 k hk
  · rw [er _ (by omega) (by omega) (by omega)]; exact h5 m hm
/-- a bracket opens at place a - 1, on both sides -/
theorem unt_open {a how : Int} (hG : Good n L G) (h : pvR n A B) (ea : A 35 7 = a) (hh : 0 ≤ how ∧ how ≤ 15) (h2 : 2 * A 35 8 + 1 ≤ a) (hd : A 35 8 ≤ 49) : (pkF (A 36) (A 35 1) a = 40 → ∃ A' B', run (d + 2) 511 0 [xR 35, xI how] [] (A, G) = some (some (xI 1), (A', G)) ∧ frRx A A' ∧ A' 35 10 = 1 ∧ A 35 7 < A' 35 7 ∧ run e 1142 0 [xR 376, xI how] [] (vA B 376 (vU (B 376) 31 (a + 1)), G) = some (none, (B', G)) ∧ frRm B B' ∧ pvR n A' B') ∧ (¬ pkF (A 36) (A 35 1) a = 40 → run (d + 2) 511 0 [xR 35, xI how] [] (A, G) = some (some (xI 0), (A, G))) := by
  obtain ⟨⟨i1, i2, i3, i4, i5⟩, h2', h3, h4, h5⟩ := id h
  obtain ⟨D, hD⟩ : ∃ D : Nat, A 35 8 = D := ⟨(A 35 8).toNat, by omega⟩
  have hx := x_open (d := d) (D := D) (how := how) (V := A) hG ea rfl (by omega) i2.2.2 hD (by omega)
  refine ⟨fun q => ?_, fun q => by rw [if_neg q] at hx; exact hx⟩
  rw [if_pos q] at hx
  have hlt := pkF_lt q (by omega)
  have dB : (vA B 376 (vU (B 376) 31 (a + 1))) 376 32 = D := by rw [vA_same, vU_ne (by decide), i4.1]; exact hD
  have hm := m_opens (d := e) (how := how) (V := vA B 376 (vU (B 376) 31 (a + 1))) hG (by rw [dB]; omega)
  rw [dB] at hm
  refine ⟨_, _, hx, ⟨fun b hb => ?_, ?_, ?_⟩, ?_, ?_, hm, ⟨fun b b1 b2 => ?_, fun k hk => ?_⟩, ?_⟩
  · unfold opX
    rw [vA_ne (by omega), vA_ne (by omega), setRow_ap (by omega) (by omega) (by omega), vA_ne (by omega)]
  · unfold opX; rw [vA_same]; rfl
  · unfold opX; rw [vA_same]; rfl
  · unfold opX; rw [vA_same]; rfl
  · have : opX A D (a + 1) how 35 7 = a + 1 := by unfold opX; rw [vA_same]; rfl
    omega
  · rw [vA_ne (by omega), vA_ne (by omega), vA_ne b1, vA_ne b1]
  · rw [vA_ne (by decide), vA_ne (by decide), vA_same, vA_same, vU_ne (by omega), vU_ne (by omega)]
  · refine pv_open h hD (by omega) hh (by omega) ?_ ?_ (fun b c0 c1 c2 => ?_) (fun k k1 k2 k3 => ?_) ?_ ?_
    · rw [vA_ne (by decide), vA_same]; rfl
    · rw [vA_same]; rfl
    · rw [vA_ne c2, vA_ne c1, vA_ne c0, vA_ne c0]
    · rw [vA_ne (by decide), vA_ne (by decide), vA_same, vA_same, vU_ne k2, vU_ne k1]
    · rw [vA_ne (by decide), vA_ne (by decide), vA_same, vA_same, vU_ne (by decide), vU_at]
    · rw [vA_ne (by decide), vA_ne (by decide), vA_same, vU_at]
theorem unt_name {u2 : XV} {c : Int} (hG : Good n L G) (h : pvR n A B) (ho : A 35 10 = 0) (hc : pkF (A 36) (A 35 1) (A 35 7) = c) (hn : 97 ≤ c ∧ c ≤ 102) : ∃ A' b, run (d + 4) 512 0 [xR 35, xI (c - 97), xU] [] (A, G) = some (some (xI b), (A', G)) ∧ frRx A A' ∧ ((b = 0 ∧ ∃ B', run (e + 2) 1135 115 [xR 376, xI c, u2] [] (B, G) = some (some (xI 0), (B', G)) ∧ frRm B B' ∧ pvR n A' B') ∨ (b = 1 ∧ A' 35 10 = 0 ∧ A 35 7 < A' 35 7 ∧ ∃ B', run (e + 2) 1135 115 [xR 376, xI c, u2] [] (B, G) = some (some (xI 1), (B', G)) ∧ frRm B B' ∧ pvR n A' B') ∨ (b = 1 ∧ A' 35 10 = 1 ∧ A 35 7 < A' 35 7 ∧ ∃ B' v1 v2, run (e + 2) 1135 115 [xR 376, xI c, u2] [] (B, G) = run (e + 2) 1135 0 [xR 376, v1, v2] [] (B', G) ∧ frRm B B' ∧ pvR n A' B')) := by
  obtain ⟨⟨i1, i2, i3, i4, i5⟩, h2, h3, h4, h5⟩ := id h
  have hps := pkF_lt hc (by omega)
  have dg : ¬ (48 ≤ c ∧ c ≤ 57) := by omega
  have mvs : ∀ y, A 35 7 ≤ y → y ≤ A 35 1 → pvR n (plX A y) (vA B 376 (vU (B 376) 31 y)) ∧ frRx A (plX A y) ∧ frRm B (vA B 376 (vU (B 376) 31 y)) := fun y y0 y1 => ⟨pv_mv h (fun b hb => vA_ne hb) (fun k k1 _ => by unfold plX; rw [vA_same, vU_ne k1]) (fun b hb => vA_ne hb) (fun k k1 _ => by rw [vA_same, vU_ne k1]) (by rw [vA_same, vU_at]; rfl) ⟨y0, y1⟩, ⟨fun b hb => vA_ne (by omega), rfl, rfl⟩, ⟨fun b b1 _ => vA_ne b1, fun k hk => by rw [vA_same, vU_ne (by omega)]⟩⟩
  obtain ⟨p1, p2, p3⟩ := mvs (A 35 7 + 1) (by omega) (by omega)
  obtain ⟨B1, hB1⟩ : ∃ B1, B1 = vA B 376 (vU (B 376) 31 (A 35 7 + 1)) := ⟨_, rfl⟩
  rw [← hB1] at p1 p3
  have q5 : B1 376 31 = A 35 7 + 1 := by rw [hB1]; rfl
  have q6 : B1 376 30 = A 35 1 := by rw [hB1]; exact i2.1
  have hs1 := m_sign (d := e + 1) (V := B1) hG q5 q6 (by omega) i2.2.2
  rw [show B1 394 = B 394 by rw [hB1]; rfl, pv_pk h _ (by omega)] at hs1
  have htk := x_takes (d := d + 2) (b := 61) (V := plX A (A 35 7 + 1)) hG (by show 0 ≤ A 35 7 + 1 ∧ A 35 7 + 1 ≤ 100; omega) i2.2.2
  have htk1 : run (d + 3) 508 0 [xR 35, xI 61] [] (plX A (A 35 7 + 1), G) = some (some (xI (b1 (pkF (A 36) (A 35 1) (A 35 7 + 1) = 61))), ((if pkF (A 36) (A 35 1) (A 35 7 + 1) = 61 then plX (plX A (A 35 7 + 1)) (A 35 7 + 1 + 1) else plX A (A 35 7 + 1)), G)) := htk
  rw [plX_pl] at htk1
  have e9 : vA A 35 (vU (A 35) 7 (A 35 7 + 1)) = plX A (A 35 7 + 1) := rfl
  by_cases eq : pkF (A 36) (A 35 1) (A 35 7 + 1) = 61
  · have hl1 := pkF_lt eq (by omega)
    rw [if_pos eq, b1_t eq] at htk1
    obtain ⟨g1, g2, g3⟩ := mvs (A 35 7 + 1 + 1) (by omega) (by omega)
    obtain ⟨B2, hB2⟩ : ∃ B2, B2 = vA B1 376 (vU (B1 376) 31 (A 35 7 + 1 + 1)) := ⟨_, rfl⟩
    have hB2' : B2 = vA B 376 (vU (B 376) 31 (A 35 7 + 1 + 1)) := by
      rw [hB2, hB1, vA_vA, vA_same]
      refine vA_ext (fun j => ?_)
      by_cases e : j = 31
      · rw [e, vU_at, vU_at]
      · rw [vU_ne e, vU_ne e, vU_ne e]
    rw [← hB2'] at g1 g3
    have q7 : B2 376 31 = A 35 7 + 1 + 1 := by rw [hB2]; rfl
    have q8 : B2 376 30 = A 35 1 := by rw [hB2']; exact i2.1
    have hs2 := m_sign (d := e + 1) (V := B2) hG q7 q8 (by omega) i2.2.2
    rw [show B2 394 = B 394 by rw [hB2']; rfl, pv_pk h _ (by omega)] at hs2
    obtain ⟨o1, o2⟩ := unt_open (d := d + 1) (e := e + 1) (A := plX A (A 35 7 + 1 + 1)) (a := A 35 7 + 1 + 1) (how := 10 + (c - 97)) hG g1 rfl (by omega) (by show 2 * A 35 8 + 1 ≤ _; omega) (by show A 35 8 ≤ 49; omega)
    have o1' : pkF (A 36) (A 35 1) (A 35 7 + 1 + 1) = 40 → _ := o1
    have o2' : ¬ pkF (A 36) (A 35 1) (A 35 7 + 1 + 1) = 40 → _ := o2
    have ehow : 10 + c - 97 = 10 + (c - 97) := by omega
    by_cases op : pkF (A 36) (A 35 1) (A 35 7 + 1 + 1) = 40
    · obtain ⟨A', B', r1, r2, r3, r4, r5, r6, r7⟩ := o1' op
      refine ⟨A', 1, ?_, frRx_tr g2 r2, Or.inr (Or.inr ⟨rfl, r3, by have : A 35 7 + 1 + 1 < A' 35 7 := r4; omega, B', xI c, u2, ?_, frRm_tr g3 r6, r7⟩)⟩
      · have r1' : run (d + 3) 511 0 [xR 35, xI (10 + (c - 97))] [] (plX A (A 35 7 + 1 + 1), G) = some (some (xI 1), (A', G)) := r1
        simp (disch := first | omega | exact Nat.le_of_ble_eq_true rfl) only [bk512_0, bk512_33, bk512_63, bk512_76, Int.reduceToNat, vA_ap, Nat.reduceEqDiff, if_true, if_false, bx_nil, isL_I, isL_R, isL_U, if_ff, bind_some, tl_some, tl_none, bx_aload_0, gf35_7 hG, bx_istore_2, bx_dupI, bx_dupR, bx_iconst, bx_iadd, pf35_7 hG, bx_bipush, cl508 hG, bx_if_eq, bx_iload_1, cl511 hG, bx_zret, gf35_6 hG, ia40 hG, is40 hG, gf35_3 hG, aa37 hG, gf35_8 hG, gf35_5 hG, aa39 hG, bx_goto, gf35_9 hG, bx_ic_ne, bx_iload_2, pf35_9 hG, e9, htk1, one_ne, r1', bx_zret (Or.inr rfl : (1 : Int) = 0 ∨ (1 : Int) = 1)]
      · simp (disch := first | omega | exact Nat.le_of_ble_eq_true rfl) only [bk1135_23, bk1135_48, bk1135_70, bk1135_86, bk1135_99, bk1135_109, bk1135_115, bk1135_132, bk1135_169, bk1135_187, bk1135_198, bk1135_227, bk1135_231, Int.reduceToNat, vA_ap, Nat.reduceEqDiff, if_true, if_false, bx_nil, isL_I, isL_R, isL_U, if_ff, bind_some, tl_some, tl_none, bx_aload_0, cl1136 hG, bx_istore_1, bx_iload_1, bx_bipush, bx_ic_eq, bx_ic_ne, bx_dupI, bx_dupR, gf376_31 hG, bx_iconst, bx_iadd, pf376_31 hG, gf376_0 hG, bx_isub, cl1137 hG, bx_if_ne, bx_zret, gf376_34 hG, bx_istore_2, bx_iload_2, bx_imul, bx_goto, bx_irem, cl1139 hG, cl1138, cl1140 hG, bx_if_eq, cl1141 hG, cl1142 hG, m_isDigit, b1_f dg, m_isName, b1_t hn, one_ne, i3.1, ← hB1, hs1, if_pos eq, q5, ← hB2, hs2, if_pos op, q7, ehow, r5]
    · refine ⟨plX A (A 35 7 + 1 + 1), 0, ?_, g2, Or.inl ⟨rfl, B2, ?_, g3, g1⟩⟩
      · have r1' : run (d + 3) 511 0 [xR 35, xI (10 + (c - 97))] [] (plX A (A 35 7 + 1 + 1), G) = some (some (xI 0), (plX A (A 35 7 + 1 + 1), G)) := o2' op
        simp (disch := first | omega | exact Nat.le_of_ble_eq_true rfl) only [bk512_0, bk512_33, bk512_63, bk512_76, Int.reduceToNat, vA_ap, Nat.reduceEqDiff, if_true, if_false, bx_nil, isL_I, isL_R, isL_U, if_ff, bind_some, tl_some, tl_none, bx_aload_0, gf35_7 hG, bx_istore_2, bx_dupI, bx_dupR, bx_iconst, bx_iadd, pf35_7 hG, bx_bipush, cl508 hG, bx_if_eq, bx_iload_1, cl511 hG, bx_zret, gf35_6 hG, ia40 hG, is40 hG, gf35_3 hG, aa37 hG, gf35_8 hG, gf35_5 hG, aa39 hG, bx_goto, gf35_9 hG, bx_ic_ne, bx_iload_2, pf35_9 hG, e9, htk1, one_ne, r1', bx_zret (Or.inl rfl : (0 : Int) = 0 ∨ (0 : Int) = 1)]
      · simp (disch := first | omega | exact Nat.le_of_ble_eq_true rfl) only [bk1135_23, bk1135_48, bk1135_70, bk1135_86, bk1135_99, bk1135_109, bk1135_115, bk1135_132, bk1135_169, bk1135_187, bk1135_198, bk1135_227, bk1135_231, Int.reduceToNat, vA_ap, Nat.reduceEqDiff, if_true, if_false, bx_nil, isL_I, isL_R, isL_U, if_ff, bind_some, tl_some, tl_none, bx_aload_0, cl1136 hG, bx_istore_1, bx_iload_1, bx_bipush, bx_ic_eq, bx_ic_ne, bx_dupI, bx_dupR, gf376_31 hG, bx_iconst, bx_iadd, pf376_31 hG, gf376_0 hG, bx_isub, cl1137 hG, bx_if_ne, bx_zret, gf376_34 hG, bx_istore_2, bx_iload_2, bx_imul, bx_goto, bx_irem, cl1139 hG, cl1138, cl1140 hG, bx_if_eq, cl1141 hG, cl1142 hG, m_isDigit, b1_f dg, m_isName, b1_t hn, one_ne, i3.1, ← hB1, hs1, if_pos eq, q5, ← hB2, hs2, if_neg op]
  · rw [if_neg eq, b1_f eq] at htk1
    obtain ⟨D, hD⟩ : ∃ D : Nat, A 35 8 = D := ⟨(A 35 8).toNat, by omega⟩
    obtain ⟨nm, hnm⟩ : ∃ nm : Nat, c - 97 = nm := ⟨(c - 97).toNat, by omega⟩
    obtain ⟨n1, n2, n3⟩ := p1.2.2.2.2 nm (by omega)
    have hrow := p1.2.2.1 D (by show (D : Int) ≤ A 35 8; omega)
    have dB : B1 376 32 = D := by rw [hB1]; show B 376 32 = _; rw [i4.1]; exact hD
    have hz : 0 ≤ B1 396 (B1 376 32) ∧ B1 396 (B1 376 32) ≤ 11 := by rw [dB]; exact hrow.2.1
    have hus := m_uses (d := e) (name := nm) (V := B1) hG (by omega) (fun y => (n3 y).2.1) (by omega) hz n2 (by omega)
    have n1' : A 40 nm = B1 400 nm := n1
    by_cases tl : B1 400 nm = 0
    · rw [if_pos tl, q5] at hus
      have u9 : B1 376 33 = A 35 9 := by rw [hB1]; exact i5.1
      rw [u9] at hus
      by_cases un : A 35 9 = -1
      · rw [if_pos (show A 35 9 < 0 by omega), show A 35 7 + 1 - 1 = A 35 7 by omega] at hus
        have hp := pv_unk (x := A 35 7) p1 (by omega)
        refine ⟨vA (plX A (A 35 7 + 1)) 35 (vU (plX A (A 35 7 + 1) 35) 9 (A 35 7)), 1, ?_, ⟨fun b hb => by rw [vA_ne (by omega)]; exact p2.1 b hb, rfl, rfl⟩, Or.inr (Or.inl ⟨rfl, ho, ?_, _, ?_, ?_, hp⟩)⟩
        · simp (disch := first | omega | exact Nat.le_of_ble_eq_true rfl) only [bk512_0, bk512_33, bk512_63, bk512_76, Int.reduceToNat, vA_ap, Nat.reduceEqDiff, if_true, if_false, bx_nil, isL_I, isL_R, isL_U, if_ff, bind_some, tl_some, tl_none, bx_aload_0, gf35_7 hG, bx_istore_2, bx_dupI, bx_dupR, bx_iconst, bx_iadd, pf35_7 hG, bx_bipush, cl508 hG, bx_if_eq, bx_iload_1, cl511 hG, bx_zret, gf35_6 hG, ia40 hG, is40 hG, gf35_3 hG, aa37 hG, gf35_8 hG, gf35_5 hG, aa39 hG, bx_goto, gf35_9 hG, bx_ic_ne, bx_iload_2, pf35_9 hG, e9, htk1, hnm, show plX A (A 35 7 + 1) 40 nm = A 40 nm from rfl, n1', tl, if_pos (show (0 : Int) = 0 from rfl), show plX A (A 35 7 + 1) 35 9 = A 35 9 from rfl, if_pos un, bx_zret (Or.inr rfl : (1 : Int) = 0 ∨ (1 : Int) = 1)]
        · show A 35 7 < A 35 7 + 1; omega
        · simp (disch := first | omega | exact Nat.le_of_ble_eq_true rfl) only [bk1135_23, bk1135_48, bk1135_70, bk1135_86, bk1135_99, bk1135_109, bk1135_115, bk1135_132, bk1135_169, bk1135_187, bk1135_198, bk1135_227, bk1135_231, Int.reduceToNat, vA_ap, Nat.reduceEqDiff, if_true, if_false, bx_nil, isL_I, isL_R, isL_U, if_ff, bind_some, tl_some, tl_none, bx_aload_0, cl1136 hG, bx_istore_1, bx_iload_1, bx_bipush, bx_ic_eq, bx_ic_ne, bx_dupI, bx_dupR, gf376_31 hG, bx_iconst, bx_iadd, pf376_31 hG, gf376_0 hG, bx_isub, cl1137 hG, bx_if_ne, bx_zret, gf376_34 hG, bx_istore_2, bx_iload_2, bx_imul, bx_goto, bx_irem, cl1139 hG, cl1138, cl1140 hG, bx_if_eq, cl1141 hG, cl1142 hG, m_isDigit, b1_f dg, m_isName, b1_t hn, one_ne, i3.1, ← hB1, hs1, if_neg eq, hnm, hus, bx_zret (Or.inr rfl : (1 : Int) = 0 ∨ (1 : Int) = 1)]
        · exact ⟨fun b b1 b2 => by rw [vA_ne b1]; exact p3.1 b b1 b2, fun k hk => by rw [vA_same, vU_ne (by omega)]; exact p3.2 k hk⟩
      · rw [if_neg (show ¬ A 35 9 < 0 by omega)] at hus
        refine ⟨plX A (A 35 7 + 1), 1, ?_, p2, Or.inr (Or.inl ⟨rfl, ho, ?_, B1, ?_, p3, p1⟩)⟩
        · simp (disch := first | omega | exact Nat.le_of_ble_eq_true rfl) only [bk512_0, bk512_33, bk512_63, bk512_76, Int.reduceToNat, vA_ap, Nat.reduceEqDiff, if_true, if_false, bx_nil, isL_I, isL_R, isL_U, if_ff, bind_some, tl_some, tl_none, bx_aload_0, gf35_7 hG, bx_istore_2, bx_dupI, bx_dupR, bx_iconst, bx_iadd, pf35_7 hG, bx_bipush, cl508 hG, bx_if_eq, bx_iload_1, cl511 hG, bx_zret, gf35_6 hG, ia40 hG, is40 hG, gf35_3 hG, aa37 hG, gf35_8 hG, gf35_5 hG, aa39 hG, bx_goto, gf35_9 hG, bx_ic_ne, bx_iload_2, pf35_9 hG, e9, htk1, hnm, show plX A (A 35 7 + 1) 40 nm = A 40 nm from rfl, n1', tl, if_pos (show (0 : Int) = 0 from rfl), show plX A (A 35 7 + 1) 35 9 = A 35 9 from rfl, if_neg un, bx_zret (Or.inr rfl : (1 : Int) = 0 ∨ (1 : Int) = 1)]
        · show A 35 7 < A 35 7 + 1; omega
        · simp (disch := first | omega | exact Nat.le_of_ble_eq_true rfl) only [bk1135_23, bk1135_48, bk1135_70, bk1135_86, bk1135_99, bk1135_109, bk1135_115, bk1135_132, bk1135_169, bk1135_187, bk1135_198, bk1135_227, bk1135_231, Int.reduceToNat, vA_ap, Nat.reduceEqDiff, if_true, if_false, bx_nil, isL_I, isL_R, isL_U, if_ff, bind_some, tl_some, tl_none, bx_aload_0, cl1136 hG, bx_istore_1, bx_iload_1, bx_bipush, bx_ic_eq, bx_ic_ne, bx_dupI, bx_dupR, gf376_31 hG, bx_iconst, bx_iadd, pf376_31 hG, gf376_0 hG, bx_isub, cl1137 hG, bx_if_ne, bx_zret, gf376_34 hG, bx_istore_2, bx_iload_2, bx_imul, bx_goto, bx_irem, cl1139 hG, cl1138, cl1140 hG, bx_if_eq, cl1141 hG, cl1142 hG, m_isDigit, b1_f dg, m_isName, b1_t hn, one_ne, i3.1, ← hB1, hs1, if_neg eq, hnm, hus, bx_zret (Or.inr rfl : (1 : Int) = 0 ∨ (1 : Int) = 1)]
    · rw [if_neg tl] at hus
      have tl1 : B1 400 nm = 1 := n2.resolve_left tl
      have hrn := n3 tl1
      have hrw := row41 (show D < 51 by omega)
      have hro := row194 (show nm < 6 by omega)
      have hal := w_addAll (d := d + 2) (V := plX A (A 35 7 + 1)) hG hrw hro (by omega) (by have := hrow.1; have := hrow.2.1; show 0 ≤ (rowOf (plX A (A 35 7 + 1)) (41 + 3 * D)).1 ∧ (rowOf (plX A (A 35 7 + 1)) (41 + 3 * D)).1 ≤ 11; omega) (by have := hrn.1; have := hrn.2.1; show 0 ≤ (rowOf (plX A (A 35 7 + 1)) (194 + 3 * nm)).1 ∧ (rowOf (plX A (A 35 7 + 1)) (194 + 3 * nm)).1 ≤ 11; omega)
      have hall := adL_all (n := n) (V := B1) (s := rowOf (plX A (A 35 7 + 1)) (41 + 3 * D)) (by rw [dB]; exact hrow) hrn
      obtain ⟨ot, _⟩ := adL_oth (g := fun w => B1 398 (11 * (nm : Int) + w)) (B1 399 nm).toNat 0 B1 hz
      rw [dB] at hall ot
      have hp := pv_row (A := plX A (A 35 7 + 1)) (D := D) p1 hD (by omega) rfl ot hall
      refine ⟨setRow (plX A (A 35 7 + 1)) (41 + 3 * D) (addAll (rowOf (plX A (A 35 7 + 1)) (41 + 3 * D)) (rowOf (plX A (A 35 7 + 1)) (194 + 3 * nm))), 1, ?_, ⟨fun b hb => by rw [setRow_ap (by omega) (by omega) (by omega)]; exact p2.1 b hb, by rw [setRow_ap (by omega) (by omega) (by omega)]; rfl, by rw [setRow_ap (by omega) (by omega) (by omega)]; rfl⟩, Or.inr (Or.inl ⟨rfl, by rw [setRow_ap (by omega) (by omega) (by omega)]; exact ho, ?_, _, ?_, ?_, hp⟩)⟩
      · simp (disch := first | omega | exact Nat.le_of_ble_eq_true rfl) only [bk512_0, bk512_33, bk512_63, bk512_76, Int.reduceToNat, vA_ap, Nat.reduceEqDiff, if_true, if_false, bx_nil, isL_I, isL_R, isL_U, if_ff, bind_some, tl_some, tl_none, bx_aload_0, gf35_7 hG, bx_istore_2, bx_dupI, bx_dupR, bx_iconst, bx_iadd, pf35_7 hG, bx_bipush, cl508 hG, bx_if_eq, bx_iload_1, cl511 hG, bx_zret, gf35_6 hG, ia40 hG, is40 hG, gf35_3 hG, aa37 hG, gf35_8 hG, gf35_5 hG, aa39 hG, bx_goto, gf35_9 hG, bx_ic_ne, bx_iload_2, pf35_9 hG, e9, htk1, hnm, show plX A (A 35 7 + 1) 40 nm = A 40 nm from rfl, n1', if_neg tl, show plX A (A 35 7 + 1) 35 8 = A 35 8 from rfl, hD, Int.toNat_natCast, cl603 hG hrw, hal, bx_zret (Or.inr rfl : (1 : Int) = 0 ∨ (1 : Int) = 1)]
      · rw [setRow_ap (by omega) (by omega) (by omega)]
        show A 35 7 < A 35 7 + 1; omega
      · simp (disch := first | omega | exact Nat.le_of_ble_eq_true rfl) only [bk1135_23, bk1135_48, bk1135_70, bk1135_86, bk1135_99, bk1135_109, bk1135_115, bk1135_132, bk1135_169, bk1135_187, bk1135_198, bk1135_227, bk1135_231, Int.reduceToNat, vA_ap, Nat.reduceEqDiff, if_true, if_false, bx_nil, isL_I, isL_R, isL_U, if_ff, bind_some, tl_some, tl_none, bx_aload_0, cl1136 hG, bx_istore_1, bx_iload_1, bx_bipush, bx_ic_eq, bx_ic_ne, bx_dupI, bx_dupR, gf376_31 hG, bx_iconst, bx_iadd, pf376_31 hG, gf376_0 hG, bx_isub, cl1137 hG, bx_if_ne, bx_zret, gf376_34 hG, bx_istore_2, bx_iload_2, bx_imul, bx_goto, bx_irem, cl1139 hG, cl1138, cl1140 hG, bx_if_eq, cl1141 hG, cl1142 hG, m_isDigit, b1_f dg, m_isName, b1_t hn, one_ne, i3.1, ← hB1, hs1, if_neg eq, hnm, hus, bx_zret (Or.inr rfl : (1 : Int) = 0 ∨ (1 : Int) = 1)]
      · exact ⟨fun b b1 b2 => by rw [ot.2.2 b (by omega) (by omega)]; exact p3.1 b b1 b2, fun k hk => by rw [ot.2.2 376 (by decide) (by decide)]; exact p3.2 k hk⟩
theorem unt {u1 u2 : XV} (hG : Good n L G) (h : pvR n A B) : untP n G d e u1 u2 A B := by
  obtain ⟨⟨i1, i2, i3, i4, i5⟩, h2, h3, h4, h5⟩ := id h
  obtain ⟨A0, hA0⟩ : ∃ A0, A0 = vA A 35 (vU (A 35) 10 0) := ⟨_, rfl⟩
  have a1 : ∀ b, b ≠ 35 → A0 b = A b := fun b hb => by rw [hA0, vA_ne hb]
  have a2 : ∀ k, k ≠ 10 → A0 35 k = A 35 k := fun k hk => by rw [hA0, vA_same, vU_ne hk]
  have a3 : A0 35 10 = 0 := by rw [hA0, vA_same, vU_at]
  have h0 : pvR n A0 B := pv_mv h a1 (fun k _ k2 => a2 k k2) (fun _ _ => rfl) (fun _ _ _ => rfl) (by rw [a2 7 (by decide)]; exact i3.1) (by rw [a2 7 (by decide)]; omega)
  have f0 : frRx A A0 := ⟨fun b hb => a1 b (by omega), a2 0 (by decide), a2 1 (by decide)⟩
  have e1 := a2 1 (by decide)
  have e7 := a2 7 (by decide)
  have e8 := a2 8 (by decide)
  have et := a1 36 (by decide)
  have hpk := x_peek (d := d + 4) (V := A0) hG (by rw [e7]; exact i3.2.1) (by rw [e1]; exact i2.2.2)
  have hsg := m_sign (d := e + 1) (V := B) hG i3.1 i2.1 i3.2.1 i2.2.2
  rw [pv_pk h _ i3.2.1] at hsg
  rw [et, e1, e7] at hpk
  have hcb := pk_bd h (A 35 7) i3.2.1
  generalize hc : pkF (A 36) (A 35 1) (A 35 7) = c at *
  have hcA : pkF (A0 36) (A0 35 1) (A0 35 7) = c := by rw [et, e1, e7]; exact hc
  by_cases t : c = 116 ∨ c = 115 ∨ c = 117
  · -- t, s, u
    obtain ⟨A', b, r1, r2, r3, r4⟩ := unt_turn (d := d) (e := e) (u1 := u1) (u2 := u2) hG h0 a3 hcA t
    have hb : b = 0 ∨ b = 1 := by
      rcases r4 with ⟨y, _⟩ | ⟨y, _⟩
      · exact Or.inl y
      · exact Or.inr y
    refine ⟨A', b, ?_, frRx_tr f0 r2, ?_⟩
    · rcases t with y | y | y
      · simp (disch := first | omega | exact Nat.le_of_ble_eq_true rfl) only [bk504_0, bk504_28, bk504_34, bk504_60, bk504_87, bk504_88, Int.reduceToNat, vA_ap, Nat.reduceEqDiff, if_true, if_false, bx_nil, isL_I, isL_R, isL_U, if_ff, bind_some, tl_some, tl_none, bx_aload_0, bx_iconst, pf35_10 hG, cl505 hG, bx_istore_1, bx_iload_1, bx_bipush, bx_ic_eq, bx_ic_ne, cl506 hG, bx_zret, cl510, bx_if_eq, bx_dupI, bx_dupR, gf35_7 hG, bx_iadd, pf35_7 hG, bx_isub, cl511 hG, bx_ic_lt, bx_ic_ge, cl512 hG, bx_goto, ← hA0, hpk, if_pos y, r1, bx_zret hb, pf35_10 hG (Or.inl rfl : (0 : Int) = 0 ∨ (0 : Int) = 1)]
      · simp (disch := first | omega | exact Nat.le_of_ble_eq_true rfl) only [bk504_0, bk504_28, bk504_34, bk504_60, bk504_87, bk504_88, Int.reduceToNat, vA_ap, Nat.reduceEqDiff, if_true, if_false, bx_nil, isL_I, isL_R, isL_U, if_ff, bind_some, tl_some, tl_none, bx_aload_0, bx_iconst, pf35_10 hG, cl505 hG, bx_istore_1, bx_iload_1, bx_bipush, bx_ic_eq, bx_ic_ne, cl506 hG, bx_zret, cl510, bx_if_eq, bx_dupI, bx_dupR, gf35_7 hG, bx_iadd, pf35_7 hG, bx_isub, cl511 hG, bx_ic_lt, bx_ic_ge, cl512 hG, bx_goto, ← hA0, hpk, if_neg (show ¬ c = 116 by omega), if_pos y, r1, bx_zret hb, pf35_10 hG (Or.inl rfl : (0 : Int) = 0 ∨ (0 : Int) = 1)]
      · simp (disch := first | omega | exact Nat.le_of_ble_eq_true rfl) only [bk504_0, bk504_28, bk504_34, bk504_60, bk504_87, bk504_88, Int.reduceToNat, vA_ap, Nat.reduceEqDiff, if_true, if_false, bx_nil, isL_I, isL_R, isL_U, if_ff, bind_some, tl_some, tl_none, bx_aload_0, bx_iconst, pf35_10 hG, cl505 hG, bx_istore_1, bx_iload_1, bx_bipush, bx_ic_eq, bx_ic_ne, cl506 hG, bx_zret, cl510, bx_if_eq, bx_dupI, bx_dupR, gf35_7 hG, bx_iadd, pf35_7 hG, bx_isub, cl511 hG, bx_ic_lt, bx_ic_ge, cl512 hG, bx_goto, ← hA0, hpk, if_neg (show ¬ c = 116 by omega), if_neg (show ¬ c = 115 by omega), if_pos y, r1, bx_zret hb, pf35_10 hG (Or.inl rfl : (0 : Int) = 0 ∨ (0 : Int) = 1)]
    · rcases r4 with ⟨y, B', s1, s2, s3⟩ | ⟨y, s0, B', s1, s2, s3⟩
      · exact Or.inl ⟨y, B', s1, s2, s3⟩
      · exact Or.inr (Or.inl ⟨y, r3, by omega, B', s1, s2, s3⟩)
  · have t1 : ¬ c = 116 := fun y => t (Or.inl y)
    have t2 : ¬ c = 115 := fun y => t (Or.inr (Or.inl y))
    have t3 : ¬ c = 117 := fun y => t (Or.inr (Or.inr y))
    have hst : run (e + 2) 1135 0 [xR 376, u1, u2] [] (B, G) = run (e + 2) 1135 115 [xR 376, xI c, u2] [] (B, G) := by
      rw [bk1135_0]
      simp (disch := first | omega | exact Nat.le_of_ble_eq_true rfl) only [bx_aload_0, cl1136 hG, hsg, bind_some, tl_some, bx_istore_1, isL_R, if_ff, bx_iload_1, bx_bipush, bx_ic_eq, bx_ic_ne, if_neg t1, if_neg t2, if_neg t3, Int.reduceToNat]
    by_cases dg : 48 ≤ c ∧ c ≤ 57
    · -- a digit
      have hps := pkF_lt hc (by omega)
      obtain ⟨A1, hA1⟩ : ∃ A1, A1 = plX A0 (A 35 7 + 1) := ⟨_, rfl⟩
      obtain ⟨B1, hB1⟩ : ∃ B1, B1 = vA B 376 (vU (B 376) 31 (A 35 7 + 1)) := ⟨_, rfl⟩
      have q1 : A1 35 7 = A 35 7 + 1 := by rw [hA1]; rfl
      have q2 : A1 35 1 = A 35 1 := by rw [hA1]; exact e1
      have q3 : A1 35 8 = A 35 8 := by rw [hA1]; exact e8
      have q4 : A1 36 = A 36 := by rw [hA1]; exact et
      have q5 : B1 376 31 = A 35 7 + 1 := by rw [hB1]; rfl
      have q6 : B1 376 30 = A 35 1 := by rw [hB1]; exact i2.1
      have q7 : A1 35 10 = 0 := by rw [hA1]; exact a3
      have h1 : pvR n A1 B1 := pv_mv h0 (fun b hb => by rw [hA1]; exact vA_ne hb) (fun k k1 _ => by rw [hA1]; unfold plX; rw [vA_same, vU_ne k1]) (fun b hb => by rw [hB1, vA_ne hb]) (fun k k1 _ => by rw [hB1, vA_same, vU_ne k1]) (by rw [q1, q5]) (by rw [q1, e7, e1]; omega)
      have fx1 : frRx A A1 := frRx_tr f0 ⟨fun b hb => by rw [hA1]; exact vA_ne (by omega), by rw [hA1]; rfl, by rw [hA1]; rfl⟩
      have fm1 : frRm B B1 := ⟨fun b b1 _ => by rw [hB1, vA_ne b1], fun k hk => by rw [hB1, vA_same, vU_ne (by omega)]⟩
      obtain ⟨o1, o2⟩ := unt_open (d := d + 2) (e := e + 1) (a := A 35 7 + 1) (how := c - 48) hG h1 q1 (by omega) (by omega) (by omega)
      rw [q4, q2] at o1 o2
      have hs1 := m_sign (d := e + 1) (V := B1) hG q5 q6 (by omega) i2.2.2
      rw [show B1 394 = B 394 by rw [hB1]; rfl, pv_pk h _ (by omega)] at hs1
      have nn : ¬ (97 ≤ c ∧ c ≤ 102) := by omega
      by_cases op : pkF (A 36) (A 35 1) (A 35 7 + 1) = 40
      · obtain ⟨A', B', r1, r2, r3, r4, r5, r6, r7⟩ := o1 op
        refine ⟨A', 1, ?_, frRx_tr fx1 r2, Or.inr (Or.inr ⟨rfl, r3, by omega, B', xI c, u2, ?_, frRm_tr fm1 r6, r7⟩)⟩
        · have e9 : vA A0 35 (vU (A0 35) 7 (A 35 7 + 1)) = A1 := hA1.symm
          have r1' : run (d + 4) 511 0 [xR 35, xI (c - 48)] [] (A1, G) = some (some (xI 1), (A', G)) := r1
          simp (disch := first | omega | exact Nat.le_of_ble_eq_true rfl) only [bk504_0, bk504_28, bk504_34, bk504_60, bk504_87, bk504_88, Int.reduceToNat, vA_ap, Nat.reduceEqDiff, if_true, if_false, bx_nil, isL_I, isL_R, isL_U, if_ff, bind_some, tl_some, tl_none, bx_aload_0, bx_iconst, pf35_10 hG, cl505 hG, bx_istore_1, bx_iload_1, bx_bipush, bx_ic_eq, bx_ic_ne, cl506 hG, bx_zret, cl510, bx_if_eq, bx_dupI, bx_dupR, gf35_7 hG, bx_iadd, pf35_7 hG, bx_isub, cl511 hG, bx_ic_lt, bx_ic_ge, cl512 hG, bx_goto, ← hA0, hpk, if_neg t1, if_neg t2, if_neg t3, x_isDig, b1_t dg, one_ne, e7, e9, r1', bx_zret (Or.inr rfl : (1 : Int) = 0 ∨ (1 : Int) = 1), pf35_10 hG (Or.inl rfl : (0 : Int) = 0 ∨ (0 : Int) = 1)]
        · rw [hst]
          simp (disch := first | omega | exact Nat.le_of_ble_eq_true rfl) only [bk1135_23, bk1135_48, bk1135_70, bk1135_86, bk1135_99, bk1135_109, bk1135_115, bk1135_132, bk1135_169, bk1135_187, bk1135_198, bk1135_227, bk1135_231, Int.reduceToNat, vA_ap, Nat.reduceEqDiff, if_true, if_false, bx_nil, isL_I, isL_R, isL_U, if_ff, bind_some, tl_some, tl_none, bx_aload_0, cl1136 hG, bx_istore_1, bx_iload_1, bx_bipush, bx_ic_eq, bx_ic_ne, bx_dupI, bx_dupR, gf376_31 hG, bx_iconst, bx_iadd, pf376_31 hG, gf376_0 hG, bx_isub, cl1137 hG, bx_if_ne, bx_zret, gf376_34 hG, bx_istore_2, bx_iload_2, bx_imul, bx_goto, bx_irem, cl1139 hG, cl1138, cl1140 hG, bx_if_eq, cl1141 hG, cl1142 hG, m_isDigit, b1_t dg, one_ne, i3.1, ← hB1, m_isName, b1_f nn, hs1, if_pos op, q5, r5]
      · refine ⟨A1, 0, ?_, fx1, Or.inl ⟨rfl, B1, ?_, fm1, h1⟩⟩
        · have e9 : vA A0 35 (vU (A0 35) 7 (A 35 7 + 1)) = A1 := hA1.symm
          have r1' : run (d + 4) 511 0 [xR 35, xI (c - 48)] [] (A1, G) = some (some (xI 0), (A1, G)) := o2 op
          simp (disch := first | omega | exact Nat.le_of_ble_eq_true rfl) only [bk504_0, bk504_28, bk504_34, bk504_60, bk504_87, bk504_88, Int.reduceToNat, vA_ap, Nat.reduceEqDiff, if_true, if_false, bx_nil, isL_I, isL_R, isL_U, if_ff, bind_some, tl_some, tl_none, bx_aload_0, bx_iconst, pf35_10 hG, cl505 hG, bx_istore_1, bx_iload_1, bx_bipush, bx_ic_eq, bx_ic_ne, cl506 hG, bx_zret, cl510, bx_if_eq, bx_dupI, bx_dupR, gf35_7 hG, bx_iadd, pf35_7 hG, bx_isub, cl511 hG, bx_ic_lt, bx_ic_ge, cl512 hG, bx_goto, ← hA0, hpk, if_neg t1, if_neg t2, if_neg t3, x_isDig, b1_t dg, one_ne, e7, e9, r1', bx_zret (Or.inl rfl : (0 : Int) = 0 ∨ (0 : Int) = 1), pf35_10 hG (Or.inl rfl : (0 : Int) = 0 ∨ (0 : Int) = 1)]
        · rw [hst]
          simp (disch := first | omega | exact Nat.le_of_ble_eq_true rfl) only [bk1135_23, bk1135_48, bk1135_70, bk1135_86, bk1135_99, bk1135_109, bk1135_115, bk1135_132, bk1135_169, bk1135_187, bk1135_198, bk1135_227, bk1135_231, Int.reduceToNat, vA_ap, Nat.reduceEqDiff, if_true, if_false, bx_nil, isL_I, isL_R, isL_U, if_ff, bind_some, tl_some, tl_none, bx_aload_0, cl1136 hG, bx_istore_1, bx_iload_1, bx_bipush, bx_ic_eq, bx_ic_ne, bx_dupI, bx_dupR, gf376_31 hG, bx_iconst, bx_iadd, pf376_31 hG, gf376_0 hG, bx_isub, cl1137 hG, bx_if_ne, bx_zret, gf376_34 hG, bx_istore_2, bx_iload_2, bx_imul, bx_goto, bx_irem, cl1139 hG, cl1138, cl1140 hG, bx_if_eq, cl1141 hG, cl1142 hG, m_isDigit, b1_t dg, one_ne, i3.1, ← hB1, m_isName, b1_f nn, hs1, if_neg op]
    · by_cases nm : 97 ≤ c ∧ c ≤ 102
      · -- a name
        obtain ⟨A', b, r1, r2, r4⟩ := unt_name (d := d) (e := e) (u2 := u2) hG h0 a3 hcA nm
        have hx : (b = 0 ∨ b = 1) → run (d + 5) 504 0 [xR 35, xU] [] (A, G) = some (some (xI b), (A', G)) := fun hb => by
          rcases hb with rfl | rfl
          · simp (disch := first | omega | exact Nat.le_of_ble_eq_true rfl) only [bk504_0, bk504_28, bk504_34, bk504_60, bk504_87, bk504_88, Int.reduceToNat, vA_ap, Nat.reduceEqDiff, if_true, if_false, bx_nil, isL_I, isL_R, isL_U, if_ff, bind_some, tl_some, tl_none, bx_aload_0, bx_iconst, pf35_10 hG, cl505 hG, bx_istore_1, bx_iload_1, bx_bipush, bx_ic_eq, bx_ic_ne, cl506 hG, bx_zret, cl510, bx_if_eq, bx_dupI, bx_dupR, gf35_7 hG, bx_iadd, pf35_7 hG, bx_isub, cl511 hG, bx_ic_lt, bx_ic_ge, cl512 hG, bx_goto, ← hA0, hpk, if_neg t1, if_neg t2, if_neg t3, x_isDig, b1_f dg, if_neg (show ¬ c < 97 by omega), if_neg (show ¬ 103 ≤ c by omega), r1, bx_zret (Or.inl rfl : (0 : Int) = 0 ∨ (0 : Int) = 1), pf35_10 hG (Or.inl rfl : (0 : Int) = 0 ∨ (0 : Int) = 1)]
          · simp (disch := first | omega | exact Nat.le_of_ble_eq_true rfl) only [bk504_0, bk504_28, bk504_34, bk504_60, bk504_87, bk504_88, Int.reduceToNat, vA_ap, Nat.reduceEqDiff, if_true, if_false, bx_nil, isL_I, isL_R, isL_U, if_ff, bind_some, tl_some, tl_none, bx_aload_0, bx_iconst, pf35_10 hG, cl505 hG, bx_istore_1, bx_iload_1, bx_bipush, bx_ic_eq, bx_ic_ne, cl506 hG, bx_zret, cl510, bx_if_eq, bx_dupI, bx_dupR, gf35_7 hG, bx_iadd, pf35_7 hG, bx_isub, cl511 hG, bx_ic_lt, bx_ic_ge, cl512 hG, bx_goto, ← hA0, hpk, if_neg t1, if_neg t2, if_neg t3, x_isDig, b1_f dg, if_neg (show ¬ c < 97 by omega), if_neg (show ¬ 103 ≤ c by omega), r1, one_ne, bx_zret (Or.inr rfl : (1 : Int) = 0 ∨ (1 : Int) = 1), pf35_10 hG (Or.inl rfl : (0 : Int) = 0 ∨ (0 : Int) = 1)]
        rcases r4 with ⟨y, B', s1, s2, s3⟩ | ⟨y, y1, y2, B', s1, s2, s3⟩ | ⟨y, y1, y2, B', v1, v2, s1, s2, s3⟩
        · exact ⟨A', b, hx (Or.inl y), frRx_tr f0 r2, Or.inl ⟨y, B', hst.trans s1, s2, s3⟩⟩
        · exact ⟨A', b, hx (Or.inr y), frRx_tr f0 r2, Or.inr (Or.inl ⟨y, y1, by omega, B', hst.trans s1, s2, s3⟩)⟩
        · exact ⟨A', b, hx (Or.inr y), frRx_tr f0 r2, Or.inr (Or.inr ⟨y, y1, by omega, B', v1, v2, hst.trans s1, s2, s3⟩)⟩
      · -- nothing else
        refine ⟨A0, 0, ?_, f0, Or.inl ⟨rfl, B, ?_, frRm_rf, h0⟩⟩
        · by_cases lt : c < 97
          · simp (disch := first | omega | exact Nat.le_of_ble_eq_true rfl) only [bk504_0, bk504_28, bk504_34, bk504_60, bk504_87, bk504_88, Int.reduceToNat, vA_ap, Nat.reduceEqDiff, if_true, if_false, bx_nil, isL_I, isL_R, isL_U, if_ff, bind_some, tl_some, tl_none, bx_aload_0, bx_iconst, pf35_10 hG, cl505 hG, bx_istore_1, bx_iload_1, bx_bipush, bx_ic_eq, bx_ic_ne, cl506 hG, bx_zret, cl510, bx_if_eq, bx_dupI, bx_dupR, gf35_7 hG, bx_iadd, pf35_7 hG, bx_isub, cl511 hG, bx_ic_lt, bx_ic_ge, cl512 hG, bx_goto, ← hA0, hpk, if_neg t1, if_neg t2, if_neg t3, x_isDig, b1_f dg, if_pos lt, bx_zret (Or.inl rfl : (0 : Int) = 0 ∨ (0 : Int) = 1), pf35_10 hG (Or.inl rfl : (0 : Int) = 0 ∨ (0 : Int) = 1)]
          · simp (disch := first | omega | exact Nat.le_of_ble_eq_true rfl) only [bk504_0, bk504_28, bk504_34, bk504_60, bk504_87, bk504_88, Int.reduceToNat, vA_ap, Nat.reduceEqDiff, if_true, if_false, bx_nil, isL_I, isL_R, isL_U, if_ff, bind_some, tl_some, tl_none, bx_aload_0, bx_iconst, pf35_10 hG, cl505 hG, bx_istore_1, bx_iload_1, bx_bipush, bx_ic_eq, bx_ic_ne, cl506 hG, bx_zret, cl510, bx_if_eq, bx_dupI, bx_dupR, gf35_7 hG, bx_iadd, pf35_7 hG, bx_isub, cl511 hG, bx_ic_lt, bx_ic_ge, cl512 hG, bx_goto, ← hA0, hpk, if_neg t1, if_neg t2, if_neg t3, x_isDig, b1_f dg, if_neg lt, if_pos (show 103 ≤ c by omega), bx_zret (Or.inl rfl : (0 : Int) = 0 ∨ (0 : Int) = 1), pf35_10 hG (Or.inl rfl : (0 : Int) = 0 ∨ (0 : Int) = 1)]
        · rw [hst]
          simp (disch := first | omega | exact Nat.le_of_ble_eq_true rfl) only [bk1135_23, bk1135_48, bk1135_70, bk1135_86, bk1135_99, bk1135_109, bk1135_115, bk1135_132, bk1135_169, bk1135_187, bk1135_198, bk1135_227, bk1135_231, Int.reduceToNat, vA_ap, Nat.reduceEqDiff, if_true, if_false, bx_nil, isL_I, isL_R, isL_U, if_ff, bind_some, tl_some, tl_none, bx_aload_0, cl1136 hG, bx_istore_1, bx_iload_1, bx_bipush, bx_ic_eq, bx_ic_ne, bx_dupI, bx_dupR, gf376_31 hG, bx_iconst, bx_iadd, pf376_31 hG, gf376_0 hG, bx_isub, cl1137 hG, bx_if_ne, bx_zret, gf376_34 hG, bx_istore_2, bx_iload_2, bx_imul, bx_goto, bx_irem, cl1139 hG, cl1138, cl1140 hG, bx_if_eq, cl1141 hG, cl1142 hG, m_isDigit, b1_f dg, m_isName, b1_f nm]
end UN2
