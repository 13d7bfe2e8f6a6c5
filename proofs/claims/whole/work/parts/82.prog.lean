/-! PROGRAM: all statements -/
noncomputable def kkM (e : Nat) (v : XV) (o : Option XV × XM) : XO := bx (e + 3) 1134 [.ifCond .ne 52, .iconst 0, .freturn] 52 [xR 376, v] (o.1.toList ++ []) o.2
section PG
variable {n L d e : Nat} {G : XG} {V A B : Nat → Int → Int}
theorem kk_43 {v : XV} (hG : Good n L G) : run (e + 3) 1134 43 [xR 376, v] [] (B, G) = (run (e + 2) 1135 0 [xR 376, xU, xU] [] (B, G)).bind (kkM e v) := by
  rw [bk1134_43]
  simp (disch := first | omega | exact Nat.le_of_ble_eq_true rfl) only [bx_aload_0, cl1135 hG]
  rfl
theorem kk_0 {v : XV} : kkM e v (some (xI 0), (B, G)) = some (some (xI 0), (B, G)) := by
  unfold kkM
  simp (disch := first | omega | exact Nat.le_of_ble_eq_true rfl) only [tl_some, bx_if_ne, if_true, bx_iconst, bx_zret (Or.inl rfl : (0 : Int) = 0 ∨ (0 : Int) = 1)]
theorem kk_1 {v : XV} : kkM e v (some (xI 1), (B, G)) = run (e + 3) 1134 52 [xR 376, v] [] (B, G) := by
  unfold kkM
  simp (disch := first | omega | exact Nat.le_of_ble_eq_true rfl) only [tl_some, bx_if_ne, one_ne, if_false, Int.reduceToNat]
/-- all brackets that close -/
theorem closers {rd : Int} {v : XV} (hG : Good n L G) : ∀ (k : Nat) (A B : Nat → Int → Int), pvR n A B → A 35 8 = k → ∃ A' B' op, run (d + 6) 503 32 [xR 35, xI rd, xI k] [] (A, G) = run (d + 6) 503 55 [xR 35, xI rd, xI op] [] (A', G) ∧ run (e + 3) 1134 52 [xR 376, v] [] (B, G) = run (e + 3) 1134 85 [xR 376, v] [] (B', G) ∧ pvR n A' B' ∧ frRx A A' ∧ frRm B B' ∧ A 35 7 ≤ A' 35 7 := by
  intro k
  induction k with
  | zero =>
    intro A B h hk
    obtain ⟨⟨i1, i2, i3, i4, i5⟩, h2, h3, h4, h5⟩ := id h
    have hsg := m_sign (d := e + 2) (V := B) hG i3.1 i2.1 i3.2.1 i2.2.2
    refine ⟨A, B, ((0 : Nat) : Int), ?_, ?_, h, frRx_rf, frRm_rf, Int.le_refl _⟩
    · rw [bk503_32]
      simp (disch := first | omega | exact Nat.le_of_ble_eq_true rfl) only [bx_iload_2, bx_if_le, if_pos (show ((0 : Nat) : Int) ≤ 0 by omega), Int.reduceToNat]
    · rw [bk1134_52]
      by_cases q : pkF (B 394) (A 35 1) (A 35 7) = 41
      · simp (disch := first | omega | exact Nat.le_of_ble_eq_true rfl) only [bx_aload_0, cl1136 hG, hsg, bind_some, tl_some, bx_bipush, bx_ic_ne, if_pos q, gf376_32 hG, i4.1, hk, bx_if_le, if_pos (show ((0 : Nat) : Int) ≤ 0 by omega), Int.reduceToNat]
      · simp (disch := first | omega | exact Nat.le_of_ble_eq_true rfl) only [bx_aload_0, cl1136 hG, hsg, bind_some, tl_some, bx_bipush, bx_ic_ne, if_neg q, Int.reduceToNat]
  | succ k ih =>
    intro A B h hk
    obtain ⟨⟨i1, i2, i3, i4, i5⟩, h2, h3, h4, h5⟩ := id h
    have hk' : A 35 8 = (k : Int) + 1 := by omega
    have hsg := m_sign (d := e + 2) (V := B) hG i3.1 i2.1 i3.2.1 i2.2.2
    rw [pv_pk h _ i3.2.1] at hsg
    have htk := x_takes (d := d + 4) (b := 41) (V := A) hG (by omega) i2.2.2
    by_cases q : pkF (A 36) (A 35 1) (A 35 7) = 41
    · rw [if_pos q, b1_t q] at htk
      have hlt := pkF_lt q (by omega)
      obtain ⟨how, hhow⟩ : ∃ how, A 38 ((k : Int) + 1) = how := ⟨_, rfl⟩
      obtain ⟨w1, w2, w3⟩ := h4 ((k : Int) + 1) (by omega) (by omega)
      have hm : pvR n (plX A (A 35 7 + 1)) (vA B 376 (vU (B 376) 31 (A 35 7 + 1))) := pv_mv h (fun b hb => vA_ne hb) (fun j k1 _ => by unfold plX; rw [vA_same, vU_ne k1]) (fun b hb => vA_ne hb) (fun j k1 _ => by rw [vA_same, vU_ne k1]) (by rw [vA_same, vU_at]; rfl) (by show A 35 7 ≤ A 35 7 + 1 ∧ A 35 7 + 1 ≤ A 35 1; omega)
      obtain ⟨A1, hA1⟩ : ∃ A1, A1 = plX A (A 35 7 + 1) := ⟨_, rfl⟩
      obtain ⟨B1, hB1⟩ : ∃ B1, B1 = vA B 376 (vU (B 376) 31 (A 35 7 + 1)) := ⟨_, rfl⟩
      rw [← hA1, ← hB1] at hm
      rw [← hA1] at htk
      have x8 : A1 35 8 = (k : Int) + 1 := by rw [hA1]; exact hk'
      have x7 : A1 35 7 = A 35 7 + 1 := by rw [hA1]; rfl
      have x38 : A1 38 ((k : Int) + 1) = how := by rw [hA1]; exact hhow
      have b32 : B1 376 32 = (k : Int) + 1 := by rw [hB1]; show B 376 32 = _; rw [i4.1]; exact hk'
      have bt : B1 397 ((k : Int) + 1) = how := by rw [hB1]; show B 397 _ = _; rw [← w1]; exact hhow
      have r1 := hm.2.2.1 (k + 1) (by omega)
      have r0 := hm.2.2.1 k (by omega)
      rw [show ((k + 1 : Nat) : Int) = (k : Int) + 1 by omega] at r1
      have hxc := x_close (d := d + 2) (D := k) (V := A1) hG x8 (by omega) x38 (by omega) (by have := r1.1; have := r1.2.1; show 0 ≤ (rowOf A1 (41 + 3 * (k + 1))).1 ∧ (rowOf A1 (41 + 3 * (k + 1))).1 ≤ 11; omega) (by have := r0.1; have := r0.2.1; show 0 ≤ (rowOf A1 (41 + 3 * k)).1 ∧ (rowOf A1 (41 + 3 * k)).1 ≤ 11; omega)
      have hmc := m_closes (d := e + 1) (V := B1) hG b32 (by omega) bt (by omega) r1.2.1 (by rw [show (k : Int) + 1 - 1 = k by omega]; exact r0.2.1)
      have hp := pv_close hm x8 (by omega) x38
      generalize hB2 : (if 10 ≤ how then clN B1 ((k : Int) + 1) (how - 10) else clL (fun w => B1 395 (13 * ((k : Int) + 1) + w)) (B1 396 ((k : Int) + 1)).toNat how.toNat (vA B1 376 (vU (B1 376) 32 ((k : Int) + 1 - 1)))) = B2 at *
      have c35 : csX A1 k how 35 = vU (A1 35) 8 (k : Int) := by
        unfold csX
        by_cases y : 10 ≤ how
        · rw [if_pos y, vA_ne (by decide), setRow_ap (by omega) (by omega) (by omega), vA_same]
        · rw [if_neg y, setRow_ap (by omega) (by omega) (by omega), vA_same]
      have fx : frRx A (csX A1 k how) := by
        refine ⟨fun b hb => ?_, ?_, ?_⟩
        · have : A1 b = A b := by rw [hA1]; exact vA_ne (by omega)
          rw [← this]
          unfold csX
          by_cases y : 10 ≤ how
          · rw [if_pos y, vA_ne (by omega), setRow_ap (by omega) (by omega) (by omega), vA_ne (by omega)]
          · rw [if_neg y, setRow_ap (by omega) (by omega) (by omega), vA_ne (by omega)]
        · rw [c35, hA1]; rfl
        · rw [c35, hA1]; rfl
      have fm : frRm B B2 := by
        have hb1 : ∀ b, b ≠ 376 → B1 b = B b := fun b hb => by rw [hB1, vA_ne hb]
        have hb2 : ∀ j, ¬ (31 ≤ j ∧ j < 35) → B1 376 j = B 376 j := fun j hj => by rw [hB1, vA_same, vU_ne (by omega)]
        by_cases y : 10 ≤ how
        · rw [if_pos y] at hB2
          rw [← hB2]
          unfold clN
          refine ⟨fun b c1 c2 => ?_, fun j hj => ?_⟩
          · rw [vA_ne (by omega), vA_ne (by omega), vA_ne (by omega), vA_ne c1]; exact hb1 b c1
          · rw [vA_ne (by decide), vA_ne (by decide), vA_ne (by decide), vA_same, vU_ne (by omega)]; exact hb2 j hj
        · rw [if_neg y] at hB2
          have e5 : (vA B1 376 (vU (B1 376) 32 ((k : Int) + 1 - 1))) 376 32 = (k : Int) := by rw [vA_same, vU_at]; omega
          have hcl := (clL_row (n := n) r1 how.toNat (vA B1 376 (vU (B1 376) 32 ((k : Int) + 1 - 1))) (rowOf A1 (41 + 3 * k)) (by rw [e5]; exact r0)).1
          rw [hB2] at hcl
          refine ⟨fun b c1 c2 => ?_, fun j hj => ?_⟩
          · rw [hcl.2.2 b (by omega) (by omega), vA_ne c1]; exact hb1 b c1
          · rw [hcl.2.2 376 (by decide) (by decide), vA_same, vU_ne (by omega)]; exact hb2 j hj
      obtain ⟨A', B', op, o1, o2, o3, o4, o5, o6⟩ := ih (csX A1 k how) B2 hp (by rw [c35, vU_at])
      refine ⟨A', B', op, ?_, ?_, o3, frRx_tr fx o4, frRm_tr fm o5, ?_⟩
      · rw [← o1, bk503_32]
        have hxc' : run (d + 5) 513 0 [xR 35, xU, xU, xU] [] (A1, G) = some (none, (csX A1 k how, G)) := hxc
        simp (disch := first | omega | exact Nat.le_of_ble_eq_true rfl) only [bk503_0, bk503_17, bk503_27, bk503_55, bk503_77, bk503_78, bk503_79, bk503_90, bk503_96, Int.reduceToNat, vA_ap, Nat.reduceEqDiff, if_true, if_false, bx_nil, isL_I, isL_R, isL_U, if_ff, bind_some, tl_some, tl_none, bx_iconst, bx_istore_1, bx_iload_1, bx_bipush, bx_ic_gt, bx_aload_0, cl504 hG, bx_if_ne, bx_zret, gf35_10 hG, bx_if_eq, bx_goto, gf35_8 hG, bx_istore_2, bx_iload_2, bx_if_le, cl508 hG, cl513 hG, bx_iinc2, gf35_7 hG, gf35_1 hG, bx_ic_lt, bx_iinc1, if_neg (show ¬ ((k + 1 : Nat) : Int) ≤ 0 by omega), htk, one_ne, hxc', show ((k + 1 : Nat) : Int) + -1 = (k : Int) by omega]
      · rw [← o2, bk1134_52]
        simp (disch := first | omega | exact Nat.le_of_ble_eq_true rfl) only [bk1134_0, bk1134_85, bk1134_102, bk1134_113, Int.reduceToNat, vA_ap, Nat.reduceEqDiff, if_true, if_false, bx_nil, isL_I, isL_R, isL_U, if_ff, bind_some, tl_some, tl_none, bx_aload_0, bx_iconst, pf376_31 hG, pf376_32 hG, gf376_25 hG, ia396 hG, is396 hG, pf376_33 hG, bx_istore_1, bx_iload_1, bx_bipush, bx_ic_ge, gf376_29 hG, ia400 hG, is400 hG, bx_iinc1, bx_goto, cl1135 hG, bx_if_ne, bx_zret, cl1136 hG, bx_ic_ne, gf376_32 hG, bx_if_le, bx_dupI, bx_dupR, gf376_31 hG, bx_iadd, cl1143 hG, bx_ic_eq, hsg, if_pos q, i4.1, if_neg (show ¬ A 35 8 ≤ 0 by omega), i3.1, ← hB1, hmc]
      · have : csX A1 k how 35 7 = A 35 7 + 1 := by rw [c35, vU_ne (by decide), x7]
        omega
    · rw [if_neg q, b1_f q] at htk
      refine ⟨A, B, ((k + 1 : Nat) : Int), ?_, ?_, h, frRx_rf, frRm_rf, Int.le_refl _⟩
      · rw [bk503_32]
        simp (disch := first | omega | exact Nat.le_of_ble_eq_true rfl) only [bk503_0, bk503_17, bk503_27, bk503_55, bk503_77, bk503_78, bk503_79, bk503_90, bk503_96, Int.reduceToNat, vA_ap, Nat.reduceEqDiff, if_true, if_false, bx_nil, isL_I, isL_R, isL_U, if_ff, bind_some, tl_some, tl_none, bx_iconst, bx_istore_1, bx_iload_1, bx_bipush, bx_ic_gt, bx_aload_0, cl504 hG, bx_if_ne, bx_zret, gf35_10 hG, bx_if_eq, bx_goto, gf35_8 hG, bx_istore_2, bx_iload_2, bx_if_le, cl508 hG, cl513 hG, bx_iinc2, gf35_7 hG, gf35_1 hG, bx_ic_lt, bx_iinc1, if_neg (show ¬ ((k + 1 : Nat) : Int) ≤ 0 by omega), htk]
      · rw [bk1134_52]
        simp (disch := first | omega | exact Nat.le_of_ble_eq_true rfl) only [bx_aload_0, cl1136 hG, hsg, bind_some, tl_some, bx_bipush, bx_ic_ne, if_neg q, Int.reduceToNat]
/-- both sides read all statements alike -/
theorem stmts {v : XV} (hG : Good n L G) : ∀ (f : Nat) (A B : Nat → Int → Int) (rd : Int) (u u1 u2 : XV), pvR n A B → (A 35 1 - A 35 7).toNat ≤ f → 0 ≤ rd ∧ rd ≤ A 35 7 → ∃ b A' B', run (d + 6) 503 2 [xR 35, xI rd, u] [] (A, G) = some (some (xI b), (A', G)) ∧ (run (e + 2) 1135 0 [xR 376, u1, u2] [] (B, G)).bind (kkM e v) = some (some (xI b), (B', G)) ∧ (b = 0 ∨ b = 1) ∧ frRx A A' ∧ frRm B B' ∧ pvR n A' B' := by
  intro f
  induction f with
  | zero =>
    intro A B rd u u1 u2 h hf hr
    obtain ⟨⟨i1, i2, i3, i4, i5⟩, h2, h3, h4, h5⟩ := id h
    obtain ⟨A', b, r1, r2, r3⟩ := unt (d := d) (e := e) (u1 := u1) (u2 := u2) hG h
    rcases r3 with ⟨rfl, B', s1, s2, s3⟩ | ⟨rfl, y1, y2, B', s1, s2, s3⟩ | ⟨rfl, y1, y2, B', v1, v2, s1, s2, s3⟩
    · refine ⟨0, A', B', ?_, ?_, Or.inl rfl, r2, s2, s3⟩
      · rw [bk503_2]
        simp (disch := first | omega | exact Nat.le_of_ble_eq_true rfl) only [bk503_0, bk503_17, bk503_27, bk503_55, bk503_77, bk503_78, bk503_79, bk503_90, bk503_96, Int.reduceToNat, vA_ap, Nat.reduceEqDiff, if_true, if_false, bx_nil, isL_I, isL_R, isL_U, if_ff, bind_some, tl_some, tl_none, bx_iconst, bx_istore_1, bx_iload_1, bx_bipush, bx_ic_gt, bx_aload_0, cl504 hG, bx_if_ne, bx_zret, gf35_10 hG, bx_if_eq, bx_goto, gf35_8 hG, bx_istore_2, bx_iload_2, bx_if_le, cl508 hG, cl513 hG, bx_iinc2, gf35_7 hG, gf35_1 hG, bx_ic_lt, bx_iinc1, if_neg (show ¬ 100 < rd by omega), r1, bx_zret (Or.inl rfl : (0 : Int) = 0 ∨ (0 : Int) = 1)]
      · rw [s1]
        exact kk_0
    · have := s3.1.2.2.1.2.2
      rw [r2.2.2] at this
      omega
    · have := s3.1.2.2.1.2.2
      rw [r2.2.2] at this
      omega
  | succ f ih =>
    intro A B rd u u1 u2 h hf hr
    obtain ⟨⟨i1, i2, i3, i4, i5⟩, h2, h3, h4, h5⟩ := id h
    obtain ⟨A', b, r1, r2, r3⟩ := unt (d := d) (e := e) (u1 := u1) (u2 := u2) hG h
    rcases r3 with ⟨rfl, B', s1, s2, s3⟩ | ⟨rfl, y1, y2, B', s1, s2, s3⟩ | ⟨rfl, y1, y2, B', v1, v2, s1, s2, s3⟩
    · refine ⟨0, A', B', ?_, ?_, Or.inl rfl, r2, s2, s3⟩
      · rw [bk503_2]
        simp (disch := first | omega | exact Nat.le_of_ble_eq_true rfl) only [bk503_0, bk503_17, bk503_27, bk503_55, bk503_77, bk503_78, bk503_79, bk503_90, bk503_96, Int.reduceToNat, vA_ap, Nat.reduceEqDiff, if_true, if_false, bx_nil, isL_I, isL_R, isL_U, if_ff, bind_some, tl_some, tl_none, bx_iconst, bx_istore_1, bx_iload_1, bx_bipush, bx_ic_gt, bx_aload_0, cl504 hG, bx_if_ne, bx_zret, gf35_10 hG, bx_if_eq, bx_goto, gf35_8 hG, bx_istore_2, bx_iload_2, bx_if_le, cl508 hG, cl513 hG, bx_iinc2, gf35_7 hG, gf35_1 hG, bx_ic_lt, bx_iinc1, if_neg (show ¬ 100 < rd by omega), r1, bx_zret (Or.inl rfl : (0 : Int) = 0 ∨ (0 : Int) = 1)]
      · rw [s1]
        exact kk_0
    · -- a statement is done
      have hpl := s3.1.2.2.1.2.2
      rw [r2.2.2] at hpl
      obtain ⟨D, hD⟩ : ∃ D : Nat, A' 35 8 = D := ⟨(A' 35 8).toNat, by have := s3.1.2.2.2.1; omega⟩
      obtain ⟨A2, B2, op, o1, o2, o3, o4, o5, o6⟩ := closers (d := d) (e := e) (rd := rd) (v := v) hG D A' B' s3 hD
      have hx : run (d + 6) 503 2 [xR 35, xI rd, u] [] (A, G) = run (d + 6) 503 55 [xR 35, xI rd, xI op] [] (A2, G) := by
        rw [← o1, bk503_2]
        simp (disch := first | omega | exact Nat.le_of_ble_eq_true rfl) only [bk503_0, bk503_17, bk503_27, bk503_55, bk503_77, bk503_78, bk503_79, bk503_90, bk503_96, Int.reduceToNat, vA_ap, Nat.reduceEqDiff, if_true, if_false, bx_nil, isL_I, isL_R, isL_U, if_ff, bind_some, tl_some, tl_none, bx_iconst, bx_istore_1, bx_iload_1, bx_bipush, bx_ic_gt, bx_aload_0, cl504 hG, bx_if_ne, bx_zret, gf35_10 hG, bx_if_eq, bx_goto, gf35_8 hG, bx_istore_2, bx_iload_2, bx_if_le, cl508 hG, cl513 hG, bx_iinc2, gf35_7 hG, gf35_1 hG, bx_ic_lt, bx_iinc1, if_neg (show ¬ 100 < rd by omega), r1, one_ne, y1, hD]
      have hm : (run (e + 2) 1135 0 [xR 376, u1, u2] [] (B, G)).bind (kkM e v) = run (e + 3) 1134 85 [xR 376, v] [] (B2, G) := by
        rw [s1]
        exact kk_1.trans o2
      obtain ⟨⟨j1, j2, j3, j4, j5⟩, g2, g3, g4, g5⟩ := id o3
      have f1 := frRx_tr r2 o4
      have f2 := frRm_tr s2 o5
      have hsg := m_sign (d := e + 2) (V := B2) hG j3.1 j2.1 j3.2.1 j2.2.2
      rw [pv_pk o3 _ j3.2.1] at hsg
      rw [hx, hm]
      have hsz : A2 35 1 = A 35 1 := f1.2.2
      by_cases q : A2 35 7 < A2 35 1
      · have hpb : 0 ≤ pkF (A2 36) (A2 35 1) (A2 35 7) := by
          unfold pkF
          rw [if_pos q]
          exact (g2 _ j3.2.1 q).2.1
        have htk := x_takes (d := d + 4) (b := 59) (V := A2) hG (by omega) j2.2.2
        by_cases q2 : pkF (A2 36) (A2 35 1) (A2 35 7) = 59
        · rw [if_pos q2, b1_t q2] at htk
          have hmv : pvR n (plX A2 (A2 35 7 + 1)) (vA B2 376 (vU (B2 376) 31 (A2 35 7 + 1))) := pv_mv o3 (fun b hb => vA_ne hb) (fun j k1 _ => by unfold plX; rw [vA_same, vU_ne k1]) (fun b hb => vA_ne hb) (fun j k1 _ => by rw [vA_same, vU_ne k1]) (by rw [vA_same, vU_at]; rfl) (by show A2 35 7 ≤ A2 35 7 + 1 ∧ A2 35 7 + 1 ≤ A2 35 1; omega)
          obtain ⟨b, A3, B3, t1, t2, t3, t4, t5, t6⟩ := ih (plX A2 (A2 35 7 + 1)) (vA B2 376 (vU (B2 376) 31 (A2 35 7 + 1))) (rd + 1) (xI op) xU xU hmv (by show (A2 35 1 - (A2 35 7 + 1)).toNat ≤ f; omega) (by show 0 ≤ rd + 1 ∧ rd + 1 ≤ A2 35 7 + 1; omega)
          refine ⟨b, A3, B3, ?_, ?_, t3, frRx_tr f1 (frRx_tr ⟨fun b hb => vA_ne (by omega), rfl, rfl⟩ t4), frRm_tr f2 (frRm_tr ⟨fun b b1 _ => vA_ne b1, fun k hk => by rw [vA_same, vU_ne (by omega)]⟩ t5), t6⟩
          · rw [← t1]
            simp (disch := first | omega | exact Nat.le_of_ble_eq_true rfl) only [bk503_0, bk503_17, bk503_27, bk503_55, bk503_77, bk503_78, bk503_79, bk503_90, bk503_96, Int.reduceToNat, vA_ap, Nat.reduceEqDiff, if_true, if_false, bx_nil, isL_I, isL_R, isL_U, if_ff, bind_some, tl_some, tl_none, bx_iconst, bx_istore_1, bx_iload_1, bx_bipush, bx_ic_gt, bx_aload_0, cl504 hG, bx_if_ne, bx_zret, gf35_10 hG, bx_if_eq, bx_goto, gf35_8 hG, bx_istore_2, bx_iload_2, bx_if_le, cl508 hG, cl513 hG, bx_iinc2, gf35_7 hG, gf35_1 hG, bx_ic_lt, bx_iinc1, if_pos q, htk, one_ne]
          · rw [← t2, ← kk_43 hG]
            simp (disch := first | omega | exact Nat.le_of_ble_eq_true rfl) only [bk1134_0, bk1134_85, bk1134_102, bk1134_113, Int.reduceToNat, vA_ap, Nat.reduceEqDiff, if_true, if_false, bx_nil, isL_I, isL_R, isL_U, if_ff, bind_some, tl_some, tl_none, bx_aload_0, bx_iconst, pf376_31 hG, pf376_32 hG, gf376_25 hG, ia396 hG, is396 hG, pf376_33 hG, bx_istore_1, bx_iload_1, bx_bipush, bx_ic_ge, gf376_29 hG, ia400 hG, is400 hG, bx_iinc1, bx_goto, cl1135 hG, bx_if_ne, bx_zret, cl1136 hG, bx_ic_ne, gf376_32 hG, bx_if_le, bx_dupI, bx_dupR, gf376_31 hG, bx_iadd, cl1143 hG, bx_ic_eq, hsg, if_neg (show ¬ pkF (A2 36) (A2 35 1) (A2 35 7) = -1 by omega), if_pos q2, j3.1]
        · rw [if_neg q2, b1_f q2] at htk
          refine ⟨0, A2, B2, ?_, ?_, Or.inl rfl, f1, f2, o3⟩
          · simp (disch := first | omega | exact Nat.le_of_ble_eq_true rfl) only [bk503_0, bk503_17, bk503_27, bk503_55, bk503_77, bk503_78, bk503_79, bk503_90, bk503_96, Int.reduceToNat, vA_ap, Nat.reduceEqDiff, if_true, if_false, bx_nil, isL_I, isL_R, isL_U, if_ff, bind_some, tl_some, tl_none, bx_iconst, bx_istore_1, bx_iload_1, bx_bipush, bx_ic_gt, bx_aload_0, cl504 hG, bx_if_ne, bx_zret, gf35_10 hG, bx_if_eq, bx_goto, gf35_8 hG, bx_istore_2, bx_iload_2, bx_if_le, cl508 hG, cl513 hG, bx_iinc2, gf35_7 hG, gf35_1 hG, bx_ic_lt, bx_iinc1, if_pos q, htk, bx_zret (Or.inl rfl : (0 : Int) = 0 ∨ (0 : Int) = 1)]
          · simp (disch := first | omega | exact Nat.le_of_ble_eq_true rfl) only [bk1134_0, bk1134_85, bk1134_102, bk1134_113, Int.reduceToNat, vA_ap, Nat.reduceEqDiff, if_true, if_false, bx_nil, isL_I, isL_R, isL_U, if_ff, bind_some, tl_some, tl_none, bx_aload_0, bx_iconst, pf376_31 hG, pf376_32 hG, gf376_25 hG, ia396 hG, is396 hG, pf376_33 hG, bx_istore_1, bx_iload_1, bx_bipush, bx_ic_ge, gf376_29 hG, ia400 hG, is400 hG, bx_iinc1, bx_goto, cl1135 hG, bx_if_ne, bx_zret, cl1136 hG, bx_ic_ne, gf376_32 hG, bx_if_le, bx_dupI, bx_dupR, gf376_31 hG, bx_iadd, cl1143 hG, bx_ic_eq, hsg, if_neg (show ¬ pkF (A2 36) (A2 35 1) (A2 35 7) = -1 by omega), if_neg q2, bx_zret (Or.inl rfl : (0 : Int) = 0 ∨ (0 : Int) = 1)]
      · have hpk : pkF (A2 36) (A2 35 1) (A2 35 7) = -1 := by
          unfold pkF
          rw [if_neg q]
        rw [hpk] at hsg
        by_cases q2 : A2 35 8 = 0
        · refine ⟨1, A2, B2, ?_, ?_, Or.inr rfl, f1, f2, o3⟩
          · simp (disch := first | omega | exact Nat.le_of_ble_eq_true rfl) only [bk503_0, bk503_17, bk503_27, bk503_55, bk503_77, bk503_78, bk503_79, bk503_90, bk503_96, Int.reduceToNat, vA_ap, Nat.reduceEqDiff, if_true, if_false, bx_nil, isL_I, isL_R, isL_U, if_ff, bind_some, tl_some, tl_none, bx_iconst, bx_istore_1, bx_iload_1, bx_bipush, bx_ic_gt, bx_aload_0, cl504 hG, bx_if_ne, bx_zret, gf35_10 hG, bx_if_eq, bx_goto, gf35_8 hG, bx_istore_2, bx_iload_2, bx_if_le, cl508 hG, cl513 hG, bx_iinc2, gf35_7 hG, gf35_1 hG, bx_ic_lt, bx_iinc1, if_neg q, if_pos q2, bx_zret (Or.inr rfl : (1 : Int) = 0 ∨ (1 : Int) = 1)]
          · simp (disch := first | omega | exact Nat.le_of_ble_eq_true rfl) only [bk1134_0, bk1134_85, bk1134_102, bk1134_113, Int.reduceToNat, vA_ap, Nat.reduceEqDiff, if_true, if_false, bx_nil, isL_I, isL_R, isL_U, if_ff, bind_some, tl_some, tl_none, bx_aload_0, bx_iconst, pf376_31 hG, pf376_32 hG, gf376_25 hG, ia396 hG, is396 hG, pf376_33 hG, bx_istore_1, bx_iload_1, bx_bipush, bx_ic_ge, gf376_29 hG, ia400 hG, is400 hG, bx_iinc1, bx_goto, cl1135 hG, bx_if_ne, bx_zret, cl1136 hG, bx_ic_ne, gf376_32 hG, bx_if_le, bx_dupI, bx_dupR, gf376_31 hG, bx_iadd, cl1143 hG, bx_ic_eq, hsg, if_pos (show (-1 : Int) = -1 from rfl), j4.1, if_pos q2, bx_zret (Or.inr rfl : (1 : Int) = 0 ∨ (1 : Int) = 1)]
        · refine ⟨0, A2, B2, ?_, ?_, Or.inl rfl, f1, f2, o3⟩
          · simp (disch := first | omega | exact Nat.le_of_ble_eq_true rfl) only [bk503_0, bk503_17, bk503_27, bk503_55, bk503_77, bk503_78, bk503_79, bk503_90, bk503_96, Int.reduceToNat, vA_ap, Nat.reduceEqDiff, if_true, if_false, bx_nil, isL_I, isL_R, isL_U, if_ff, bind_some, tl_some, tl_none, bx_iconst, bx_istore_1, bx_iload_1, bx_bipush, bx_ic_gt, bx_aload_0, cl504 hG, bx_if_ne, bx_zret, gf35_10 hG, bx_if_eq, bx_goto, gf35_8 hG, bx_istore_2, bx_iload_2, bx_if_le, cl508 hG, cl513 hG, bx_iinc2, gf35_7 hG, gf35_1 hG, bx_ic_lt, bx_iinc1, if_neg q, if_neg q2, bx_zret (Or.inl rfl : (0 : Int) = 0 ∨ (0 : Int) = 1)]
          · simp (disch := first | omega | exact Nat.le_of_ble_eq_true rfl) only [bk1134_0, bk1134_85, bk1134_102, bk1134_113, Int.reduceToNat, vA_ap, Nat.reduceEqDiff, if_true, if_false, bx_nil, isL_I, isL_R, isL_U, if_ff, bind_some, tl_some, tl_none, bx_aload_0, bx_iconst, pf376_31 hG, pf376_32 hG, gf376_25 hG, ia396 hG, is396 hG, pf376_33 hG, bx_istore_1, bx_iload_1, bx_bipush, bx_ic_ge, gf376_29 hG, ia400 hG, is400 hG, bx_iinc1, bx_goto, cl1135 hG, bx_if_ne, bx_zret, cl1136 hG, bx_ic_ne, gf376_32 hG, bx_if_le, bx_dupI, bx_dupR, gf376_31 hG, bx_iadd, cl1143 hG, bx_ic_eq, hsg, if_pos (show (-1 : Int) = -1 from rfl), j4.1, if_neg q2, if_neg (show ¬ (-1 : Int) = 59 by omega), bx_zret (Or.inl rfl : (0 : Int) = 0 ∨ (0 : Int) = 1)]
    · -- a bracket opened
      have hpl := s3.1.2.2.1.2.2
      rw [r2.2.2] at hpl
      have hsz : A' 35 1 = A 35 1 := r2.2.2
      obtain ⟨b, A3, B3, t1, t2, t3, t4, t5, t6⟩ := ih A' B' (rd + 1) u v1 v2 s3 (by omega) (by omega)
      refine ⟨b, A3, B3, ?_, ?_, t3, frRx_tr r2 t4, frRm_tr s2 t5, t6⟩
      · rw [← t1, bk503_2]
        simp (disch := first | omega | exact Nat.le_of_ble_eq_true rfl) only [bk503_0, bk503_17, bk503_27, bk503_55, bk503_77, bk503_78, bk503_79, bk503_90, bk503_96, Int.reduceToNat, vA_ap, Nat.reduceEqDiff, if_true, if_false, bx_nil, isL_I, isL_R, isL_U, if_ff, bind_some, tl_some, tl_none, bx_iconst, bx_istore_1, bx_iload_1, bx_bipush, bx_ic_gt, bx_aload_0, cl504 hG, bx_if_ne, bx_zret, gf35_10 hG, bx_if_eq, bx_goto, gf35_8 hG, bx_istore_2, bx_iload_2, bx_if_le, cl508 hG, cl513 hG, bx_iinc2, gf35_7 hG, gf35_1 hG, bx_ic_lt, bx_iinc1, if_neg (show ¬ 100 < rd by omega), r1, one_ne, y1]
      · rw [s1]; exact t2
end PG
