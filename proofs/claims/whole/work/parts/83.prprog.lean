/-! PROGRAM: the pair -/
section PP
variable {n L d e : Nat} {G : XG} {V : Nat → Int → Int}
/-- memory as the class begins to read -/
def stX (V : Nat → Int → Int) : Nat → Int → Int := vA (setRow (vA V 35 (vU (vU (vU (V 35) 7 0) 8 0) 9 (-1))) (41 + 3 * 0) (0, V (41 + 3 * 0 + 1), V (41 + 3 * 0 + 2))) 40 (fl (V 40) (fun _ => 0) 0 6)
def stM (W : Nat → Int → Int) : Nat → Int → Int := vA (vA (vA W 376 (vU (vU (vU (W 376) 31 0) 32 0) 33 (-1))) 396 (vU (W 396) 0 0)) 400 (fl (W 400) (fun _ => 0) 0 6)
theorem x_tape0 (hG : Good n L G) : run (d + 1) 502 0 [xR 35, xU] [] (V, G) = run (d + 1) 502 45 [xR 35, xI 6] [] (stX V, G) := by
  have hrw := row41 (show 0 < 51 by omega)
  obtain ⟨A, hA⟩ : ∃ A, A = setRow (vA V 35 (vU (vU (vU (V 35) 7 0) 8 0) 9 (-1))) (41 + 3 * 0) (0, V (41 + 3 * 0 + 1), V (41 + 3 * 0 + 2)) := ⟨_, rfl⟩
  have A40 : A 40 = V 40 := by rw [hA]; rfl
  have l1 := it_up (D := d + 1) (q := 502) (pc := 26) (loc := fun k => [xR 35, xI k]) (F := fun k => (vA A 40 (fl (A 40) (fun _ => 0) 0 k), G)) (hi := 6) 6 0 (by omega) (fun k k0 k1 => by
    rw [bk502_26, ← fl_up k0]
    simp (disch := first | omega | exact Nat.le_of_ble_eq_true rfl) only [bk502_0, bk502_45, bk502_68, bk502_85, bk502_103, bk502_104, Int.reduceToNat, vA_ap, Nat.reduceEqDiff, if_true, if_false, bx_nil, isL_I, isL_R, isL_U, if_ff, bind_some, tl_some, tl_none, bx_aload_0, bx_iconst, pf35_7 hG, pf35_8 hG, pf35_9 hG, gf35_3 hG, aa37 hG, bx_istore_1, bx_iload_1, bx_bipush, bx_ic_ge, gf35_6 hG, ia40 hG, is40 hG, bx_iinc1, bx_goto, cl503 hG, pf35_1 hG, bx_if_ne, bx_sipush, gf35_7 hG, bx_isub, bx_iret, gf35_9 hG, bx_ic_eq, bx_if_eq, if_neg (show ¬ 6 ≤ k by omega), is40 hG (Or.inl rfl : (0 : Int) = 0 ∨ (0 : Int) = 1), vA_vA])
  rw [fl_nil, vA_self] at l1
  have hcl := w_clear (d := d) (V := vA V 35 (vU (vU (vU (V 35) 7 0) 8 0) 9 (-1))) hG hrw
  have e1 : vA V 35 (vU (vU (vU (V 35) 7 0) 8 0) 9 (-1)) (41 + 3 * 0 + 1) = V (41 + 3 * 0 + 1) := rfl
  have e2 : vA V 35 (vU (vU (vU (V 35) 7 0) 8 0) 9 (-1)) (41 + 3 * 0 + 2) = V (41 + 3 * 0 + 2) := rfl
  rw [e1, e2, ← hA] at hcl
  have hst : run (d + 1) 502 0 [xR 35, xU] [] (V, G) = run (d + 1) 502 26 [xR 35, xI 0] [] (A, G) := by
    simp (disch := first | omega | exact Nat.le_of_ble_eq_true rfl) only [bk502_0, bk502_45, bk502_68, bk502_85, bk502_103, bk502_104, Int.reduceToNat, vA_ap, Nat.reduceEqDiff, if_true, if_false, bx_nil, isL_I, isL_R, isL_U, if_ff, bind_some, tl_some, tl_none, bx_aload_0, bx_iconst, pf35_7 hG, pf35_8 hG, pf35_9 hG, gf35_3 hG, aa37 hG, bx_istore_1, bx_iload_1, bx_bipush, bx_ic_ge, gf35_6 hG, ia40 hG, is40 hG, bx_iinc1, bx_goto, cl503 hG, pf35_1 hG, bx_if_ne, bx_sipush, gf35_7 hG, bx_isub, bx_iret, gf35_9 hG, bx_ic_eq, bx_if_eq, vA_vA, cl601 hG hrw, hcl]
  rw [hst, l1, bk502_26]
  simp (disch := first | omega | exact Nat.le_of_ble_eq_true rfl) only [bx_iload_1, bx_bipush, bx_ic_ge, if_pos (show (6 : Int) ≤ 6 by omega), Int.reduceToNat]
  unfold stX
  rw [← hA, A40]
theorem m_parses0 {W : Nat → Int → Int} (hG : Good n L G) : run e 1134 0 [xR 376, xU] [] (W, G) = run e 1134 43 [xR 376, xI 6] [] (stM W, G) := by
  obtain ⟨A, hA⟩ : ∃ A, A = vA (vA W 376 (vU (vU (vU (W 376) 31 0) 32 0) 33 (-1))) 396 (vU (W 396) 0 0) := ⟨_, rfl⟩
  have A40 : A 400 = W 400 := by rw [hA]; rfl
  have l1 := it_up (D := e) (q := 1134) (pc := 24) (loc := fun k => [xR 376, xI k]) (F := fun k => (vA A 400 (fl (A 400) (fun _ => 0) 0 k), G)) (hi := 6) 6 0 (by omega) (fun k k0 k1 => by
    rw [bk1134_24, ← fl_up k0]
    simp (disch := first | omega | exact Nat.le_of_ble_eq_true rfl) only [bk1134_0, bk1134_85, bk1134_102, bk1134_113, Int.reduceToNat, vA_ap, Nat.reduceEqDiff, if_true, if_false, bx_nil, isL_I, isL_R, isL_U, if_ff, bind_some, tl_some, tl_none, bx_aload_0, bx_iconst, pf376_31 hG, pf376_32 hG, gf376_25 hG, ia396 hG, is396 hG, pf376_33 hG, bx_istore_1, bx_iload_1, bx_bipush, bx_ic_ge, gf376_29 hG, ia400 hG, is400 hG, bx_iinc1, bx_goto, cl1135 hG, bx_if_ne, bx_zret, cl1136 hG, bx_ic_ne, gf376_32 hG, bx_if_le, bx_dupI, bx_dupR, gf376_31 hG, bx_iadd, cl1143 hG, bx_ic_eq, if_neg (show ¬ 6 ≤ k by omega), is400 hG (Or.inl rfl : (0 : Int) = 0 ∨ (0 : Int) = 1), vA_vA])
  rw [fl_nil, vA_self] at l1
  have hst : run e 1134 0 [xR 376, xU] [] (W, G) = run e 1134 24 [xR 376, xI 0] [] (A, G) := by
    simp (disch := first | omega | exact Nat.le_of_ble_eq_true rfl) only [bk1134_0, bk1134_85, bk1134_102, bk1134_113, Int.reduceToNat, vA_ap, Nat.reduceEqDiff, if_true, if_false, bx_nil, isL_I, isL_R, isL_U, if_ff, bind_some, tl_some, tl_none, bx_aload_0, bx_iconst, pf376_31 hG, pf376_32 hG, gf376_25 hG, ia396 hG, is396 hG, pf376_33 hG, bx_istore_1, bx_iload_1, bx_bipush, bx_ic_ge, gf376_29 hG, ia400 hG, is400 hG, bx_iinc1, bx_goto, cl1135 hG, bx_if_ne, bx_zret, cl1136 hG, bx_ic_ne, gf376_32 hG, bx_if_le, bx_dupI, bx_dupR, gf376_31 hG, bx_iadd, cl1143 hG, bx_ic_eq, vA_vA]
    rw [vA_cm (by decide), vA_vA, ← hA]
  rw [hst, l1, bk1134_24]
  simp (disch := first | omega | exact Nat.le_of_ble_eq_true rfl) only [bx_iload_1, bx_bipush, bx_ic_ge, if_pos (show (6 : Int) ≤ 6 by omega), Int.reduceToNat]
  unfold stM
  rw [← hA, A40]
theorem pv_ini {W : Nat → Int → Int} (h : Inv n V) (fm : ∀ b, 376 ≤ b → W b = V b) : pvR n (stX V) (stM W) := by
  have hn := h.nn
  obtain ⟨t1, t2, t3⟩ := h.tap
  have e376 := fm 376 (by decide)
  have x35 : stX V 35 = vU (vU (vU (V 35) 7 0) 8 0) 9 (-1) := rfl
  have m376 : stM W 376 = vU (vU (vU (V 376) 31 0) 32 0) 33 (-1) := by rw [← e376]; rfl
  have k1 : stX V 35 1 = V 35 1 := rfl
  have k8 : stX V 35 8 = 0 := rfl
  refine ⟨⟨⟨?_, ?_, hn⟩, ⟨?_, t2⟩, ⟨?_, ?_, ?_⟩, ⟨?_, ?_, ?_⟩, ⟨?_, ?_, ?_⟩⟩, fun i i0 i1 => ?_, fun k hk => ?_, fun k hk hk2 => ?_, fun m hm => ?_⟩
  · exact h.l35
  · rw [m376]; exact h.lm
  · rw [m376]; exact t1
  · rw [m376]; rfl
  · show (0 : Int) ≤ 0; omega
  · exact t2.1
  · rw [m376]; rfl
  · show (0 : Int) ≤ 0; omega
  · show 2 * (0 : Int) ≤ 0; omega
  · rw [m376]; rfl
  · show (-1 : Int) ≤ -1; omega
  · show (-1 : Int) ≤ 100; omega
  · obtain ⟨y1, y2⟩ := t3 i i0 i1
    have z1 : stM W 394 = V 394 := fm _ (by decide)
    have z2 : stX V 36 = V 36 := rfl
    rw [z1, z2]
    exact ⟨y1, y2⟩
  · have hk' : (k : Int) ≤ 0 := hk
    have e : k = 0 := by omega
    subst e
    have z1 : stM W 396 ((0 : Nat) : Int) = 0 := rfl
    rw [z1]
    exact ⟨rfl, by omega, fun _ w w0 w1 => by omega⟩
  · rw [k8] at hk2; omega
  · have z1 : stX V 40 (m : Int) = 0 := by
      show fl (V 40) (fun _ => 0) 0 6 (m : Int) = 0
      rw [fl_in (by omega) (by omega)]
    have z2 : stM W 400 (m : Int) = 0 := by
      show fl (W 400) (fun _ => 0) 0 6 (m : Int) = 0
      rw [fl_in (by omega) (by omega)]
    rw [z1, z2]
    exact ⟨rfl, Or.inl rfl, fun y => by omega⟩
/-- what a reading comes to -/
def prgA (b : Int) (A : Nat → Int → Int) : Int := if b = 0 then -1000 - A 35 7 else if ¬ A 35 9 = -1 then -2000 - A 35 9 else if 11 ≤ A (41 + 3 * 0) 2 then -3000 else 0
theorem x_tape {A' : Nat → Int → Int} {b : Int} (hG : Good n L G) (hb : b = 0 ∨ b = 1) (hr : run (d + 6) 503 2 [xR 35, xI 0, xU] [] (stX V, G) = some (some (xI b), (A', G))) (h7 : 0 ≤ A' 35 7 ∧ A' 35 7 ≤ 100) (h9 : -1 ≤ A' 35 9 ∧ A' 35 9 ≤ 100) : run (d + 7) 502 0 [xR 35, xU] [] (V, G) = some (some (xI (prgA b A')), (vA A' 35 (vU (A' 35) 1 0), G)) := by
  have hrw := row41 (show 0 < 51 by omega)
  have hr' : run (d + 6) 503 0 [xR 35, xU, xU] [] (stX V, G) = some (some (xI b), (A', G)) := by
    rw [← hr]
    simp (disch := first | omega | exact Nat.le_of_ble_eq_true rfl) only [bk503_0, bk503_17, bk503_27, bk503_55, bk503_77, bk503_78, bk503_79, bk503_90, bk503_96, Int.reduceToNat, vA_ap, Nat.reduceEqDiff, if_true, if_false, bx_nil, isL_I, isL_R, isL_U, if_ff, bind_some, tl_some, tl_none, bx_iconst, bx_istore_1, bx_iload_1, bx_bipush, bx_ic_gt, bx_aload_0, cl504 hG, bx_if_ne, bx_zret, gf35_10 hG, bx_if_eq, bx_goto, gf35_8 hG, bx_istore_2, bx_iload_2, bx_if_le, cl508 hG, cl513 hG, bx_iinc2, gf35_7 hG, gf35_1 hG, bx_ic_lt, bx_iinc1]
  have k7 : vU (A' 35) 1 0 7 = A' 35 7 := rfl
  have k9 : vU (A' 35) 1 0 9 = A' 35 9 := rfl
  rw [x_tape0 hG]
  unfold prgA
  rcases hb with rfl | rfl
  · simp (disch := first | omega | exact Nat.le_of_ble_eq_true rfl) only [bk502_0, bk502_45, bk502_68, bk502_85, bk502_103, bk502_104, Int.reduceToNat, vA_ap, Nat.reduceEqDiff, if_true, if_false, bx_nil, isL_I, isL_R, isL_U, if_ff, bind_some, tl_some, tl_none, bx_aload_0, bx_iconst, pf35_7 hG, pf35_8 hG, pf35_9 hG, gf35_3 hG, aa37 hG, bx_istore_1, bx_iload_1, bx_bipush, bx_ic_ge, gf35_6 hG, ia40 hG, is40 hG, bx_iinc1, bx_goto, cl503 hG, pf35_1 hG, bx_if_ne, bx_sipush, gf35_7 hG, bx_isub, bx_iret, gf35_9 hG, bx_ic_eq, bx_if_eq, hr', k7]
  · rw [if_neg one_ne]
    by_cases q : A' 35 9 = -1
    · rw [if_neg (not_not_intro q)]
      have ht := w_tooLong (d := d + 6) (V := vA A' 35 (vU (A' 35) 1 0)) hG hrw
      have e41 : vA A' 35 (vU (A' 35) 1 0) (41 + 3 * 0) 2 = A' (41 + 3 * 0) 2 := rfl
      rw [e41] at ht
      by_cases q2 : 11 ≤ A' (41 + 3 * 0) 2
      · rw [if_pos q2]
        rw [b1_t q2] at ht
        simp (disch := first | omega | exact Nat.le_of_ble_eq_true rfl) only [bk502_0, bk502_45, bk502_68, bk502_85, bk502_103, bk502_104, Int.reduceToNat, vA_ap, Nat.reduceEqDiff, if_true, if_false, bx_nil, isL_I, isL_R, isL_U, if_ff, bind_some, tl_some, tl_none, bx_aload_0, bx_iconst, pf35_7 hG, pf35_8 hG, pf35_9 hG, gf35_3 hG, aa37 hG, bx_istore_1, bx_iload_1, bx_bipush, bx_ic_ge, gf35_6 hG, ia40 hG, is40 hG, bx_iinc1, bx_goto, cl503 hG, pf35_1 hG, bx_if_ne, bx_sipush, gf35_7 hG, bx_isub, bx_iret, gf35_9 hG, bx_ic_eq, bx_if_eq, hr', one_ne, k9, if_pos q, cl604 hG hrw, ht]
      · rw [if_neg q2]
        rw [b1_f q2] at ht
        simp (disch := first | omega | exact Nat.le_of_ble_eq_true rfl) only [bk502_0, bk502_45, bk502_68, bk502_85, bk502_103, bk502_104, Int.reduceToNat, vA_ap, Nat.reduceEqDiff, if_true, if_false, bx_nil, isL_I, isL_R, isL_U, if_ff, bind_some, tl_some, tl_none, bx_aload_0, bx_iconst, pf35_7 hG, pf35_8 hG, pf35_9 hG, gf35_3 hG, aa37 hG, bx_istore_1, bx_iload_1, bx_bipush, bx_ic_ge, gf35_6 hG, ia40 hG, is40 hG, bx_iinc1, bx_goto, cl503 hG, pf35_1 hG, bx_if_ne, bx_sipush, gf35_7 hG, bx_isub, bx_iret, gf35_9 hG, bx_ic_eq, bx_if_eq, hr', one_ne, k9, if_pos q, cl604 hG hrw, ht]
    · rw [if_pos q]
      simp (disch := first | omega | exact Nat.le_of_ble_eq_true rfl) only [bk502_0, bk502_45, bk502_68, bk502_85, bk502_103, bk502_104, Int.reduceToNat, vA_ap, Nat.reduceEqDiff, if_true, if_false, bx_nil, isL_I, isL_R, isL_U, if_ff, bind_some, tl_some, tl_none, bx_aload_0, bx_iconst, pf35_7 hG, pf35_8 hG, pf35_9 hG, gf35_3 hG, aa37 hG, bx_istore_1, bx_iload_1, bx_bipush, bx_ic_ge, gf35_6 hG, ia40 hG, is40 hG, bx_iinc1, bx_goto, cl503 hG, pf35_1 hG, bx_if_ne, bx_sipush, gf35_7 hG, bx_isub, bx_iret, gf35_9 hG, bx_ic_eq, bx_if_eq, hr', one_ne, k9, if_neg q]
/-- cells that program changes -/
theorem Inv.prg {U : Nat → Int → Int} (h : Inv n V) (fr : ∀ b, ¬ (29 ≤ b ∧ b < 32) → ¬ (35 ≤ b ∧ b < 212) → b ≠ 376 → ¬ (391 ≤ b ∧ b < 393) → ¬ (395 ≤ b ∧ b < 401) → U b = V b) (u0 : U 35 0 = n) (u1 : U 35 1 = 0) (u2 : ∀ k, k ≠ 21 → ¬ (30 ≤ k ∧ k < 35) → U 376 k = V 376 k) (u3 : U 376 30 = 0) (hw : wrkP n U) : Inv n U := by
  have hn := h.nn
  obtain ⟨g, hV⟩ : ∃ g : Nat → Int → Int, U = fun b => if 29 ≤ b ∧ b < 32 then g b else if 35 ≤ b ∧ b < 212 then g b else if b = 376 then (fun k => if k = 21 then g 376 k else if 30 ≤ k ∧ k < 35 then g 376 k else V 376 k) else if 391 ≤ b ∧ b < 393 then g b else if 395 ≤ b ∧ b < 401 then g b else V b := by
    refine ⟨U, funext fun b => ?_⟩
    by_cases c1 : 29 ≤ b ∧ b < 32
    · rw [if_pos c1]
    rw [if_neg c1]
    by_cases c2 : 35 ≤ b ∧ b < 212
    · rw [if_pos c2]
    rw [if_neg c2]
    by_cases c3 : b = 376
    · rw [if_pos c3, c3]
      funext k
      by_cases d1 : k = 21
      · rw [if_pos d1]
      rw [if_neg d1]
      by_cases d2 : 30 ≤ k ∧ k < 35
      · rw [if_pos d2]
      rw [if_neg d2]
      exact u2 k d1 d2
    rw [if_neg c3]
    by_cases c4 : 391 ≤ b ∧ b < 393
    · rw [if_pos c4]
    rw [if_neg c4]
    by_cases c5 : 395 ≤ b ∧ b < 401
    · rw [if_pos c5]
    rw [if_neg c5]
    exact fr b c1 c2 c3 c4 c5
  have ftld : tldP n U := tldP_tr hn.2 h.tld (fun c hc => fr _ (by omega) (by omega) (by omega) (by omega) (by omega)) (fr _ (by decide) (by decide) (by decide) (by decide) (by decide))
  have fsgn : sgnP n U := sgnP_tr hn.2 h.sgn (fun c hc => fr _ (by omega) (by omega) (by omega) (by omega) (by omega)) (fr _ (by decide) (by decide) (by decide) (by decide) (by decide)) (fr _ (by decide) (by decide) (by decide) (by decide) (by decide))
  have frns : runP n U := runP_tr h.rns (fun c hc => ⟨fr _ (by omega) (by omega) (by omega) (by omega) (by omega), fr _ (by omega) (by omega) (by omega) (by omega) (by omega), fr _ (by omega) (by omega) (by omega) (by omega) (by omega)⟩) ⟨fr _ (by decide) (by decide) (by decide) (by decide) (by decide), fr _ (by decide) (by decide) (by decide) (by decide) (by decide), fr _ (by decide) (by decide) (by decide) (by decide) (by decide)⟩ (by rw [hV]; rfl)
  have ftap : tapP U := ⟨by rw [u3, u1], by rw [u1]; omega, fun i i0 i1 => by rw [u1] at i1; omega⟩
  subst hV
  exact ⟨h.nn, h.l5, h.l12, u0, h.lm, h.lim, h.cc, h.ss, h.rC, h.rS, h.lan, h.set, h.stk, h.off, h.own, h.cre, h.lig, ftld, h.stp, h.spl, fsgn, hw, ftap, h.ent, h.fnd, frns, h.prb⟩
theorem frRx_st : frRx V (stX V) := by
  refine ⟨fun b hb => ?_, rfl, rfl⟩
  unfold stX
  rw [vA_ne (by omega), setRow_ap (by omega) (by omega) (by omega), vA_ne (by omega)]
theorem frRm_st {W : Nat → Int → Int} : frRm W (stM W) := by
  refine ⟨fun b b1 b2 => ?_, fun k hk => ?_⟩
  · unfold stM
    rw [vA_ne (by omega), vA_ne (by omega), vA_ne b1]
  · unfold stM
    rw [vA_ne (by decide), vA_ne (by decide), vA_same, vU_ne (by omega), vU_ne (by omega), vU_ne (by omega)]
/-- the reference's last loop -/
theorem m_prog_lp {B : Nat → Int → Int} {z : Nat} {g : Int} (hG : Good n L G) (hz : B 376 21 = z) (hz2 : z ≤ 10) (hl : ∀ w, 0 ≤ w → w < (z : Int) → 0 ≤ B 395 w) : run e 1133 66 [xR 376, xI g, xI 0] [] (B, G) = some (some (xI z), (vA (vA B 391 (fl (B 391) (fun w => B 395 w / 100) 0 z)) 392 (fl (B 392) (fun w => B 395 w % 100) 0 z), G)) := by
  have h := it_up (D := e) (q := 1133) (pc := 66) (loc := fun k => [xR 376, xI g, xI k]) (F := fun k => (vA (vA B 391 (fl (B 391) (fun w => B 395 w / 100) 0 k)) 392 (fl (B 392) (fun w => B 395 w % 100) 0 k), G)) (hi := z) z 0 (by omega) (fun k k0 k1 => by
    have hlk := hl k k0 k1
    rw [bk1133_66, ← fl_up k0, ← fl_up k0]
    simp (disch := first | omega | exact Nat.le_of_ble_eq_true rfl) only [bk1133_0, bk1133_23, bk1133_39, bk1133_54, bk1133_110, Int.reduceToNat, vA_ap, Nat.reduceEqDiff, if_true, if_false, bx_nil, isL_I, isL_R, isL_U, if_ff, bind_some, tl_some, tl_none, bx_aload_0, cl1134 hG, bx_istore_1, bx_iconst, pf376_30 hG, bx_iload_1, bx_if_ne, bx_sipush, gf376_31 hG, bx_isub, bx_iret, gf376_33 hG, bx_if_lt, gf376_25 hG, ia396 hG, is396 hG, bx_bipush, bx_ic_le, pf376_21 hG, bx_istore_2, bx_iload_2, gf376_21 hG, bx_ic_ge, gf376_19 hG, ia391 hG, is391 hG, gf376_24 hG, ia395 hG, is395 hG, bx_idiv, gf376_20 hG, ia392 hG, is392 hG, bx_irem, bx_iinc2, bx_goto, hz, if_neg (show ¬ (z : Int) ≤ k by omega), td_pos hlk, tm_pos hlk (show (0 : Int) < 100 by omega)]
    refine congrArg (fun y => run e 1133 66 [xR 376, xI g, xI (k + 1)] [] (y, G)) ?_
    rw [vA_cm (show 392 ≠ 391 by decide), vA_vA, vA_vA])
  rw [fl_nil, fl_nil, vA_self, vA_self] at h
  rw [h, bk1133_66]
  simp (disch := first | omega | exact Nat.le_of_ble_eq_true rfl) only [bk1133_0, bk1133_23, bk1133_39, bk1133_54, bk1133_110, Int.reduceToNat, vA_ap, Nat.reduceEqDiff, if_true, if_false, bx_nil, isL_I, isL_R, isL_U, if_ff, bind_some, tl_some, tl_none, bx_aload_0, cl1134 hG, bx_istore_1, bx_iconst, pf376_30 hG, bx_iload_1, bx_if_ne, bx_sipush, gf376_31 hG, bx_isub, bx_iret, gf376_33 hG, bx_if_lt, gf376_25 hG, ia396 hG, is396 hG, bx_bipush, bx_ic_le, pf376_21 hG, bx_istore_2, bx_iload_2, gf376_21 hG, bx_ic_ge, gf376_19 hG, ia391 hG, is391 hG, gf376_24 hG, ia395 hG, is395 hG, bx_idiv, gf376_20 hG, ia392 hG, is392 hG, bx_irem, bx_iinc2, bx_goto, hz, if_pos (show (z : Int) ≤ z by omega)]
theorem pr_program (hG : Good n L G) (h : Inv n V) : pair n G V 1018 1133 [xR 1, xU] [xR 376, xU, xU] := by
  have hn := h.nn
  have hp0 := pv_ini (W := V) h (fun _ _ => rfl)
  obtain ⟨b, A', B0, r1, _, hb, f1, _, p1⟩ := stmts (d := 791) (e := 795) (v := xI 6) hG _ (stX V) (stM V) 0 xU xU xU hp0 (Nat.le_refl _) ⟨Int.le_refl 0, Int.le_refl 0⟩
  have hfx : frRx V A' := frRx_tr frRx_st f1
  have ht := x_tape (d := 791) hG hb r1 ⟨p1.1.2.2.1.2.1, by have := p1.1.2.2.1.2.2; have := p1.1.2.1.2.2; omega⟩ p1.1.2.2.2.2.2
  have ht' : run 798 502 0 [xR 35, xU] [] (V, G) = some (some (xI (prgA b A')), (vA A' 35 (vU (A' 35) 1 0), G)) := ht
  obtain ⟨X, hX⟩ : ∃ X, X = vA A' 35 (vU (A' 35) 1 0) := ⟨_, rfl⟩
  rw [← hX] at ht'
  have X1 : ∀ b, b ≠ 35 → X b = A' b := fun b hb => by rw [hX, vA_ne hb]
  have X35 : X 35 = vU (A' 35) 1 0 := by rw [hX, vA_same]
  have Xf : ∀ b, ¬ (35 ≤ b ∧ b < 212) → X b = V b := fun b hb => (X1 b (by omega)).trans (hfx.1 b hb)
  -- the reference, for any memory with the class's cells as they are then
  have key : ∀ W : Nat → Int → Int, (∀ b, 376 ≤ b → W b = V b) → ∃ B', run 798 1134 0 [xR 376, xU] [] (W, G) = some (some (xI b), (B', G)) ∧ frRm W B' ∧ pvR n A' B' := fun W fm => by
    have hpW := pv_ini (W := W) h fm
    obtain ⟨b', A2, B', s1, s2, _, _, s5, s6⟩ := stmts (d := 791) (e := 795) (v := xI 6) hG _ (stX V) (stM W) 0 xU xU xU hpW (Nat.le_refl _) ⟨Int.le_refl 0, Int.le_refl 0⟩
    have e1 : (some (some (xI b), (A', G)) : XO) = some (some (xI b'), (A2, G)) := r1.symm.trans s1
    have e2 := Option.some.inj e1
    have e3 : b = b' := by
      have := congrArg Prod.fst e2
      have := Option.some.inj this
      exact Sum.inl.inj this
    have e4 : A' = A2 := congrArg (fun z : Option XV × XM => z.2.1) e2
    subst e3; subst e4
    refine ⟨B', ?_, frRm_tr frRm_st s5, s6⟩
    rw [m_parses0 hG]
    exact (kk_43 (e := 795) hG).trans s2
  have u35_0 : X 35 0 = n := by rw [X35]; show A' 35 0 = n; rw [hfx.2.1]; exact h.l35
  have u35_1 : X 35 1 = 0 := by rw [X35]; rfl
  by_cases q : prgA b A' = 0
  · -- a program
    have qb : b = 1 := by
      rcases hb with rfl | rfl
      · unfold prgA at q; rw [if_pos rfl] at q; have := p1.1.2.2.1.2.1; omega
      · rfl
    subst qb
    unfold prgA at q
    rw [if_neg one_ne] at q
    have q9 : A' 35 9 = -1 := Classical.byContradiction fun y => by rw [if_pos y] at q; have := p1.1.2.2.2.2.2; omega
    rw [if_neg (not_not_intro q9)] at q
    have q11 : ¬ 11 ≤ A' (41 + 3 * 0) 2 := fun y => by rw [if_pos y] at q; omega
    have hrow := p1.2.2.1 0 (by have := p1.1.2.2.2.1.2.1; exact this)
    have hprg : prgA 1 A' = 0 := by
      unfold prgA
      rw [if_neg one_ne, if_neg (not_not_intro q9), if_neg q11]
    rw [hprg] at ht'
    have hz1 : A' (41 + 3 * 0) 2 = (rowOf A' (41 + 3 * 0)).1 := rfl
    have hrw := row41 (show 0 < 51 by omega)
    have hcp := w_copy (d := 796) (V := X) (r := 29) (o := 41 + 3 * 0) hG row29 hrw (by omega) (by rw [X1 _ (by omega)]; rw [hz1, hrow.1]; exact hrow.2.1)
    have er : rowOf X (41 + 3 * 0) = rowOf A' (41 + 3 * 0) := by
      unfold rowOf
      rw [X1 _ (by omega), X1 _ (by omega), X1 _ (by omega)]
    rw [er] at hcp
    obtain ⟨s, hs⟩ : ∃ s, s = addAll (0, X (29 + 1), X (29 + 2)) (rowOf A' (41 + 3 * 0)) := ⟨_, rfl⟩
    rw [← hs] at hcp
    have e29 : setRow X 29 s 29 2 = s.1 := by simp [setRow, vA, vU]
    have hx : run 799 1018 0 [xR 1, xU] [] (V, G) = some (some (xI s.1), (setRow X 29 s, G)) := by
      have hcp' : run 798 605 0 [xR 29, xR (41 + 3 * 0)] [] (X, G) = some (none, (setRow X 29 s, G)) := hcp
      have hrs : run 798 514 0 [xR 35] [] (X, G) = some (some (xR (41 + 3 * 0)), (X, G)) := by
        simp (disch := first | omega | exact Nat.le_of_ble_eq_true rfl) only [bk514_0, Int.reduceToNat, vA_ap, Nat.reduceEqDiff, if_true, if_false, bx_nil, isL_I, isL_R, isL_U, if_ff, bind_some, tl_some, tl_none, bx_aload_0, gf35_3 hG, aa37 hG, bx_iconst, bx_aret]
      simp (disch := first | omega | exact Nat.le_of_ble_eq_true rfl) only [bk1018_0, bk1018_14, Int.reduceToNat, vA_ap, Nat.reduceEqDiff, if_true, if_false, bx_nil, isL_I, isL_R, isL_U, if_ff, bind_some, tl_some, tl_none, bx_aload_0, gf1_5 hG, cl502 hG, bx_istore_1, bx_iload_1, bx_if_eq, bx_iret, gf1_3 hG, cl514 hG, ht', hrs, cl605 hG row29, hcp', rg_size hG row29, e29]
    obtain ⟨B', k1, k2, k3⟩ := key (setRow X 29 s) (fun b hb => by rw [setRow_ap (by omega) (by omega) (by omega)]; exact Xf b (by omega))
    have hrB := k3.2.2.1 0 (by have := k3.1.2.2.2.1.2.1; exact this)
    have hq := rowQ_copy (a := X (29 + 1)) (b := X (29 + 2)) hrB
    rw [← hs] at hq
    obtain ⟨Y, hY⟩ : ∃ Y, Y = vA B' 376 (vU (vU (B' 376) 30 0) 21 (B' 396 0)) := ⟨_, rfl⟩
    have Y1 : ∀ b, b ≠ 376 → Y b = B' b := fun b hb => by rw [hY, vA_ne hb]
    obtain ⟨z, hz⟩ : ∃ z : Nat, B' 396 0 = z := ⟨(B' 396 0).toNat, by have := hrB.2.1; have : 0 ≤ B' 396 ((0 : Nat) : Int) := hrB.2.1.1; have e : B' 396 ((0 : Nat) : Int) = B' 396 0 := rfl; omega⟩
    have hq1 : s.1 = z := hq.1.trans hz
    have hz10 : z ≤ 10 := by
      have e1 : (rowOf A' (41 + 3 * 0)).1 = B' 396 0 := hrB.1
      have e2 : A' (41 + 3 * 0) 2 = B' 396 0 := e1
      omega
    have hent : ∀ w, 0 ≤ w → w < (z : Int) → B' 395 w = 100 * s.2.1 w + s.2.2 w ∧ (0 ≤ s.2.1 w ∧ s.2.1 w + 1 < (n : Int)) ∧ (0 ≤ s.2.2 w ∧ s.2.2 w ≤ 95) := fun w w0 w1 => by
      have := hq.2.2 (by rw [show B' 396 ((0 : Nat) : Int) = B' 396 0 from rfl]; omega) w w0 (by rw [show B' 396 ((0 : Nat) : Int) = B' 396 0 from rfl]; omega)
      have e : (fun w => B' 395 (13 * ((0 : Nat) : Int) + w)) w = B' 395 w := by
        show B' 395 (13 * ((0 : Nat) : Int) + w) = _
        rw [show 13 * ((0 : Nat) : Int) + w = w by omega]
      rw [e] at this
      exact this
    have hlp := m_prog_lp (e := 799) (B := Y) (z := z) (g := 1) hG (by rw [hY, vA_same, vU_at]; exact hz) hz10 (fun w w0 w1 => by rw [Y1 _ (by decide), (hent w w0 w1).1]; have := (hent w w0 w1).2; omega)
    obtain ⟨U, hU⟩ : ∃ U, U = vA (vA Y 391 (fl (Y 391) (fun w => Y 395 w / 100) 0 z)) 392 (fl (Y 392) (fun w => Y 395 w % 100) 0 z) := ⟨_, rfl⟩
    rw [← hU] at hlp
    have hm : run 799 1133 0 [xR 376, xU, xU] [] (setRow X 29 s, G) = some (some (xI s.1), (U, G)) := by
      rw [hq1, ← hlp]
      have b33 : vU (B' 376) 30 0 33 = -1 := by
        show B' 376 33 = -1
        rw [k3.1.2.2.2.2.1]; exact q9
      simp (disch := first | omega | exact Nat.le_of_ble_eq_true rfl) only [bk1133_0, bk1133_23, bk1133_39, bk1133_54, bk1133_110, Int.reduceToNat, vA_ap, Nat.reduceEqDiff, if_true, if_false, bx_nil, isL_I, isL_R, isL_U, if_ff, bind_some, tl_some, tl_none, bx_aload_0, cl1134 hG, bx_istore_1, bx_iconst, pf376_30 hG, bx_iload_1, bx_if_ne, bx_sipush, gf376_31 hG, bx_isub, bx_iret, gf376_33 hG, bx_if_lt, gf376_25 hG, ia396 hG, is396 hG, bx_bipush, bx_ic_le, pf376_21 hG, bx_istore_2, bx_iload_2, gf376_21 hG, bx_ic_ge, gf376_19 hG, ia391 hG, is391 hG, gf376_24 hG, ia395 hG, is395 hG, bx_idiv, gf376_20 hG, ia392 hG, is392 hG, bx_irem, bx_iinc2, bx_goto, k1, one_ne, b33, if_pos (show (-1 : Int) < 0 by omega), hz, if_pos (show (z : Int) ≤ 10 by omega), vA_vA]
      rw [hY, hz]
    have U1 : ∀ b, b ≠ 376 → b ≠ 391 → b ≠ 392 → U b = B' b := fun b b1 b2 b3 => by rw [hU, vA_ne b3, vA_ne b2]; exact Y1 b b1
    have U376 : U 376 = vU (vU (B' 376) 30 0) 21 (B' 396 0) := by rw [hU, vA_ne (by decide), vA_ne (by decide), hY, vA_same]
    refine mkpair hx hm (h.prg (fun b b1 b2 b3 b4 b5 => ?_) ?_ ?_ (fun k k1 k2' => ?_) ?_ ?_)
    · rw [U1 b b3 (by omega) (by omega), k2.1 b b3 b5, setRow_ap (by omega) (by omega) (by omega)]
      exact Xf b b2
    · rw [U1 35 (by decide) (by decide) (by decide), k2.1 35 (by decide) (by decide), setRow_ap (by omega) (by omega) (by omega)]; exact u35_0
    · rw [U1 35 (by decide) (by decide) (by decide), k2.1 35 (by decide) (by decide), setRow_ap (by omega) (by omega) (by omega)]; exact u35_1
    · rw [U376, vU_ne k1, vU_ne (by omega), k2.2 k (by omega), setRow_ap (by omega) (by omega) (by omega), Xf 376 (by decide)]
    · rw [U376]; rfl
    · have w29 : U 29 = setRow X 29 s 29 := by rw [U1 29 (by decide) (by decide) (by decide)]; exact k2.1 29 (by decide) (by decide)
      have w30 : U 30 = s.2.1 := by rw [U1 30 (by decide) (by decide) (by decide), k2.1 30 (by decide) (by decide)]; simp [setRow, vA]
      have w31 : U 31 = s.2.2 := by rw [U1 31 (by decide) (by decide) (by decide), k2.1 31 (by decide) (by decide)]; simp [setRow, vA]
      have wl : U 391 = fl (Y 391) (fun w => Y 395 w / 100) 0 z := by rw [hU, vA_ne (by decide), vA_same]
      have wt : U 392 = fl (Y 392) (fun w => Y 395 w % 100) 0 z := by rw [hU, vA_same]
      unfold wrkP
      rw [w29, e29, U376, w30, w31, wl, wt, hq1]
      refine ⟨by rw [vU_at]; exact hz, by omega, fun w w0 w1 => ?_⟩
      obtain ⟨y1, y2, y3⟩ := hent w w0 w1
      rw [fl_in w0 w1, fl_in w0 w1, Y1 _ (by decide), y1]
      have a1 : (100 * s.2.1 w + s.2.2 w) / 100 = s.2.1 w := by omega
      have a2 : (100 * s.2.1 w + s.2.2 w) % 100 = s.2.2 w := by omega
      rw [a1, a2]
      exact ⟨rfl, rfl, y2, y3⟩
  · -- a fault
    have hx : run 799 1018 0 [xR 1, xU] [] (V, G) = some (some (xI (prgA b A')), (X, G)) := by
      simp (disch := first | omega | exact Nat.le_of_ble_eq_true rfl) only [bk1018_0, bk1018_14, Int.reduceToNat, vA_ap, Nat.reduceEqDiff, if_true, if_false, bx_nil, isL_I, isL_R, isL_U, if_ff, bind_some, tl_some, tl_none, bx_aload_0, gf1_5 hG, cl502 hG, bx_istore_1, bx_iload_1, bx_if_eq, bx_iret, gf1_3 hG, cl514 hG, ht', if_neg q]
    obtain ⟨B', k1, k2, k3⟩ := key X (fun b hb => Xf b (by omega))
    obtain ⟨U, hU⟩ : ∃ U, U = vA B' 376 (vU (B' 376) 30 0) := ⟨_, rfl⟩
    have b31 : vU (B' 376) 30 0 31 = A' 35 7 := k3.1.2.2.1.1
    have b33 : vU (B' 376) 30 0 33 = A' 35 9 := k3.1.2.2.2.2.1
    have hb31 := p1.1.2.2.1
    have hb1 := p1.1.2.1
    have hb33 := p1.1.2.2.2.2
    have hm : run 799 1133 0 [xR 376, xU, xU] [] (X, G) = some (some (xI (prgA b A')), (U, G)) := by
      rw [hU]
      unfold prgA at q ⊢
      rcases hb with rfl | rfl
      · rw [if_pos rfl]
        simp (disch := first | omega | exact Nat.le_of_ble_eq_true rfl) only [bk1133_0, bk1133_23, bk1133_39, bk1133_54, bk1133_110, Int.reduceToNat, vA_ap, Nat.reduceEqDiff, if_true, if_false, bx_nil, isL_I, isL_R, isL_U, if_ff, bind_some, tl_some, tl_none, bx_aload_0, cl1134 hG, bx_istore_1, bx_iconst, pf376_30 hG, bx_iload_1, bx_if_ne, bx_sipush, gf376_31 hG, bx_isub, bx_iret, gf376_33 hG, bx_if_lt, gf376_25 hG, ia396 hG, is396 hG, bx_bipush, bx_ic_le, pf376_21 hG, bx_istore_2, bx_iload_2, gf376_21 hG, bx_ic_ge, gf376_19 hG, ia391 hG, is391 hG, gf376_24 hG, ia395 hG, is395 hG, bx_idiv, gf376_20 hG, ia392 hG, is392 hG, bx_irem, bx_iinc2, bx_goto, k1, b31]
      · rw [if_neg one_ne] at q ⊢
        by_cases q9 : A' 35 9 = -1
        · rw [if_neg (not_not_intro q9)] at q ⊢
          have q11 : 11 ≤ A' (41 + 3 * 0) 2 := Classical.byContradiction fun y => q (if_neg y)
          rw [if_pos q11]
          have hrB := k3.2.2.1 0 (by have := k3.1.2.2.2.1.2.1; exact this)
          have e2 : A' (41 + 3 * 0) 2 = B' 396 0 := hrB.1
          simp (disch := first | omega | exact Nat.le_of_ble_eq_true rfl) only [bk1133_0, bk1133_23, bk1133_39, bk1133_54, bk1133_110, Int.reduceToNat, vA_ap, Nat.reduceEqDiff, if_true, if_false, bx_nil, isL_I, isL_R, isL_U, if_ff, bind_some, tl_some, tl_none, bx_aload_0, cl1134 hG, bx_istore_1, bx_iconst, pf376_30 hG, bx_iload_1, bx_if_ne, bx_sipush, gf376_31 hG, bx_isub, bx_iret, gf376_33 hG, bx_if_lt, gf376_25 hG, ia396 hG, is396 hG, bx_bipush, bx_ic_le, pf376_21 hG, bx_istore_2, bx_iload_2, gf376_21 hG, bx_ic_ge, gf376_19 hG, ia391 hG, is391 hG, gf376_24 hG, ia395 hG, is395 hG, bx_idiv, gf376_20 hG, ia392 hG, is392 hG, bx_irem, bx_iinc2, bx_goto, k1, one_ne, b33, if_pos (show A' 35 9 < 0 by omega), if_neg (show ¬ B' 396 0 ≤ 10 by omega)]
        · rw [if_pos q9]
          simp (disch := first | omega | exact Nat.le_of_ble_eq_true rfl) only [bk1133_0, bk1133_23, bk1133_39, bk1133_54, bk1133_110, Int.reduceToNat, vA_ap, Nat.reduceEqDiff, if_true, if_false, bx_nil, isL_I, isL_R, isL_U, if_ff, bind_some, tl_some, tl_none, bx_aload_0, cl1134 hG, bx_istore_1, bx_iconst, pf376_30 hG, bx_iload_1, bx_if_ne, bx_sipush, gf376_31 hG, bx_isub, bx_iret, gf376_33 hG, bx_if_lt, gf376_25 hG, ia396 hG, is396 hG, bx_bipush, bx_ic_le, pf376_21 hG, bx_istore_2, bx_iload_2, gf376_21 hG, bx_ic_ge, gf376_19 hG, ia391 hG, is391 hG, gf376_24 hG, ia395 hG, is395 hG, bx_idiv, gf376_20 hG, ia392 hG, is392 hG, bx_irem, bx_iinc2, bx_goto, k1, one_ne, b33, if_neg (show ¬ A' 35 9 < 0 by omega)]
    have U1 : ∀ b, b ≠ 376 → U b = B' b := fun b hb => by rw [hU, vA_ne hb]
    have U376 : U 376 = vU (B' 376) 30 0 := by rw [hU, vA_same]
    have u21 : U 376 21 = V 376 21 := by rw [U376, vU_ne (by decide), k2.2 21 (by decide), Xf 376 (by decide)]
    refine mkpair hx hm (h.prg (fun b b1 b2 b3 b4 b5 => ?_) ?_ ?_ (fun k k1 k2' => ?_) ?_ ?_)
    · rw [U1 b b3, k2.1 b b3 b5]; exact Xf b b2
    · rw [U1 35 (by decide), k2.1 35 (by decide) (by decide)]; exact u35_0
    · rw [U1 35 (by decide), k2.1 35 (by decide) (by decide)]; exact u35_1
    · rw [U376, vU_ne (by omega), k2.2 k (by omega), Xf 376 (by decide)]
    · rw [U376]; rfl
    · have f : ∀ b, b ≠ 376 → ¬ (395 ≤ b ∧ b < 401) → ¬ (35 ≤ b ∧ b < 212) → U b = V b := fun b b1 b2 b3 => by rw [U1 b b1, k2.1 b b1 b2]; exact Xf b b3
      have := h.wrk
      unfold wrkP at *
      rw [u21, f 29 (by decide) (by decide) (by decide), f 30 (by decide) (by decide) (by decide), f 31 (by decide) (by decide) (by decide), f 391 (by decide) (by decide) (by decide), f 392 (by decide) (by decide) (by decide)]
      exact this
end PP
