/-! PROBE: the pair -/
section PR2
variable {n L d : Nat} {G : XG} {V : Nat → Int → Int}
theorem xB_fr {W : Nat → Int → Int} (f : ∀ b, b < 12 → W b = V b) (h : xB n V) : xB n W := by
  unfold xB at *
  rw [f 5 (by omega), f 8 (by omega), f 7 (by omega), f 9 (by omega), f 3 (by omega), f 4 (by omega), f 6 (by omega)]
  exact h
theorem fnd_fr {W : Nat → Int → Int} (f : ∀ b, 212 ≤ b → b < 216 → W b = V b) (g : ∀ b, 376 ≤ b → W b = V b) (h : fndP n V) : fndP n W := by
  unfold fndP at *
  rw [f 212 (by omega) (by omega), f 213 (by omega) (by omega), f 214 (by omega) (by omega), f 215 (by omega) (by omega), g 376 (by omega), g 404 (by omega), g 405 (by omega), g 406 (by omega)]
  exact h
theorem x_lookAt {j m : Int} (hG : Good n L G) (h : Inv n V) (hb : ¬ V 344 2 = 0) (hj : 0 ≤ j ∧ j < (n : Int)) (hm : 0 ≤ m ∧ m < (n : Int)) : ∃ W, run (d + 6) 403 0 [xR 344, xI j, xI m, xI (V 217 3), xU, xU] [] (V, G) = some (some (xI (lgF V (V 9) j m)), (W, G)) ∧ frS V W ∧ W 345 = V 345 ∧ W 346 = V 346 ∧ W 344 = vU (vU (V 344) 4 (V 344 4 + 1)) 5 (V 344 5 - cn (fun k => decide (¬ V 347 k = 0 ∧ ¬ lgF V (hoC V k) j m = lgF V (V 9) j m)) (V 344 3)) ∧ ∀ k, 0 ≤ k → k < V 344 3 → W 347 k = if ¬ V 347 k = 0 ∧ ¬ lgF V (hoC V k) j m = lgF V (V 9) j m then 0 else V 347 k := by
  have hn := h.nn
  obtain ⟨x1, x2, x3, x4, x5, x6, x7, x8, x9⟩ := h.xb
  obtain ⟨p1, p2, p3⟩ := h.prb
  obtain ⟨q1, q2, q3, q4, q5, q6, q7, q8, q9⟩ := p3 (by omega)
  obtain ⟨c1, c2, c3⟩ := held_cnt h.prb hb
  have hL6 := lanOK_b (by omega) x9
  have hL := lanOK_ln (by omega) x9
  obtain ⟨N, hN⟩ : ∃ N : Nat, V 344 3 = N := ⟨(V 344 3).toNat, by omega⟩
  obtain ⟨A0, hA0⟩ : ∃ A, A = vA V 344 (vU (V 344) 4 (V 344 4 + 1)) := ⟨_, rfl⟩
  have f0 : ∀ b, b ≠ 344 → A0 b = V b := fun b hb => by rw [hA0, vA_ne hb]
  have hft := x_fillTT (d := d + 1) (V := A0) (a := 7) (b := 9) (t := 349) hG (gsh hG 7 rfl rfl) (gsh hG 9 rfl rfl) (gsh hG 349 rfl rfl) (by omega) (by omega) (by omega) (by omega) (by rw [f0 _ (by decide)]; exact x3) (by rw [f0 _ (by decide)]; exact x4) (by rw [f0 _ (by decide)]; exact rg_wide x5 (by omega) (by omega)) (by rw [f0 _ (by decide)]; exact x6)
  rw [f0 5 (by decide), f0 8 (by decide), f0 7 (by decide), f0 9 (by decide)] at hft
  obtain ⟨A1, hA1⟩ : ∃ A, A = vA A0 349 (fun j => if 0 ≤ j ∧ j < 36 then ttX (V 8) (V 7) (V 9) (V 5 6) j else A0 349 j) := ⟨_, rfl⟩
  rw [← hA1] at hft
  have f1 : ∀ b, b ≠ 344 → b ≠ 349 → A1 b = V b := fun b b1 b2 => by rw [hA1, vA_ne b2]; exact f0 b b1
  have t1 : ∀ c, 0 ≤ c → c < 36 → A1 349 c = ttX (V 8) (V 7) (V 9) (V 5 6) c := fun c c0 c1 => by rw [hA1, vA_same, if_pos ⟨c0, c1⟩]
  have T1 : xT A1 := ⟨by rw [f1 _ (by decide) (by decide)]; exact x7, by rw [f1 _ (by decide) (by decide)]; exact x8, by rw [f1 _ (by decide) (by decide)]; exact hL, by rw [f1 _ (by decide) (by decide)]; exact hL6, fun c c0 c1 => by rw [t1 c c0 c1]; exact ttX_bd (x3 c c0 c1)⟩
  obtain ⟨A2, r2, f2, tr2⟩ := x_trace (d := d + 2) (V := A1) (j := j) hG T1 (by omega)
  have g2 : ∀ b, b ≠ 344 → b ≠ 349 → ¬ (351 ≤ b ∧ b < 364) → A2 b = V b := fun b b1 b2 b3 => (f2 b b3).trans (f1 b b1 b2)
  have hseen : A2 (351 + 12) m = lgF V (V 9) j m := by
    rw [tr2 12 (by omega) m hm.1 (by omega)]
    unfold lgF
    rw [f1 3 (by decide) (by decide), f1 4 (by decide) (by decide), f1 6 (by decide) (by decide)]
    exact send6 hL6 36 0 (by omega) (fun _ _ _ => rfl) (fun c c0 c1 => t1 c c0 (by omega)) m hm.1 (by omega)
  obtain ⟨A3, r3, f3, t3⟩ := x_fkt (d := d) (V := A2) (n := n) hG (xB_fr (fun b hb => g2 b (by omega) (by omega) (by omega)) h.xb) (fnd_fr (fun b b0 b1 => g2 b (by omega) (by omega) (by omega)) (fun b b0 => g2 b (by omega) (by omega) (by omega)) h.fnd) (by rw [g2 212 (by omega) (by omega) (by omega)]; exact h.ent.2.2)
  have e217 : A2 217 = V 217 := g2 217 (by omega) (by omega) (by omega)
  rw [e217] at r3
  have g3 : ∀ b, b ≠ 216 → b ≠ 344 → b ≠ 348 → b ≠ 349 → ¬ (351 ≤ b ∧ b < 364) → A3 b = V b := fun b b0 b1 b2 b3 b4 => (f3 b b0 b2 b3).trans (g2 b b1 b3 b4)
  have t3' : ∀ c, 0 ≤ c → c < 36 → A3 349 c = ttX (V 8) (V 7) (knC V) (V 5 6) c := fun c c0 c1 => by
    rw [t3 c c0 c1, g2 8 (by decide) (by decide) (by decide), g2 7 (by decide) (by decide) (by decide), g2 5 (by decide) (by decide) (by decide)]
    refine tt_same (Or.inr ?_)
    unfold knC
    rw [e217]
    exact (knM_fr2 (g2 _ (by decide) (by decide) (by decide)) (g2 _ (by decide) (by decide) (by decide)) (g2 _ (by decide) (by decide) (by decide)) (g2 _ (by decide) (by decide) (by decide))).symm
  have T3 : xT A3 := ⟨by rw [g3 _ (by decide) (by decide) (by decide) (by decide) (by decide)]; exact x7, by rw [g3 _ (by decide) (by decide) (by decide) (by decide) (by decide)]; exact x8, by rw [g3 _ (by decide) (by decide) (by decide) (by decide) (by decide)]; exact hL, by rw [g3 _ (by decide) (by decide) (by decide) (by decide) (by decide)]; exact hL6, fun c c0 c1 => by rw [t3' c c0 c1]; exact ttX_bd (x3 c c0 c1)⟩
  obtain ⟨A4, r4, f4, tr4⟩ := x_trace (d := d + 2) (V := A3) (j := j) hG T3 (by omega)
  have g4 : ∀ b, b ≠ 216 → b ≠ 344 → b ≠ 348 → b ≠ 349 → ¬ (351 ≤ b ∧ b < 364) → A4 b = V b := fun b b0 b1 b2 b3 b4 => (f4 b b4).trans (g3 b b0 b1 b2 b3 b4)
  have e344 : A4 344 = vU (V 344) 4 (V 344 4 + 1) := by
    rw [f4 344 (by omega), f3 344 (by decide) (by decide) (by decide), f2 344 (by omega), hA1, vA_ne (by decide), hA0, vA_same]
  have e347 : A4 347 = V 347 := g4 _ (by decide) (by decide) (by decide) (by decide) (by decide)
  obtain ⟨W, w0, w1, w2, w3⟩ := x_look_lp (d := d + 2) (A := A4) (j := j) (m := m) (tick := V 217 3) (seen := lgF V (V 9) j m) (N := N) (oc := fun k => lgF V (hoC V k) j) (n := n) hG (by rw [e344]; exact hN) (by omega) hn.2 hm (fun k k0 k1 => by rw [e347]; exact (q8 k k0 (by omega)).2) (by rw [e344]; show 0 ≤ V 344 5 ∧ V 344 5 ≤ 145; rw [q9]; have := cntF_bd (p := fun h => decide (V 347 h = 1)) (V 344 3).toNat 0; omega) (fun W k fw k0 k1 => by
    have hk : 0 ≤ k ∧ k < V 344 3 := by omega
    obtain ⟨y1, y2⟩ := hyp_bd h.prb hb hk
    have fc : ∀ b, b ≠ 364 → b ≠ 347 → b ≠ 216 → b ≠ 344 → b ≠ 348 → b ≠ 349 → ¬ (351 ≤ b ∧ b < 364) → W b = V b := fun b b1 b2 b3 b4 b5 b6 b7 => (fw b b1 b2 b4).trans (g4 b b3 b4 b5 b6 b7)
    have e3 : W 3 = V 3 := fc _ (by decide) (by decide) (by decide) (by decide) (by decide) (by decide) (by decide)
    have e4 : W 4 = V 4 := fc _ (by decide) (by decide) (by decide) (by decide) (by decide) (by decide) (by decide)
    have e6 : W 6 = V 6 := fc _ (by decide) (by decide) (by decide) (by decide) (by decide) (by decide) (by decide)
    have e8 : W 8 = V 8 := fc _ (by decide) (by decide) (by decide) (by decide) (by decide) (by decide) (by decide)
    have ec : W 345 = V 345 := fc _ (by decide) (by decide) (by decide) (by decide) (by decide) (by decide) (by decide)
    have em : W 346 = V 346 := fc _ (by decide) (by decide) (by decide) (by decide) (by decide) (by decide) (by decide)
    have et : W 349 = A3 349 := (fw _ (by decide) (by decide) (by decide)).trans (f4 _ (by decide))
    have hTW : xT W := ⟨by rw [e3]; exact x7, by rw [e4]; exact x8, by rw [e6]; exact hL, by rw [e6]; exact hL6, by rw [et]; exact T3.2.2.2.2⟩
    have htr : trP W W (W 349) j := fun l hl => by
      rw [fw (351 + l) (by omega) (by omega) (by omega), e3, e4, e6, et]
      have := tr4 l hl
      rw [g3 3 (by decide) (by decide) (by decide) (by decide) (by decide), g3 4 (by decide) (by decide) (by decide) (by decide) (by decide), g3 6 (by decide) (by decide) (by decide) (by decide) (by decide)] at this
      exact this
    obtain ⟨W', a, o1, o2, o3, o4, _⟩ := x_outcome (d := d + 2) (V := W) (A := W) (h := k) (j := j) hG hTW ⟨rfl, rfl, rfl⟩ htr (by omega) (by rw [ec]; exact y1) (fun y => by
      rw [ec] at y
      rw [em]
      rcases y2 with ⟨z1, z2⟩ | ⟨z1, z2, z3, _⟩
      · exact absurd z2 y
      · exact ⟨z2, z3⟩)
    refine ⟨W', a, o1, o2, o3, fun l l0 l1 => ?_⟩
    rw [o4 l l0 (by omega)]
    exact ot_lg (V := V) (A := W) (h := k) (j := j) hL6 ⟨e3, e4, e6, e8⟩ (by rw [ec]) (by rw [em]) (fun c c0 c1 => by rw [et]; exact t3' c c0 c1) y1 l l0 (by omega))
  rw [e344] at w2
  rw [e347] at w2 w3
  refine ⟨W, ?_, fun b b0 b1 => ?_, ?_, ?_, ?_, ?_⟩
  · have r2' : run (d + 5) 404 0 [xR 344, xI j, xU] [] (A1, G) = some (none, (A2, G)) := r2
    have r4' : run (d + 5) 404 0 [xR 344, xI j, xU] [] (A3, G) = some (none, (A4, G)) := r4
    have w0' : run (d + 6) 403 64 [xR 344, xI j, xI m, xI (V 217 3), xI (lgF V (V 9) j m), xI 0] [] (A4, G) = some (some (xI (lgF V (V 9) j m)), (W, G)) := w0
    have hft' : run (d + 5) 309 0 [xR 5, xR 7, xR 9, xR 349, xU] [] (A0, G) = some (none, (A1, G)) := hft
    simp (disch := first | omega | exact Nat.le_of_ble_eq_true rfl) only [bk403_0, bk403_114, bk403_120, Int.reduceToNat, vA_ap, Nat.reduceEqDiff, if_true, if_false, bx_nil, isL_I, isL_R, isL_U, if_ff, bind_some, tl_some, tl_none, bx_aload_0, bx_dupI, bx_dupR, gf344_4 hG, bx_iconst, bx_iadd, pf344_4 hG, gf344_0 hG, gf5_3 hG, ia7 hG, is7 hG, gf5_5 hG, ia9 hG, is9 hG, gf344_10 hG, ia349 hG, is349 hG, cl309 hG, bx_iload_1, cl404 hG, gf344_11 hG, aa350 hG, bx_bipush, bx_iload_2, bx_istore4, bx_iload_3, cl405 hG, bx_istore5, bx_iload5, gf344_3 hG, bx_ic_ge, gf344_8 hG, ia347 hG, is347 hG, bx_if_eq, cl406 hG, bx_iload4, bx_ic_eq, gf344_5 hG, bx_isub, pf344_5 hG, bx_iinc5, bx_goto, bx_iret, ← hA0, hft', r2', ia351 hG, hseen, r3, r4', w0']
  · rw [w1 b (by omega) (by omega) (by omega)]
    exact g4 b b0 (by omega) (by omega) (by omega) (by omega)
  · rw [w1 _ (by decide) (by decide) (by decide)]; exact g4 _ (by decide) (by decide) (by decide) (by decide) (by decide)
  · rw [w1 _ (by decide) (by decide) (by decide)]; exact g4 _ (by decide) (by decide) (by decide) (by decide) (by decide)
  · rw [w2, hN]; rfl
  · rw [hN]; exact w3
end PR2
