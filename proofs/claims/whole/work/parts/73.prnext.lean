/-! NEXT: the pair -/
section NX2
variable {n L d : Nat} {G : XG} {V : Nat → Int → Int}
theorem x_oc {W : Nat → Int → Int} {j k : Int} (hG : Good n L G) (h : Inv n V) (hb : ¬ V 344 2 = 0) (fW : ∀ b, b ≠ 216 → ¬ (348 ≤ b ∧ b < 373) → W b = V b) (ht : ∀ c, 0 ≤ c → c < 36 → W 349 c = ttX (V 8) (V 7) (knC V) (V 5 6) c) (htr : trP V W (W 349) j) (hk : 0 ≤ k ∧ k < V 344 3) : ∃ W' a, run (d + 3) 406 0 [xR 344, xI k, xU, xU, xU] [] (W, G) = some (some (xR a), (W', G)) ∧ G.1 a = (1, 6) ∧ (∀ b, b ≠ 364 → W' b = W b) ∧ eqn n (W' a) (lgF V (hoC V k) j) ∧ a < 365 := by
  have hn := h.nn
  obtain ⟨x1, x2, x3, x4, x5, x6, x7, x8, x9⟩ := h.xb
  obtain ⟨c1, c2, c3⟩ := held_cnt h.prb hb
  have hL6 := lanOK_b (by omega) x9
  have hL := lanOK_ln (by omega) x9
  obtain ⟨y1, y2⟩ := hyp_bd h.prb hb hk
  have e3 : W 3 = V 3 := fW _ (by decide) (by decide)
  have e4 : W 4 = V 4 := fW _ (by decide) (by decide)
  have e6 : W 6 = V 6 := fW _ (by decide) (by decide)
  have e8 : W 8 = V 8 := fW _ (by decide) (by decide)
  have ec : W 345 = V 345 := fW _ (by decide) (by decide)
  have em : W 346 = V 346 := fW _ (by decide) (by decide)
  have hTW : xT W := ⟨by rw [e3]; exact x7, by rw [e4]; exact x8, by rw [e6]; exact hL, by rw [e6]; exact hL6, fun c c0 c1 => by rw [ht c c0 c1]; exact ttX_bd (x3 c c0 c1)⟩
  obtain ⟨W', a, o1, o2, o3, o4, o5⟩ := x_outcome (d := d) (V := W) (A := V) (h := k) (j := j) hG hTW ⟨e3.symm, e4.symm, e6.symm⟩ htr (by omega) (by rw [ec]; exact y1) (fun y => by
    rw [ec] at y
    rw [em]
    rcases y2 with ⟨z1, z2⟩ | ⟨z1, z2, z3, _⟩
    · exact absurd z2 y
    · exact ⟨z2, z3⟩)
  refine ⟨W', a, o1, o2, o3, fun l l0 l1 => ?_, o5⟩
  rw [o4 l l0 (by omega)]
  have := ot_lg (V := V) (A := W) (h := k) (j := j) hL6 ⟨e3, e4, e6, e8⟩ (by rw [ec]) (by rw [em]) ht y1 l l0 (by omega)
  rw [e3, e4, e6] at this
  exact this
/-- the greatest group at a probe -/
def mxG (V : Nat → Int → Int) (j m : Int) : Int := (gF (fun h => decide (¬ V 347 h = 0)) (fun h => lgF V (hoC V h) j m) (V 344 3).toNat).2
theorem lgF_bd {O : Int → Int} {j m : Int} (hm : 0 ≤ m ∧ m < 6) : 0 ≤ lgF V O j m ∧ lgF V O j m ≤ 96 := sendX_rg (N := 6) _ _ _ eF_rg m hm.1 hm.2
theorem x_best (hG : Good n L G) (h : Inv n V) (hb : ¬ V 344 2 = 0) : ∃ W, run (d + 6) 408 0 [xR 344, xI (V 217 3), xU, xU, xU, xU] [] (V, G) = some (some (xI (bsJ (mxG V) n n (V 344 3 + 1, -1)).2), (W, G)) ∧ (∀ b, b ≠ 216 → ¬ (348 ≤ b ∧ b < 373) → W b = V b) := by
  have hn := h.nn
  obtain ⟨x1, x2, x3, x4, x5, x6, x7, x8, x9⟩ := h.xb
  obtain ⟨c1, c2, c3⟩ := held_cnt h.prb hb
  have hL6 := lanOK_b (by omega) x9
  have hL := lanOK_ln (by omega) x9
  obtain ⟨N, hN⟩ : ∃ N : Nat, V 344 3 = N := ⟨(V 344 3).toNat, by omega⟩
  have hmx : ∀ j m, 0 ≤ mxG V j m ∧ mxG V j m ≤ N := fun j m => by
    have := (gF_bd (p := fun h => decide (¬ V 347 h = 0)) (val := fun h => lgF V (hoC V h) j m) (V 344 3).toNat).2
    unfold mxG
    omega
  obtain ⟨A, r0, f0, t0⟩ := x_fkt (d := d) (V := V) (n := n) hG h.xb h.fnd h.ent.2.2
  have hl := it_inv (D := d + 6) (q := 408) (pc := 17) (hi := n) (I := fun j ls μ => (∃ u, ls = [xR 344, xI (V 217 3), xI (bsJ (mxG V) n j.toNat (V 344 3 + 1, -1)).1, xI (bsJ (mxG V) n j.toNat (V 344 3 + 1, -1)).2, xI j, u]) ∧ ∃ W, μ = (W, G) ∧ (∀ b, b ≠ 216 → ¬ (348 ≤ b ∧ b < 373) → W b = V b) ∧ (∀ c, 0 ≤ c → c < 36 → W 349 c = ttX (V 8) (V 7) (knC V) (V 5 6) c)) (Q := fun y => ∃ W, y = some (some (xI (bsJ (mxG V) n n (V 344 3 + 1, -1)).2), (W, G)) ∧ (∀ b, b ≠ 216 → ¬ (348 ≤ b ∧ b < 373) → W b = V b)) (fun ls μ hI => by
    obtain ⟨⟨u, rfl⟩, W, rfl, w1, w2⟩ := hI
    have f5 : W 5 0 = n := by rw [w1 5 (by decide) (by decide)]; exact x1
    refine ⟨W, ?_, w1⟩
    rw [bk408_17, Int.toNat_natCast]
    simp (disch := first | omega | exact Nat.le_of_ble_eq_true rfl) only [bk408_0, bk408_82, bk408_88, bk408_94, Int.reduceToNat, vA_ap, Nat.reduceEqDiff, if_true, if_false, bx_nil, isL_I, isL_R, isL_U, if_ff, bind_some, tl_some, tl_none, bx_aload_0, bx_iload_1, cl405 hG, gf344_3 hG, bx_iconst, bx_iadd, bx_istore_2, bx_istore_3, bx_istore4, bx_iload4, gf344_0 hG, gf5_0 hG, bx_ic_ge, cl404 hG, cl409 hG, bx_istore5, bx_iload5, gf344_14 hG, ia372 hG, is372 hG, bx_iload_2, bx_bipush, bx_imul, bx_iinc5, bx_goto, bx_iinc4, bx_iload_3, bx_iret, f5, if_pos (show (n : Int) ≤ n by omega)]) n 0 (by omega) (fun j ls μ j0 j1 hI => by
    obtain ⟨⟨u, rfl⟩, W, rfl, w1, w2⟩ := hI
    left
    have f5 : W 5 0 = n := by rw [w1 5 (by decide) (by decide)]; exact x1
    have hTW : xT W := ⟨by rw [w1 _ (by decide) (by decide)]; exact x7, by rw [w1 _ (by decide) (by decide)]; exact x8, by rw [w1 _ (by decide) (by decide)]; exact hL, by rw [w1 _ (by decide) (by decide)]; exact hL6, fun c c0 c1 => by rw [w2 c c0 c1]; exact ttX_bd (x3 c c0 c1)⟩
    obtain ⟨B, r2, f2, tr2⟩ := x_trace (d := d + 2) (V := W) (j := j) hG hTW (by omega)
    have g2 : ∀ b, b ≠ 216 → ¬ (348 ≤ b ∧ b < 373) → B b = V b := fun b b1 b2 => (f2 b (by omega)).trans (w1 b b1 b2)
    have tB : B 349 = W 349 := f2 _ (by decide)
    have trB : trP V B (B 349) j := fun l hl => by
      have := tr2 l hl
      rw [tB]
      rw [w1 3 (by decide) (by decide), w1 4 (by decide) (by decide), w1 6 (by decide) (by decide)] at this
      exact this
    obtain ⟨E, r3, f3, g3⟩ := x_groups (d := d + 1) (A := B) (p := fun h => decide (¬ V 347 h = 0)) (N := N) (oc := fun k => lgF V (hoC V k) j) (n := n) hG (by rw [g2 5 (by decide) (by decide)]; exact x1) hn.2 (by rw [g2 344 (by decide) (by decide)]; exact hN) (by omega) (fun k k0 k1 => by rw [g2 347 (by decide) (by decide), decide_eq_true_eq]) (fun k m k0 k1 m0 m1 => lgF_bd (by omega)) (fun U k fu k0 k1 => by
      refine x_oc (d := d + 1) (V := V) (W := U) hG h hb (fun b b1 b2 => (fu b (by omega) (by omega)).trans (g2 b b1 b2)) (fun c c0 c1 => ?_) ?_ ⟨k0, by omega⟩
      · rw [fu _ (by decide) (by decide), tB]; exact w2 c c0 c1
      · intro l hl
        rw [fu (351 + l) (by omega) (by omega), fu 349 (by decide) (by decide)]
        exact trB l hl)
    have g4 : ∀ m, 0 ≤ m → m < (n : Int) → E 372 m = mxG V j m := fun m m0 m1 => by
      rw [g3 m m0 m1]
      unfold mxG
      rw [hN, Int.toNat_natCast]
    have e5 : E 5 0 = n := by rw [f3 5 (by decide) (by decide), g2 5 (by decide) (by decide)]; exact x1
    generalize hs : bsJ (mxG V) n j.toNat (V 344 3 + 1, -1) = s
    have lp := it_up (D := d + 6) (q := 408) (pc := 42) (loc := fun m => [xR 344, xI (V 217 3), xI (bsM (mxG V) j m.toNat s).1, xI (bsM (mxG V) j m.toNat s).2, xI j, xI m]) (F := fun _ => (E, G)) (hi := n) n 0 (by omega) (fun m m0 m1 => by
      rw [bk408_42, bsM_up m0]
      unfold bsS
      generalize bsM (mxG V) j m.toNat s = z
      by_cases q : mxG V j m < z.1
      · rw [if_pos q]
        simp (disch := first | omega | exact Nat.le_of_ble_eq_true rfl) only [bk408_0, bk408_82, bk408_88, bk408_94, Int.reduceToNat, vA_ap, Nat.reduceEqDiff, if_true, if_false, bx_nil, isL_I, isL_R, isL_U, if_ff, bind_some, tl_some, tl_none, bx_aload_0, bx_iload_1, cl405 hG, gf344_3 hG, bx_iconst, bx_iadd, bx_istore_2, bx_istore_3, bx_istore4, bx_iload4, gf344_0 hG, gf5_0 hG, bx_ic_ge, cl404 hG, cl409 hG, bx_istore5, bx_iload5, gf344_14 hG, ia372 hG, is372 hG, bx_iload_2, bx_bipush, bx_imul, bx_iinc5, bx_goto, bx_iinc4, bx_iload_3, bx_iret, e5, if_neg (show ¬ (n : Int) ≤ m by omega), g4 m m0 m1, if_neg (show ¬ z.1 ≤ mxG V j m by omega)]
      · rw [if_neg q]
        simp (disch := first | omega | exact Nat.le_of_ble_eq_true rfl) only [bk408_0, bk408_82, bk408_88, bk408_94, Int.reduceToNat, vA_ap, Nat.reduceEqDiff, if_true, if_false, bx_nil, isL_I, isL_R, isL_U, if_ff, bind_some, tl_some, tl_none, bx_aload_0, bx_iload_1, cl405 hG, gf344_3 hG, bx_iconst, bx_iadd, bx_istore_2, bx_istore_3, bx_istore4, bx_iload4, gf344_0 hG, gf5_0 hG, bx_ic_ge, cl404 hG, cl409 hG, bx_istore5, bx_iload5, gf344_14 hG, ia372 hG, is372 hG, bx_iload_2, bx_bipush, bx_imul, bx_iinc5, bx_goto, bx_iinc4, bx_iload_3, bx_iret, e5, if_neg (show ¬ (n : Int) ≤ m by omega), g4 m m0 m1, if_pos (show z.1 ≤ mxG V j m by omega)])
    refine ⟨_, _, ⟨⟨xI n, rfl⟩, E, rfl, fun b b1 b2 => (f3 b (by omega) (by omega)).trans (g2 b b1 b2), fun c c0 c1 => ?_⟩, ?_⟩
    · rw [f3 _ (by decide) (by decide), tB]; exact w2 c c0 c1
    · rw [bsJ_up j0, hs]
      have r2' : run (d + 5) 404 0 [xR 344, xI j, xU] [] (W, G) = some (none, (B, G)) := r2
      have r3' : run (d + 5) 409 0 [xR 344, xU, xU, xU] [] (B, G) = some (none, (E, G)) := r3
      have hst : run (d + 6) 408 17 [xR 344, xI (V 217 3), xI s.1, xI s.2, xI j, u] [] (W, G) = run (d + 6) 408 42 [xR 344, xI (V 217 3), xI s.1, xI s.2, xI j, xI 0] [] (E, G) := by
        rw [bk408_17]
        simp (disch := first | omega | exact Nat.le_of_ble_eq_true rfl) only [bk408_0, bk408_82, bk408_88, bk408_94, Int.reduceToNat, vA_ap, Nat.reduceEqDiff, if_true, if_false, bx_nil, isL_I, isL_R, isL_U, if_ff, bind_some, tl_some, tl_none, bx_aload_0, bx_iload_1, cl405 hG, gf344_3 hG, bx_iconst, bx_iadd, bx_istore_2, bx_istore_3, bx_istore4, bx_iload4, gf344_0 hG, gf5_0 hG, bx_ic_ge, cl404 hG, cl409 hG, bx_istore5, bx_iload5, gf344_14 hG, ia372 hG, is372 hG, bx_iload_2, bx_bipush, bx_imul, bx_iinc5, bx_goto, bx_iinc4, bx_iload_3, bx_iret, f5, if_neg (show ¬ (n : Int) ≤ j by omega), r2', r3']
      have e0 : bsM (mxG V) j (0 : Int).toNat s = s := rfl
      rw [e0] at lp
      rw [hst, lp, Int.toNat_natCast, bk408_42]
      simp (disch := first | omega | exact Nat.le_of_ble_eq_true rfl) only [bk408_0, bk408_82, bk408_88, bk408_94, Int.reduceToNat, vA_ap, Nat.reduceEqDiff, if_true, if_false, bx_nil, isL_I, isL_R, isL_U, if_ff, bind_some, tl_some, tl_none, bx_aload_0, bx_iload_1, cl405 hG, gf344_3 hG, bx_iconst, bx_iadd, bx_istore_2, bx_istore_3, bx_istore4, bx_iload4, gf344_0 hG, gf5_0 hG, bx_ic_ge, cl404 hG, cl409 hG, bx_istore5, bx_iload5, gf344_14 hG, ia372 hG, is372 hG, bx_iload_2, bx_bipush, bx_imul, bx_iinc5, bx_goto, bx_iinc4, bx_iload_3, bx_iret, e5, if_pos (show (n : Int) ≤ n by omega)])
  have e344 : A 344 = V 344 := f0 _ (by decide) (by decide) (by decide)
  have hst : run (d + 6) 408 0 [xR 344, xI (V 217 3), xU, xU, xU, xU] [] (V, G) = run (d + 6) 408 17 [xR 344, xI (V 217 3), xI (V 344 3 + 1), xI (-1), xI 0, xU] [] (A, G) := by
    simp (disch := first | omega | exact Nat.le_of_ble_eq_true rfl) only [bk408_0, bk408_82, bk408_88, bk408_94, Int.reduceToNat, vA_ap, Nat.reduceEqDiff, if_true, if_false, bx_nil, isL_I, isL_R, isL_U, if_ff, bind_some, tl_some, tl_none, bx_aload_0, bx_iload_1, cl405 hG, gf344_3 hG, bx_iconst, bx_iadd, bx_istore_2, bx_istore_3, bx_istore4, bx_iload4, gf344_0 hG, gf5_0 hG, bx_ic_ge, cl404 hG, cl409 hG, bx_istore5, bx_iload5, gf344_14 hG, ia372 hG, is372 hG, bx_iload_2, bx_bipush, bx_imul, bx_iinc5, bx_goto, bx_iinc4, bx_iload_3, bx_iret, r0, e344]
  rw [hst]
  exact hl _ _ ⟨⟨xU, rfl⟩, A, rfl, fun b b1 b2 => f0 b b1 (by omega) (by omega), t0⟩
/-- the reference's greatest group at one probe -/
theorem m_grp {W : Nat → Int → Int} {j m s1 s2 : Int} {u v : XV} (hG : Good n L G) (h : Inv n V) (hb : ¬ V 344 2 = 0) (fr : frP V W) (e376 : W 376 = V 376) (eh : W 409 = V 409) (hlg : ∀ l, (n : Int) ≤ l → l < 6 → W 385 l = 0) (hj : 0 ≤ j ∧ j < (n : Int)) (hm : 0 ≤ m ∧ m < (n : Int)) : ∃ U u' v', run (d + 6) 1159 49 [xR 376, xI s2, xI s1, xI j, xI m, xI 0, u, v] [] (W, G) = run (d + 6) 1159 147 [xR 376, xI s2, xI s1, xI j, xI m, xI (mxG V j m), u', v'] [] (U, G) ∧ (∀ b, b ≠ 383 → b ≠ 384 → b ≠ 385 → b ≠ 410 → U b = W b) ∧ (∀ l, (n : Int) ≤ l → l < 6 → U 385 l = 0) := by
  obtain ⟨p1, p2, p3⟩ := h.prb
  obtain ⟨q1, q2, q3, q4, q5, q6, q7, q8, q9⟩ := p3 (by omega)
  obtain ⟨c1, c2, c3⟩ := held_cnt h.prb hb
  obtain ⟨N, hN⟩ : ∃ N : Nat, V 344 3 = N := ⟨(V 344 3).toNat, by omega⟩
  have l1 := it_up (D := d + 6) (q := 1159) (pc := 49) (loc := fun k => [xR 376, xI s2, xI s1, xI j, xI m, xI k, u, v]) (F := fun k => (vA W 410 (fl (W 410) (fun _ => 0) 0 k), G)) (hi := 97) 97 0 (by omega) (fun k k0 k1 => by
    rw [bk1159_49, ← fl_up k0]
    simp (disch := first | omega | exact Nat.le_of_ble_eq_true rfl) only [bk1159_0, bk1159_15, bk1159_18, bk1159_70, bk1159_98, bk1159_141, bk1159_147, bk1159_156, bk1159_167, bk1159_173, bk1159_179, Int.reduceToNat, vA_ap, Nat.reduceEqDiff, if_true, if_false, bx_nil, isL_I, isL_R, isL_U, if_ff, bind_some, tl_some, tl_none, bx_aload_0, gf376_50 hG, bx_if_eq, bx_iconst, cl1158 hG, bx_if_ne, bx_bipush, bx_iret, bx_istore_1, bx_sipush, bx_istore_2, bx_istore_3, bx_iload_3, gf376_0 hG, bx_ic_ge, bx_istore4, bx_iload4, bx_istore5, bx_iload5, gf376_51 hG, ia410 hG, is410 hG, bx_iinc5, bx_goto, bx_istore6, bx_iload6, gf376_48 hG, gf376_46 hG, ia409 hG, is409 hG, cl1156 hG, bx_istore7, bx_iload7, bx_dup2, bx_iadd, bx_ic_le, bx_iinc6, bx_iload_2, bx_ic_lt, bx_imul, bx_iinc4, bx_iinc3, bx_iload_1, if_neg (show ¬ 97 ≤ k by omega), vA_vA])
  rw [fl_nil, vA_self] at l1
  obtain ⟨A, hA⟩ : ∃ A, A = vA W 410 (fl (W 410) (fun _ => 0) 0 97) := ⟨_, rfl⟩
  rw [← hA] at l1
  have l2 := it_inv (D := d + 6) (q := 1159) (pc := 76) (hi := N) (I := fun k ls μ => (∃ v', ls = [xR 376, xI s2, xI s1, xI j, xI m, xI (gF (fun h => decide (¬ V 347 h = 0)) (fun h => lgF V (hoC V h) j m) k.toNat).2, xI k, v']) ∧ ∃ U, μ = (U, G) ∧ (∀ b, b ≠ 383 → b ≠ 384 → b ≠ 385 → b ≠ 410 → U b = W b) ∧ (∀ l, (n : Int) ≤ l → l < 6 → U 385 l = 0) ∧ ∀ z, 0 ≤ z → z < 97 → U 410 z = (gF (fun h => decide (¬ V 347 h = 0)) (fun h => lgF V (hoC V h) j m) k.toNat).1 z) (Q := fun y => ∃ U u' v', y = run (d + 6) 1159 147 [xR 376, xI s2, xI s1, xI j, xI m, xI (mxG V j m), u', v'] [] (U, G) ∧ (∀ b, b ≠ 383 → b ≠ 384 → b ≠ 385 → b ≠ 410 → U b = W b) ∧ (∀ l, (n : Int) ≤ l → l < 6 → U 385 l = 0)) (fun ls μ hI => by
    obtain ⟨⟨v', rfl⟩, U, rfl, u1, u2, u3⟩ := hI
    have f376 : U 376 = V 376 := (u1 _ (by decide) (by decide) (by decide) (by decide)).trans e376
    refine ⟨U, xI N, v', ?_, u1, u2⟩
    unfold mxG
    rw [bk1159_76, hN]
    simp (disch := first | omega | exact Nat.le_of_ble_eq_true rfl) only [bx_iload6, bx_aload_0, gf376_48 hG, f376, q1, hN, bx_ic_ge, if_pos (show (N : Int) ≤ N by omega), Int.reduceToNat]) N 0 (by omega) (fun k ls μ k0 k1 hI => by
    obtain ⟨⟨v', rfl⟩, U, rfl, u1, u2, u3⟩ := hI
    left
    have f376 : U 376 = V 376 := (u1 _ (by decide) (by decide) (by decide) (by decide)).trans e376
    have fh : U 409 k = V 347 k := by rw [u1 _ (by decide) (by decide) (by decide) (by decide), eh]; exact (q8 k k0 (by omega)).1
    have hup := gF_up (p := fun h => decide (¬ V 347 h = 0)) (val := fun h => lgF V (hoC V h) j m) k0
    by_cases q : V 347 k = 0
    · rw [if_neg (by simp [q])] at hup
      refine ⟨_, _, ⟨⟨v', rfl⟩, U, rfl, u1, u2, by rw [hup]; exact u3⟩, ?_⟩
      rw [bk1159_76, hup]
      simp (disch := first | omega | exact Nat.le_of_ble_eq_true rfl) only [bk1159_0, bk1159_15, bk1159_18, bk1159_70, bk1159_98, bk1159_141, bk1159_147, bk1159_156, bk1159_167, bk1159_173, bk1159_179, Int.reduceToNat, vA_ap, Nat.reduceEqDiff, if_true, if_false, bx_nil, isL_I, isL_R, isL_U, if_ff, bind_some, tl_some, tl_none, bx_aload_0, gf376_50 hG, bx_if_eq, bx_iconst, cl1158 hG, bx_if_ne, bx_bipush, bx_iret, bx_istore_1, bx_sipush, bx_istore_2, bx_istore_3, bx_iload_3, gf376_0 hG, bx_ic_ge, bx_istore4, bx_iload4, bx_istore5, bx_iload5, gf376_51 hG, ia410 hG, is410 hG, bx_iinc5, bx_goto, bx_istore6, bx_iload6, gf376_48 hG, gf376_46 hG, ia409 hG, is409 hG, cl1156 hG, bx_istore7, bx_iload7, bx_dup2, bx_iadd, bx_ic_le, bx_iinc6, bx_iload_2, bx_ic_lt, bx_imul, bx_iinc4, bx_iinc3, bx_iload_1, f376, q1, hN, if_neg (show ¬ (N : Int) ≤ k by omega), fh, if_pos q]
    · rw [if_pos (by simp [q])] at hup
      have hv := lgF_bd (V := V) (O := hoC V k) (j := j) (m := m) (by have := h.nn; omega)
      have hbd := gF_bd (p := fun h => decide (¬ V 347 h = 0)) (val := fun h => lgF V (hoC V h) j m) k.toNat
      obtain ⟨E, o1, o2, o3⟩ := m_ct (d := d) (W := U) (h := k) (j := j) (m := m) hG h hb (fun b b0 b1 b2 b3 b4 b5 b6 b7 => (u1 b b3 b4 b5 b7).trans (fr b b0 b1 b2 b3 b4 b5 b6 b7)) f376 u2 ⟨k0, by omega⟩ hj hm
      have fg : E 410 = U 410 := o2 _ (by decide) (by decide) (by decide)
      rw [hup]
      unfold gS
      generalize gF (fun h => decide (¬ V 347 h = 0)) (fun h => lgF V (hoC V h) j m) k.toNat = g at *
      generalize hvv : lgF V (hoC V k) j m = w at *
      have hgw := u3 w hv.1 (by omega)
      have hbw := hbd.1 w
      refine ⟨_, _, ⟨⟨xI w, rfl⟩, vA E 410 (vU (U 410) w (U 410 w + 1)), rfl, fun b b1 b2 b3 b4 => ?_, fun l l0 l1 => ?_, fun z z0 z1 => ?_⟩, ?_⟩
      · rw [vA_ne b4]; exact (o2 b b1 b2 b3).trans (u1 b b1 b2 b3 b4)
      · rw [vA_ne (by decide)]; exact o3 l l0 l1
      · rw [vA_same]
        show _ = vU g.1 w (g.1 w + 1) z
        by_cases e : z = w
        · rw [e, vU_at, vU_at, hgw]
        · rw [vU_ne e, vU_ne e]; exact u3 z z0 z1
      · rw [bk1159_76]
        by_cases y : g.2 < g.1 w + 1
        · rw [if_pos y]
          simp (disch := first | omega | exact Nat.le_of_ble_eq_true rfl) only [bk1159_0, bk1159_15, bk1159_18, bk1159_70, bk1159_98, bk1159_141, bk1159_147, bk1159_156, bk1159_167, bk1159_173, bk1159_179, Int.reduceToNat, vA_ap, Nat.reduceEqDiff, if_true, if_false, bx_nil, isL_I, isL_R, isL_U, if_ff, bind_some, tl_some, tl_none, bx_aload_0, gf376_50 hG, bx_if_eq, bx_iconst, cl1158 hG, bx_if_ne, bx_bipush, bx_iret, bx_istore_1, bx_sipush, bx_istore_2, bx_istore_3, bx_iload_3, gf376_0 hG, bx_ic_ge, bx_istore4, bx_iload4, bx_istore5, bx_iload5, gf376_51 hG, ia410 hG, is410 hG, bx_iinc5, bx_goto, bx_istore6, bx_iload6, gf376_48 hG, gf376_46 hG, ia409 hG, is409 hG, cl1156 hG, bx_istore7, bx_iload7, bx_dup2, bx_iadd, bx_ic_le, bx_iinc6, bx_iload_2, bx_ic_lt, bx_imul, bx_iinc4, bx_iinc3, bx_iload_1, f376, q1, hN, if_neg (show ¬ (N : Int) ≤ k by omega), fh, if_neg q, o1, fg, hgw, vU_at, if_neg (show ¬ g.1 w + 1 ≤ g.2 by omega)]
        · rw [if_neg y]
          simp (disch := first | omega | exact Nat.le_of_ble_eq_true rfl) only [bk1159_0, bk1159_15, bk1159_18, bk1159_70, bk1159_98, bk1159_141, bk1159_147, bk1159_156, bk1159_167, bk1159_173, bk1159_179, Int.reduceToNat, vA_ap, Nat.reduceEqDiff, if_true, if_false, bx_nil, isL_I, isL_R, isL_U, if_ff, bind_some, tl_some, tl_none, bx_aload_0, gf376_50 hG, bx_if_eq, bx_iconst, cl1158 hG, bx_if_ne, bx_bipush, bx_iret, bx_istore_1, bx_sipush, bx_istore_2, bx_istore_3, bx_iload_3, gf376_0 hG, bx_ic_ge, bx_istore4, bx_iload4, bx_istore5, bx_iload5, gf376_51 hG, ia410 hG, is410 hG, bx_iinc5, bx_goto, bx_istore6, bx_iload6, gf376_48 hG, gf376_46 hG, ia409 hG, is409 hG, cl1156 hG, bx_istore7, bx_iload7, bx_dup2, bx_iadd, bx_ic_le, bx_iinc6, bx_iload_2, bx_ic_lt, bx_imul, bx_iinc4, bx_iinc3, bx_iload_1, f376, q1, hN, if_neg (show ¬ (N : Int) ≤ k by omega), fh, if_neg q, o1, fg, hgw, vU_at, if_pos (show g.1 w + 1 ≤ g.2 by omega)])
  have hst : run (d + 6) 1159 49 [xR 376, xI s2, xI s1, xI j, xI m, xI 0, u, v] [] (W, G) = run (d + 6) 1159 76 [xR 376, xI s2, xI s1, xI j, xI m, xI 0, xI 0, v] [] (A, G) := by
    rw [l1, bk1159_49]
    simp (disch := first | omega | exact Nat.le_of_ble_eq_true rfl) only [bk1159_0, bk1159_15, bk1159_18, bk1159_70, bk1159_98, bk1159_141, bk1159_147, bk1159_156, bk1159_167, bk1159_173, bk1159_179, Int.reduceToNat, vA_ap, Nat.reduceEqDiff, if_true, if_false, bx_nil, isL_I, isL_R, isL_U, if_ff, bind_some, tl_some, tl_none, bx_aload_0, gf376_50 hG, bx_if_eq, bx_iconst, cl1158 hG, bx_if_ne, bx_bipush, bx_iret, bx_istore_1, bx_sipush, bx_istore_2, bx_istore_3, bx_iload_3, gf376_0 hG, bx_ic_ge, bx_istore4, bx_iload4, bx_istore5, bx_iload5, gf376_51 hG, ia410 hG, is410 hG, bx_iinc5, bx_goto, bx_istore6, bx_iload6, gf376_48 hG, gf376_46 hG, ia409 hG, is409 hG, cl1156 hG, bx_istore7, bx_iload7, bx_dup2, bx_iadd, bx_ic_le, bx_iinc6, bx_iload_2, bx_ic_lt, bx_imul, bx_iinc4, bx_iinc3, bx_iload_1, if_pos (show (97 : Int) ≤ 97 by omega)]
  rw [hst]
  refine l2 _ _ ⟨⟨v, rfl⟩, A, rfl, fun b b1 b2 b3 b4 => by rw [hA, vA_ne b4], fun l l0 l1 => ?_, fun z z0 z1 => ?_⟩
  · rw [hA, vA_ne (by decide)]; exact hlg l l0 l1
  · rw [hA, vA_same, fl_in z0 z1]; rfl
end NX2
