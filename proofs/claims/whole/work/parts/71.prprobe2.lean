/-! PROBE: the pair -/
theorem cn_sum {p q r : Int → Bool} : ∀ (N : Nat), (∀ k, 0 ≤ k → k < (N : Int) → (if p k = true then (1 : Int) else 0) = (if q k = true then 1 else 0) + (if r k = true then 1 else 0)) → cn p N = cn q N + cn r N
  | 0, _ => rfl
  | N + 1, h => by
    rw [show (((N + 1 : Nat)) : Int) = (N : Int) + 1 by omega, cn_up (by omega), cn_up (by omega), cn_up (by omega), cn_sum N (fun k k0 k1 => h k k0 (by omega)), h N (by omega) (by omega)]
    omega
section PR4
variable {n L d : Nat} {G : XG} {V : Nat → Int → Int}
theorem m_ct {W : Nat → Int → Int} {h j m : Int} (hG : Good n L G) (hI : Inv n V) (hb : ¬ V 344 2 = 0) (fr : frP V W) (e376 : W 376 = V 376) (hlg : ∀ l, (n : Int) ≤ l → l < 6 → W 385 l = 0) (hh : 0 ≤ h ∧ h < V 344 3) (hj : 0 ≤ j ∧ j < (n : Int)) (hm : 0 ≤ m ∧ m < (n : Int)) : ∃ U, run (d + 5) 1156 0 [xR 376, xI h, xI j, xI m, xU] [] (W, G) = some (some (xI (lgF V (hoC V h) j m)), (U, G)) ∧ (∀ b, b ≠ 383 → b ≠ 384 → b ≠ 385 → U b = W b) ∧ (∀ l, (n : Int) ≤ l → l < 6 → U 385 l = 0) := by
  have hn := hI.nn
  obtain ⟨c1, c2, c3⟩ := held_cnt hI.prb hb
  have hB : mB n W := by
    obtain ⟨a1, a2, a3, a4, a5, a6, a7, a8, a9⟩ := hI.mb
    refine ⟨?_, a2, ?_, ?_, ?_, ?_, ?_, ?_, hlg⟩
    · rw [e376]; exact a1
    · rw [fr _ (by decide) (by decide) (by decide) (by decide) (by decide) (by decide) (by decide) (by decide)]; exact a3
    · rw [fr _ (by decide) (by decide) (by decide) (by decide) (by decide) (by decide) (by decide) (by decide)]; exact a4
    · rw [fr _ (by decide) (by decide) (by decide) (by decide) (by decide) (by decide) (by decide) (by decide)]; exact a5
    · rw [e376]; exact a6
    · rw [fr _ (by decide) (by decide) (by decide) (by decide) (by decide) (by decide) (by decide) (by decide)]; exact a7
    · rw [fr _ (by decide) (by decide) (by decide) (by decide) (by decide) (by decide) (by decide) (by decide)]; exact a8
  have hfm : ∀ b, b = 404 ∨ b = 405 ∨ b = 406 ∨ b = 407 ∨ b = 379 ∨ b = 380 ∨ b = 377 ∨ b = 378 ∨ (212 ≤ b ∧ b < 216) → W b = V b := fun b hb => fr b (by omega) (by omega) (by omega) (by omega) (by omega) (by omega) (by omega) (by omega)
  have hf : fndP n W := by
    have := hI.fnd
    unfold fndP at *
    rw [hfm 212 (by omega), hfm 213 (by omega), hfm 214 (by omega), hfm 215 (by omega), e376, hfm 404 (by omega), hfm 405 (by omega), hfm 406 (by omega)]
    exact this
  have hkn : ∀ k r, knM W k r = knM V k r := fun k r => knM_fr2 e376 (hfm _ (by omega)) (hfm _ (by omega)) (hfm _ (by omega))
  obtain ⟨y1, y2⟩ := hyp_bd hI.prb hb hh
  obtain ⟨U, T, u0, u1, u2, u3, u4, u5, u6⟩ := m_comesTo (d := d) (V := W) (h := h) (j := j) (m := m) hG hB hf (by rw [hfm 212 (by omega)]; exact hI.ent.2.2) (by rw [e376, hI.rns.1]; exact hI.rns.2.1) (by
    rcases y2 with ⟨z1, z2⟩ | ⟨z1, _, _, z2, z3, z4⟩
    · exact Or.inl z1
    · right
      rw [hfm 407 (by omega), z3]
      exact ⟨by omega, ix_bd z2⟩) hj hm
  have hq := ct_eq (U := U) (T := T) (h := h) (j := j) (g := entM n W j 385) (fun l l0 l1 => by
    show (if 0 ≤ l ∧ l < (n : Int) then (if l = j then (1 : Int) else 0) else W 385 l) = (if l = j then (1 : Int) else 0)
    rw [if_pos ⟨l0, l1⟩]) hI hb hh (by rw [u3, hfm 377 (by omega), hfm 378 (by omega)]) (by rw [u4, e376]) (by rw [u5, hfm 380 (by omega)]) (fun k k0 k1 => by
    rw [(u6 k k0 k1).1, (u6 k k0 k1).2, hkn, e376, hfm 379 (by omega), hfm 407 (by omega)]
    exact ⟨rfl, rfl⟩)
  rw [← hq m hm.1 hm.2] at u0
  exact ⟨U, u0, u1, u2⟩
theorem m_probe_lp {W0 : Nat → Int → Int} {j m seen : Int} {N : Nat} (hG : Good n L G) (hI : Inv n V) (hb : ¬ V 344 2 = 0) (hN : V 344 3 = N) (hN2 : N ≤ 145) (fr : frP V W0) (e376 : W0 376 = V 376) (hlg : ∀ l, (n : Int) ≤ l → l < 6 → W0 385 l = 0) (hE : W0 409 = V 409) (hj : 0 ≤ j ∧ j < (n : Int)) (hm : 0 ≤ m ∧ m < (n : Int)) (hpb : 0 ≤ V 376 49 ∧ V 376 49 < 20) : ∃ U, run (d + 6) 1155 64 [xR 376, xI j, xI m, xI seen, xI 0] [] (W0, G) = some (some (xI seen), (U, G)) ∧ (∀ b, b ≠ 376 → b ≠ 383 → b ≠ 384 → b ≠ 385 → b ≠ 409 → U b = W0 b) ∧ U 376 = vU (V 376) 49 (V 376 49 + 1) ∧ (∀ l, (n : Int) ≤ l → l < 6 → U 385 l = 0) ∧ ∀ k, 0 ≤ k → k < (N : Int) → U 409 k = if ¬ V 347 k = 0 ∧ ¬ lgF V (hoC V k) j m = seen then 0 else V 347 k := by
  obtain ⟨p1, p2, p3⟩ := hI.prb
  obtain ⟨q1, q2, q3, q4, q5, q6, q7, q8, q9⟩ := p3 (by omega)
  have hl := it_inv (D := d + 6) (q := 1155) (pc := 64) (hi := N) (I := fun h ls μ => ls = [xR 376, xI j, xI m, xI seen, xI h] ∧ ∃ W, μ = (W, G) ∧ (∀ b, b ≠ 383 → b ≠ 384 → b ≠ 385 → b ≠ 409 → W b = W0 b) ∧ (∀ l, (n : Int) ≤ l → l < 6 → W 385 l = 0) ∧ (∀ k, 0 ≤ k → k < h → W 409 k = if ¬ V 347 k = 0 ∧ ¬ lgF V (hoC V k) j m = seen then 0 else V 347 k) ∧ ∀ k, h ≤ k → k < (N : Int) → W 409 k = V 347 k) (Q := fun y => ∃ U, y = some (some (xI seen), (U, G)) ∧ (∀ b, b ≠ 376 → b ≠ 383 → b ≠ 384 → b ≠ 385 → b ≠ 409 → U b = W0 b) ∧ U 376 = vU (V 376) 49 (V 376 49 + 1) ∧ (∀ l, (n : Int) ≤ l → l < 6 → U 385 l = 0) ∧ ∀ k, 0 ≤ k → k < (N : Int) → U 409 k = if ¬ V 347 k = 0 ∧ ¬ lgF V (hoC V k) j m = seen then 0 else V 347 k) (fun ls μ hI2 => by
    obtain ⟨rfl, W, rfl, w1, w2, w3, w4⟩ := hI2
    have f376 : W 376 = V 376 := (w1 _ (by decide) (by decide) (by decide) (by decide)).trans e376
    refine ⟨vA W 376 (vU (V 376) 49 (V 376 49 + 1)), ?_, fun b b0 b1 b2 b3 b4 => ?_, vA_same _ _ _, fun l l0 l1 => ?_, fun k k0 k1 => ?_⟩
    · rw [bk1155_64]
      simp (disch := first | omega | exact Nat.le_of_ble_eq_true rfl) only [bk1155_0, bk1155_16, bk1155_18, bk1155_28, bk1155_40, bk1155_105, bk1155_106, bk1155_107, bk1155_113, Int.reduceToNat, vA_ap, Nat.reduceEqDiff, if_true, if_false, bx_nil, isL_I, isL_R, isL_U, if_ff, bind_some, tl_some, tl_none, bx_aload_0, bx_iload_1, cl1115 hG, bx_if_eq, bx_iload_2, bx_if_ne, bx_iconst, bx_iret, gf376_50 hG, bx_bipush, gf376_49 hG, bx_ic_ne, cl1110 hG, cl1116 hG, cl1117 hG, gf376_10 hG, ia385 hG, is385 hG, bx_istore_3, bx_istore4, bx_iload4, gf376_48 hG, bx_ic_ge, gf376_46 hG, ia409 hG, is409 hG, cl1156 hG, bx_iload_3, bx_goto, bx_iinc4, bx_dupI, bx_dupR, bx_iadd, pf376_49 hG, f376, q1, hN, if_pos (show (N : Int) ≤ N by omega)]
    · rw [vA_ne b0]; exact w1 b b1 b2 b3 b4
    · rw [vA_ne (by decide)]; exact w2 l l0 l1
    · rw [vA_ne (by decide)]; exact w3 k k0 k1) N 0 (by omega) (fun h ls μ h1 h2 hI2 => by
    obtain ⟨rfl, W, rfl, w1, w2, w3, w4⟩ := hI2
    left
    have f376 : W 376 = V 376 := (w1 _ (by decide) (by decide) (by decide) (by decide)).trans e376
    have frW : frP V W := fun b b0 b1 b2 b3 b4 b5 b6 b7 => (w1 b b3 b4 b5 b6).trans (fr b b0 b1 b2 b3 b4 b5 b6 b7)
    have eh := w4 h (by omega) h2
    by_cases q : V 347 h = 0
    · have qn : ¬ (¬ V 347 h = 0 ∧ ¬ lgF V (hoC V h) j m = seen) := fun y => y.1 q
      refine ⟨_, _, ⟨rfl, W, rfl, w1, w2, fun k k0 k1 => ?_, fun k k0 k1 => w4 k (by omega) k1⟩, ?_⟩
      · by_cases e : k = h
        · rw [e, if_neg qn, eh]
        · exact w3 k k0 (by omega)
      · rw [bk1155_64]
        simp (disch := first | omega | exact Nat.le_of_ble_eq_true rfl) only [bk1155_0, bk1155_16, bk1155_18, bk1155_28, bk1155_40, bk1155_105, bk1155_106, bk1155_107, bk1155_113, Int.reduceToNat, vA_ap, Nat.reduceEqDiff, if_true, if_false, bx_nil, isL_I, isL_R, isL_U, if_ff, bind_some, tl_some, tl_none, bx_aload_0, bx_iload_1, cl1115 hG, bx_if_eq, bx_iload_2, bx_if_ne, bx_iconst, bx_iret, gf376_50 hG, bx_bipush, gf376_49 hG, bx_ic_ne, cl1110 hG, cl1116 hG, cl1117 hG, gf376_10 hG, ia385 hG, is385 hG, bx_istore_3, bx_istore4, bx_iload4, gf376_48 hG, bx_ic_ge, gf376_46 hG, ia409 hG, is409 hG, cl1156 hG, bx_iload_3, bx_goto, bx_iinc4, bx_dupI, bx_dupR, bx_iadd, pf376_49 hG, f376, q1, hN, if_neg (show ¬ (N : Int) ≤ h by omega), eh, if_pos q]
    · have q' : V 347 h = 1 := (q8 h h1 (by omega)).2.resolve_left q
      obtain ⟨U, u0, u1, u2⟩ := m_ct (d := d) (W := W) (h := h) (j := j) (m := m) hG hI hb frW f376 w2 ⟨h1, by omega⟩ hj hm
      have fh : U 409 = W 409 := u1 _ (by decide) (by decide) (by decide)
      have hbs : ∀ x : Int, (x = 0 ∨ x = 1) → x = (if ¬ V 347 h = 0 ∧ ¬ lgF V (hoC V h) j m = seen then 0 else V 347 h) → (∀ k, 0 ≤ k → k < h + 1 → vU (W 409) h x k = if ¬ V 347 k = 0 ∧ ¬ lgF V (hoC V k) j m = seen then 0 else V 347 k) ∧ ∀ k, h + 1 ≤ k → k < (N : Int) → vU (W 409) h x k = V 347 k := fun x _ hx => by
        refine ⟨fun k k0 k1 => ?_, fun k k0 k1 => ?_⟩
        · by_cases e : k = h
          · rw [e, vU_at]; exact hx
          · rw [vU_ne e]; exact w3 k k0 (by omega)
        · rw [vU_ne (by omega)]; exact w4 k (by omega) k1
      by_cases q2 : lgF V (hoC V h) j m = seen
      · obtain ⟨y1, y2⟩ := hbs 1 (Or.inr rfl) (by rw [if_neg (fun y => y.2 q2)]; exact q'.symm)
        refine ⟨_, _, ⟨rfl, vA U 409 (vU (W 409) h 1), rfl, fun b b1 b2 b3 b4 => ?_, fun l l0 l1 => ?_, fun k k0 k1 => ?_, fun k k0 k1 => ?_⟩, ?_⟩
        · rw [vA_ne b4]; exact (u1 b b1 b2 b3).trans (w1 b b1 b2 b3 b4)
        · rw [vA_ne (by decide)]; exact u2 l l0 l1
        · rw [vA_same]; exact y1 k k0 k1
        · rw [vA_same]; exact y2 k k0 k1
        · rw [bk1155_64]
          simp (disch := first | omega | exact Nat.le_of_ble_eq_true rfl) only [bk1155_0, bk1155_16, bk1155_18, bk1155_28, bk1155_40, bk1155_105, bk1155_106, bk1155_107, bk1155_113, Int.reduceToNat, vA_ap, Nat.reduceEqDiff, if_true, if_false, bx_nil, isL_I, isL_R, isL_U, if_ff, bind_some, tl_some, tl_none, bx_aload_0, bx_iload_1, cl1115 hG, bx_if_eq, bx_iload_2, bx_if_ne, bx_iconst, bx_iret, gf376_50 hG, bx_bipush, gf376_49 hG, bx_ic_ne, cl1110 hG, cl1116 hG, cl1117 hG, gf376_10 hG, ia385 hG, is385 hG, bx_istore_3, bx_istore4, bx_iload4, gf376_48 hG, bx_ic_ge, gf376_46 hG, ia409 hG, is409 hG, cl1156 hG, bx_iload_3, bx_goto, bx_iinc4, bx_dupI, bx_dupR, bx_iadd, pf376_49 hG, f376, q1, hN, if_neg (show ¬ (N : Int) ≤ h by omega), eh, if_neg q, u0, if_pos q2, fh, is409 hG (Or.inr rfl : (1 : Int) = 0 ∨ (1 : Int) = 1)]
      · obtain ⟨y1, y2⟩ := hbs 0 (Or.inl rfl) (by rw [if_pos ⟨q, q2⟩])
        refine ⟨_, _, ⟨rfl, vA U 409 (vU (W 409) h 0), rfl, fun b b1 b2 b3 b4 => ?_, fun l l0 l1 => ?_, fun k k0 k1 => ?_, fun k k0 k1 => ?_⟩, ?_⟩
        · rw [vA_ne b4]; exact (u1 b b1 b2 b3).trans (w1 b b1 b2 b3 b4)
        · rw [vA_ne (by decide)]; exact u2 l l0 l1
        · rw [vA_same]; exact y1 k k0 k1
        · rw [vA_same]; exact y2 k k0 k1
        · rw [bk1155_64]
          simp (disch := first | omega | exact Nat.le_of_ble_eq_true rfl) only [bk1155_0, bk1155_16, bk1155_18, bk1155_28, bk1155_40, bk1155_105, bk1155_106, bk1155_107, bk1155_113, Int.reduceToNat, vA_ap, Nat.reduceEqDiff, if_true, if_false, bx_nil, isL_I, isL_R, isL_U, if_ff, bind_some, tl_some, tl_none, bx_aload_0, bx_iload_1, cl1115 hG, bx_if_eq, bx_iload_2, bx_if_ne, bx_iconst, bx_iret, gf376_50 hG, bx_bipush, gf376_49 hG, bx_ic_ne, cl1110 hG, cl1116 hG, cl1117 hG, gf376_10 hG, ia385 hG, is385 hG, bx_istore_3, bx_istore4, bx_iload4, gf376_48 hG, bx_ic_ge, gf376_46 hG, ia409 hG, is409 hG, cl1156 hG, bx_iload_3, bx_goto, bx_iinc4, bx_dupI, bx_dupR, bx_iadd, pf376_49 hG, f376, q1, hN, if_neg (show ¬ (N : Int) ≤ h by omega), eh, if_neg q, u0, if_neg q2, fh, is409 hG (Or.inl rfl : (0 : Int) = 0 ∨ (0 : Int) = 1)])
  exact hl _ _ ⟨rfl, W0, rfl, fun _ _ _ _ _ => rfl, hlg, fun k k0 k1 => by omega, fun k k0 k1 => by rw [hE]; exact (q8 k k0 (by omega)).1⟩
/-- the reference's light by offsets as they are -/
theorem m_seen {W : Nat → Int → Int} {j : Int} (hG : Good n L G) (hI : Inv n V) (fr : ∀ b, 376 ≤ b → W b = V b) (hj : 0 ≤ j ∧ j < (n : Int)) : eqn n (lgF V (V 9) j) (goM n (entM n (nowM W) j) 1 385) := by
  have hn := hI.nn
  unfold goM
  rw [vA_same]
  have e1 : ∀ b, b ≠ 385 → b ≠ 383 → b ≠ 384 → 376 ≤ b → entM n (nowM W) j b = V b := fun b b1 b2 b3 b4 => by
    unfold entM nowM
    rw [vA_ne b1, vA_ne b3, vA_ne b2]; exact fr b b4
  unfold lgF
  rw [e1 377 (by decide) (by decide) (by decide) (by decide), e1 378 (by decide) (by decide) (by decide) (by decide), ← hI.cc, ← hI.ss]
  refine go_eq hn hI.lan (SX := V 8) (by rw [e1 _ (by decide) (by decide) (by decide) (by decide)]; exact hI.stk) (BX := V 7) (plcP_cong hI.set (fun k k0 k1 => ?_)) (OX := V 9) (fun c c0 c1 => ?_) (cr := V 5 6) ?_ (fun c c0 c1 => rfl) (fun l l0 l1 => ?_)
  · show (if 0 ≤ k ∧ k < 72 then W 379 k else W 383 k) = _
    rw [if_pos ⟨k0, k1⟩, fr _ (by decide)]
  · show _ = (if 0 ≤ ix c ∧ ix c < 72 then W 382 (ix c) else W 384 (ix c))
    rw [if_pos (ix_bd ⟨c0, c1⟩), fr _ (by decide)]
    exact hI.off.1 c c0 c1
  · rw [e1 _ (by decide) (by decide) (by decide) (by decide)]; exact hI.cre.1
  · show (if l = j then (1 : Int) else 0) = (if 0 ≤ l ∧ l < (n : Int) then (if l = j then (1 : Int) else 0) else nowM W 385 l)
    exact (if_pos (And.intro l0 l1)).symm
theorem pr_probe {j m : Int} (hG : Good n L G) (h : Inv n V) : pair n G V 1028 1155 [xR 1, xI j, xI m] [xR 376, xI j, xI m, xU, xU] := by
  have hn := h.nn
  obtain ⟨p1, p2, p3⟩ := h.prb
  by_cases a : 0 ≤ j ∧ j < (n : Int)
  · by_cases b : 0 ≤ m ∧ m < (n : Int)
    · by_cases c : V 344 2 = 0
      · refine mkpair (r := -3) (V' := V) (V'' := V) ?_ ?_ h
        · simp (disch := first | omega | exact Nat.le_of_ble_eq_true rfl) only [bk1028_0, bk1028_16, bk1028_18, bk1028_31, bk1028_46, Int.reduceToNat, vA_ap, Nat.reduceEqDiff, if_true, if_false, bx_nil, isL_I, isL_R, isL_U, if_ff, bind_some, tl_some, tl_none, bx_aload_0, bx_iload_1, cl1008 hG, bx_if_eq, bx_iload_2, bx_if_ne, bx_iconst, bx_iret, gf1_8 hG, gf344_2 hG, bx_bipush, gf344_4 hG, bx_ic_lt, gf1_7 hG, gf217_3 hG, cl403 hG, x_isLane hG, h.l5, b1_t a, b1_t b, one_ne, if_pos c]
        · simp (disch := first | omega | exact Nat.le_of_ble_eq_true rfl) only [bk1155_0, bk1155_16, bk1155_18, bk1155_28, bk1155_40, bk1155_105, bk1155_106, bk1155_107, bk1155_113, Int.reduceToNat, vA_ap, Nat.reduceEqDiff, if_true, if_false, bx_nil, isL_I, isL_R, isL_U, if_ff, bind_some, tl_some, tl_none, bx_aload_0, bx_iload_1, cl1115 hG, bx_if_eq, bx_iload_2, bx_if_ne, bx_iconst, bx_iret, gf376_50 hG, bx_bipush, gf376_49 hG, bx_ic_ne, cl1110 hG, cl1116 hG, cl1117 hG, gf376_10 hG, ia385 hG, is385 hG, bx_istore_3, bx_istore4, bx_iload4, gf376_48 hG, bx_ic_ge, gf376_46 hG, ia409 hG, is409 hG, cl1156 hG, bx_iload_3, bx_goto, bx_iinc4, bx_dupI, bx_dupR, bx_iadd, pf376_49 hG, m_isLane hG, h.lm, b1_t a, b1_t b, one_ne, p1, if_pos c]
      · obtain ⟨q1, q2, q3, q4, q5, q6, q7, q8, q9⟩ := p3 (by omega)
        obtain ⟨c1, c2, c3⟩ := held_cnt h.prb c
        by_cases e : V 344 4 < 20
        · obtain ⟨W, w0, w1, w2, w3, w4, w5⟩ := x_lookAt (d := 792) (j := j) (m := m) hG h c a b
          have hx : run 799 1028 0 [xR 1, xI j, xI m] [] (V, G) = some (some (xI (lgF V (V 9) j m)), (W, G)) := by
            have w0' : run 798 403 0 [xR 344, xI j, xI m, xI (V 217 3), xU, xU] [] (V, G) = some (some (xI (lgF V (V 9) j m)), (W, G)) := w0
            simp (disch := first | omega | exact Nat.le_of_ble_eq_true rfl) only [bk1028_0, bk1028_16, bk1028_18, bk1028_31, bk1028_46, Int.reduceToNat, vA_ap, Nat.reduceEqDiff, if_true, if_false, bx_nil, isL_I, isL_R, isL_U, if_ff, bind_some, tl_some, tl_none, bx_aload_0, bx_iload_1, cl1008 hG, bx_if_eq, bx_iload_2, bx_if_ne, bx_iconst, bx_iret, gf1_8 hG, gf344_2 hG, bx_bipush, gf344_4 hG, bx_ic_lt, gf1_7 hG, gf217_3 hG, cl403 hG, x_isLane hG, h.l5, b1_t a, b1_t b, one_ne, if_neg c, if_pos e, w0']
          have fm : ∀ b, 376 ≤ b → W b = V b := fun b hb => w1 b (by omega) (by omega)
          obtain ⟨W0, hW0⟩ : ∃ W0, W0 = goM n (entM n (nowM W) j) 1 := ⟨_, rfl⟩
          have hs := m_seen (W := W) (j := j) hG h fm a
          rw [← hW0] at hs
          have f0 : ∀ b, b ≠ 385 → b ≠ 383 → b ≠ 384 → W0 b = W b := fun b b1 b2 b3 => by
            rw [hW0]
            unfold goM entM nowM
            rw [vA_ne b1, vA_ne b1, vA_ne b3, vA_ne b2]
          have hlg : ∀ l, (n : Int) ≤ l → l < 6 → W0 385 l = 0 := fun l l0 l1 => by
            rw [hW0]
            unfold goM
            rw [vA_same, plt_z l0]
            show (if 0 ≤ l ∧ l < (n : Int) then (if l = j then (1 : Int) else 0) else W 385 l) = 0
            rw [if_neg (by omega), fm _ (by decide)]
            exact h.lig l l0 l1
          obtain ⟨N, hN⟩ : ∃ N : Nat, V 344 3 = N := ⟨(V 344 3).toNat, by omega⟩
          have fr0 : frP V W0 := fun b b0 b1 b2 b3 b4 b5 b6 b7 => (f0 b b5 b3 b4).trans (w1 b b0 b1)
          obtain ⟨U, u0, u1, u2, u3, u4⟩ := m_probe_lp (d := 793) (W0 := W0) (j := j) (m := m) (seen := lgF V (V 9) j m) (N := N) hG h c hN (by omega) fr0 ((f0 _ (by decide) (by decide) (by decide)).trans (fm _ (by decide))) hlg ((f0 _ (by decide) (by decide) (by decide)).trans (fm _ (by decide))) a b (by rw [q2]; omega)
          have hm : run 799 1155 0 [xR 376, xI j, xI m, xU, xU] [] (W, G) = some (some (xI (lgF V (V 9) j m)), (U, G)) := by
            have e376 : W 376 = V 376 := fm 376 (by omega)
            have hB : mB n W := by
              have := h.mb
              unfold mB at *
              rw [fm 376 (by decide), fm 380 (by decide), fm 379 (by decide), fm 382 (by decide), fm 377 (by decide), fm 378 (by decide), fm 385 (by decide)]
              exact this
            have e1 : run 798 1116 0 [xR 376, xI j, xU] [] (nowM W, G) = some (none, (entM n (nowM W) j, G)) := m_enters hG hB.1 hn.2
            have e2 : run 798 1117 0 [xR 376, xI 1, xU, xU] [] (entM n (nowM W) j, G) = some (none, (W0, G)) := by
              rw [hW0]
              exact m_goes (d := 794) hG (Or.inr rfl) (mOK_ent hB)
            have u0' : run 799 1155 64 [xR 376, xI j, xI m, xI (lgF V (V 9) j m), xI 0] [] (W0, G) = some (some (xI (lgF V (V 9) j m)), (U, G)) := u0
            simp (disch := first | omega | exact Nat.le_of_ble_eq_true rfl) only [bk1155_0, bk1155_16, bk1155_18, bk1155_28, bk1155_40, bk1155_105, bk1155_106, bk1155_107, bk1155_113, Int.reduceToNat, vA_ap, Nat.reduceEqDiff, if_true, if_false, bx_nil, isL_I, isL_R, isL_U, if_ff, bind_some, tl_some, tl_none, bx_aload_0, bx_iload_1, cl1115 hG, bx_if_eq, bx_iload_2, bx_if_ne, bx_iconst, bx_iret, gf376_50 hG, bx_bipush, gf376_49 hG, bx_ic_ne, cl1110 hG, cl1116 hG, cl1117 hG, gf376_10 hG, ia385 hG, is385 hG, bx_istore_3, bx_istore4, bx_iload4, gf376_48 hG, bx_ic_ge, gf376_46 hG, ia409 hG, is409 hG, cl1156 hG, bx_iload_3, bx_goto, bx_iinc4, bx_dupI, bx_dupR, bx_iadd, pf376_49 hG, m_isLane hG, e376, h.lm, b1_t a, b1_t b, one_ne, p1, if_neg c, q2, if_neg (show ¬ V 344 4 = 20 by omega), m_now hG, e1, e2, ← hs m b.1 b.2, u0']
          refine mkpair hx hm (h.prx (fun b b0 b1 b2 b3 b4 b5 b6 b7 => (u1 b b2 b3 b4 b5 b6).trans (fr0 b b0 b1 b2 b3 b4 b5 b6 b7)) ⟨_, u2⟩ u3 ?_)
          have ux : ∀ b, b < 376 → U b = W b := fun b hb => (u1 b (by omega) (by omega) (by omega) (by omega) (by omega)).trans (f0 b (by omega) (by omega) (by omega))
          have emy : U 407 = V 407 := (u1 _ (by decide) (by decide) (by decide) (by decide) (by decide)).trans ((f0 _ (by decide) (by decide) (by decide)).trans (fm _ (by decide)))
          have k1 : U 344 2 = V 344 2 := by rw [ux _ (by decide), w4]; rfl
          have k2 : U 344 3 = V 344 3 := by rw [ux _ (by decide), w4]; rfl
          have k3 : U 344 4 = V 344 4 + 1 := by rw [ux _ (by decide), w4]; rfl
          have k4 : U 344 5 = V 344 5 - cn (fun k => decide (¬ V 347 k = 0 ∧ ¬ lgF V (hoC V k) j m = lgF V (V 9) j m)) (V 344 3) := by rw [ux _ (by decide), w4]; rfl
          have k5 : U 376 50 = V 376 50 := by rw [u2]; rfl
          have k6 : U 376 48 = V 376 48 := by rw [u2]; rfl
          have k7 : U 376 47 = V 376 47 := by rw [u2]; rfl
          have k8 : U 376 49 = V 376 49 + 1 := by rw [u2]; rfl
          have hv : ∀ k, 0 ≤ k → k < V 344 3 → U 409 k = U 347 k ∧ (U 347 k = 0 ∨ U 347 k = 1) := fun k k0 k1 => by
            rw [u4 k k0 (by omega), ux _ (by decide), w5 k k0 k1]
            refine ⟨rfl, ?_⟩
            split
            · exact Or.inl rfl
            · exact (q8 k k0 k1).2
          unfold prbP
          rw [k1, k2, k3, k4, k5, k6, k7, k8]
          refine ⟨p1, p2, fun z => ⟨q1, by rw [q2], by omega, q4, q5, ?_, fun a b a0 a1 b0 b1 => ?_, hv, ?_⟩⟩
          · rw [ux _ (by decide), w2]; exact q6
          · have := q7 a b a0 a1 b0 b1
            unfold hypP at *
            rw [ux 345 (by decide), ux 346 (by decide), w2, w3, emy]
            exact this
          · have hs := cn_sum (p := fun h => decide (V 347 h = 1)) (q := fun h => decide (U 347 h = 1)) (r := fun k => decide (¬ V 347 k = 0 ∧ ¬ lgF V (hoC V k) j m = lgF V (V 9) j m)) N (fun k k0 k1 => by
              have hk := (q8 k k0 (by omega)).2
              have hw := w5 k k0 (by omega)
              rw [ux _ (by decide), hw]
              rcases hk with z | z
              · simp [z]
              · by_cases y : lgF V (hoC V k) j m = lgF V (V 9) j m
                · simp [z, y]
                · simp [z, y])
            rw [q9, hN]
            unfold cn at hs
            rw [Int.toNat_natCast] at hs ⊢
            unfold cn
            rw [Int.toNat_natCast]
            omega
        · refine mkpair (r := -4) (V' := V) (V'' := V) ?_ ?_ h
          · simp (disch := first | omega | exact Nat.le_of_ble_eq_true rfl) only [bk1028_0, bk1028_16, bk1028_18, bk1028_31, bk1028_46, Int.reduceToNat, vA_ap, Nat.reduceEqDiff, if_true, if_false, bx_nil, isL_I, isL_R, isL_U, if_ff, bind_some, tl_some, tl_none, bx_aload_0, bx_iload_1, cl1008 hG, bx_if_eq, bx_iload_2, bx_if_ne, bx_iconst, bx_iret, gf1_8 hG, gf344_2 hG, bx_bipush, gf344_4 hG, bx_ic_lt, gf1_7 hG, gf217_3 hG, cl403 hG, x_isLane hG, h.l5, b1_t a, b1_t b, one_ne, if_neg c, if_neg e]
          · simp (disch := first | omega | exact Nat.le_of_ble_eq_true rfl) only [bk1155_0, bk1155_16, bk1155_18, bk1155_28, bk1155_40, bk1155_105, bk1155_106, bk1155_107, bk1155_113, Int.reduceToNat, vA_ap, Nat.reduceEqDiff, if_true, if_false, bx_nil, isL_I, isL_R, isL_U, if_ff, bind_some, tl_some, tl_none, bx_aload_0, bx_iload_1, cl1115 hG, bx_if_eq, bx_iload_2, bx_if_ne, bx_iconst, bx_iret, gf376_50 hG, bx_bipush, gf376_49 hG, bx_ic_ne, cl1110 hG, cl1116 hG, cl1117 hG, gf376_10 hG, ia385 hG, is385 hG, bx_istore_3, bx_istore4, bx_iload4, gf376_48 hG, bx_ic_ge, gf376_46 hG, ia409 hG, is409 hG, cl1156 hG, bx_iload_3, bx_goto, bx_iinc4, bx_dupI, bx_dupR, bx_iadd, pf376_49 hG, m_isLane hG, h.lm, b1_t a, b1_t b, one_ne, p1, if_neg c, q2, if_pos (show V 344 4 = 20 by omega)]
    · refine mkpair (r := -1) (V' := V) (V'' := V) ?_ ?_ h
      · simp (disch := first | omega | exact Nat.le_of_ble_eq_true rfl) only [bk1028_0, bk1028_16, bk1028_18, bk1028_31, bk1028_46, Int.reduceToNat, vA_ap, Nat.reduceEqDiff, if_true, if_false, bx_nil, isL_I, isL_R, isL_U, if_ff, bind_some, tl_some, tl_none, bx_aload_0, bx_iload_1, cl1008 hG, bx_if_eq, bx_iload_2, bx_if_ne, bx_iconst, bx_iret, gf1_8 hG, gf344_2 hG, bx_bipush, gf344_4 hG, bx_ic_lt, gf1_7 hG, gf217_3 hG, cl403 hG, x_isLane hG, h.l5, b1_t a, b1_f b, one_ne]
      · simp (disch := first | omega | exact Nat.le_of_ble_eq_true rfl) only [bk1155_0, bk1155_16, bk1155_18, bk1155_28, bk1155_40, bk1155_105, bk1155_106, bk1155_107, bk1155_113, Int.reduceToNat, vA_ap, Nat.reduceEqDiff, if_true, if_false, bx_nil, isL_I, isL_R, isL_U, if_ff, bind_some, tl_some, tl_none, bx_aload_0, bx_iload_1, cl1115 hG, bx_if_eq, bx_iload_2, bx_if_ne, bx_iconst, bx_iret, gf376_50 hG, bx_bipush, gf376_49 hG, bx_ic_ne, cl1110 hG, cl1116 hG, cl1117 hG, gf376_10 hG, ia385 hG, is385 hG, bx_istore_3, bx_istore4, bx_iload4, gf376_48 hG, bx_ic_ge, gf376_46 hG, ia409 hG, is409 hG, cl1156 hG, bx_iload_3, bx_goto, bx_iinc4, bx_dupI, bx_dupR, bx_iadd, pf376_49 hG, m_isLane hG, h.lm, b1_t a, b1_f b, one_ne]
  · refine mkpair (r := -1) (V' := V) (V'' := V) ?_ ?_ h
    · simp (disch := first | omega | exact Nat.le_of_ble_eq_true rfl) only [bk1028_0, bk1028_16, bk1028_18, bk1028_31, bk1028_46, Int.reduceToNat, vA_ap, Nat.reduceEqDiff, if_true, if_false, bx_nil, isL_I, isL_R, isL_U, if_ff, bind_some, tl_some, tl_none, bx_aload_0, bx_iload_1, cl1008 hG, bx_if_eq, bx_iload_2, bx_if_ne, bx_iconst, bx_iret, gf1_8 hG, gf344_2 hG, bx_bipush, gf344_4 hG, bx_ic_lt, gf1_7 hG, gf217_3 hG, cl403 hG, x_isLane hG, h.l5, b1_f a]
    · simp (disch := first | omega | exact Nat.le_of_ble_eq_true rfl) only [bk1155_0, bk1155_16, bk1155_18, bk1155_28, bk1155_40, bk1155_105, bk1155_106, bk1155_107, bk1155_113, Int.reduceToNat, vA_ap, Nat.reduceEqDiff, if_true, if_false, bx_nil, isL_I, isL_R, isL_U, if_ff, bind_some, tl_some, tl_none, bx_aload_0, bx_iload_1, cl1115 hG, bx_if_eq, bx_iload_2, bx_if_ne, bx_iconst, bx_iret, gf376_50 hG, bx_bipush, gf376_49 hG, bx_ic_ne, cl1110 hG, cl1116 hG, cl1117 hG, gf376_10 hG, ia385 hG, is385 hG, bx_istore_3, bx_istore4, bx_iload4, gf376_48 hG, bx_ic_ge, gf376_46 hG, ia409 hG, is409 hG, cl1156 hG, bx_iload_3, bx_goto, bx_iinc4, bx_dupI, bx_dupR, bx_iadd, pf376_49 hG, m_isLane hG, h.lm, b1_f a]
end PR4
