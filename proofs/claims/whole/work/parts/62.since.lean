/-! SINCE -/
def rwV (V : Nat → Int → Int) (r : Int) : Int → Int := sendX (V 3) (V 4) (V 6) (ttX (V 8) (V (301 + r.toNat)) (knX V 342 r).2 (V 5 6)) 36 0 (V (260 + r.toNat))
/-- a run does not stand -/
def nst (n : Nat) (V : Nat → Int → Int) (r : Int) : Prop := ∃ l, (0 ≤ l ∧ l < (n : Int)) ∧ ¬ rwV V r l = V (219 + r.toNat) l
def sncQ (n : Nat) (V : Nat → Int → Int) (z : Int) : Prop := ((0 ≤ z ∧ z < V 217 3) ∧ nst n V z ∧ ∀ r, 0 ≤ r → r < z → ¬ nst n V r) ∨ (z = -5 ∧ ∀ r, 0 ≤ r → r < V 217 3 → ¬ nst n V r)
theorem snc_one {n : Nat} {V : Nat → Int → Int} {z z' : Int} (h : sncQ n V z) (h' : sncQ n V z') : z = z' := by
  rcases h with ⟨a1, a2, a3⟩ | ⟨a1, a2⟩ <;> rcases h' with ⟨b1, b2, b3⟩ | ⟨b1, b2⟩
  · apply Classical.byContradiction
    intro hne
    by_cases q : z < z'
    · exact b3 z a1.1 q a2
    · exact a3 z' b1.1 (by omega) b2
  · exact absurd a2 (b2 z a1.1 a1.2)
  · exact absurd b2 (a2 z' b1.1 b1.2)
  · rw [a1, b1]
section SN
variable {n L d : Nat} {G : XG} {V : Nat → Int → Int}
/-- memory W is V but for what reworking changes of the class -/
def frX (V W : Nat → Int → Int) : Prop := ∀ b, b ≠ 216 → b ≠ 341 → b ≠ 342 → b ≠ 343 → W b = V b
theorem knM_fr {W : Nat → Int → Int} {k r : Int} (fr : ∀ b, b ≠ 216 → b ≠ 341 → b ≠ 342 → b ≠ 343 → b ≠ 383 → b ≠ 384 → b ≠ 385 → W b = V b) : knM W k r = knM V k r := by
  unfold knM
  rw [fr 376 (by decide) (by decide) (by decide) (by decide) (by decide) (by decide) (by decide), fr 404 (by decide) (by decide) (by decide) (by decide) (by decide) (by decide) (by decide), fr 406 (by decide) (by decide) (by decide) (by decide) (by decide) (by decide) (by decide), fr 405 (by decide) (by decide) (by decide) (by decide) (by decide) (by decide) (by decide)]
theorem x_stands {W : Nat → Int → Int} {r : Int} (hG : Good n L G) (h : Inv n V) (hW : Inv n W) (fr : frX V W) (hr : 0 ≤ r ∧ r < V 217 3) : ∃ U b, run (d + 6) 704 0 [xR 217, xI r, xU, xU] [] (W, G) = some (some (xI b), (U, G)) ∧ frX V U ∧ (b = 0 ∧ nst n V r ∨ b = 1 ∧ ¬ nst n V r) := by
  have hn := h.nn
  have q2 := h.rns.2.1
  have f217 : W 217 = V 217 := fr 217 (by decide) (by decide) (by decide) (by decide)
  obtain ⟨i1, i2⟩ := run_in hW (show 0 ≤ r ∧ r < W 217 3 by rw [f217]; exact hr)
  obtain ⟨U, w0, w1, t, f, w2, w3, w4⟩ := x_rework (d := d) (V := W) (r := r) hG hW.xb hW.fnd hW.ent.2.2 (by omega) i1 i2
  have fU : frX V U := fun b b1 b2 b3 b4 => (w1 b b1 b2 b3 b4).trans (fr b b1 b2 b3 b4)
  have e1 : eqn n (U 343) (rwV V r) := by
    rw [w4]
    unfold rwV
    rw [fr 3 (by decide) (by decide) (by decide) (by decide), fr 4 (by decide) (by decide) (by decide) (by decide), fr 6 (by decide) (by decide) (by decide) (by decide)]
    refine sendX_cong 36 0 _ _ (fun l l0 l1 => ?_) (fun j j0 j1 => ⟨rfl, fun j2 => ⟨?_, ?_⟩⟩)
    · rw [w3 l l0 (by omega), fr _ (by omega) (by omega) (by omega) (by omega)]
    · rw [h.lan j j0 (by omega)] at j2 ⊢
      exact ln_bd ⟨j0, by omega⟩ j2
    · rw [w2 j j0 (by omega), fr 8 (by decide) (by decide) (by decide) (by decide), fr 5 (by decide) (by decide) (by decide) (by decide), fr (301 + r.toNat) (by omega) (by omega) (by omega) (by omega)]
      unfold ttX
      rw [kn_eq (W := W) hW.fnd ⟨rfl, rfl, rfl, rfl⟩ ⟨j0, by omega⟩, kn_eq (W := V) h.fnd ⟨rfl, rfl, rfl, rfl⟩ ⟨j0, by omega⟩, knM_fr (fun b b1 b2 b3 b4 _ _ _ => fr b b1 b2 b3 b4)]
  have e5 : U 5 = V 5 := fU 5 (by decide) (by decide) (by decide) (by decide)
  have e219 : U (219 + r.toNat) = V (219 + r.toNat) := fU _ (by omega) (by omega) (by omega) (by omega)
  have hl := it_ex (D := d + 6) (q := 704) (pc := 8) (loc := fun k => [xR 217, xI r, xR 343, xI k]) (F := fun _ => (U, G)) (res := fun _ => some (some (xI 0), (U, G))) (hi := n) (fun l => decide (¬ rwV V r l = V (219 + r.toNat) l)) n 0 (by omega) (fun k h1 h2 hp => by
    have hp' : rwV V r k = V (219 + r.toNat) k := by simpa using hp
    rw [bk704_8]
    simp (disch := first | omega | exact Nat.le_of_ble_eq_true rfl) only [bk704_0, bk704_35, bk704_41, Int.reduceToNat, vA_ap, Nat.reduceEqDiff, if_true, if_false, bx_nil, isL_I, isL_R, isL_U, if_ff, bind_some, tl_some, tl_none, bx_aload_0, bx_iload_1, cl703 hG, bx_astore_2, bx_iconst, bx_istore_3, bx_iload_3, gf217_0 hG, gf5_0 hG, bx_ic_ge, bx_aload_2, gf217_4 hG, aa218 hG, bx_ic_eq, bx_zret, bx_iinc3, bx_goto, e5, h.l5, if_neg (show ¬ (n : Int) ≤ k by omega), ia343 hG, ia219 hG, e219, e1 k h1 h2, if_pos hp']) (fun k h1 h2 hp => by
    have hp' : ¬ rwV V r k = V (219 + r.toNat) k := by simpa using hp
    rw [bk704_8]
    simp (disch := first | omega | exact Nat.le_of_ble_eq_true rfl) only [bk704_0, bk704_35, bk704_41, Int.reduceToNat, vA_ap, Nat.reduceEqDiff, if_true, if_false, bx_nil, isL_I, isL_R, isL_U, if_ff, bind_some, tl_some, tl_none, bx_aload_0, bx_iload_1, cl703 hG, bx_astore_2, bx_iconst, bx_istore_3, bx_iload_3, gf217_0 hG, gf5_0 hG, bx_ic_ge, bx_aload_2, gf217_4 hG, aa218 hG, bx_ic_eq, bx_zret, bx_iinc3, bx_goto, e5, h.l5, if_neg (show ¬ (n : Int) ≤ k by omega), ia343 hG, ia219 hG, e219, e1 k h1 h2, if_neg hp'])
  have w0' : run (d + 5) 703 0 [xR 217, xI r] [] (W, G) = some (some (xR 343), (U, G)) := w0
  have hst : run (d + 6) 704 0 [xR 217, xI r, xU, xU] [] (W, G) = run (d + 6) 704 8 [xR 217, xI r, xR 343, xI 0] [] (U, G) := by
    simp (disch := first | omega | exact Nat.le_of_ble_eq_true rfl) only [bk704_0, bk704_35, bk704_41, Int.reduceToNat, vA_ap, Nat.reduceEqDiff, if_true, if_false, bx_nil, isL_I, isL_R, isL_U, if_ff, bind_some, tl_some, tl_none, bx_aload_0, bx_iload_1, cl703 hG, bx_astore_2, bx_iconst, bx_istore_3, bx_iload_3, gf217_0 hG, gf5_0 hG, bx_ic_ge, bx_aload_2, gf217_4 hG, aa218 hG, bx_ic_eq, bx_zret, bx_iinc3, bx_goto, w0']
  cases hc : lstF (fun l => decide (¬ rwV V r l = V (219 + r.toNat) l)) n 0 with
  | some l =>
    obtain ⟨g1, g2, g3⟩ := lstF_some n 0 hc
    rw [hc] at hl
    exact ⟨U, 0, hst.trans hl, fU, Or.inl ⟨rfl, l, by omega, by simpa using g2⟩⟩
  | none =>
    have g := lstF_none n 0 hc
    rw [hc] at hl
    refine ⟨U, 1, hst.trans (hl.trans ?_), fU, Or.inr ⟨rfl, ?_⟩⟩
    · show run (d + 6) 704 8 [xR 217, xI r, xR 343, xI n] [] (U, G) = _
      rw [bk704_8]
      simp (disch := first | omega | exact Nat.le_of_ble_eq_true rfl) only [bk704_0, bk704_35, bk704_41, Int.reduceToNat, vA_ap, Nat.reduceEqDiff, if_true, if_false, bx_nil, isL_I, isL_R, isL_U, if_ff, bind_some, tl_some, tl_none, bx_aload_0, bx_iload_1, cl703 hG, bx_astore_2, bx_iconst, bx_istore_3, bx_iload_3, gf217_0 hG, gf5_0 hG, bx_ic_ge, bx_aload_2, gf217_4 hG, aa218 hG, bx_ic_eq, bx_zret, bx_iinc3, bx_goto, e5, h.l5, if_pos (show (n : Int) ≤ n by omega)]
    · rintro ⟨l, l1, l2⟩
      have := g l l1.1 (by omega)
      simp at this
      exact l2 this
theorem xp_since (hG : Good n L G) (h : Inv n V) : ∃ W z, run (d + 7) 1025 0 [xR 1, xU] [] (V, G) = some (some (xI z), (W, G)) ∧ frX V W ∧ sncQ n V z := by
  have q2 := h.rns.2.1
  obtain ⟨N, hN⟩ : ∃ N : Nat, V 217 3 = N := ⟨(V 217 3).toNat, by omega⟩
  have hl := it_inv (D := d + 7) (q := 1025) (pc := 2) (hi := N) (I := fun k ls μ => ls = [xR 1, xI k] ∧ ∃ W, μ = (W, G) ∧ frX V W ∧ ∀ r, 0 ≤ r → r < k → ¬ nst n V r) (Q := fun y => ∃ W z, y = some (some (xI z), (W, G)) ∧ frX V W ∧ sncQ n V z) (fun ls μ hI => by
    obtain ⟨rfl, W, rfl, w1, w2⟩ := hI
    have f217 : W 217 = V 217 := w1 217 (by decide) (by decide) (by decide) (by decide)
    refine ⟨W, -5, ?_, w1, Or.inr ⟨rfl, by rw [hN]; exact w2⟩⟩
    rw [bk1025_2]
    simp (disch := first | omega | exact Nat.le_of_ble_eq_true rfl) only [bk1025_0, bk1025_26, bk1025_32, Int.reduceToNat, vA_ap, Nat.reduceEqDiff, if_true, if_false, bx_nil, isL_I, isL_R, isL_U, if_ff, bind_some, tl_some, tl_none, bx_iconst, bx_istore_1, bx_iload_1, bx_aload_0, gf1_7 hG, gf217_3 hG, bx_ic_ge, cl704 hG, bx_if_ne, bx_iret, bx_iinc1, bx_goto, bx_bipush, f217, hN, if_pos (show (N : Int) ≤ N by omega)]) N 0 (by omega) (fun k ls μ h1 h2 hI => by
    obtain ⟨rfl, W, rfl, w1, w2⟩ := hI
    have f217 : W 217 = V 217 := w1 217 (by decide) (by decide) (by decide) (by decide)
    have hW : Inv n W := h.rwk (fun b b1 b2 b3 b4 _ _ _ => w1 b b1 b2 b3 b4) (by rw [w1 _ (by decide) (by decide) (by decide) (by decide)]; exact h.lig)
    obtain ⟨U, b, u0, u1, u2⟩ := x_stands (d := d) hG h hW w1 ⟨h1, by rw [hN]; exact h2⟩
    rcases u2 with ⟨rfl, u2⟩ | ⟨rfl, u2⟩
    · right
      refine ⟨U, k, ?_, u1, Or.inl ⟨⟨h1, by rw [hN]; exact h2⟩, u2, w2⟩⟩
      rw [bk1025_2]
      simp (disch := first | omega | exact Nat.le_of_ble_eq_true rfl) only [bk1025_0, bk1025_26, bk1025_32, Int.reduceToNat, vA_ap, Nat.reduceEqDiff, if_true, if_false, bx_nil, isL_I, isL_R, isL_U, if_ff, bind_some, tl_some, tl_none, bx_iconst, bx_istore_1, bx_iload_1, bx_aload_0, gf1_7 hG, gf217_3 hG, bx_ic_ge, cl704 hG, bx_if_ne, bx_iret, bx_iinc1, bx_goto, bx_bipush, f217, hN, if_neg (show ¬ (N : Int) ≤ k by omega), u0]
    · left
      refine ⟨_, _, ⟨rfl, U, rfl, u1, fun r r0 r1 => ?_⟩, ?_⟩
      · by_cases e : r = k
        · rw [e]; exact u2
        · exact w2 r r0 (by omega)
      · rw [bk1025_2]
        simp (disch := first | omega | exact Nat.le_of_ble_eq_true rfl) only [bk1025_0, bk1025_26, bk1025_32, Int.reduceToNat, vA_ap, Nat.reduceEqDiff, if_true, if_false, bx_nil, isL_I, isL_R, isL_U, if_ff, bind_some, tl_some, tl_none, bx_iconst, bx_istore_1, bx_iload_1, bx_aload_0, gf1_7 hG, gf217_3 hG, bx_ic_ge, cl704 hG, bx_if_ne, bx_iret, bx_iinc1, bx_goto, bx_bipush, f217, hN, if_neg (show ¬ (N : Int) ≤ k by omega), u0, one_ne]) [xR 1, xI 0] (V, G) ⟨rfl, V, rfl, fun b _ _ _ _ => rfl, fun r r0 r1 => by omega⟩
  simp (disch := first | omega | exact Nat.le_of_ble_eq_true rfl) only [bk1025_0, bk1025_26, bk1025_32, Int.reduceToNat, vA_ap, Nat.reduceEqDiff, if_true, if_false, bx_nil, isL_I, isL_R, isL_U, if_ff, bind_some, tl_some, tl_none, bx_iconst, bx_istore_1, bx_iload_1, bx_aload_0, gf1_7 hG, gf217_3 hG, bx_ic_ge, cl704 hG, bx_if_ne, bx_iret, bx_iinc1, bx_goto, bx_bipush]
  exact hl
/-- memory W is V but for what reworking changes -/
def frM (V W : Nat → Int → Int) : Prop := ∀ b, b ≠ 216 → b ≠ 341 → b ≠ 342 → b ≠ 343 → b ≠ 383 → b ≠ 384 → b ≠ 385 → W b = V b
theorem mp_since {W0 : Nat → Int → Int} (hG : Good n L G) (h : Inv n V) (h0 : frM V W0) (hlg : ∀ j, (n : Int) ≤ j → j < 6 → W0 385 j = 0) : ∃ W z, run (d + 6) 1152 0 [xR 376, xU, xU] [] (W0, G) = some (some (xI z), (W, G)) ∧ frM V W ∧ (∀ j, (n : Int) ≤ j → j < 6 → W 385 j = 0) ∧ sncQ n V z := by
  have hn := h.nn
  have q1 := h.rns.1
  have q2 := h.rns.2.1
  obtain ⟨N, hN⟩ : ∃ N : Nat, V 217 3 = N := ⟨(V 217 3).toNat, by omega⟩
  have hl := it_inv (D := d + 6) (q := 1152) (pc := 2) (hi := N) (I := fun k ls μ => (∃ u, ls = [xR 376, xI k, u]) ∧ ∃ W, μ = (W, G) ∧ frM V W ∧ (∀ j, (n : Int) ≤ j → j < 6 → W 385 j = 0) ∧ ∀ r, 0 ≤ r → r < k → ¬ nst n V r) (Q := fun y => ∃ W z, y = some (some (xI z), (W, G)) ∧ frM V W ∧ (∀ j, (n : Int) ≤ j → j < 6 → W 385 j = 0) ∧ sncQ n V z) (fun ls μ hI => by
    obtain ⟨⟨u, rfl⟩, W, rfl, w1, w2, w3⟩ := hI
    have f376 : W 376 = V 376 := w1 376 (by decide) (by decide) (by decide) (by decide) (by decide) (by decide) (by decide)
    refine ⟨W, -5, ?_, w1, w2, Or.inr ⟨rfl, by rw [hN]; exact w3⟩⟩
    rw [bk1152_2]
    simp (disch := first | omega | exact Nat.le_of_ble_eq_true rfl) only [bk1152_0, bk1152_47, bk1152_53, bk1152_59, Int.reduceToNat, vA_ap, Nat.reduceEqDiff, if_true, if_false, bx_nil, isL_I, isL_R, isL_U, if_ff, bind_some, tl_some, tl_none, bx_iconst, bx_istore_1, bx_iload_1, bx_aload_0, gf376_41 hG, bx_ic_ge, cl1150 hG, bx_istore_2, bx_iload_2, gf376_0 hG, gf376_10 hG, ia385 hG, is385 hG, gf376_36 hG, ia402 hG, is402 hG, bx_bipush, bx_imul, bx_iadd, bx_ic_eq, bx_iret, bx_iinc2, bx_goto, bx_iinc1, f376, q1, hN, if_pos (show (N : Int) ≤ N by omega)]) N 0 (by omega) (fun k ls μ h1 h2 hI => by
    obtain ⟨⟨u, rfl⟩, W, rfl, w1, w2, w3⟩ := hI
    have f376 : W 376 = V 376 := w1 376 (by decide) (by decide) (by decide) (by decide) (by decide) (by decide) (by decide)
    have hW : Inv n W := h.rwk w1 w2
    have hk : 0 ≤ k ∧ k < V 217 3 := ⟨h1, by rw [hN]; exact h2⟩
    have fS : W 403 = V 403 := w1 _ (by decide) (by decide) (by decide) (by decide) (by decide) (by decide) (by decide)
    have fI : W 401 = V 401 := w1 _ (by decide) (by decide) (by decide) (by decide) (by decide) (by decide) (by decide)
    have fO : W 402 = V 402 := w1 _ (by decide) (by decide) (by decide) (by decide) (by decide) (by decide) (by decide)
    obtain ⟨U, T, u0, u1, u2, u3, u4, u5, u6⟩ := m_reworks (d := d) (V := W) (r := k) hG hW.mb hW.fnd hW.ent.2.2 (by omega) (by rw [fS]; exact (h.rns.2.2.1 k hk.1 hk.2).2.2.2.2) (fun l l0 l1 => by rw [fI]; exact ((h.rns.2.2.1 k hk.1 hk.2).1 l l0 l1).2.2)
    have fU : frM V U := fun b b1 b2 b3 b4 b5 b6 b7 => (u1 b b5 b6 b7).trans (w1 b b1 b2 b3 b4 b5 b6 b7)
    have g376 : U 376 = V 376 := fU 376 (by decide) (by decide) (by decide) (by decide) (by decide) (by decide) (by decide)
    have gO : U 402 = V 402 := fU _ (by decide) (by decide) (by decide) (by decide) (by decide) (by decide) (by decide)
    rw [f376] at u4
    have hq := rew_eq (U := U) (g0 := W 385) (t := ttX (V 8) (V (301 + k.toNat)) (knX V 342 k).2 (V 5 6)) (f := V (260 + k.toNat)) h hk (fun c c0 c1 => rfl) (fun l l0 l1 => rfl) u4 (u5.trans (w1 _ (by decide) (by decide) (by decide) (by decide) (by decide) (by decide) (by decide))) (fun j j0 j1 => by
      rw [(u6 j j0 j1).1, (u6 j j0 j1).2, knM_fr w1, fS]
      exact ⟨rfl, rfl⟩)
    have e1 : eqn n (rwV V k) (U 385) := by
      rw [u3, fI, w1 377 (by decide) (by decide) (by decide) (by decide) (by decide) (by decide) (by decide), w1 378 (by decide) (by decide) (by decide) (by decide) (by decide) (by decide) (by decide)]
      exact hq
    have eo : ∀ l, 0 ≤ l → l < (n : Int) → V 402 (6 * k + l) = V (219 + k.toNat) l := fun l l0 l1 => ((h.rns.2.2.1 k hk.1 hk.2).1 l l0 l1).1.symm
    have hlp := it_ex (D := d + 6) (q := 1152) (pc := 17) (loc := fun l => [xR 376, xI k, xI l]) (F := fun _ => (U, G)) (res := fun _ => some (some (xI k), (U, G))) (hi := n) (fun l => decide (¬ rwV V k l = V (219 + k.toNat) l)) n 0 (by omega) (fun l l0 l1 hp => by
      have hp' : U 385 l = V (219 + k.toNat) l := by rw [← e1 l l0 l1]; simpa using hp
      rw [bk1152_17]
      simp (disch := first | omega | exact Nat.le_of_ble_eq_true rfl) only [bk1152_0, bk1152_47, bk1152_53, bk1152_59, Int.reduceToNat, vA_ap, Nat.reduceEqDiff, if_true, if_false, bx_nil, isL_I, isL_R, isL_U, if_ff, bind_some, tl_some, tl_none, bx_iconst, bx_istore_1, bx_iload_1, bx_aload_0, gf376_41 hG, bx_ic_ge, cl1150 hG, bx_istore_2, bx_iload_2, gf376_0 hG, gf376_10 hG, ia385 hG, is385 hG, gf376_36 hG, ia402 hG, is402 hG, bx_bipush, bx_imul, bx_iadd, bx_ic_eq, bx_iret, bx_iinc2, bx_goto, bx_iinc1, g376, h.lm, gO, if_neg (show ¬ (n : Int) ≤ l by omega), eo l l0 l1, if_pos hp']) (fun l l0 l1 hp => by
      have hp' : ¬ U 385 l = V (219 + k.toNat) l := by rw [← e1 l l0 l1]; simpa using hp
      rw [bk1152_17]
      simp (disch := first | omega | exact Nat.le_of_ble_eq_true rfl) only [bk1152_0, bk1152_47, bk1152_53, bk1152_59, Int.reduceToNat, vA_ap, Nat.reduceEqDiff, if_true, if_false, bx_nil, isL_I, isL_R, isL_U, if_ff, bind_some, tl_some, tl_none, bx_iconst, bx_istore_1, bx_iload_1, bx_aload_0, gf376_41 hG, bx_ic_ge, cl1150 hG, bx_istore_2, bx_iload_2, gf376_0 hG, gf376_10 hG, ia385 hG, is385 hG, gf376_36 hG, ia402 hG, is402 hG, bx_bipush, bx_imul, bx_iadd, bx_ic_eq, bx_iret, bx_iinc2, bx_goto, bx_iinc1, g376, h.lm, gO, if_neg (show ¬ (n : Int) ≤ l by omega), eo l l0 l1, if_neg hp'])
    have hst : run (d + 6) 1152 2 [xR 376, xI k, u] [] (W, G) = run (d + 6) 1152 17 [xR 376, xI k, xI 0] [] (U, G) := by
      have u0' : run (d + 5) 1150 0 [xR 376, xI k, xU] [] (W, G) = some (none, (U, G)) := u0
      rw [bk1152_2]
      simp (disch := first | omega | exact Nat.le_of_ble_eq_true rfl) only [bk1152_0, bk1152_47, bk1152_53, bk1152_59, Int.reduceToNat, vA_ap, Nat.reduceEqDiff, if_true, if_false, bx_nil, isL_I, isL_R, isL_U, if_ff, bind_some, tl_some, tl_none, bx_iconst, bx_istore_1, bx_iload_1, bx_aload_0, gf376_41 hG, bx_ic_ge, cl1150 hG, bx_istore_2, bx_iload_2, gf376_0 hG, gf376_10 hG, ia385 hG, is385 hG, gf376_36 hG, ia402 hG, is402 hG, bx_bipush, bx_imul, bx_iadd, bx_ic_eq, bx_iret, bx_iinc2, bx_goto, bx_iinc1, f376, q1, hN, if_neg (show ¬ (N : Int) ≤ k by omega), u0']
    cases hc : lstF (fun l => decide (¬ rwV V k l = V (219 + k.toNat) l)) n 0 with
    | some l =>
      obtain ⟨g1, g2, g3⟩ := lstF_some n 0 hc
      rw [hc] at hlp
      right
      exact ⟨U, k, hst.trans hlp, fU, u2, Or.inl ⟨hk, ⟨l, by omega, by simpa using g2⟩, w3⟩⟩
    | none =>
      have g := lstF_none n 0 hc
      rw [hc] at hlp
      left
      refine ⟨_, _, ⟨⟨xI n, rfl⟩, U, rfl, fU, u2, fun r r0 r1 => ?_⟩, hst.trans (hlp.trans ?_)⟩
      · by_cases e : r = k
        · rw [e]
          rintro ⟨l, l1, l2⟩
          have := g l l1.1 (by omega)
          simp at this
          exact l2 this
        · exact w3 r r0 (by omega)
      · show run (d + 6) 1152 17 [xR 376, xI k, xI n] [] (U, G) = _
        rw [bk1152_17]
        simp (disch := first | omega | exact Nat.le_of_ble_eq_true rfl) only [bk1152_0, bk1152_47, bk1152_53, bk1152_59, Int.reduceToNat, vA_ap, Nat.reduceEqDiff, if_true, if_false, bx_nil, isL_I, isL_R, isL_U, if_ff, bind_some, tl_some, tl_none, bx_iconst, bx_istore_1, bx_iload_1, bx_aload_0, gf376_41 hG, bx_ic_ge, cl1150 hG, bx_istore_2, bx_iload_2, gf376_0 hG, gf376_10 hG, ia385 hG, is385 hG, gf376_36 hG, ia402 hG, is402 hG, bx_bipush, bx_imul, bx_iadd, bx_ic_eq, bx_iret, bx_iinc2, bx_goto, bx_iinc1, g376, h.lm, if_pos (show (n : Int) ≤ n by omega)]) [xR 376, xI 0, xU] (W0, G) ⟨⟨xU, rfl⟩, W0, rfl, h0, hlg, fun r r0 r1 => by omega⟩
  simp (disch := first | omega | exact Nat.le_of_ble_eq_true rfl) only [bk1152_0, bk1152_47, bk1152_53, bk1152_59, Int.reduceToNat, vA_ap, Nat.reduceEqDiff, if_true, if_false, bx_nil, isL_I, isL_R, isL_U, if_ff, bind_some, tl_some, tl_none, bx_iconst, bx_istore_1, bx_iload_1, bx_aload_0, gf376_41 hG, bx_ic_ge, cl1150 hG, bx_istore_2, bx_iload_2, gf376_0 hG, gf376_10 hG, ia385 hG, is385 hG, gf376_36 hG, ia402 hG, is402 hG, bx_bipush, bx_imul, bx_iadd, bx_ic_eq, bx_iret, bx_iinc2, bx_goto, bx_iinc1]
  exact hl
theorem pr_since (hG : Good n L G) (h : Inv n V) : pair n G V 1025 1152 [xR 1, xU] [xR 376, xU, xU] := by
  obtain ⟨W, z, hx, w1, w2⟩ := xp_since (d := 792) hG h
  obtain ⟨U, z', hm, u1, u2, u3⟩ := mp_since (d := 793) hG h (fun b b1 b2 b3 b4 _ _ _ => w1 b b1 b2 b3 b4) (by rw [w1 _ (by decide) (by decide) (by decide) (by decide)]; exact h.lig)
  rw [← snc_one w2 u3] at hm
  exact mkpair hx hm (h.rwk u1 u2)
end SN
