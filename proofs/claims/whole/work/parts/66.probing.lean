/-! PROBING -/
theorem cn_surj {p : Int → Bool} {a : Int} (ha : 0 ≤ a) : ∀ (N : Nat), a < cn p N → ∃ c, 0 ≤ c ∧ c < (N : Int) ∧ p c = true ∧ cn p c = a
  | 0, h => absurd h (by rw [show cn p ((0 : Nat) : Int) = 0 from rfl]; omega)
  | N + 1, h => by
    rw [show (((N + 1 : Nat)) : Int) = (N : Int) + 1 by omega, cn_up (by omega)] at h
    by_cases q : a < cn p N
    · obtain ⟨c, c0, c1, c2, c3⟩ := cn_surj ha N q
      exact ⟨c, c0, by omega, c2, c3⟩
    · by_cases e : p N = true
      · rw [if_pos e] at h
        exact ⟨N, by omega, by omega, e, by omega⟩
      · rw [if_neg e] at h
        omega
theorem cn_lt {p : Int → Bool} {c : Int} : ∀ (m : Nat), 0 ≤ c → p c = true → cn p c < cn p (c + 1 + m)
  | 0, h0, hp => by
    rw [show c + 1 + ((0 : Nat) : Int) = c + 1 by omega, cn_up h0, if_pos hp]
    omega
  | m + 1, h0, hp => by
    have := cn_lt m h0 hp
    rw [show c + 1 + ((m + 1 : Nat) : Int) = c + 1 + m + 1 by omega, cn_up (by omega)]
    split <;> omega
theorem cntF_all {p : Int → Bool} : ∀ (m : Nat) (k : Int), (∀ j, k ≤ j → j < k + m → p j = true) → cntF p m k = m
  | 0, k, h => rfl
  | m + 1, k, h => by
    unfold cntF
    rw [h k (by omega) (by omega), cntF_all m (k + 1) (fun j h1 h2 => h j (by omega) (by omega)), if_pos rfl]
    omega
/-- how many cells of the class lie below the place k of the reference -/
def cc (k : Int) : Int := 3 * (k / 6) + (k % 6 - (k / 6) % 2 + 1) / 2
theorem cc_up {k : Int} : cc (k + 1) = if (k % 6) % 2 = (k / 6) % 2 then cc k + 1 else cc k := by
  unfold cc
  by_cases e : k % 6 = 5
  · have a : (k + 1) / 6 = k / 6 + 1 := by omega
    have b : (k + 1) % 6 = 0 := by omega
    rw [a, b, e]
    generalize k / 6 = l
    split <;> omega
  · have a : (k + 1) / 6 = k / 6 := by omega
    have b : (k + 1) % 6 = k % 6 + 1 := by omega
    have c : 0 ≤ k % 6 := by omega
    have c2 : k % 6 < 6 := by omega
    rw [a, b]
    generalize k / 6 = l at *
    generalize k % 6 = i at *
    split <;> omega
theorem cc_ix {k : Int} (h : (k % 6) % 2 = (k / 6) % 2) : ix (cc k) = k ∧ cc k / 3 = k / 6 ∧ 2 * (cc k % 3) + (k / 6) % 2 = k % 6 := by
  have z1 : cc k / 3 = k / 6 := by unfold cc; omega
  have z2 : 2 * (cc k % 3) + (k / 6) % 2 = k % 6 := by unfold cc; omega
  refine ⟨?_, z1, z2⟩
  unfold ix
  rw [z1]
  omega
/-- a cell that is there and lives -/
def lvP (V : Nat → Int → Int) (c : Int) : Bool := decide (¬ V 6 c = -1 ∧ V 8 c = -1)
def mrF (b : Int) : Int := if b < 2 then b - 2 else b - 1
section PB
variable {n L d : Nat} {G : XG} {V : Nat → Int → Int}
def acS (V : Nat → Int → Int) (c m : Int) : Nat → Int → Int := vA (vA (vA V 345 (vU (V 345) (V 344 3) c)) 346 (vU (V 346) (V 344 3) m)) 344 (vU (V 344) 3 (V 344 3 + 1))
theorem x_ac1 {c m : Int} (hG : Good n L G) (hs : 0 ≤ V 344 3 ∧ V 344 3 < 145) (h0 : ¬ m = 0) (h2 : m ≤ 2) (h3 : -2 ≤ m) : run d 402 3 [xR 344, xI c, xI m] [] (V, G) = run d 402 3 [xR 344, xI c, xI (m + 1)] [] (acS V c m, G) := by
  rw [bk402_3]
  simp (disch := first | omega | exact Nat.le_of_ble_eq_true rfl) only [bk402_0, bk402_15, bk402_45, bk402_51, Int.reduceToNat, vA_ap, Nat.reduceEqDiff, if_true, if_false, bx_nil, isL_I, isL_R, isL_U, if_ff, bind_some, tl_some, tl_none, bx_bipush, bx_istore_2, bx_iload_2, bx_iconst, bx_ic_gt, bx_if_ne, bx_goto, bx_aload_0, gf344_6 hG, ia345 hG, is345 hG, gf344_3 hG, bx_iload_1, gf344_7 hG, ia346 hG, is346 hG, bx_dupI, bx_dupR, bx_iadd, pf344_3 hG, bx_iinc2, bx_vret, if_neg (show ¬ 2 < m by omega), if_neg h0]
  rfl
theorem x_addCell {c : Int} (hG : Good n L G) (hs : 0 ≤ V 344 3 ∧ V 344 3 ≤ 141) : ∃ W, run d 402 0 [xR 344, xI c, xU] [] (V, G) = some (none, (W, G)) ∧ (∀ b, b ≠ 344 → b ≠ 345 → b ≠ 346 → W b = V b) ∧ W 344 = vU (V 344) 3 (V 344 3 + 4) ∧ (∀ j, W 345 j = if V 344 3 ≤ j ∧ j < V 344 3 + 4 then c else V 345 j) ∧ (∀ j, W 346 j = if V 344 3 ≤ j ∧ j < V 344 3 + 4 then mrF (j - V 344 3) else V 346 j) := by
  generalize hz : V 344 3 = s at *
  have e1 : acS V c (-2) 344 3 = s + 1 := by show V 344 3 + 1 = _; rw [hz]
  have e2 : acS (acS V c (-2)) c (-1) 344 3 = s + 1 + 1 := by show acS V c (-2) 344 3 + 1 = _; rw [e1]
  have e3 : acS (acS (acS V c (-2)) c (-1)) c 1 344 3 = s + 1 + 1 + 1 := by show acS (acS V c (-2)) c (-1) 344 3 + 1 = _; rw [e2]
  have h1 := x_ac1 (d := d) (V := V) (c := c) (m := -2) hG (by omega) (by omega) (by omega) (by omega)
  have h2 := x_ac1 (d := d) (V := acS V c (-2)) (c := c) (m := -1) hG (by omega) (by omega) (by omega) (by omega)
  have h3 : run d 402 3 [xR 344, xI c, xI 0] [] (acS (acS V c (-2)) c (-1), G) = run d 402 3 [xR 344, xI c, xI (0 + 1)] [] (acS (acS V c (-2)) c (-1), G) := by
    rw [bk402_3]
    simp (disch := first | omega | exact Nat.le_of_ble_eq_true rfl) only [bk402_0, bk402_15, bk402_45, bk402_51, Int.reduceToNat, vA_ap, Nat.reduceEqDiff, if_true, if_false, bx_nil, isL_I, isL_R, isL_U, if_ff, bind_some, tl_some, tl_none, bx_bipush, bx_istore_2, bx_iload_2, bx_iconst, bx_ic_gt, bx_if_ne, bx_goto, bx_aload_0, gf344_6 hG, ia345 hG, is345 hG, gf344_3 hG, bx_iload_1, gf344_7 hG, ia346 hG, is346 hG, bx_dupI, bx_dupR, bx_iadd, pf344_3 hG, bx_iinc2, bx_vret, if_neg (show ¬ (2 : Int) < 0 by omega)]
  have h4 := x_ac1 (d := d) (V := acS (acS V c (-2)) c (-1)) (c := c) (m := 1) hG (by omega) (by omega) (by omega) (by omega)
  have h5 := x_ac1 (d := d) (V := acS (acS (acS V c (-2)) c (-1)) c 1) (c := c) (m := 2) hG (by omega) (by omega) (by omega) (by omega)
  have h6 : run d 402 3 [xR 344, xI c, xI 3] [] (acS (acS (acS (acS V c (-2)) c (-1)) c 1) c 2, G) = some (none, (acS (acS (acS (acS V c (-2)) c (-1)) c 1) c 2, G)) := by
    rw [bk402_3]
    simp (disch := first | omega | exact Nat.le_of_ble_eq_true rfl) only [bk402_0, bk402_15, bk402_45, bk402_51, Int.reduceToNat, vA_ap, Nat.reduceEqDiff, if_true, if_false, bx_nil, isL_I, isL_R, isL_U, if_ff, bind_some, tl_some, tl_none, bx_bipush, bx_istore_2, bx_iload_2, bx_iconst, bx_ic_gt, bx_if_ne, bx_goto, bx_aload_0, gf344_6 hG, ia345 hG, is345 hG, gf344_3 hG, bx_iload_1, gf344_7 hG, ia346 hG, is346 hG, bx_dupI, bx_dupR, bx_iadd, pf344_3 hG, bx_iinc2, bx_vret, if_pos (show (2 : Int) < 3 by omega)]
  have hrun : run d 402 0 [xR 344, xI c, xU] [] (V, G) = some (none, (acS (acS (acS (acS V c (-2)) c (-1)) c 1) c 2, G)) := by
    simp (disch := first | omega | exact Nat.le_of_ble_eq_true rfl) only [bk402_0, bk402_15, bk402_45, bk402_51, Int.reduceToNat, vA_ap, Nat.reduceEqDiff, if_true, if_false, bx_nil, isL_I, isL_R, isL_U, if_ff, bind_some, tl_some, tl_none, bx_bipush, bx_istore_2, bx_iload_2, bx_iconst, bx_ic_gt, bx_if_ne, bx_goto, bx_aload_0, gf344_6 hG, ia345 hG, is345 hG, gf344_3 hG, bx_iload_1, gf344_7 hG, ia346 hG, is346 hG, bx_dupI, bx_dupR, bx_iadd, pf344_3 hG, bx_iinc2, bx_vret]
    exact h1.trans (h2.trans (h3.trans (h4.trans (h5.trans h6))))
  refine ⟨_, hrun, fun b b1 b2 b3 => ?_, ?_, fun j => ?_, fun j => ?_⟩
  · unfold acS
    rw [vA_ne b1, vA_ne b3, vA_ne b2, vA_ne b1, vA_ne b3, vA_ne b2, vA_ne b1, vA_ne b3, vA_ne b2, vA_ne b1, vA_ne b3, vA_ne b2]
  · have f1 : acS (acS (acS (acS V c (-2)) c (-1)) c 1) c 2 344 = vU (acS (acS (acS V c (-2)) c (-1)) c 1 344) 3 (acS (acS (acS V c (-2)) c (-1)) c 1 344 3 + 1) := rfl
    have f2 : acS (acS (acS V c (-2)) c (-1)) c 1 344 = vU (acS (acS V c (-2)) c (-1) 344) 3 (acS (acS V c (-2)) c (-1) 344 3 + 1) := rfl
    have f3 : acS (acS V c (-2)) c (-1) 344 = vU (acS V c (-2) 344) 3 (acS V c (-2) 344 3 + 1) := rfl
    have f4 : acS V c (-2) 344 = vU (V 344) 3 (V 344 3 + 1) := rfl
    rw [f1, e3, f2, f3, f4]
    funext j
    by_cases q : j = 3
    · subst q; simp [vU]; omega
    · simp [vU, q]
  · have f1 : acS (acS (acS (acS V c (-2)) c (-1)) c 1) c 2 345 = vU (vU (vU (vU (V 345) (V 344 3) c) (acS V c (-2) 344 3) c) (acS (acS V c (-2)) c (-1) 344 3) c) (acS (acS (acS V c (-2)) c (-1)) c 1 344 3) c := rfl
    rw [f1, e1, e2, e3, hz]
    unfold vU
    repeat' split
    all_goals first | rfl | (exfalso; omega)
  · have f1 : acS (acS (acS (acS V c (-2)) c (-1)) c 1) c 2 346 = vU (vU (vU (vU (V 346) (V 344 3) (-2)) (acS V c (-2) 344 3) (-1)) (acS (acS V c (-2)) c (-1) 344 3) 1) (acS (acS (acS V c (-2)) c (-1)) c 1 344 3) 2 := rfl
    rw [f1, e1, e2, e3, hz]
    unfold vU mrF
    repeat' split
    all_goals first | rfl | omega
/-- the class begins: which cells of memory are others, and how -/
theorem x_begin (hG : Good n L G) : ∃ W, run (d + 1) 401 0 [xR 344, xU] [] (V, G) = some (none, (W, G)) ∧ (∀ b, b ≠ 344 → b ≠ 345 → b ≠ 346 → b ≠ 347 → W b = V b) ∧ W 344 = vU (vU (vU (vU (V 344) 2 1) 4 0) 3 (1 + 4 * cn (lvP V) 36)) 5 (1 + 4 * cn (lvP V) 36) ∧ W 345 0 = -1 ∧ (∀ c, 0 ≤ c → c < 36 → lvP V c = true → ∀ b, 0 ≤ b → b < 4 → W 345 (1 + 4 * cn (lvP V) c + b) = c ∧ W 346 (1 + 4 * cn (lvP V) c + b) = mrF b) ∧ (∀ h, 0 ≤ h → h < 1 + 4 * cn (lvP V) 36 → W 347 h = 1) := by
  have hl := it_inv (D := d + 1) (q := 401) (pc := 24) (hi := 36) (I := fun c ls μ => ls = [xR 344, xI c] ∧ ∃ W, μ = (W, G) ∧ (∀ b, b ≠ 344 → b ≠ 345 → b ≠ 346 → W b = V b) ∧ W 344 = vU (vU (vU (V 344) 2 1) 4 0) 3 (1 + 4 * cn (lvP V) c) ∧ W 345 0 = -1 ∧ (∀ c', 0 ≤ c' → c' < c → lvP V c' = true → ∀ b, 0 ≤ b → b < 4 → W 345 (1 + 4 * cn (lvP V) c' + b) = c' ∧ W 346 (1 + 4 * cn (lvP V) c' + b) = mrF b)) (Q := fun y => ∃ W, y = some (none, (W, G)) ∧ (∀ b, b ≠ 344 → b ≠ 345 → b ≠ 346 → b ≠ 347 → W b = V b) ∧ W 344 = vU (vU (vU (vU (V 344) 2 1) 4 0) 3 (1 + 4 * cn (lvP V) 36)) 5 (1 + 4 * cn (lvP V) 36) ∧ W 345 0 = -1 ∧ (∀ c, 0 ≤ c → c < 36 → lvP V c = true → ∀ b, 0 ≤ b → b < 4 → W 345 (1 + 4 * cn (lvP V) c + b) = c ∧ W 346 (1 + 4 * cn (lvP V) c + b) = mrF b) ∧ (∀ h, 0 ≤ h → h < 1 + 4 * cn (lvP V) 36 → W 347 h = 1)) (fun ls μ hI => by
    obtain ⟨rfl, W, rfl, w1, w2, w3, w4⟩ := hI
    have hK := cn_bd (p := lvP V) (k := 36) (by omega)
    generalize cn (lvP V) 36 = K at *
    have es : W 344 3 = 1 + 4 * K := by rw [w2]; rfl
    have l2 := it_up (D := d + 1) (q := 401) (pc := 65) (loc := fun k => [xR 344, xI k]) (F := fun k => (vA W 347 (fl (W 347) (fun _ => 1) 0 k), G)) (hi := 1 + 4 * K) (1 + 4 * K).toNat 0 (by omega) (fun k h1 h2 => by
      rw [bk401_65, ← fl_up h1]
      simp (disch := first | omega | exact Nat.le_of_ble_eq_true rfl) only [bk401_0, bk401_57, bk401_63, bk401_86, Int.reduceToNat, vA_ap, Nat.reduceEqDiff, if_true, if_false, bx_nil, isL_I, isL_R, isL_U, if_ff, bind_some, tl_some, tl_none, bx_aload_0, bx_iconst, pf344_2 hG, pf344_4 hG, gf344_6 hG, ia345 hG, is345 hG, pf344_3 hG, bx_istore_1, bx_iload_1, bx_bipush, bx_ic_ge, gf344_0 hG, cl308 hG, bx_if_eq, cl302 hG, bx_if_ne, cl402 hG, bx_iinc1, bx_goto, gf344_3 hG, gf344_8 hG, ia347 hG, is347 hG, pf344_5 hG, bx_vret, es, if_neg (show ¬ 1 + 4 * K ≤ k by omega), is347 hG (Or.inr rfl : (1 : Int) = 0 ∨ (1 : Int) = 1), vA_vA])
    rw [fl_nil, vA_self] at l2
    refine ⟨vA (vA W 347 (fl (W 347) (fun _ => 1) 0 (1 + 4 * K))) 344 (vU (W 344) 5 (1 + 4 * K)), ?_, fun b b1 b2 b3 b4 => ?_, ?_, ?_, ?_, fun h h0 h1 => ?_⟩
    · rw [bk401_24]
      simp (disch := first | omega | exact Nat.le_of_ble_eq_true rfl) only [bk401_0, bk401_57, bk401_63, bk401_86, Int.reduceToNat, vA_ap, Nat.reduceEqDiff, if_true, if_false, bx_nil, isL_I, isL_R, isL_U, if_ff, bind_some, tl_some, tl_none, bx_aload_0, bx_iconst, pf344_2 hG, pf344_4 hG, gf344_6 hG, ia345 hG, is345 hG, pf344_3 hG, bx_istore_1, bx_iload_1, bx_bipush, bx_ic_ge, gf344_0 hG, cl308 hG, bx_if_eq, cl302 hG, bx_if_ne, cl402 hG, bx_iinc1, bx_goto, gf344_3 hG, gf344_8 hG, ia347 hG, is347 hG, pf344_5 hG, bx_vret, if_pos (show (36 : Int) ≤ 36 by omega)]
      rw [l2, bk401_65]
      simp (disch := first | omega | exact Nat.le_of_ble_eq_true rfl) only [bk401_0, bk401_57, bk401_63, bk401_86, Int.reduceToNat, vA_ap, Nat.reduceEqDiff, if_true, if_false, bx_nil, isL_I, isL_R, isL_U, if_ff, bind_some, tl_some, tl_none, bx_aload_0, bx_iconst, pf344_2 hG, pf344_4 hG, gf344_6 hG, ia345 hG, is345 hG, pf344_3 hG, bx_istore_1, bx_iload_1, bx_bipush, bx_ic_ge, gf344_0 hG, cl308 hG, bx_if_eq, cl302 hG, bx_if_ne, cl402 hG, bx_iinc1, bx_goto, gf344_3 hG, gf344_8 hG, ia347 hG, is347 hG, pf344_5 hG, bx_vret, es, if_pos (show 1 + 4 * K ≤ 1 + 4 * K by omega)]
    · rw [vA_ne b1, vA_ne b4]; exact w1 b b1 b2 b3
    · rw [vA_same, w2]
    · exact w3
    · exact w4
    · rw [vA_ne (by decide), vA_same, fl_in h0 h1]) 36 0 (by omega) (fun c ls μ h1 h2 hI => by
    obtain ⟨rfl, W, rfl, w1, w2, w3, w4⟩ := hI
    left
    have e6 : W 6 = V 6 := w1 _ (by decide) (by decide) (by decide)
    have e8 : W 8 = V 8 := w1 _ (by decide) (by decide) (by decide)
    have hcb := cn_bd (p := lvP V) h1
    have hcu := cn_up (p := lvP V) h1
    have es : W 344 3 = 1 + 4 * cn (lvP V) c := by rw [w2]; rfl
    by_cases q : lvP V c = true
    · have q' : ¬ V 6 c = -1 ∧ V 8 c = -1 := by unfold lvP at q; simpa using q
      obtain ⟨U, u0, u1, u2, u3, u4⟩ := x_addCell (d := d) (V := W) (c := c) hG (by omega)
      rw [es] at u2 u3 u4
      rw [if_pos q] at hcu
      refine ⟨_, _, ⟨rfl, U, rfl, fun b b1 b2 b3 => (u1 b b1 b2 b3).trans (w1 b b1 b2 b3), ?_, ?_, fun c' c0 c1 c2 b b0 b1 => ?_⟩, ?_⟩
      · rw [u2, w2, hcu]
        funext j
        by_cases e : j = 3
        · subst e; simp [vU]; omega
        · simp [vU, e]
      · rw [u3, if_neg (by omega)]; exact w3
      · by_cases e : c' = c
        · subst e
          rw [u3, u4, if_pos (by omega), if_pos (by omega), show 1 + 4 * cn (lvP V) c' + b - (1 + 4 * cn (lvP V) c') = b by omega]
          exact ⟨rfl, rfl⟩
        · have hlt := cn_lt (p := lvP V) (c := c') (c - c' - 1).toNat c0 c2
          rw [show c' + 1 + (((c - c' - 1).toNat : Nat) : Int) = c by omega] at hlt
          rw [u3, u4, if_neg (by omega), if_neg (by omega)]
          exact w4 c' c0 (by omega) c2 b b0 b1
      · rw [bk401_24]
        simp (disch := first | omega | exact Nat.le_of_ble_eq_true rfl) only [bk401_0, bk401_57, bk401_63, bk401_86, Int.reduceToNat, vA_ap, Nat.reduceEqDiff, if_true, if_false, bx_nil, isL_I, isL_R, isL_U, if_ff, bind_some, tl_some, tl_none, bx_aload_0, bx_iconst, pf344_2 hG, pf344_4 hG, gf344_6 hG, ia345 hG, is345 hG, pf344_3 hG, bx_istore_1, bx_iload_1, bx_bipush, bx_ic_ge, gf344_0 hG, cl308 hG, bx_if_eq, cl302 hG, bx_if_ne, cl402 hG, bx_iinc1, bx_goto, gf344_3 hG, gf344_8 hG, ia347 hG, is347 hG, pf344_5 hG, bx_vret, if_neg (show ¬ 36 ≤ c by omega), x_isCell hG h1 h2, x_isDead hG h1 h2, e6, e8, b1_t q'.1, b1_f (not_not_intro q'.2), one_ne, u0]
    · rw [if_neg q, Int.add_zero] at hcu
      refine ⟨_, _, ⟨rfl, W, rfl, w1, by rw [hcu]; exact w2, w3, fun c' c0 c1 c2 b b0 b1 => ?_⟩, ?_⟩
      · by_cases e : c' = c
        · rw [e] at c2; exact absurd c2 q
        · exact w4 c' c0 (by omega) c2 b b0 b1
      · rw [bk401_24]
        by_cases y : V 6 c = -1
        · simp (disch := first | omega | exact Nat.le_of_ble_eq_true rfl) only [bk401_0, bk401_57, bk401_63, bk401_86, Int.reduceToNat, vA_ap, Nat.reduceEqDiff, if_true, if_false, bx_nil, isL_I, isL_R, isL_U, if_ff, bind_some, tl_some, tl_none, bx_aload_0, bx_iconst, pf344_2 hG, pf344_4 hG, gf344_6 hG, ia345 hG, is345 hG, pf344_3 hG, bx_istore_1, bx_iload_1, bx_bipush, bx_ic_ge, gf344_0 hG, cl308 hG, bx_if_eq, cl302 hG, bx_if_ne, cl402 hG, bx_iinc1, bx_goto, gf344_3 hG, gf344_8 hG, ia347 hG, is347 hG, pf344_5 hG, bx_vret, if_neg (show ¬ 36 ≤ c by omega), x_isCell hG h1 h2, e6, b1_f (not_not_intro y)]
        · have y2 : ¬ V 8 c = -1 := fun y2 => q (by unfold lvP; exact decide_eq_true ⟨y, y2⟩)
          simp (disch := first | omega | exact Nat.le_of_ble_eq_true rfl) only [bk401_0, bk401_57, bk401_63, bk401_86, Int.reduceToNat, vA_ap, Nat.reduceEqDiff, if_true, if_false, bx_nil, isL_I, isL_R, isL_U, if_ff, bind_some, tl_some, tl_none, bx_aload_0, bx_iconst, pf344_2 hG, pf344_4 hG, gf344_6 hG, ia345 hG, is345 hG, pf344_3 hG, bx_istore_1, bx_iload_1, bx_bipush, bx_ic_ge, gf344_0 hG, cl308 hG, bx_if_eq, cl302 hG, bx_if_ne, cl402 hG, bx_iinc1, bx_goto, gf344_3 hG, gf344_8 hG, ia347 hG, is347 hG, pf344_5 hG, bx_vret, if_neg (show ¬ 36 ≤ c by omega), x_isCell hG h1 h2, x_isDead hG h1 h2, e6, e8, b1_t y, b1_t y2, one_ne]) [xR 344, xI 0] (vA (vA V 344 (vU (vU (vU (V 344) 2 1) 4 0) 3 1)) 345 (vU (V 345) 0 (-1)), G) ⟨rfl, _, rfl, fun b b1 b2 b3 => by rw [vA_ne b2, vA_ne b1], rfl, rfl, fun c' c0 c1 => by omega⟩
  simp (disch := first | omega | exact Nat.le_of_ble_eq_true rfl) only [bk401_0, bk401_57, bk401_63, bk401_86, Int.reduceToNat, vA_ap, Nat.reduceEqDiff, if_true, if_false, bx_nil, isL_I, isL_R, isL_U, if_ff, bind_some, tl_some, tl_none, bx_aload_0, bx_iconst, pf344_2 hG, pf344_4 hG, gf344_6 hG, ia345 hG, is345 hG, pf344_3 hG, bx_istore_1, bx_iload_1, bx_bipush, bx_ic_ge, gf344_0 hG, cl308 hG, bx_if_eq, cl302 hG, bx_if_ne, cl402 hG, bx_iinc1, bx_goto, gf344_3 hG, gf344_8 hG, ia347 hG, is347 hG, pf344_5 hG, bx_vret]
  have e0 : vA (vA (vA (vA V 344 (vU (V 344) 2 1)) 344 (vU (vU (V 344) 2 1) 4 0)) 345 (vU (V 345) 0 (-1))) 344 (vU (vU (vU (V 344) 2 1) 4 0) 3 1) = vA (vA V 344 (vU (vU (vU (V 344) 2 1) 4 0) 3 1)) 345 (vU (V 345) 0 (-1)) := by
    rw [vA_vA, vA_cm (by decide), vA_vA, vA_cm (by decide)]
  rw [← e0] at hl
  exact hl
/-- the reference begins -/
theorem mp_probing (hG : Good n L G) (hn : V 376 0 = n) (h26 : 2 ≤ n ∧ n ≤ 6) {P : Int → Bool} (hP : ∀ c, 0 ≤ c → c < 36 → (P c = true ↔ ¬ lnF n c = -1 ∧ V 380 (ix c) < 0)) : ∃ W, run (d + 2) 1154 0 [xR 376, xU] [] (V, G) = some (some (xI (1 + 4 * cn P 36)), (W, G)) ∧ (∀ b, b ≠ 376 → b ≠ 407 → b ≠ 409 → W b = V b) ∧ W 376 = vU (vU (vU (vU (V 376) 47 (cn P 36)) 48 (1 + 4 * cn P 36)) 50 1) 49 0 ∧ (∀ c, 0 ≤ c → c < 36 → P c = true → W 407 (cn P c) = ix c) ∧ (∀ h, 0 ≤ h → h < 1 + 4 * cn P 36 → W 409 h = 1) := by
  have hl := it_inv (D := d + 2) (q := 1154) (pc := 7) (hi := 72) (I := fun k ls μ => ls = [xR 376, xI k] ∧ ∃ W, μ = (W, G) ∧ (∀ b, b ≠ 376 → b ≠ 407 → W b = V b) ∧ W 376 = vU (V 376) 47 (cn P (cc k)) ∧ (∀ c, 0 ≤ c → c < cc k → P c = true → W 407 (cn P c) = ix c)) (Q := fun y => ∃ W, y = some (some (xI (1 + 4 * cn P 36)), (W, G)) ∧ (∀ b, b ≠ 376 → b ≠ 407 → b ≠ 409 → W b = V b) ∧ W 376 = vU (vU (vU (vU (V 376) 47 (cn P 36)) 48 (1 + 4 * cn P 36)) 50 1) 49 0 ∧ (∀ c, 0 ≤ c → c < 36 → P c = true → W 407 (cn P c) = ix c) ∧ (∀ h, 0 ≤ h → h < 1 + 4 * cn P 36 → W 409 h = 1)) (fun ls μ hI => by
    obtain ⟨rfl, W, rfl, w1, w2, w3⟩ := hI
    rw [show cc 72 = 36 by decide] at w2 w3
    have hK := cn_bd (p := P) (k := 36) (by omega)
    generalize hKK : cn P 36 = K at *
    have es : W 376 47 = K := by rw [w2]; rfl
    obtain ⟨A, hA⟩ : ∃ A, A = vA W 376 (vU (W 376) 48 (1 + 4 * K)) := ⟨_, rfl⟩
    have eA : A 376 48 = 1 + 4 * K := by rw [hA]; rfl
    have l2 := it_up (D := d + 2) (q := 1154) (pc := 80) (loc := fun k => [xR 376, xI k]) (F := fun k => (vA A 409 (fl (A 409) (fun _ => 1) 0 k), G)) (hi := 1 + 4 * K) (1 + 4 * K).toNat 0 (by omega) (fun k h1 h2 => by
      rw [bk1154_80, ← fl_up h1]
      simp (disch := first | omega | exact Nat.le_of_ble_eq_true rfl) only [bk1154_0, bk1154_40, bk1154_60, bk1154_66, bk1154_101, Int.reduceToNat, vA_ap, Nat.reduceEqDiff, if_true, if_false, bx_nil, isL_I, isL_R, isL_U, if_ff, bind_some, tl_some, tl_none, bx_aload_0, bx_iconst, pf376_47 hG, bx_istore_1, bx_iload_1, bx_bipush, bx_ic_ge, bx_idiv, bx_irem, cl1105 hG, bx_if_eq, gf376_4 hG, ia380 hG, is380 hG, bx_if_lt, bx_goto, gf376_44 hG, ia407 hG, is407 hG, gf376_47 hG, bx_dupI, bx_dupR, bx_iadd, bx_iinc1, bx_imul, pf376_48 hG, gf376_48 hG, gf376_46 hG, ia409 hG, is409 hG, pf376_50 hG, pf376_49 hG, bx_iret, eA, if_neg (show ¬ 1 + 4 * K ≤ k by omega), is409 hG (Or.inr rfl : (1 : Int) = 0 ∨ (1 : Int) = 1), vA_vA])
    rw [fl_nil, vA_self] at l2
    refine ⟨vA (vA (vA A 409 (fl (A 409) (fun _ => 1) 0 (1 + 4 * K))) 376 (vU (A 376) 50 1)) 376 (vU (vU (A 376) 50 1) 49 0), ?_, fun b b1 b2 b3 => ?_, ?_, fun c c0 c1 c2 => ?_, fun h h0 h1 => ?_⟩
    · rw [bk1154_7]
      simp (disch := first | omega | exact Nat.le_of_ble_eq_true rfl) only [bk1154_0, bk1154_40, bk1154_60, bk1154_66, bk1154_101, Int.reduceToNat, vA_ap, Nat.reduceEqDiff, if_true, if_false, bx_nil, isL_I, isL_R, isL_U, if_ff, bind_some, tl_some, tl_none, bx_aload_0, bx_iconst, pf376_47 hG, bx_istore_1, bx_iload_1, bx_bipush, bx_ic_ge, bx_idiv, bx_irem, cl1105 hG, bx_if_eq, gf376_4 hG, ia380 hG, is380 hG, bx_if_lt, bx_goto, gf376_44 hG, ia407 hG, is407 hG, gf376_47 hG, bx_dupI, bx_dupR, bx_iadd, bx_iinc1, bx_imul, pf376_48 hG, gf376_48 hG, gf376_46 hG, ia409 hG, is409 hG, pf376_50 hG, pf376_49 hG, bx_iret, if_pos (show (72 : Int) ≤ 72 by omega), es]
      rw [← hA, l2, bk1154_80]
      have eB : vU (vU (A 376) 50 1) 49 0 48 = 1 + 4 * K := eA
      simp (disch := first | omega | exact Nat.le_of_ble_eq_true rfl) only [bk1154_0, bk1154_40, bk1154_60, bk1154_66, bk1154_101, Int.reduceToNat, vA_ap, Nat.reduceEqDiff, if_true, if_false, bx_nil, isL_I, isL_R, isL_U, if_ff, bind_some, tl_some, tl_none, bx_aload_0, bx_iconst, pf376_47 hG, bx_istore_1, bx_iload_1, bx_bipush, bx_ic_ge, bx_idiv, bx_irem, cl1105 hG, bx_if_eq, gf376_4 hG, ia380 hG, is380 hG, bx_if_lt, bx_goto, gf376_44 hG, ia407 hG, is407 hG, gf376_47 hG, bx_dupI, bx_dupR, bx_iadd, bx_iinc1, bx_imul, pf376_48 hG, gf376_48 hG, gf376_46 hG, ia409 hG, is409 hG, pf376_50 hG, pf376_49 hG, bx_iret, eA, if_pos (show 1 + 4 * K ≤ 1 + 4 * K by omega), eB]
    · rw [vA_ne b1, vA_ne b1, vA_ne b3, hA, vA_ne b1]; exact w1 b b1 b2
    · rw [vA_same, hA, vA_same, w2]
    · rw [vA_ne (by decide), vA_ne (by decide), vA_ne (by decide), hA, vA_ne (by decide)]; exact w3 c c0 c1 c2
    · rw [vA_ne (by decide), vA_ne (by decide), vA_same, fl_in h0 h1]) 72 0 (by omega) (fun k ls μ h1 h2 hI => by
    obtain ⟨rfl, W, rfl, w1, w2, w3⟩ := hI
    left
    have e0 : W 376 0 = n := by rw [w2]; exact hn
    have es : W 376 47 = cn P (cc k) := by rw [w2]; rfl
    have est : W 380 = V 380 := w1 _ (by decide) (by decide)
    have hc0 : 0 ≤ cc k := by unfold cc; omega
    have hcb := cn_bd (p := P) hc0
    have hc36 : cc k ≤ 36 := by unfold cc; omega
    have hst : ∀ z : Int, isC n (k / 6) (k % 6) → V 380 k < 0 → run (d + 2) 1154 7 [xR 376, xI k] [] (W, G) = run (d + 2) 1154 7 [xR 376, xI (k + 1)] [] (vA (vA W 407 (vU (W 407) (cn P (cc k)) k)) 376 (vU (W 376) 47 (cn P (cc k) + 1)), G) := fun z g1 g2 => by
      rw [bk1154_7]
      simp (disch := first | omega | exact Nat.le_of_ble_eq_true rfl) only [bk1154_0, bk1154_40, bk1154_60, bk1154_66, bk1154_101, Int.reduceToNat, vA_ap, Nat.reduceEqDiff, if_true, if_false, bx_nil, isL_I, isL_R, isL_U, if_ff, bind_some, tl_some, tl_none, bx_aload_0, bx_iconst, pf376_47 hG, bx_istore_1, bx_iload_1, bx_bipush, bx_ic_ge, bx_idiv, bx_irem, cl1105 hG, bx_if_eq, gf376_4 hG, ia380 hG, is380 hG, bx_if_lt, bx_goto, gf376_44 hG, ia407 hG, is407 hG, gf376_47 hG, bx_dupI, bx_dupR, bx_iadd, bx_iinc1, bx_imul, pf376_48 hG, gf376_48 hG, gf376_46 hG, ia409 hG, is409 hG, pf376_50 hG, pf376_49 hG, bx_iret, if_neg (show ¬ 72 ≤ k by omega), td_pos h1, tm_pos h1 (show (0 : Int) < 6 by omega), m_isCell hG e0 h26.1 h26.2, b1_t g1, one_ne, est, if_pos g2, es]
    have hst2 : ¬ (isC n (k / 6) (k % 6) ∧ V 380 k < 0) → run (d + 2) 1154 7 [xR 376, xI k] [] (W, G) = run (d + 2) 1154 7 [xR 376, xI (k + 1)] [] (W, G) := fun g => by
      rw [bk1154_7]
      by_cases g1 : isC n (k / 6) (k % 6)
      · simp (disch := first | omega | exact Nat.le_of_ble_eq_true rfl) only [bk1154_0, bk1154_40, bk1154_60, bk1154_66, bk1154_101, Int.reduceToNat, vA_ap, Nat.reduceEqDiff, if_true, if_false, bx_nil, isL_I, isL_R, isL_U, if_ff, bind_some, tl_some, tl_none, bx_aload_0, bx_iconst, pf376_47 hG, bx_istore_1, bx_iload_1, bx_bipush, bx_ic_ge, bx_idiv, bx_irem, cl1105 hG, bx_if_eq, gf376_4 hG, ia380 hG, is380 hG, bx_if_lt, bx_goto, gf376_44 hG, ia407 hG, is407 hG, gf376_47 hG, bx_dupI, bx_dupR, bx_iadd, bx_iinc1, bx_imul, pf376_48 hG, gf376_48 hG, gf376_46 hG, ia409 hG, is409 hG, pf376_50 hG, pf376_49 hG, bx_iret, if_neg (show ¬ 72 ≤ k by omega), td_pos h1, tm_pos h1 (show (0 : Int) < 6 by omega), m_isCell hG e0 h26.1 h26.2, b1_t g1, one_ne, est, if_neg (show ¬ V 380 k < 0 from fun y => g ⟨g1, y⟩)]
      · simp (disch := first | omega | exact Nat.le_of_ble_eq_true rfl) only [bk1154_0, bk1154_40, bk1154_60, bk1154_66, bk1154_101, Int.reduceToNat, vA_ap, Nat.reduceEqDiff, if_true, if_false, bx_nil, isL_I, isL_R, isL_U, if_ff, bind_some, tl_some, tl_none, bx_aload_0, bx_iconst, pf376_47 hG, bx_istore_1, bx_iload_1, bx_bipush, bx_ic_ge, bx_idiv, bx_irem, cl1105 hG, bx_if_eq, gf376_4 hG, ia380 hG, is380 hG, bx_if_lt, bx_goto, gf376_44 hG, ia407 hG, is407 hG, gf376_47 hG, bx_dupI, bx_dupR, bx_iadd, bx_iinc1, bx_imul, pf376_48 hG, gf376_48 hG, gf376_46 hG, ia409 hG, is409 hG, pf376_50 hG, pf376_49 hG, bx_iret, if_neg (show ¬ 72 ≤ k by omega), td_pos h1, tm_pos h1 (show (0 : Int) < 6 by omega), m_isCell hG e0 h26.1 h26.2, b1_f g1]
    by_cases par : (k % 6) % 2 = (k / 6) % 2
    · have hix : ix (cc k) = k := (cc_ix par).1
      have hcc : cc (k + 1) = cc k + 1 := by rw [cc_up, if_pos par]
      have hlt : cc k < 36 := by unfold cc; omega
      have hic : isC n (k / 6) (k % 6) ↔ ¬ lnF n (cc k) = -1 := by
        obtain ⟨_, z1, z2⟩ := cc_ix par
        unfold isC lnF
        rw [z1, z2]
        by_cases z : k % 6 + 1 < (n : Int)
        · rw [if_pos z]; omega
        · rw [if_neg z]; omega
      have hp := hP (cc k) hc0 hlt
      rw [hix, ← hic] at hp
      have hcu := cn_up (p := P) hc0
      by_cases q : P (cc k) = true
      · rw [if_pos q] at hcu
        refine ⟨_, _, ⟨rfl, vA (vA W 407 (vU (W 407) (cn P (cc k)) k)) 376 (vU (W 376) 47 (cn P (cc k) + 1)), rfl, fun b b1 b2 => ?_, ?_, fun c c0 c1 c2 => ?_⟩, hst 0 (hp.mp q).1 (hp.mp q).2⟩
        · rw [vA_ne b1, vA_ne b2]; exact w1 b b1 b2
        · rw [vA_same, hcc, hcu, w2]
          funext j
          by_cases e : j = 47
          · subst e; simp [vU]
          · simp [vU, e]
        · rw [vA_ne (by decide), vA_same]
          by_cases e : c = cc k
          · rw [e, vU_at, hix]
          · have hlt := cn_lt (p := P) (c := c) (cc k - c - 1).toNat c0 c2
            rw [show c + 1 + (((cc k - c - 1).toNat : Nat) : Int) = cc k by omega] at hlt
            rw [vU_ne (by omega)]
            exact w3 c c0 (by omega) c2
      · rw [if_neg q, Int.add_zero] at hcu
        refine ⟨_, _, ⟨rfl, W, rfl, w1, by rw [hcc, hcu]; exact w2, fun c c0 c1 c2 => ?_⟩, hst2 (fun y => q (hp.mpr y))⟩
        by_cases e : c = cc k
        · rw [e] at c2; exact absurd c2 q
        · exact w3 c c0 (by omega) c2
    · have hcc : cc (k + 1) = cc k := by rw [cc_up, if_neg par]
      refine ⟨_, _, ⟨rfl, W, rfl, w1, by rw [hcc]; exact w2, by rw [hcc]; exact w3⟩, hst2 (fun y => ?_)⟩
      have := y.1
      unfold isC at this
      omega) [xR 376, xI 0] (vA V 376 (vU (V 376) 47 0), G) ⟨rfl, _, rfl, fun b b1 b2 => by rw [vA_ne b1], rfl, fun c c0 c1 => absurd c1 (by rw [show cc 0 = 0 by decide]; omega)⟩
  simp (disch := first | omega | exact Nat.le_of_ble_eq_true rfl) only [bk1154_0, bk1154_40, bk1154_60, bk1154_66, bk1154_101, Int.reduceToNat, vA_ap, Nat.reduceEqDiff, if_true, if_false, bx_nil, isL_I, isL_R, isL_U, if_ff, bind_some, tl_some, tl_none, bx_aload_0, bx_iconst, pf376_47 hG, bx_istore_1, bx_iload_1, bx_bipush, bx_ic_ge, bx_idiv, bx_irem, cl1105 hG, bx_if_eq, gf376_4 hG, ia380 hG, is380 hG, bx_if_lt, bx_goto, gf376_44 hG, ia407 hG, is407 hG, gf376_47 hG, bx_dupI, bx_dupR, bx_iadd, bx_iinc1, bx_imul, pf376_48 hG, gf376_48 hG, gf376_46 hG, ia409 hG, is409 hG, pf376_50 hG, pf376_49 hG, bx_iret]
  exact hl
theorem pr_probing (hG : Good n L G) (h : Inv n V) : pair n G V 1027 1154 [xR 1] [xR 376, xU] := by
  have hn := h.nn
  obtain ⟨W, x0, x1, x2, x3, x4, x5⟩ := x_begin (d := 797) (V := V) hG
  have hx : run 799 1027 0 [xR 1] [] (V, G) = some (some (xI (1 + 4 * cn (lvP V) 36)), (W, G)) := by
    have e : W 344 3 = 1 + 4 * cn (lvP V) 36 := by rw [x2]; rfl
    have x0' : run 798 401 0 [xR 344, xU] [] (V, G) = some (none, (W, G)) := x0
    simp (disch := first | omega | exact Nat.le_of_ble_eq_true rfl) only [bk1027_0, Int.reduceToNat, vA_ap, Nat.reduceEqDiff, if_true, if_false, bx_nil, isL_I, isL_R, isL_U, if_ff, bind_some, tl_some, tl_none, bx_aload_0, gf1_8 hG, cl401 hG, gf344_3 hG, bx_iret, x0', e]
  have fm : ∀ b, 376 ≤ b → W b = V b := fun b hb => x1 b (by omega) (by omega) (by omega) (by omega)
  have hP : ∀ c, 0 ≤ c → c < 36 → (lvP V c = true ↔ ¬ lnF n c = -1 ∧ W 380 (ix c) < 0) := fun c c0 c1 => by
    have e1 := h.lan c c0 c1
    have e2 := h.stk.1 c c0 c1
    have e3 := h.stk.2.2 (ix c) (ix_bd ⟨c0, c1⟩).1 (ix_bd ⟨c0, c1⟩).2
    unfold lvP
    rw [fm _ (by decide), e1, e2, decide_eq_true_eq]
    constructor
    · rintro ⟨a, b⟩; exact ⟨a, by omega⟩
    · rintro ⟨a, b⟩; exact ⟨a, by omega⟩
  obtain ⟨U, m0, m1, m2, m3, m4⟩ := mp_probing (d := 797) (V := W) (P := lvP V) hG (by rw [fm _ (by decide)]; exact h.lm) hn hP
  have m0' : run 799 1154 0 [xR 376, xU] [] (W, G) = some (some (xI (1 + 4 * cn (lvP V) 36)), (U, G)) := m0
  have hK := cn_bd (p := lvP V) (k := 36) (by omega)
  have fx : ∀ b, b < 376 → U b = W b := fun b hb => m1 b (by omega) (by omega) (by omega)
  have fr : ∀ b, b ≠ 344 → b ≠ 345 → b ≠ 346 → b ≠ 347 → b ≠ 376 → b ≠ 407 → b ≠ 409 → U b = V b := fun b b1 b2 b3 b4 b5 b6 b7 => (m1 b b5 b6 b7).trans (x1 b b1 b2 b3 b4)
  have u344 : U 344 = vU (vU (vU (vU (V 344) 2 1) 4 0) 3 (1 + 4 * cn (lvP V) 36)) 5 (1 + 4 * cn (lvP V) 36) := (fx 344 (by decide)).trans x2
  have u376 : U 376 = vU (vU (vU (vU (V 376) 47 (cn (lvP V) 36)) 48 (1 + 4 * cn (lvP V) 36)) 50 1) 49 0 := by rw [m2, fm _ (by decide)]
  have hprb : prbP n U := by
    have k1 : U 344 2 = 1 := by rw [u344]; rfl
    have k2 : U 344 3 = 1 + 4 * cn (lvP V) 36 := by rw [u344]; rfl
    have k3 : U 344 4 = 0 := by rw [u344]; rfl
    have k4 : U 344 5 = 1 + 4 * cn (lvP V) 36 := by rw [u344]; rfl
    have k5 : U 376 50 = 1 := by rw [u376]; rfl
    have k6 : U 376 48 = 1 + 4 * cn (lvP V) 36 := by rw [u376]; rfl
    have k7 : U 376 47 = cn (lvP V) 36 := by rw [u376]; rfl
    have k8 : U 376 49 = 0 := by rw [u376]; rfl
    unfold prbP
    rw [k1, k2, k3, k4, k5, k6, k7, k8]
    refine ⟨rfl, Or.inr rfl, fun _ => ⟨rfl, rfl, by omega, by omega, rfl, ?_, fun a b a0 a1 b0 b1 => ?_, fun j j0 j1 => ?_, ?_⟩⟩
    · rw [fx _ (by decide)]; exact x3
    · obtain ⟨c, c0, c1, c2, c3⟩ := cn_surj a0 36 a1
      have c1' : c < 36 := c1
      obtain ⟨y1, y2⟩ := x4 c c0 c1' c2 b b0 b1
      have y3 := m3 c c0 c1' c2
      rw [c3] at y1 y2 y3
      unfold hypP
      rw [fx 345 (by decide), fx 346 (by decide), y1, y2, y3]
      exact ⟨⟨c0, c1'⟩, ((hP c c0 c1').mp c2).1, rfl, rfl⟩
    · rw [m4 j j0 j1, fx _ (by decide), x5 j j0 j1]
      exact ⟨rfl, Or.inr rfl⟩
    · rw [cntF_all _ _ (fun j j0 j1 => ?_)]
      · omega
      · rw [fx _ (by decide), x5 j j0 (by omega)]
        rfl
  refine mkpair hx m0' ?_
  obtain ⟨g, hV⟩ : ∃ g : Nat → Int → Int, U = fun b => if b = 344 then vU (vU (vU (vU (V 344) 2 1) 4 0) 3 (1 + 4 * cn (lvP V) 36)) 5 (1 + 4 * cn (lvP V) 36) else if b = 345 then g b else if b = 346 then g b else if b = 347 then g b else if b = 376 then vU (vU (vU (vU (V 376) 47 (cn (lvP V) 36)) 48 (1 + 4 * cn (lvP V) 36)) 50 1) 49 0 else if b = 407 then g b else if b = 409 then g b else V b := by
    refine ⟨U, funext fun b => ?_⟩
    by_cases c1 : b = 344
    · rw [if_pos c1, c1]; exact u344
    rw [if_neg c1]
    by_cases c2 : b = 345
    · rw [if_pos c2]
    rw [if_neg c2]
    by_cases c3 : b = 346
    · rw [if_pos c3]
    rw [if_neg c3]
    by_cases c4 : b = 347
    · rw [if_pos c4]
    rw [if_neg c4]
    by_cases c5 : b = 376
    · rw [if_pos c5, c5]; exact u376
    rw [if_neg c5]
    by_cases c6 : b = 407
    · rw [if_pos c6]
    rw [if_neg c6]
    by_cases c7 : b = 409
    · rw [if_pos c7]
    rw [if_neg c7]
    exact fr b c1 c2 c3 c4 c5 c6 c7
  have ftld : tldP n U := tldP_tr hn.2 h.tld (fun c hc => fr _ (by omega) (by omega) (by omega) (by omega) (by omega) (by omega) (by omega)) (fr _ (by decide) (by decide) (by decide) (by decide) (by decide) (by decide) (by decide))
  have fsgn : sgnP n U := sgnP_tr hn.2 h.sgn (fun c hc => fr _ (by omega) (by omega) (by omega) (by omega) (by omega) (by omega) (by omega)) (fr _ (by decide) (by decide) (by decide) (by decide) (by decide) (by decide) (by decide)) (fr _ (by decide) (by decide) (by decide) (by decide) (by decide) (by decide) (by decide))
  have frns : runP n U := runP_tr h.rns (fun c hc => ⟨fr _ (by omega) (by omega) (by omega) (by omega) (by omega) (by omega) (by omega), fr _ (by omega) (by omega) (by omega) (by omega) (by omega) (by omega) (by omega), fr _ (by omega) (by omega) (by omega) (by omega) (by omega) (by omega) (by omega)⟩) ⟨fr _ (by decide) (by decide) (by decide) (by decide) (by decide) (by decide) (by decide), fr _ (by decide) (by decide) (by decide) (by decide) (by decide) (by decide) (by decide), fr _ (by decide) (by decide) (by decide) (by decide) (by decide) (by decide) (by decide)⟩ (by rw [hV]; rfl)
  subst hV
  exact ⟨h.nn, h.l5, h.l12, h.l35, h.lm, h.lim, h.cc, h.ss, h.rC, h.rS, h.lan, h.set, h.stk, h.off, h.own, h.cre, h.lig, ftld, h.stp, h.spl, fsgn, h.wrk, h.tap, h.ent, h.fnd, frns, hprb⟩
end PB
