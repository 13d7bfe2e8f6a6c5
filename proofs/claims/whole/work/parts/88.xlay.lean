/-! LAY: the class prepares -/
section XLY
variable {n L d : Nat} {G : XG} {V : Nat → Int → Int} {μ : XM}
theorem j_fillL {a len : Nat} {to : Int} (hs : G.1 a = (3, len)) (hl : len ≤ 100000) (ht : 0 ≤ to ∧ to ≤ len) : run (d + 1) 1401 0 [xR a, xI 0, xI to, xL 0, xU, xU] [] (V, G) = some (none, (vA V a (fl (V a) (fun _ => 0) 0 to), G)) := by
  have hrc : run d 1402 0 [xI len, xI 0, xI to] [] (V, G) = some (none, (V, G)) := by
    simp (disch := first | omega | exact Nat.le_of_ble_eq_true rfl) only [bk1402_0, bk1402_46, bk1402_59, bk1402_73, Int.reduceToNat, vA_ap, Nat.reduceEqDiff, if_true, if_false, bx_nil, isL_I, isL_R, isL_U, if_ff, bind_some, tl_some, tl_none, bx_iload_1, bx_iload_2, bx_ic_le, bx_if_ge, bx_iload_0, bx_vret, if_pos ht.1, if_pos (show (0 : Int) ≤ 0 by omega), if_pos ht.2]
  have h := it_up (D := d + 1) (q := 1401) (pc := 10) (loc := fun k => [xR a, xI 0, xI to, xL 0, xU, xI k]) (F := fun k => (vA V a (fl (V a) (fun _ => 0) 0 k), G)) (hi := to) to.toNat 0 (by omega) (fun k k0 k1 => by
    rw [bk1401_10, ← fl_up k0]
    simp (disch := first | omega | exact Nat.le_of_ble_eq_true rfl) only [bk1401_0, bk1401_27, Int.reduceToNat, vA_ap, Nat.reduceEqDiff, if_true, if_false, bx_nil, isL_I, isL_R, isL_U, if_ff, bind_some, tl_some, tl_none, bx_aload_0, bx_iload_1, bx_iload_2, cl1402, bx_istore5, bx_iload5, bx_ic_ge, bx_lload_3, bx_iinc5, bx_goto, bx_vret, if_neg (show ¬ to ≤ k by omega), bx_last hs, vA_same, vA_vA])
  rw [fl_nil, vA_self] at h
  have hst : run (d + 1) 1401 0 [xR a, xI 0, xI to, xL 0, xU, xU] [] (V, G) = run (d + 1) 1401 10 [xR a, xI 0, xI to, xL 0, xU, xI 0] [] (V, G) := by
    simp (disch := first | omega | exact Nat.le_of_ble_eq_true rfl) only [bk1401_0, bk1401_27, Int.reduceToNat, vA_ap, Nat.reduceEqDiff, if_true, if_false, bx_nil, isL_I, isL_R, isL_U, if_ff, bind_some, tl_some, tl_none, bx_aload_0, bx_iload_1, bx_iload_2, cl1402, bx_istore5, bx_iload5, bx_ic_ge, bx_lload_3, bx_iinc5, bx_goto, bx_vret, bx_alen hs ⟨Or.inr (Or.inl rfl), hl⟩, hrc]
  rw [hst, h, bk1401_10]
  simp (disch := first | omega | exact Nat.le_of_ble_eq_true rfl) only [bk1401_0, bk1401_27, Int.reduceToNat, vA_ap, Nat.reduceEqDiff, if_true, if_false, bx_nil, isL_I, isL_R, isL_U, if_ff, bind_some, tl_some, tl_none, bx_aload_0, bx_iload_1, bx_iload_2, cl1402, bx_istore5, bx_iload5, bx_ic_ge, bx_lload_3, bx_iinc5, bx_goto, bx_vret, if_pos (show to ≤ to by omega)]
/-- earlier works of one work -/
theorem x_ear {W : Nat → Int → Int} {w : Nat} (hG : Good n L G) (h : layX n V) (hw : (w : Int) < V 29 2) (f : ∀ b, b ≠ 34 → b ≠ 33 → b ≠ 32 → W b = V b) : ∃ U e : _, run (d + 1) 102 52 [xR 32, xI w, xI 0] [] (vA W 34 (vU (W 34) w 0), G) = run (d + 1) 102 32 [xR 32, xI (w + 1), xI w] [] (U, G) ∧ (∀ b, b ≠ 34 → U b = W b) ∧ (∀ j, j ≠ (w : Int) → U 34 j = W 34 j) ∧ U 34 w = ((e : Nat) : Int) ∧ e < 1024 ∧ ∀ v : Nat, e.testBit v = true ↔ v < w ∧ shr V v w := by
  obtain ⟨h26, hk, hwl, hst, hln, hpl⟩ := h
  have f30 : W 30 = V 30 := f 30 (by decide) (by decide) (by decide)
  have hl := it_inv (D := d + 1) (q := 102) (pc := 52) (hi := w) (I := fun v ls μ => ls = [xR 32, xI w, xI v] ∧ ∃ (U : Nat → Int → Int) (e : Nat), μ = (U, G) ∧ (∀ b, b ≠ 34 → U b = W b) ∧ (∀ j, j ≠ (w : Int) → U 34 j = W 34 j) ∧ U 34 w = (e : Int) ∧ e < 1024 ∧ ∀ v' : Nat, e.testBit v' = true ↔ (v' : Int) < v ∧ shr V v' w) (Q := fun y => ∃ (U : Nat → Int → Int) (e : Nat), y = run (d + 1) 102 32 [xR 32, xI (w + 1), xI w] [] (U, G) ∧ (∀ b, b ≠ 34 → U b = W b) ∧ (∀ j, j ≠ (w : Int) → U 34 j = W 34 j) ∧ U 34 w = (e : Int) ∧ e < 1024 ∧ ∀ v : Nat, e.testBit v = true ↔ v < w ∧ shr V v w) (fun ls μ hI => by
    obtain ⟨rfl, U, e, rfl, u1, u2, u3, u4, u5⟩ := hI
    refine ⟨U, e, ?_, u1, u2, u3, u4, fun v => ?_⟩
    · rw [bk102_52]
      simp (disch := first | omega | exact Nat.le_of_ble_eq_true rfl) only [bk102_0, bk102_95, bk102_101, bk102_107, bk102_141, bk102_147, Int.reduceToNat, vA_ap, Nat.reduceEqDiff, if_true, if_false, bx_nil, isL_I, isL_R, isL_U, if_ff, bind_some, tl_some, tl_none, bx_aload_0, bx_iconst, gf32_1 hG, bx_ishl, bx_isub, pf32_4 hG, gf32_2 hG, ia33 hG, is33 hG, gf32_4 hG, bx_iadd, bx_lconst0, cl1401, bx_istore_1, bx_iload_1, bx_ic_ge, gf32_3 hG, ia34 hG, is34 hG, bx_istore_2, bx_iload_2, cl1302, bx_ic_gt, bx_dup2, bx_ior, bx_iinc2, bx_goto, bx_iinc1, pf32_5 hG, bx_bipush, gf32_0 hG, gf5_4 hG, ia8 hG, is8 hG, bx_if_le, bx_idiv, bx_vret, if_pos (show (w : Int) ≤ w by omega)]
    · rw [u5 v]
      constructor
      · rintro ⟨y1, y2⟩; exact ⟨by omega, y2⟩
      · rintro ⟨y1, y2⟩; exact ⟨by omega, y2⟩) w 0 (by omega) (fun v ls μ v0 v1 hI => by
    obtain ⟨rfl, U, e, rfl, u1, u2, u3, u4, u5⟩ := hI
    obtain ⟨vn, rfl⟩ : ∃ vn : Nat, v = vn := ⟨v.toNat, by omega⟩
    left
    have g30 : U 30 = V 30 := (u1 30 (by decide)).trans f30
    have b1 := (hwl vn (by omega) (by omega)).1
    have b2 := (hwl w (by omega) (by omega)).1
    have hab := j_abs (d := d) (x := V 30 vn - V 30 w) (μ := (U, G)) (by omega)
    by_cases q : shr V vn w
    · have hle : ¬ 1 < (if 0 ≤ V 30 vn - V 30 w then V 30 vn - V 30 w else -(V 30 vn - V 30 w)) := by unfold shr at q; split <;> omega
      have h2w := two_lt (w := vn) (by omega)
      have hor := or_N (a := e) (b := 2 ^ vn) (by omega) (by omega)
      have hsh := shl_N (w := vn) (by omega)
      refine ⟨_, _, ⟨rfl, vA U 34 (vU (U 34) w ((e ||| 2 ^ vn : Nat) : Int)), e ||| 2 ^ vn, rfl, fun b hb => by rw [vA_ne hb]; exact u1 b hb, fun j hj => by rw [vA_same, vU_ne hj]; exact u2 j hj, by rw [vA_same, vU_at], Nat.or_lt_two_pow (n := 10) u4 h2w, fun v' => ?_⟩, ?_⟩
      · rw [Nat.testBit_or, Bool.or_eq_true, u5 v', Nat.testBit_two_pow, decide_eq_true_eq]
        constructor
        · rintro (⟨y1, y2⟩ | y)
          · exact ⟨by omega, y2⟩
          · subst y; exact ⟨by omega, q⟩
        · rintro ⟨y1, y2⟩
          by_cases y : v' = vn
          · exact Or.inr y.symm
          · exact Or.inl ⟨by omega, y2⟩
      · rw [bk102_52]
        simp (disch := first | omega | exact Nat.le_of_ble_eq_true rfl) only [bk102_0, bk102_95, bk102_101, bk102_107, bk102_141, bk102_147, Int.reduceToNat, vA_ap, Nat.reduceEqDiff, if_true, if_false, bx_nil, isL_I, isL_R, isL_U, if_ff, bind_some, tl_some, tl_none, bx_aload_0, bx_iconst, gf32_1 hG, bx_ishl, bx_isub, pf32_4 hG, gf32_2 hG, ia33 hG, is33 hG, gf32_4 hG, bx_iadd, bx_lconst0, cl1401, bx_istore_1, bx_iload_1, bx_ic_ge, gf32_3 hG, ia34 hG, is34 hG, bx_istore_2, bx_iload_2, cl1302, bx_ic_gt, bx_dup2, bx_ior, bx_iinc2, bx_goto, bx_iinc1, pf32_5 hG, bx_bipush, gf32_0 hG, gf5_4 hG, ia8 hG, is8 hG, bx_if_le, bx_idiv, bx_vret, if_neg (show ¬ (w : Int) ≤ vn by omega), rg_lane hG row29, ri_lane hG row29, g30, hab, if_neg hle, u3, hsh, hor]
    · have hle : 1 < (if 0 ≤ V 30 vn - V 30 w then V 30 vn - V 30 w else -(V 30 vn - V 30 w)) := by unfold shr at q; split <;> omega
      refine ⟨_, _, ⟨rfl, U, e, rfl, u1, u2, u3, u4, fun v' => ?_⟩, ?_⟩
      · rw [u5 v']
        constructor
        · rintro ⟨y1, y2⟩; exact ⟨by omega, y2⟩
        · rintro ⟨y1, y2⟩
          refine ⟨?_, y2⟩
          apply Classical.byContradiction
          intro y3
          have : v' = vn := by omega
          subst this; exact q y2
      · rw [bk102_52]
        simp (disch := first | omega | exact Nat.le_of_ble_eq_true rfl) only [bk102_0, bk102_95, bk102_101, bk102_107, bk102_141, bk102_147, Int.reduceToNat, vA_ap, Nat.reduceEqDiff, if_true, if_false, bx_nil, isL_I, isL_R, isL_U, if_ff, bind_some, tl_some, tl_none, bx_aload_0, bx_iconst, gf32_1 hG, bx_ishl, bx_isub, pf32_4 hG, gf32_2 hG, ia33 hG, is33 hG, gf32_4 hG, bx_iadd, bx_lconst0, cl1401, bx_istore_1, bx_iload_1, bx_ic_ge, gf32_3 hG, ia34 hG, is34 hG, bx_istore_2, bx_iload_2, cl1302, bx_ic_gt, bx_dup2, bx_ior, bx_iinc2, bx_goto, bx_iinc1, pf32_5 hG, bx_bipush, gf32_0 hG, gf5_4 hG, ia8 hG, is8 hG, bx_if_le, bx_idiv, bx_vret, if_neg (show ¬ (w : Int) ≤ vn by omega), rg_lane hG row29, ri_lane hG row29, g30, hab, if_pos hle])
  exact hl _ _ ⟨rfl, _, 0, rfl, fun b hb => vA_ne hb, fun j hj => by rw [vA_same, vU_ne hj], by rw [vA_same, vU_at]; rfl, by omega, fun v' => ⟨fun y => (by rw [Nat.zero_testBit] at y; cases y), fun y => by omega⟩⟩
/-- the last layer with a cell stuck above 0 -/
def bndP (n : Nat) (V : Nat → Int → Int) (b : Int) : Prop := (0 ≤ b ∧ b ≤ 12) ∧ (b = 0 ∨ ¬ bare (lpX n V) (b - 1)) ∧ ∀ l, b ≤ l → l < 12 → bare (lpX n V) l
theorem x_prepare (hG : Good n L G) (h : layX n V) (hz : ∀ c, 0 ≤ c → c < 36 → lnF n c = -1 → V 8 c = -1) : ∃ W b, run (d + 2) 102 0 [xR 32, xU, xU] [] (V, G) = some (none, (W, G)) ∧ (∀ b, ¬ (32 ≤ b ∧ b < 35) → W b = V b) ∧ fewOK n b W ∧ bndP n V b := by
  obtain ⟨h26, hk, hwl, hst, hln, hpl⟩ := id h
  obtain ⟨k, hkk⟩ : ∃ k : Nat, V 29 2 = k := ⟨(V 29 2).toNat, by omega⟩
  have hk10 : k ≤ 10 := by omega
  have hp2 : (lpX n V).2.1 = k := by show (V 29 2).toNat = k; omega
  have hall : ((allW (lpX n V) : Nat) : Int) = ((2 ^ k : Nat) : Int) - 1 := by
    unfold allW
    rw [hp2]
    have := Nat.two_pow_pos k
    omega
  have h2k := pow_10 hk10
  have h2p := Nat.two_pow_pos k
  have hsh := shl_N (w := k) (by omega)
  obtain ⟨A, hA⟩ : ∃ A, A = vA V 32 (vU (V 32) 4 ((2 ^ k : Nat) - 1 : Int)) := ⟨_, rfl⟩
  have fA : ∀ b, b ≠ 32 → A b = V b := fun b hb => by rw [hA, vA_ne hb]
  have hfl := j_fillL (d := d) (V := A) (a := 33) (to := ((2 ^ k : Nat) : Int)) (gsh hG 33 rfl rfl) (by omega) (by omega)
  obtain ⟨B, hB⟩ : ∃ B, B = vA A 33 (fl (A 33) (fun _ => 0) 0 ((2 ^ k : Nat) : Int)) := ⟨_, rfl⟩
  rw [← hB] at hfl
  have fB : ∀ b, b ≠ 32 → b ≠ 33 → B b = V b := fun b b1 b2 => by rw [hB, vA_ne b2]; exact fA b b1
  have B32 : B 32 4 = ((2 ^ k : Nat) : Int) - 1 := by rw [hB, vA_ne (by decide), hA, vA_same, vU_at]
  have l3 : ∀ (W : Nat → Int → Int) (u : XV), isL u = false → (∀ b, b ≠ 34 → W b = B b) → (∀ w : Nat, (w : Int) < V 29 2 → ∃ e : Nat, W 34 w = e ∧ e < 1024 ∧ ∀ v : Nat, e.testBit v = true ↔ v < w ∧ shr V v w) → ∃ U b, run (d + 2) 102 107 [xR 32, xI k, u] [] (W, G) = some (none, (U, G)) ∧ (∀ b, ¬ (32 ≤ b ∧ b < 35) → U b = V b) ∧ fewOK n b U ∧ bndP n V b := fun W u _ fW hW => by
    have hl := it_inv (D := d + 2) (q := 102) (pc := 114) (hi := 36) (I := fun c ls μ => ls = [xR 32, xI c, u] ∧ ∃ U b, μ = (U, G) ∧ (∀ b, b ≠ 32 → U b = W b) ∧ U 32 = vU (W 32) 5 b ∧ (0 ≤ b ∧ b ≤ 12) ∧ (b = 0 ∨ ∃ c', (0 ≤ c' ∧ c' < c) ∧ 0 < V 8 c' ∧ c' / 3 + 1 = b) ∧ ∀ c', 0 ≤ c' → c' < c → 0 < V 8 c' → c' / 3 < b) (Q := fun y => ∃ U b, y = some (none, (U, G)) ∧ (∀ b, ¬ (32 ≤ b ∧ b < 35) → U b = V b) ∧ fewOK n b U ∧ bndP n V b) (fun ls μ hI => by
      obtain ⟨rfl, U, b, rfl, u1, u2, u3, u4, u5⟩ := hI
      have fU : ∀ b, b ≠ 32 → b ≠ 33 → b ≠ 34 → U b = V b := fun b b1 b2 b3 => (u1 b b1).trans ((fW b b3).trans (fB b b1 b2))
      have hlp : lpX n U = lpX n V := by
        unfold lpX
        rw [fU 29 (by decide) (by decide) (by decide), fU 30 (by decide) (by decide) (by decide), fU 31 (by decide) (by decide) (by decide), fU 8 (by decide) (by decide) (by decide)]
      refine ⟨U, b, ?_, fun b hb => fU b (by omega) (by omega) (by omega), ⟨?_, ?_, ?_, ?_, ?_⟩, u3, ?_, fun l l0 l1 i hi hp => ?_⟩
      · rw [bk102_114]
        simp (disch := first | omega | exact Nat.le_of_ble_eq_true rfl) only [bk102_0, bk102_95, bk102_101, bk102_107, bk102_141, bk102_147, Int.reduceToNat, vA_ap, Nat.reduceEqDiff, if_true, if_false, bx_nil, isL_I, isL_R, isL_U, if_ff, bind_some, tl_some, tl_none, bx_aload_0, bx_iconst, gf32_1 hG, bx_ishl, bx_isub, pf32_4 hG, gf32_2 hG, ia33 hG, is33 hG, gf32_4 hG, bx_iadd, bx_lconst0, cl1401, bx_istore_1, bx_iload_1, bx_ic_ge, gf32_3 hG, ia34 hG, is34 hG, bx_istore_2, bx_iload_2, cl1302, bx_ic_gt, bx_dup2, bx_ior, bx_iinc2, bx_goto, bx_iinc1, pf32_5 hG, bx_bipush, gf32_0 hG, gf5_4 hG, ia8 hG, is8 hG, bx_if_le, bx_idiv, bx_vret, if_pos (show (36 : Int) ≤ 36 by omega)]
      · unfold layX at *
        rw [fU 29 (by decide) (by decide) (by decide), fU 30 (by decide) (by decide) (by decide), fU 31 (by decide) (by decide) (by decide), fU 8 (by decide) (by decide) (by decide), fU 6 (by decide) (by decide) (by decide), fU 5 (by decide) (by decide) (by decide)]
        exact h
      · unfold earOK shr
        rw [fU 29 (by decide) (by decide) (by decide), fU 30 (by decide) (by decide) (by decide), u1 34 (by decide)]
        exact hW
      · rw [hlp, hall, u2, vU_ne (by decide), fW 32 (by decide)]; exact B32
      · rw [u2, vU_at]
      · rw [hlp]
        intro D hD
        rw [hp2] at hD
        refine ⟨0, ?_, by omega, fun l hl => Or.inl ?_⟩
        · rw [u1 _ (by decide), fW _ (by decide), hB, vA_same, fl_in (by omega) (by omega)]; rfl
        · unfold nib; rw [Nat.zero_shiftRight]
      · rcases u4 with y | ⟨c', y1, y2, y3⟩
        · exact Or.inl y
        · right
          intro hbr
          have hcn : lnF n c' ≠ -1 := fun y => by have := hz c' y1.1 (by omega) y; omega
          obtain ⟨z1, z2, _⟩ := ix_ln (n := n) ⟨y1.1, by omega⟩ hcn
          rw [show c' / 3 = b - 1 by omega] at z1 z2
          exact hbr _ z1 (by show 0 < V 8 (xi (b - 1) (lnF n c')); rw [z2]; exact y2)
      · have hi' : isC n l i := hi
        have hx := xi_in (by omega) hi'
        have := u5 (xi l i) hx.1 hx.2 hp
        have hd3 : xi l i / 3 = l := by unfold isC at hi'; unfold xi; omega
        omega) 36 0 (by omega) (fun c ls μ c0 c1 hI => by
      obtain ⟨rfl, U, b, rfl, u1, u2, u3, u4, u5⟩ := hI
      left
      have e8 : U 8 = V 8 := (u1 _ (by decide)).trans ((fW _ (by decide)).trans (fB _ (by decide) (by decide)))
      by_cases q : 0 < V 8 c
      · refine ⟨_, _, ⟨rfl, vA U 32 (vU (U 32) 5 (c / 3 + 1)), c / 3 + 1, rfl, fun b hb => by rw [vA_ne hb]; exact u1 b hb, ?_, by omega, Or.inr ⟨c, by omega, q, rfl⟩, fun c' h0 h1 h2 => ?_⟩, ?_⟩
        · rw [vA_same, u2]
          funext j
          by_cases e : j = 5
          · rw [e, vU_at, vU_at]
          · rw [vU_ne e, vU_ne e, vU_ne e]
        · omega
        · rw [bk102_114]
          simp (disch := first | omega | exact Nat.le_of_ble_eq_true rfl) only [bk102_0, bk102_95, bk102_101, bk102_107, bk102_141, bk102_147, Int.reduceToNat, vA_ap, Nat.reduceEqDiff, if_true, if_false, bx_nil, isL_I, isL_R, isL_U, if_ff, bind_some, tl_some, tl_none, bx_aload_0, bx_iconst, gf32_1 hG, bx_ishl, bx_isub, pf32_4 hG, gf32_2 hG, ia33 hG, is33 hG, gf32_4 hG, bx_iadd, bx_lconst0, cl1401, bx_istore_1, bx_iload_1, bx_ic_ge, gf32_3 hG, ia34 hG, is34 hG, bx_istore_2, bx_iload_2, cl1302, bx_ic_gt, bx_dup2, bx_ior, bx_iinc2, bx_goto, bx_iinc1, pf32_5 hG, bx_bipush, gf32_0 hG, gf5_4 hG, ia8 hG, is8 hG, bx_if_le, bx_idiv, bx_vret, if_neg (show ¬ 36 ≤ c by omega), e8, if_neg (show ¬ V 8 c ≤ 0 by omega), td_pos c0]
      · refine ⟨_, _, ⟨rfl, U, b, rfl, u1, u2, u3, ?_, fun c' h0 h1 h2 => ?_⟩, ?_⟩
        · rcases u4 with y | ⟨c', y1, y2, y3⟩
          · exact Or.inl y
          · exact Or.inr ⟨c', by omega, y2, y3⟩
        · by_cases e : c' = c
          · rw [e] at h2; exact absurd h2 q
          · exact u5 c' h0 (by omega) h2
        · rw [bk102_114]
          simp (disch := first | omega | exact Nat.le_of_ble_eq_true rfl) only [bk102_0, bk102_95, bk102_101, bk102_107, bk102_141, bk102_147, Int.reduceToNat, vA_ap, Nat.reduceEqDiff, if_true, if_false, bx_nil, isL_I, isL_R, isL_U, if_ff, bind_some, tl_some, tl_none, bx_aload_0, bx_iconst, gf32_1 hG, bx_ishl, bx_isub, pf32_4 hG, gf32_2 hG, ia33 hG, is33 hG, gf32_4 hG, bx_iadd, bx_lconst0, cl1401, bx_istore_1, bx_iload_1, bx_ic_ge, gf32_3 hG, ia34 hG, is34 hG, bx_istore_2, bx_iload_2, cl1302, bx_ic_gt, bx_dup2, bx_ior, bx_iinc2, bx_goto, bx_iinc1, pf32_5 hG, bx_bipush, gf32_0 hG, gf5_4 hG, ia8 hG, is8 hG, bx_if_le, bx_idiv, bx_vret, if_neg (show ¬ 36 ≤ c by omega), e8, if_pos (show V 8 c ≤ 0 by omega)])
    obtain ⟨U, b, o1, o2, o3, o4⟩ := hl [xR 32, xI 0, u] (vA W 32 (vU (W 32) 5 0), G) ⟨rfl, _, 0, rfl, fun b hb => vA_ne hb, by rw [vA_same], by omega, Or.inl rfl, fun c' h0 h1 => by omega⟩
    refine ⟨U, b, ?_, o2, o3, o4⟩
    rw [← o1]
    simp (disch := first | omega | exact Nat.le_of_ble_eq_true rfl) only [bk102_0, bk102_95, bk102_101, bk102_107, bk102_141, bk102_147, Int.reduceToNat, vA_ap, Nat.reduceEqDiff, if_true, if_false, bx_nil, isL_I, isL_R, isL_U, if_ff, bind_some, tl_some, tl_none, bx_aload_0, bx_iconst, gf32_1 hG, bx_ishl, bx_isub, pf32_4 hG, gf32_2 hG, ia33 hG, is33 hG, gf32_4 hG, bx_iadd, bx_lconst0, cl1401, bx_istore_1, bx_iload_1, bx_ic_ge, gf32_3 hG, ia34 hG, is34 hG, bx_istore_2, bx_iload_2, cl1302, bx_ic_gt, bx_dup2, bx_ior, bx_iinc2, bx_goto, bx_iinc1, pf32_5 hG, bx_bipush, gf32_0 hG, gf5_4 hG, ia8 hG, is8 hG, bx_if_le, bx_idiv, bx_vret]
  have l2 := it_inv (D := d + 2) (q := 102) (pc := 32) (hi := k) (I := fun w ls μ => (∃ u, ls = [xR 32, xI w, u] ∧ isL u = false) ∧ ∃ W, μ = (W, G) ∧ (∀ b, b ≠ 34 → W b = B b) ∧ ∀ w' : Nat, (w' : Int) < w → ∃ e : Nat, W 34 w' = e ∧ e < 1024 ∧ ∀ v : Nat, e.testBit v = true ↔ v < w' ∧ shr V v w') (Q := fun y => ∃ U b, y = some (none, (U, G)) ∧ (∀ b, ¬ (32 ≤ b ∧ b < 35) → U b = V b) ∧ fewOK n b U ∧ bndP n V b) (fun ls μ hI => by
    obtain ⟨⟨u, rfl, hu⟩, W, rfl, w1, w2⟩ := hI
    obtain ⟨U, b, o1, o2, o3, o4⟩ := l3 W u hu w1 (fun w hw => w2 w (by omega))
    refine ⟨U, b, ?_, o2, o3, o4⟩
    have f29 : W 29 = V 29 := (w1 29 (by decide)).trans (fB 29 (by decide) (by decide))
    rw [← o1, bk102_32]
    simp (disch := first | omega | exact Nat.le_of_ble_eq_true rfl) only [bx_iload_1, bx_aload_0, gf32_1 hG, rg_size hG row29, f29, hkk, bx_ic_ge, if_pos (show (k : Int) ≤ k by omega), Int.reduceToNat]) k 0 (by omega) (fun w ls μ w0 w1 hI => by
    obtain ⟨⟨u, rfl, hu⟩, W, rfl, w2, w3⟩ := hI
    obtain ⟨wn, rfl⟩ : ∃ wn : Nat, w = wn := ⟨w.toNat, by omega⟩
    left
    have f29 : W 29 = V 29 := (w2 29 (by decide)).trans (fB 29 (by decide) (by decide))
    obtain ⟨U, e, o1, o2, o3, o4, o5, o6⟩ := x_ear (d := d + 1) (W := W) (w := wn) hG h (by omega) (fun b b1 b2 b3 => (w2 b b1).trans (fB b b3 b2))
    refine ⟨_, _, ⟨⟨xI wn, rfl, rfl⟩, U, rfl, fun b hb => (o2 b hb).trans (w2 b hb), fun w' hw' => ?_⟩, ?_⟩
    · by_cases q : w' = wn
      · subst q; exact ⟨e, o4, o5, o6⟩
      · obtain ⟨e', y1, y2, y3⟩ := w3 w' (by omega)
        exact ⟨e', by rw [o3 _ (by omega)]; exact y1, y2, y3⟩
    · have o1' : run (d + 2) 102 52 [xR 32, xI wn, xI 0] [] (vA W 34 (vU (W 34) wn 0), G) = run (d + 2) 102 32 [xR 32, xI (wn + 1), xI wn] [] (U, G) := o1
      rw [← o1', bk102_32]
      simp (disch := first | omega | exact Nat.le_of_ble_eq_true rfl) only [bx_iload_1, bx_aload_0, gf32_1 hG, rg_size hG row29, f29, hkk, bx_ic_ge, if_neg (show ¬ (k : Int) ≤ wn by omega), gf32_3 hG, bx_iconst, is34 hG, bx_istore_2, isL_I, if_ff, bx_nil])
  have hfl' : run (d + 1) 1401 0 [xR 33, xI 0, xI (((2 ^ k : Nat) : Int) - 1 + 1), xL 0, xU, xU] [] (A, G) = some (none, (B, G)) := by
    rw [show ((2 ^ k : Nat) : Int) - 1 + 1 = ((2 ^ k : Nat) : Int) by omega]; exact hfl
  have A32 : A 32 4 = ((2 ^ k : Nat) : Int) - 1 := by rw [hA, vA_same, vU_at]
  have hst2 : run (d + 2) 102 0 [xR 32, xU, xU] [] (V, G) = run (d + 2) 102 32 [xR 32, xI 0, xU] [] (B, G) := by
    simp (disch := first | omega | exact Nat.le_of_ble_eq_true rfl) only [bk102_0, bk102_95, bk102_101, bk102_107, bk102_141, bk102_147, Int.reduceToNat, vA_ap, Nat.reduceEqDiff, if_true, if_false, bx_nil, isL_I, isL_R, isL_U, if_ff, bind_some, tl_some, tl_none, bx_aload_0, bx_iconst, gf32_1 hG, bx_ishl, bx_isub, pf32_4 hG, gf32_2 hG, ia33 hG, is33 hG, gf32_4 hG, bx_iadd, bx_lconst0, cl1401, bx_istore_1, bx_iload_1, bx_ic_ge, gf32_3 hG, ia34 hG, is34 hG, bx_istore_2, bx_iload_2, cl1302, bx_ic_gt, bx_dup2, bx_ior, bx_iinc2, bx_goto, bx_iinc1, pf32_5 hG, bx_bipush, gf32_0 hG, gf5_4 hG, ia8 hG, is8 hG, bx_if_le, bx_idiv, bx_vret, rg_size hG row29, hkk, hsh, ← hA, A32, hfl']
  rw [hst2]
  exact l2 _ _ ⟨⟨xU, rfl, rfl⟩, B, rfl, fun _ _ => rfl, fun w' hw' => by omega⟩
end XLY
