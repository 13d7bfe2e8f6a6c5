/-! MEETING -/
abbrev orI (a b : Int) : Int := b32 (fun a b => a ||| b) a b
abbrev shlI (a b : Int) : Int := b32 (fun a b => a <<< (b &&& 31)) a b
abbrev shrI (a b : Int) : Int := b32 (fun a b => a >>> (b &&& 31)) a b
abbrev andI (a b : Int) : Int := b32 (fun a b => a &&& b) a b
def btI (k l : Int) : Int := k / 2 ^ l.toNat % 2
theorem lit_tab : ∀ k : Fin 64, ∀ i : Fin 5, (andI (shrI (k.val : Int) (i.val : Int)) 3 = 0 ↔ btI (k.val : Int) (i.val : Int) = 0 ∧ btI (k.val : Int) ((i.val : Int) + 1) = 0) ∧ (0 ≤ orI (k.val : Int) (shlI 3 (i.val : Int)) ∧ orI (k.val : Int) (shlI 3 (i.val : Int)) < 64) ∧ ∀ l : Fin 6, btI (orI (k.val : Int) (shlI 3 (i.val : Int))) (l.val : Int) = if l.val = i.val ∨ l.val = i.val + 1 then 1 else btI (k.val : Int) (l.val : Int) := by decide +kernel
theorem lit_ini : ∀ s : Fin 6, (0 ≤ shlI 1 (s.val : Int) ∧ shlI 1 (s.val : Int) < 64) ∧ ∀ l : Fin 6, btI (shlI 1 (s.val : Int)) (l.val : Int) = if l.val = s.val then 1 else 0 := by decide +kernel
theorem lit_1 {k i : Int} (hk : 0 ≤ k ∧ k < 64) (hi : 0 ≤ i ∧ i ≤ 4) : (andI (shrI k i) 3 = 0 ↔ btI k i = 0 ∧ btI k (i + 1) = 0) ∧ (0 ≤ orI k (shlI 3 i) ∧ orI k (shlI 3 i) < 64) ∧ ∀ l, 0 ≤ l → l < 6 → btI (orI k (shlI 3 i)) l = if l = i ∨ l = i + 1 then 1 else btI k l := by
  have h := lit_tab ⟨k.toNat, by omega⟩ ⟨i.toNat, by omega⟩
  simp only [show ((k.toNat : Nat) : Int) = k by omega, show ((i.toNat : Nat) : Int) = i by omega] at h
  refine ⟨h.1, h.2.1, fun l l0 l1 => ?_⟩
  have h3 := h.2.2 ⟨l.toNat, by omega⟩
  simp only [show ((l.toNat : Nat) : Int) = l by omega] at h3
  rw [h3]
  by_cases e : l = i ∨ l = i + 1
  · rw [if_pos e, if_pos (by omega)]
  · rw [if_neg e, if_neg (by omega)]
theorem lit_0 {s : Int} (hs : 0 ≤ s ∧ s < 6) : (0 ≤ shlI 1 s ∧ shlI 1 s < 64) ∧ ∀ l, 0 ≤ l → l < 6 → btI (shlI 1 s) l = if l = s then 1 else 0 := by
  have h := lit_ini ⟨s.toNat, by omega⟩
  simp only [show ((s.toNat : Nat) : Int) = s by omega] at h
  refine ⟨h.1, fun l l0 l1 => ?_⟩
  have h3 := h.2 ⟨l.toNat, by omega⟩
  simp only [show ((l.toNat : Nat) : Int) = l by omega] at h3
  rw [h3]
  by_cases e : l = s
  · rw [if_pos e, if_pos (by omega)]
  · rw [if_neg e, if_neg (by omega)]
theorem btI_01 (k l : Int) : btI k l = 0 ∨ btI k l = 1 := by unfold btI; omega
/-- what a cell with upper lane i and its owner o does to the lanes lit and to the users reached -/
def mtS (i o : Int) (s : Int × Int) : Int × Int := if btI s.1 i = 0 ∧ btI s.1 (i + 1) = 0 then s else (orI s.1 (shlI 3 i), if o = -1 then s.2 else orI s.2 (shlI 1 o))
def mtF (LN own : Int → Int) : Nat → Int → Int × Int → Int × Int
  | 0, _, s => s
  | m + 1, c, s => mtF LN own m (c + 1) (if LN c = -1 then s else mtS (LN c) (own c) s)
def mlF (own : Int → Int) (n l : Int) : Nat → Int → Int × Int → Int × Int
  | 0, _, s => s
  | m + 1, i, s => if i < n - 1 then mlF own n l m (i + 2) (mtS i (own (6 * l + i)) s) else s
theorem mtF_add {LN own : Int → Int} : ∀ (a b : Nat) (c : Int) (s : Int × Int), mtF LN own (a + b) c s = mtF LN own b (c + a) (mtF LN own a c s)
  | 0, b, c, s => by simp [mtF]
  | a + 1, b, c, s => by
    rw [show a + 1 + b = (a + b) + 1 by omega]
    show mtF LN own (a + b) (c + 1) _ = mtF LN own b (c + ((a + 1 : Nat) : Int)) (mtF LN own a (c + 1) _)
    rw [mtF_add a b (c + 1), show c + 1 + (a : Int) = c + ((a + 1 : Nat) : Int) by omega]
theorem ml_mt {n l : Int} {LN own ownM : Int → Int} {s : Int × Int} (h2 : 2 ≤ n) (h6 : n ≤ 6) (hl : 0 ≤ l ∧ l < 12) (hL : lanOK n LN) (ho : ∀ i, isC n l i → ownM (6 * l + i) = own (xi l i)) : mlF ownM n l 3 (l % 2) s = mtF LN own 3 (3 * l) s := by
  have e0 : LN (3 * l) = if l % 2 < n - 1 then l % 2 else -1 := by
    rw [hL _ (by omega) (by omega)]; unfold lnF
    by_cases h : l % 2 < n - 1
    · rw [if_pos h, if_pos (by omega)]; omega
    · rw [if_neg h, if_neg (by omega)]
  have e1 : LN (3 * l + 1) = if l % 2 + 2 < n - 1 then l % 2 + 2 else -1 := by
    rw [hL _ (by omega) (by omega)]; unfold lnF
    by_cases h : l % 2 + 2 < n - 1
    · rw [if_pos h, if_pos (by omega)]; omega
    · rw [if_neg h, if_neg (by omega)]
  have e2 : LN (3 * l + 1 + 1) = if l % 2 + 2 + 2 < n - 1 then l % 2 + 2 + 2 else -1 := by
    rw [hL _ (by omega) (by omega)]; unfold lnF
    by_cases h : l % 2 + 2 + 2 < n - 1
    · rw [if_pos h, if_pos (by omega)]; omega
    · rw [if_neg h, if_neg (by omega)]
  unfold mtF mtF mtF mtF mlF
  rw [e0, e1, e2]
  by_cases a0 : l % 2 < n - 1
  · have g0 := ho (l % 2) (by unfold isC; omega)
    rw [show xi l (l % 2) = 3 * l by unfold xi; omega] at g0
    rw [if_pos a0, if_pos a0, if_neg (show ¬ l % 2 = -1 by omega), g0]
    unfold mlF
    by_cases a1 : l % 2 + 2 < n - 1
    · have g1 := ho (l % 2 + 2) (by unfold isC; omega)
      rw [show xi l (l % 2 + 2) = 3 * l + 1 by unfold xi; omega] at g1
      rw [if_pos a1, if_pos a1, if_neg (show ¬ l % 2 + 2 = -1 by omega), g1]
      unfold mlF
      by_cases a2 : l % 2 + 2 + 2 < n - 1
      · have g2 := ho (l % 2 + 2 + 2) (by unfold isC; omega)
        rw [show xi l (l % 2 + 2 + 2) = 3 * l + 1 + 1 by unfold xi; omega] at g2
        rw [if_pos a2, if_pos a2, if_neg (show ¬ l % 2 + 2 + 2 = -1 by omega), g2]
        unfold mlF
        rfl
      · rw [if_neg a2, if_neg a2, if_pos rfl]
    · rw [if_neg a1, if_neg a1, if_pos rfl, if_neg (show ¬ l % 2 + 2 + 2 < n - 1 by omega), if_pos rfl]
  · rw [if_neg a0, if_neg a0, if_pos rfl, if_neg (show ¬ l % 2 + 2 < n - 1 by omega), if_pos rfl, if_neg (show ¬ l % 2 + 2 + 2 < n - 1 by omega), if_pos rfl]
theorem mtS_bd {i o : Int} {s : Int × Int} (h : 0 ≤ s.1 ∧ s.1 < 64) (hi : 0 ≤ i ∧ i ≤ 4) : 0 ≤ (mtS i o s).1 ∧ (mtS i o s).1 < 64 := by
  unfold mtS
  split
  · exact h
  · exact (lit_1 h hi).2.1
/-- users reached from a lane -/
def metP (V : Nat → Int → Int) (a : Int) : Bool := decide ((mtF (V 6) (V 374) 36 0 (shlI 1 a, 0)).2 = 3)
theorem lstF_is {p : Int → Bool} : ∀ (m : Nat) (k r : Int), k ≤ r → r < k + m → p r = true → (∀ j, k ≤ j → j < r → p j = false) → lstF p m k = some r
  | 0, k, r, h1, h2, _, _ => by omega
  | m + 1, k, r, h1, h2, h3, h4 => by
    unfold lstF
    by_cases e : k = r
    · rw [e, if_pos h3]
    · rw [if_neg (by rw [h4 k (by omega) (by omega)]; simp), lstF_is m (k + 1) r (by omega) (by omega) h3 (fun j j0 j1 => h4 j (by omega) j1)]
theorem lstF_no {p : Int → Bool} : ∀ (m : Nat) (k : Int), (∀ j, k ≤ j → j < k + m → p j = false) → lstF p m k = none
  | 0, k, _ => rfl
  | m + 1, k, h => by
    unfold lstF
    rw [if_neg (by rw [h k (by omega) (by omega)]; simp), lstF_no m (k + 1) (fun j j0 j1 => h j (by omega) (by omega))]
section MT
variable {n L d : Nat} {G : XG} {V : Nat → Int → Int}
theorem x_both {a : Int} (hG : Good n L G) (h26 : 2 ≤ n ∧ n ≤ 6) (hL : lanOK n (V 6)) (ho : rg (V 374) 36 (-1) 1) (ha : 0 ≤ a ∧ a < (n : Int)) {W : Nat → Int → Int} (hW : ∀ b, b ≠ 375 → W b = V b) : ∃ U, run d 901 0 [xR 373, xI a, xU, xU, xU] [] (W, G) = some (some (xI (b1 (metP V a = true))), (U, G)) ∧ ∀ b, b ≠ 375 → U b = V b := by
  have e6 : W 6 = V 6 := hW _ (by decide)
  have eo : W 374 = V 374 := hW _ (by decide)
  have l1 := it_up (D := d) (q := 901) (pc := 2) (loc := fun k => [xR 373, xI a, xI k, xU, xU]) (F := fun k => (vA W 375 (fl (W 375) (fun l => if l = a then 1 else 0) 0 k), G)) (hi := 6) 6 0 (by omega) (fun k h1 h2 => by
    rw [bk901_2, ← fl_up h1]
    by_cases e : k = a
    · simp (disch := first | omega | exact Nat.le_of_ble_eq_true rfl) only [bk901_0, bk901_22, bk901_23, bk901_30, bk901_82, bk901_121, bk901_127, bk901_136, bk901_137, Int.reduceToNat, vA_ap, Nat.reduceEqDiff, if_true, if_false, bx_nil, isL_I, isL_R, isL_U, if_ff, bind_some, tl_some, tl_none, bx_iconst, bx_istore_2, bx_iload_2, bx_bipush, bx_ic_ge, bx_aload_0, gf373_2 hG, ia375 hG, is375 hG, bx_iload_1, bx_ic_ne, bx_goto, bx_iinc2, bx_istore_3, bx_iload_3, gf373_0 hG, gf5_2 hG, ia6 hG, is6 hG, bx_istore4, bx_iload4, bx_ic_eq, bx_if_ne, bx_iadd, gf373_1 hG, ia374 hG, is374 hG, bx_ishl, bx_ior, bx_iinc3, bx_zret, if_neg (show ¬ 6 ≤ k by omega), if_pos e, vA_vA, is375 hG (Or.inr rfl : (1 : Int) = 0 ∨ (1 : Int) = 1)]
    · simp (disch := first | omega | exact Nat.le_of_ble_eq_true rfl) only [bk901_0, bk901_22, bk901_23, bk901_30, bk901_82, bk901_121, bk901_127, bk901_136, bk901_137, Int.reduceToNat, vA_ap, Nat.reduceEqDiff, if_true, if_false, bx_nil, isL_I, isL_R, isL_U, if_ff, bind_some, tl_some, tl_none, bx_iconst, bx_istore_2, bx_iload_2, bx_bipush, bx_ic_ge, bx_aload_0, gf373_2 hG, ia375 hG, is375 hG, bx_iload_1, bx_ic_ne, bx_goto, bx_iinc2, bx_istore_3, bx_iload_3, gf373_0 hG, gf5_2 hG, ia6 hG, is6 hG, bx_istore4, bx_iload4, bx_ic_eq, bx_if_ne, bx_iadd, gf373_1 hG, ia374 hG, is374 hG, bx_ishl, bx_ior, bx_iinc3, bx_zret, if_neg (show ¬ 6 ≤ k by omega), if_neg e, vA_vA, is375 hG (Or.inl rfl : (0 : Int) = 0 ∨ (0 : Int) = 1)])
  rw [fl_nil, vA_self] at l1
  have l2 := it_inv (D := d) (q := 901) (pc := 34) (hi := 36) (I := fun c ls μ => (∃ u, ls = [xR 373, xI a, xI (mtF (V 6) (V 374) c.toNat 0 (shlI 1 a, 0)).2, xI c, u]) ∧ ∃ U, μ = (U, G) ∧ (∀ b, b ≠ 375 → U b = V b) ∧ (0 ≤ (mtF (V 6) (V 374) c.toNat 0 (shlI 1 a, 0)).1 ∧ (mtF (V 6) (V 374) c.toNat 0 (shlI 1 a, 0)).1 < 64) ∧ ∀ l, 0 ≤ l → l < 6 → U 375 l = btI (mtF (V 6) (V 374) c.toNat 0 (shlI 1 a, 0)).1 l) (Q := fun z => ∃ U, z = some (some (xI (b1 (metP V a = true))), (U, G)) ∧ ∀ b, b ≠ 375 → U b = V b) (fun ls μ hI => by
    obtain ⟨⟨u, rfl⟩, U, rfl, u1, u2, u3⟩ := hI
    refine ⟨U, ?_, u1⟩
    rw [bk901_34]
    have e36 : (36 : Int).toNat = 36 := rfl
    rw [e36]
    by_cases g : (mtF (V 6) (V 374) 36 0 (shlI 1 a, 0)).2 = 3
    · have gp : metP V a = true := by unfold metP; exact decide_eq_true g
      simp (disch := first | omega | exact Nat.le_of_ble_eq_true rfl) only [bk901_0, bk901_22, bk901_23, bk901_30, bk901_82, bk901_121, bk901_127, bk901_136, bk901_137, Int.reduceToNat, vA_ap, Nat.reduceEqDiff, if_true, if_false, bx_nil, isL_I, isL_R, isL_U, if_ff, bind_some, tl_some, tl_none, bx_iconst, bx_istore_2, bx_iload_2, bx_bipush, bx_ic_ge, bx_aload_0, gf373_2 hG, ia375 hG, is375 hG, bx_iload_1, bx_ic_ne, bx_goto, bx_iinc2, bx_istore_3, bx_iload_3, gf373_0 hG, gf5_2 hG, ia6 hG, is6 hG, bx_istore4, bx_iload4, bx_ic_eq, bx_if_ne, bx_iadd, gf373_1 hG, ia374 hG, is374 hG, bx_ishl, bx_ior, bx_iinc3, bx_zret, if_pos (show (36 : Int) ≤ 36 by omega), if_pos g, b1_t gp]
    · have gp : ¬ metP V a = true := by unfold metP; simpa using g
      simp (disch := first | omega | exact Nat.le_of_ble_eq_true rfl) only [bk901_0, bk901_22, bk901_23, bk901_30, bk901_82, bk901_121, bk901_127, bk901_136, bk901_137, Int.reduceToNat, vA_ap, Nat.reduceEqDiff, if_true, if_false, bx_nil, isL_I, isL_R, isL_U, if_ff, bind_some, tl_some, tl_none, bx_iconst, bx_istore_2, bx_iload_2, bx_bipush, bx_ic_ge, bx_aload_0, gf373_2 hG, ia375 hG, is375 hG, bx_iload_1, bx_ic_ne, bx_goto, bx_iinc2, bx_istore_3, bx_iload_3, gf373_0 hG, gf5_2 hG, ia6 hG, is6 hG, bx_istore4, bx_iload4, bx_ic_eq, bx_if_ne, bx_iadd, gf373_1 hG, ia374 hG, is374 hG, bx_ishl, bx_ior, bx_iinc3, bx_zret, if_pos (show (36 : Int) ≤ 36 by omega), if_neg g, b1_f gp]) 36 0 (by omega) (fun c ls μ h1 h2 hI => by
    obtain ⟨⟨u, rfl⟩, U, rfl, u1, u2, u3⟩ := hI
    left
    have e1 : mtF (V 6) (V 374) (c + 1).toNat 0 (shlI 1 a, 0) = if V 6 c = -1 then mtF (V 6) (V 374) c.toNat 0 (shlI 1 a, 0) else mtS (V 6 c) (V 374 c) (mtF (V 6) (V 374) c.toNat 0 (shlI 1 a, 0)) := by
      rw [show (c + 1).toNat = c.toNat + 1 by omega, mtF_add, show (0 : Int) + (c.toNat : Int) = c by omega]
      rfl
    have g6 : U 6 = V 6 := u1 _ (by decide)
    have go : U 374 = V 374 := u1 _ (by decide)
    rw [e1]
    generalize mtF (V 6) (V 374) c.toNat 0 (shlI 1 a, 0) = s at *
    by_cases q : V 6 c = -1
    · refine ⟨_, _, ⟨⟨xI (-1), rfl⟩, U, rfl, u1, by rw [if_pos q]; exact u2, by rw [if_pos q]; exact u3⟩, ?_⟩
      rw [bk901_34, if_pos q]
      simp (disch := first | omega | exact Nat.le_of_ble_eq_true rfl) only [bk901_0, bk901_22, bk901_23, bk901_30, bk901_82, bk901_121, bk901_127, bk901_136, bk901_137, Int.reduceToNat, vA_ap, Nat.reduceEqDiff, if_true, if_false, bx_nil, isL_I, isL_R, isL_U, if_ff, bind_some, tl_some, tl_none, bx_iconst, bx_istore_2, bx_iload_2, bx_bipush, bx_ic_ge, bx_aload_0, gf373_2 hG, ia375 hG, is375 hG, bx_iload_1, bx_ic_ne, bx_goto, bx_iinc2, bx_istore_3, bx_iload_3, gf373_0 hG, gf5_2 hG, ia6 hG, is6 hG, bx_istore4, bx_iload4, bx_ic_eq, bx_if_ne, bx_iadd, gf373_1 hG, ia374 hG, is374 hG, bx_ishl, bx_ior, bx_iinc3, bx_zret, if_neg (show ¬ 36 ≤ c by omega), g6, q, if_pos (show (-1 : Int) = -1 from rfl)]
    · have hl := ln_bd (n := n) (c := c) ⟨h1, h2⟩ (by rw [← hL c h1 h2]; exact q)
      rw [← hL c h1 h2] at hl
      have hoc := ho c h1 h2
      obtain ⟨t1, t2, t3⟩ := lit_1 (k := s.1) (i := V 6 c) u2 (by omega)
      have b0 := u3 (V 6 c) hl.1 (by omega)
      have b1' := u3 (V 6 c + 1) (by omega) (by omega)
      have z0 := btI_01 s.1 (V 6 c)
      have z1 := btI_01 s.1 (V 6 c + 1)
      rw [if_neg q]
      by_cases g : btI s.1 (V 6 c) = 0 ∧ btI s.1 (V 6 c + 1) = 0
      · have em : mtS (V 6 c) (V 374 c) s = s := by unfold mtS; rw [if_pos g]
        rw [em]
        refine ⟨_, _, ⟨⟨xI (V 6 c), rfl⟩, U, rfl, u1, u2, u3⟩, ?_⟩
        rw [bk901_34]
        simp (disch := first | omega | exact Nat.le_of_ble_eq_true rfl) only [bk901_0, bk901_22, bk901_23, bk901_30, bk901_82, bk901_121, bk901_127, bk901_136, bk901_137, Int.reduceToNat, vA_ap, Nat.reduceEqDiff, if_true, if_false, bx_nil, isL_I, isL_R, isL_U, if_ff, bind_some, tl_some, tl_none, bx_iconst, bx_istore_2, bx_iload_2, bx_bipush, bx_ic_ge, bx_aload_0, gf373_2 hG, ia375 hG, is375 hG, bx_iload_1, bx_ic_ne, bx_goto, bx_iinc2, bx_istore_3, bx_iload_3, gf373_0 hG, gf5_2 hG, ia6 hG, is6 hG, bx_istore4, bx_iload4, bx_ic_eq, bx_if_ne, bx_iadd, gf373_1 hG, ia374 hG, is374 hG, bx_ishl, bx_ior, bx_iinc3, bx_zret, if_neg (show ¬ 36 ≤ c by omega), g6, if_neg q, b0, b1', if_pos g.1, if_pos g.2]
      · have em : mtS (V 6 c) (V 374 c) s = (orI s.1 (shlI 3 (V 6 c)), if V 374 c = -1 then s.2 else orI s.2 (shlI 1 (V 374 c))) := by unfold mtS; rw [if_neg g]
        rw [em]
        refine ⟨_, _, ⟨⟨xI (V 6 c), rfl⟩, vA U 375 (vU (vU (U 375) (V 6 c) 1) (V 6 c + 1) 1), rfl, fun b b1 => by rw [vA_ne b1]; exact u1 b b1, t2, fun l l0 l1 => ?_⟩, ?_⟩
        · rw [vA_same, t3 l l0 l1]
          by_cases y1 : l = V 6 c + 1
          · rw [y1, vU_at, if_pos (Or.inr rfl)]
          · rw [vU_ne y1]
            by_cases y2 : l = V 6 c
            · rw [y2, vU_at, if_pos (Or.inl rfl)]
            · rw [vU_ne y2, if_neg (by omega)]
              exact u3 l l0 l1
        · have hst : run d 901 34 [xR 373, xI a, xI s.2, xI c, u] [] (U, G) = run d 901 82 [xR 373, xI a, xI s.2, xI c, xI (V 6 c)] [] (U, G) := by
            rw [bk901_34]
            by_cases y0 : btI s.1 (V 6 c) = 0
            · simp (disch := first | omega | exact Nat.le_of_ble_eq_true rfl) only [bx_iload_3, bx_bipush, bx_ic_ge, if_neg (show ¬ 36 ≤ c by omega), bx_aload_0, gf373_0 hG, gf5_2 hG, ia6 hG, g6, bx_istore4, isL_I, if_ff, bx_iload4, bx_iconst, bx_ic_eq, if_neg q, gf373_2 hG, ia375 hG, b0, bx_if_ne, if_pos y0, bx_iadd, b1', if_neg (show ¬ btI s.1 (V 6 c + 1) = 0 from fun y => g ⟨y0, y⟩), Int.reduceToNat]
            · simp (disch := first | omega | exact Nat.le_of_ble_eq_true rfl) only [bx_iload_3, bx_bipush, bx_ic_ge, if_neg (show ¬ 36 ≤ c by omega), bx_aload_0, gf373_0 hG, gf5_2 hG, ia6 hG, g6, bx_istore4, isL_I, if_ff, bx_iload4, bx_iconst, bx_ic_eq, if_neg q, gf373_2 hG, ia375 hG, b0, bx_if_ne, if_neg y0, Int.reduceToNat]
          rw [hst]
          by_cases y : V 374 c = -1
          · simp (disch := first | omega | exact Nat.le_of_ble_eq_true rfl) only [bk901_0, bk901_22, bk901_23, bk901_30, bk901_82, bk901_121, bk901_127, bk901_136, bk901_137, Int.reduceToNat, vA_ap, Nat.reduceEqDiff, if_true, if_false, bx_nil, isL_I, isL_R, isL_U, if_ff, bind_some, tl_some, tl_none, bx_iconst, bx_istore_2, bx_iload_2, bx_bipush, bx_ic_ge, bx_aload_0, gf373_2 hG, ia375 hG, is375 hG, bx_iload_1, bx_ic_ne, bx_goto, bx_iinc2, bx_istore_3, bx_iload_3, gf373_0 hG, gf5_2 hG, ia6 hG, is6 hG, bx_istore4, bx_iload4, bx_ic_eq, bx_if_ne, bx_iadd, gf373_1 hG, ia374 hG, is374 hG, bx_ishl, bx_ior, bx_iinc3, bx_zret, go, if_pos y, vA_vA, is375 hG (Or.inr rfl : (1 : Int) = 0 ∨ (1 : Int) = 1)]
          · simp (disch := first | omega | exact Nat.le_of_ble_eq_true rfl) only [bk901_0, bk901_22, bk901_23, bk901_30, bk901_82, bk901_121, bk901_127, bk901_136, bk901_137, Int.reduceToNat, vA_ap, Nat.reduceEqDiff, if_true, if_false, bx_nil, isL_I, isL_R, isL_U, if_ff, bind_some, tl_some, tl_none, bx_iconst, bx_istore_2, bx_iload_2, bx_bipush, bx_ic_ge, bx_aload_0, gf373_2 hG, ia375 hG, is375 hG, bx_iload_1, bx_ic_ne, bx_goto, bx_iinc2, bx_istore_3, bx_iload_3, gf373_0 hG, gf5_2 hG, ia6 hG, is6 hG, bx_istore4, bx_iload4, bx_ic_eq, bx_if_ne, bx_iadd, gf373_1 hG, ia374 hG, is374 hG, bx_ishl, bx_ior, bx_iinc3, bx_zret, go, if_neg y, vA_vA, is375 hG (Or.inr rfl : (1 : Int) = 0 ∨ (1 : Int) = 1)]) [xR 373, xI a, xI 0, xI 0, xU] (vA W 375 (fl (W 375) (fun l => if l = a then 1 else 0) 0 6), G) ⟨⟨xU, rfl⟩, _, rfl, fun b b1 => by rw [vA_ne b1]; exact hW b b1, (lit_0 (by omega)).1, fun l l0 l1 => by
      rw [vA_same, fl_in l0 l1]
      exact ((lit_0 (s := a) (by omega)).2 l l0 l1).symm⟩
  obtain ⟨U, e, hU⟩ := l2
  refine ⟨U, ?_, hU⟩
  simp (disch := first | omega | exact Nat.le_of_ble_eq_true rfl) only [bk901_0, bk901_22, bk901_23, bk901_30, bk901_82, bk901_121, bk901_127, bk901_136, bk901_137, Int.reduceToNat, vA_ap, Nat.reduceEqDiff, if_true, if_false, bx_nil, isL_I, isL_R, isL_U, if_ff, bind_some, tl_some, tl_none, bx_iconst, bx_istore_2, bx_iload_2, bx_bipush, bx_ic_ge, bx_aload_0, gf373_2 hG, ia375 hG, is375 hG, bx_iload_1, bx_ic_ne, bx_goto, bx_iinc2, bx_istore_3, bx_iload_3, gf373_0 hG, gf5_2 hG, ia6 hG, is6 hG, bx_istore4, bx_iload4, bx_ic_eq, bx_if_ne, bx_iadd, gf373_1 hG, ia374 hG, is374 hG, bx_ishl, bx_ior, bx_iinc3, bx_zret]
  rw [l1, bk901_2]
  simp (disch := first | omega | exact Nat.le_of_ble_eq_true rfl) only [bk901_0, bk901_22, bk901_23, bk901_30, bk901_82, bk901_121, bk901_127, bk901_136, bk901_137, Int.reduceToNat, vA_ap, Nat.reduceEqDiff, if_true, if_false, bx_nil, isL_I, isL_R, isL_U, if_ff, bind_some, tl_some, tl_none, bx_iconst, bx_istore_2, bx_iload_2, bx_bipush, bx_ic_ge, bx_aload_0, gf373_2 hG, ia375 hG, is375 hG, bx_iload_1, bx_ic_ne, bx_goto, bx_iinc2, bx_istore_3, bx_iload_3, gf373_0 hG, gf5_2 hG, ia6 hG, is6 hG, bx_istore4, bx_iload4, bx_ic_eq, bx_if_ne, bx_iadd, gf373_1 hG, ia374 hG, is374 hG, bx_ishl, bx_ior, bx_iinc3, bx_zret, if_pos (show (6 : Int) ≤ 6 by omega)]
  exact e
end MT
