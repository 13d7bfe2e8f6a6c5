/-! SPLIT: a plain function, and both sides of it -/
abbrev SS : Type := (Int → Int → Int) × Int × (Int → Int) × (Int → Int)
def clrF (C S : Int → Int) (x y : Int) : Option Int := lstF (fun k => (S k * x + C k * y) % 97 == 0) 96 0
def stS (C S : Int → Int) (n : Int) (s : SS) (i k : Int) : SS := (fun c => if 0 ≤ c ∧ c < n then turnL C S (s.1 c) i k else s.1 c, s.2.1 + 1, vU s.2.2.1 s.2.1 i, vU s.2.2.2 s.2.1 k)
def spl (C S : Int → Int) (n : Int) : Nat → Int → Int → SS → Bool × SS
  | 0, _, _, s => (true, s)
  | m + 1, c, r, s => if c < n - 1 then (if c < r then (match clrF C S (s.1 c (r - 1)) (s.1 c r) with
      | none => (false, s)
      | some k => spl C S n m c (r - 1) (stS C S n s (r - 1) k)) else spl C S n m (c + 1) (n - 1) s) else (true, s)
theorem spl_end {C S : Int → Int} {n : Int} : ∀ (m : Nat) {c r : Int} {s : SS}, ¬ c < n - 1 → spl C S n m c r s = (true, s)
  | 0, _, _, _, _ => rfl
  | m + 1, c, r, s, h => by unfold spl; rw [if_neg h]
def tri (k : Int) : Int := if k ≤ 0 then 0 else if k = 1 then 1 else if k = 2 then 3 else if k = 3 then 6 else 10
theorem tri_up {k : Int} (h : 0 < k ∧ k ≤ 4) : tri k = k + tri (k - 1) := by
  unfold tri
  repeat' split
  all_goals omega
def okS (n : Nat) (s : SS) : Prop := 0 ≤ s.2.1 ∧ (∀ c r, 0 ≤ c → c < (n : Int) → 0 ≤ r → r < (n : Int) → 0 ≤ s.1 c r ∧ s.1 c r ≤ 96) ∧ ∀ i, 0 ≤ i → i < s.2.1 → (0 ≤ s.2.2.1 i ∧ s.2.2.1 i + 1 < n) ∧ (0 ≤ s.2.2.2 i ∧ s.2.2.2 i ≤ 95)
theorem okS_st {n : Nat} {C S : Int → Int} {s : SS} {i k : Int} (h : okS n s) (hi : 0 ≤ i ∧ i + 1 < n) (hk : 0 ≤ k ∧ k ≤ 95) : okS n (stS C S n s i k) := by
  obtain ⟨h1, h2, h3⟩ := h
  refine ⟨?_, fun c r c0 c1 r0 r1 => ?_, fun j j0 j1 => ?_⟩
  · show 0 ≤ s.2.1 + 1
    omega
  · show 0 ≤ (if 0 ≤ c ∧ c < (n : Int) then turnL C S (s.1 c) i k else s.1 c) r ∧ (if 0 ≤ c ∧ c < (n : Int) then turnL C S (s.1 c) i k else s.1 c) r ≤ 96
    rw [if_pos ⟨c0, c1⟩]
    exact turnL_rg (N := n) (fun j j0 j1 => h2 c j c0 c1 j0 j1) r r0 r1
  · have j2 : j < s.2.1 + 1 := j1
    show (0 ≤ vU s.2.2.1 s.2.1 i j ∧ vU s.2.2.1 s.2.1 i j + 1 < n) ∧ (0 ≤ vU s.2.2.2 s.2.1 k j ∧ vU s.2.2.2 s.2.1 k j ≤ 95)
    by_cases e : j = s.2.1
    · rw [e, vU_at, vU_at]
      exact ⟨hi, hk⟩
    · rw [vU_ne e, vU_ne e]
      exact h3 j j0 (by omega)
theorem stS_at {C S : Int → Int} {n c i k : Int} {s : SS} (h : 0 ≤ c ∧ c < n) : (stS C S n s i k).1 c = turnL C S (s.1 c) i k := if_pos h
theorem clrF_bd {C S : Int → Int} {x y k : Int} (h : clrF C S x y = some k) : 0 ≤ k ∧ k ≤ 95 := by
  have := (lstF_some 96 0 h).1
  omega
/-- the class's memory W in a split, V ahead of it -/
def sX (n : Nat) (V W : Nat → Int → Int) (s : SS) (w : Int) : Prop := (∀ b, b ≠ 12 → b ≠ 13 → b ≠ 14 → ¬ (23 ≤ b ∧ b < 29) → W b = V b) ∧ W 12 0 = n ∧ W 12 6 = s.2.1 ∧ W 12 7 = w ∧ (∀ c r, 0 ≤ c → c < (n : Int) → 0 ≤ r → r < (n : Int) → W (23 + c.toNat) r = s.1 c r) ∧ (∀ i, 0 ≤ i → i < s.2.1 → W 13 i = s.2.2.1 i ∧ W 14 i = s.2.2.2 i)
section SPX
variable {n L d : Nat} {G : XG} {V : Nat → Int → Int}
theorem x_turnLN {a N : Nat} {i k : Int} (hG : Good n L G) (ha : G.1 a = (1, N)) (hN : N ≤ 6) (n1 : ¬ 3 = a) (n2 : ¬ 4 = a) (hi : 0 ≤ i ∧ i + 1 < N) (hk : 0 ≤ k ∧ k ≤ 95) (hC : rg (V 3) 96 0 96) (hS : rg (V 4) 96 0 96) (hf : 0 ≤ V a i ∧ V a i ≤ 96) (hf2 : 0 ≤ V a (i + 1) ∧ V a (i + 1) ≤ 96) : run (d + 1) 1 0 [xR 2, xR a, xI i, xI k, xU, xU] [] (V, G) = some (none, (vA V a (turnL (V 3) (V 4) (V a) i k), G)) := by
  have c1 := hC k (by omega) (by omega)
  have c2 := hS k (by omega) (by omega)
  have p1 := mul_bd c1 hf
  have p2 := mul_bd c2 hf2
  have p3 := mul_bd c2 hf
  have p4 := mul_bd c1 hf2
  simp (disch := first | omega | exact Nat.le_of_ble_eq_true rfl) only [bk1_0, Int.reduceToNat, vA_ap, Nat.reduceEqDiff, if_true, if_false, bx_nil, isL_I, isL_R, isL_U, if_ff, bind_some, tl_some, tl_none, bx_aload_1, bx_iload_2, bx_istore4, bx_iconst, bx_iadd, bx_istore5, bx_aload_0, gf2_0 hG, ia3 hG, is3 hG, bx_iload_3, bx_iload4, bx_imul, gf2_1 hG, ia4 hG, is4 hG, bx_iload5, bx_isub, bx_bipush, cl1300, bx_irem, bx_vret, bx_iald ha, bx_iast ha, j_floorMod (show i32 (V 3 k * V a i - V 4 k * V a (i + 1)) from ⟨by omega, by omega⟩), n1, n2, vA_same, tm_pos (show 0 ≤ V 4 k * V a i + V 3 k * V a (i + 1) by omega) (show (0 : Int) < 97 by omega)]
  rw [vA_vA]
  refine congrArg (fun z => some (none, (z, G))) (vA_ext (fun j => ?_))
  simp only [turnL, vU]
  by_cases h1 : j = i
  · subst h1
    rw [if_neg (by omega), if_pos rfl, if_pos rfl]
  · simp only [h1, if_false]
theorem x_addStep {W : Nat → Int → Int} {s : SS} {i k w : Int} (hG : Good n L G) (h6 : n ≤ 6) (hC : rg (V 3) 96 0 96) (hS : rg (V 4) 96 0 96) (hW : sX n V W s w) (hs : okS n s) (h15 : s.2.1 < 15) (hi : 0 ≤ i ∧ i + 1 < n) (hk : 0 ≤ k ∧ k ≤ 95) : ∃ W', run (d + 2) 805 0 [xR 12, xI i, xI k, xU] [] (W, G) = some (none, (W', G)) ∧ sX n V W' (stS (V 3) (V 4) n s i k) w := by
  obtain ⟨w1, w2, w3, w4, w5, w6⟩ := hW
  obtain ⟨s1, s2, s3⟩ := hs
  have h := it_inv (D := d + 2) (q := 805) (pc := 2) (hi := n) (I := fun j ls μ => ls = [xR 12, xI i, xI k, xI j] ∧ ∃ U, μ = (U, G) ∧ (∀ b, ¬ (23 ≤ b ∧ b < 29) → U b = W b) ∧ ∀ c r, 0 ≤ c → c < (n : Int) → 0 ≤ r → r < (n : Int) → U (23 + c.toNat) r = if c < j then turnL (V 3) (V 4) (s.1 c) i k r else s.1 c r) (Q := fun z => ∃ W', z = some (none, (W', G)) ∧ sX n V W' (stS (V 3) (V 4) n s i k) w) (fun ls μ hI => by
    obtain ⟨rfl, U, rfl, u1, u2⟩ := hI
    have e12 : U 12 = W 12 := u1 12 (by omega)
    have e13 : U 13 = W 13 := u1 13 (by omega)
    have e14 : U 14 = W 14 := u1 14 (by omega)
    refine ⟨vA (vA (vA U 13 (vU (W 13) s.2.1 i)) 14 (vU (W 14) s.2.1 k)) 12 (vU (W 12) 6 (s.2.1 + 1)), ?_, ?_⟩
    · rw [bk805_2]
      simp (disch := first | omega | exact Nat.le_of_ble_eq_true rfl) only [bk805_0, bk805_31, Int.reduceToNat, vA_ap, Nat.reduceEqDiff, if_true, if_false, bx_nil, isL_I, isL_R, isL_U, if_ff, bind_some, tl_some, tl_none, bx_iconst, bx_istore_3, bx_iload_3, bx_aload_0, gf12_0 hG, bx_ic_ge, gf12_1 hG, gf12_3 hG, aa22 hG, bx_iload_1, bx_iload_2, cl1 hG, bx_iinc3, bx_goto, gf12_4 hG, ia13 hG, is13 hG, gf12_6 hG, gf12_5 hG, ia14 hG, is14 hG, bx_dupI, bx_dupR, bx_iadd, pf12_6 hG, bx_vret, e12, e13, e14, w2, w3, if_pos (show (n : Int) ≤ n by omega)]
    · refine ⟨fun b b1 b2 b3 b4 => ?_, w2, ?_, w4, fun c r c0 c1 r0 r1 => ?_, fun j j0 j1 => ?_⟩
      · rw [vA_ne b1, vA_ne b3, vA_ne b2]
        exact (u1 b b4).trans (w1 b b1 b2 b3 b4)
      · rfl
      · rw [vA_ne (by omega), vA_ne (by omega), vA_ne (by omega), u2 c r c0 c1 r0 r1, if_pos c1]
        rw [stS_at ⟨c0, c1⟩]
      · have j2 : j < s.2.1 + 1 := j1
        show vU (W 13) s.2.1 i j = vU s.2.2.1 s.2.1 i j ∧ vU (W 14) s.2.1 k j = vU s.2.2.2 s.2.1 k j
        by_cases e : j = s.2.1
        · rw [e]; simp only [vU_at]; exact ⟨trivial, trivial⟩
        · simp only [vU_ne e]
          exact w6 j j0 (by omega)) n 0 (by omega) (fun j ls μ h1 h2 hI => by
    obtain ⟨rfl, U, rfl, u1, u2⟩ := hI
    left
    have e12 : U 12 = W 12 := u1 12 (by omega)
    have e3 : U 3 = V 3 := (u1 3 (by omega)).trans (w1 3 (by omega) (by omega) (by omega) (by omega))
    have e4 : U 4 = V 4 := (u1 4 (by omega)).trans (w1 4 (by omega) (by omega) (by omega) (by omega))
    have f1 := u2 j i h1 h2 hi.1 (by omega)
    have f2 := u2 j (i + 1) h1 h2 (by omega) (by omega)
    rw [if_neg (by omega)] at f1 f2
    have g1 := s2 j i h1 h2 hi.1 (by omega)
    have g2 := s2 j (i + 1) h1 h2 (by omega) (by omega)
    have ht := x_turnLN (d := d) (V := U) (a := 23 + j.toNat) (N := n) (i := i) (k := k) hG (sf23 hG h6 (by omega)) h6 (by omega) (by omega) hi hk (by rw [e3]; exact hC) (by rw [e4]; exact hS) (by rw [f1]; exact g1) (by rw [f2]; exact g2)
    refine ⟨_, _, ⟨rfl, vA U (23 + j.toNat) (turnL (U 3) (U 4) (U (23 + j.toNat)) i k), rfl, fun b b1 => ?_, fun c r c0 c1 r0 r1 => ?_⟩, ?_⟩
    · rw [vA_ne (by omega)]; exact u1 b b1
    · by_cases e : c = j
      · rw [e, vA_same, if_pos (by omega), e3, e4]
        unfold turnL
        have f3 := u2 j r h1 h2 r0 r1
        rw [if_neg (by omega)] at f3
        rw [f1, f2, f3]
      · rw [vA_ne (by omega), u2 c r c0 c1 r0 r1]
        by_cases e2 : c < j
        · rw [if_pos e2, if_pos (by omega)]
        · rw [if_neg e2, if_neg (by omega)]
    · rw [bk805_2]
      simp (disch := first | omega | exact Nat.le_of_ble_eq_true rfl) only [bk805_0, bk805_31, Int.reduceToNat, vA_ap, Nat.reduceEqDiff, if_true, if_false, bx_nil, isL_I, isL_R, isL_U, if_ff, bind_some, tl_some, tl_none, bx_iconst, bx_istore_3, bx_iload_3, bx_aload_0, gf12_0 hG, bx_ic_ge, gf12_1 hG, gf12_3 hG, aa22 hG, bx_iload_1, bx_iload_2, cl1 hG, bx_iinc3, bx_goto, gf12_4 hG, ia13 hG, is13 hG, gf12_6 hG, gf12_5 hG, ia14 hG, is14 hG, bx_dupI, bx_dupR, bx_iadd, pf12_6 hG, bx_vret, e12, w2, if_neg (show ¬ (n : Int) ≤ j by omega), ht]) [xR 12, xI i, xI k, xI 0] (W, G) ⟨rfl, W, rfl, fun b _ => rfl, fun c r c0 c1 r0 r1 => by rw [if_neg (by omega)]; exact w5 c r c0 c1 r0 r1⟩
  obtain ⟨W', e, hW'⟩ := h
  refine ⟨W', ?_, hW'⟩
  simp (disch := first | omega | exact Nat.le_of_ble_eq_true rfl) only [bk805_0, bk805_31, Int.reduceToNat, vA_ap, Nat.reduceEqDiff, if_true, if_false, bx_nil, isL_I, isL_R, isL_U, if_ff, bind_some, tl_some, tl_none, bx_iconst, bx_istore_3, bx_iload_3, bx_aload_0, gf12_0 hG, bx_ic_ge, gf12_1 hG, gf12_3 hG, aa22 hG, bx_iload_1, bx_iload_2, cl1 hG, bx_iinc3, bx_goto, gf12_4 hG, ia13 hG, is13 hG, gf12_6 hG, gf12_5 hG, ia14 hG, is14 hG, bx_dupI, bx_dupR, bx_iadd, pf12_6 hG, bx_vret]
  exact e
theorem x_split_lp (hG : Good n L G) (h26 : 2 ≤ n ∧ n ≤ 6) (hC : rg (V 3) 96 0 96) (hS : rg (V 4) 96 0 96) : ∀ (m : Nat) (c r : Int) (s : SS) (W : Nat → Int → Int) (z : XV), sX n V W s 0 → okS n s → 0 ≤ c → c < (n : Int) - 1 → c ≤ r → r ≤ (n : Int) - 1 → 7 * ((n : Int) - 1 - c) + (r - c) < m → s.2.1 + (r - c) + tri ((n : Int) - 2 - c) ≤ 15 → ∃ W', run (d + 3) 804 66 [xR 12, xI c, xI r, z] [] (W, G) = some (some (xI (b1 ((spl (V 3) (V 4) n m c r s).1 = true))), (W', G)) ∧ sX n V W' (spl (V 3) (V 4) n m c r s).2 (b1 ((spl (V 3) (V 4) n m c r s).1 = true)) ∧ okS n (spl (V 3) (V 4) n m c r s).2 ∧ (spl (V 3) (V 4) n m c r s).2.2.1 ≤ 15 := by
  intro m
  induction m with
  | zero => intro c r s W z h1 h2 h3 h4 h5 h6 h7; omega
  | succ m ih =>
    intro c r s W z hW hs hc0 hc1 hr0 hr1 hf h15
    obtain ⟨w1, w2, w3, w4, w5, w6⟩ := id hW
    have t0 : 0 ≤ tri ((n : Int) - 2 - c) := by unfold tri; repeat' split <;> omega
    unfold spl
    rw [if_pos hc1]
    by_cases g : c < r
    · rw [if_pos g]
      have e3 : W 3 = V 3 := w1 3 (by omega) (by omega) (by omega) (by omega)
      have e4 : W 4 = V 4 := w1 4 (by omega) (by omega) (by omega) (by omega)
      have f1 := w5 c (r - 1) hc0 (by omega) (by omega) (by omega)
      have f2 := w5 c r hc0 (by omega) (by omega) (by omega)
      have g1 := hs.2.1 c (r - 1) hc0 (by omega) (by omega) (by omega)
      have g2 := hs.2.1 c r hc0 (by omega) (by omega) (by omega)
      have hcl := x_clearing (d := d + 2) (V := W) (x := s.1 c (r - 1)) (y := s.1 c r) hG g1 g2 (by rw [e3]; exact hC) (by rw [e4]; exact hS)
      rw [e3, e4] at hcl
      have hcl' : run (d + 2) 2 0 [xR 2, xI (s.1 c (r - 1)), xI (s.1 c r), xU] [] (W, G) = some (some (xI ((clrF (V 3) (V 4) (s.1 c (r - 1)) (s.1 c r)).getD (-1))), (W, G)) := hcl
      cases hk : clrF (V 3) (V 4) (s.1 c (r - 1)) (s.1 c r) with
      | none =>
        rw [hk] at hcl'
        refine ⟨W, ?_, ?_, hs, ?_⟩
        · rw [bk804_66]
          simp (disch := first | omega | exact Nat.le_of_ble_eq_true rfl) only [bk804_0, bk804_37, bk804_104, bk804_118, bk804_124, Int.reduceToNat, vA_ap, Nat.reduceEqDiff, if_true, if_false, bx_nil, isL_I, isL_R, isL_U, if_ff, bind_some, tl_some, tl_none, bx_iconst, bx_istore_1, bx_iload_1, bx_aload_0, gf12_0 hG, bx_ic_ge, gf12_2 hG, aa15 hG, gf12_3 hG, aa22 hG, bx_iinc1, bx_goto, pf12_6 hG, pf12_7 hG, bx_isub, bx_istore_2, bx_iload_2, bx_ic_le, gf12_1 hG, cl2 hG, bx_istore_3, bx_iload_3, bx_ic_ne, bx_zret, cl805 hG, bx_iinc2, if_neg (show ¬ r ≤ c by omega), ia23 hG h26.2, f1, f2, hcl', Option.getD_none, if_pos (show (-1 : Int) = -1 from rfl), b1_f (show ¬ false = true by simp)]
        · exact hW
        · show s.2.1 ≤ 15
          omega
      | some k =>
        rw [hk] at hcl'
        have hkb := clrF_bd hk
        obtain ⟨W1, a1, a2⟩ := x_addStep (d := d) (i := r - 1) (k := k) hG h26.2 hC hS hW hs (by omega) (by omega) hkb
        obtain ⟨W2, b1', b2, b3, b4⟩ := ih c (r - 1) (stS (V 3) (V 4) n s (r - 1) k) W1 (xI k) a2 (okS_st hs (by omega) hkb) hc0 hc1 (by omega) (by omega) (by omega) (by show s.2.1 + 1 + (r - 1 - c) + _ ≤ 15; omega)
        refine ⟨W2, ?_, b2, b3, b4⟩
        rw [bk804_66]
        simp (disch := first | omega | exact Nat.le_of_ble_eq_true rfl) only [bk804_0, bk804_37, bk804_104, bk804_118, bk804_124, Int.reduceToNat, vA_ap, Nat.reduceEqDiff, if_true, if_false, bx_nil, isL_I, isL_R, isL_U, if_ff, bind_some, tl_some, tl_none, bx_iconst, bx_istore_1, bx_iload_1, bx_aload_0, gf12_0 hG, bx_ic_ge, gf12_2 hG, aa15 hG, gf12_3 hG, aa22 hG, bx_iinc1, bx_goto, pf12_6 hG, pf12_7 hG, bx_isub, bx_istore_2, bx_iload_2, bx_ic_le, gf12_1 hG, cl2 hG, bx_istore_3, bx_iload_3, bx_ic_ne, bx_zret, cl805 hG, bx_iinc2, if_neg (show ¬ r ≤ c by omega), ia23 hG h26.2, f1, f2, hcl', Option.getD_some, if_neg (show ¬ k = -1 by omega), a1]
        rw [show r + -1 = r - 1 by omega]
        exact b1'
    · rw [if_neg g]
      by_cases g2 : c + 1 < (n : Int) - 1
      · have t1 := tri_up (k := (n : Int) - 2 - c) (by omega)
        obtain ⟨W2, b1', b2, b3, b4⟩ := ih (c + 1) (n - 1) s W z hW hs (by omega) g2 (by omega) (by omega) (by omega) (by rw [show (n : Int) - 2 - (c + 1) = n - 2 - c - 1 by omega]; omega)
        refine ⟨W2, ?_, b2, b3, b4⟩
        rw [bk804_66]
        simp (disch := first | omega | exact Nat.le_of_ble_eq_true rfl) only [bk804_0, bk804_37, bk804_104, bk804_118, bk804_124, Int.reduceToNat, vA_ap, Nat.reduceEqDiff, if_true, if_false, bx_nil, isL_I, isL_R, isL_U, if_ff, bind_some, tl_some, tl_none, bx_iconst, bx_istore_1, bx_iload_1, bx_aload_0, gf12_0 hG, bx_ic_ge, gf12_2 hG, aa15 hG, gf12_3 hG, aa22 hG, bx_iinc1, bx_goto, pf12_6 hG, pf12_7 hG, bx_isub, bx_istore_2, bx_iload_2, bx_ic_le, gf12_1 hG, cl2 hG, bx_istore_3, bx_iload_3, bx_ic_ne, bx_zret, cl805 hG, bx_iinc2, if_pos (show r ≤ c by omega)]
        rw [bk804_49]
        simp (disch := first | omega | exact Nat.le_of_ble_eq_true rfl) only [bk804_0, bk804_37, bk804_104, bk804_118, bk804_124, Int.reduceToNat, vA_ap, Nat.reduceEqDiff, if_true, if_false, bx_nil, isL_I, isL_R, isL_U, if_ff, bind_some, tl_some, tl_none, bx_iconst, bx_istore_1, bx_iload_1, bx_aload_0, gf12_0 hG, bx_ic_ge, gf12_2 hG, aa15 hG, gf12_3 hG, aa22 hG, bx_iinc1, bx_goto, pf12_6 hG, pf12_7 hG, bx_isub, bx_istore_2, bx_iload_2, bx_ic_le, gf12_1 hG, cl2 hG, bx_istore_3, bx_iload_3, bx_ic_ne, bx_zret, cl805 hG, bx_iinc2, w2, if_neg (show ¬ (n : Int) - 1 ≤ c + 1 by omega)]
        exact b1'
      · rw [spl_end m (by omega)]
        refine ⟨vA W 12 (vU (W 12) 7 1), ?_, ⟨fun b b1 b2 b3 b4 => ?_, w2, w3, rfl, fun c r c0 c1 r0 r1 => ?_, w6⟩, hs, ?_⟩
        · rw [bk804_66]
          simp (disch := first | omega | exact Nat.le_of_ble_eq_true rfl) only [bk804_0, bk804_37, bk804_104, bk804_118, bk804_124, Int.reduceToNat, vA_ap, Nat.reduceEqDiff, if_true, if_false, bx_nil, isL_I, isL_R, isL_U, if_ff, bind_some, tl_some, tl_none, bx_iconst, bx_istore_1, bx_iload_1, bx_aload_0, gf12_0 hG, bx_ic_ge, gf12_2 hG, aa15 hG, gf12_3 hG, aa22 hG, bx_iinc1, bx_goto, pf12_6 hG, pf12_7 hG, bx_isub, bx_istore_2, bx_iload_2, bx_ic_le, gf12_1 hG, cl2 hG, bx_istore_3, bx_iload_3, bx_ic_ne, bx_zret, cl805 hG, bx_iinc2, if_pos (show r ≤ c by omega)]
          rw [bk804_49]
          simp (disch := first | omega | exact Nat.le_of_ble_eq_true rfl) only [bk804_0, bk804_37, bk804_104, bk804_118, bk804_124, Int.reduceToNat, vA_ap, Nat.reduceEqDiff, if_true, if_false, bx_nil, isL_I, isL_R, isL_U, if_ff, bind_some, tl_some, tl_none, bx_iconst, bx_istore_1, bx_iload_1, bx_aload_0, gf12_0 hG, bx_ic_ge, gf12_2 hG, aa15 hG, gf12_3 hG, aa22 hG, bx_iinc1, bx_goto, pf12_6 hG, pf12_7 hG, bx_isub, bx_istore_2, bx_iload_2, bx_ic_le, gf12_1 hG, cl2 hG, bx_istore_3, bx_iload_3, bx_ic_ne, bx_zret, cl805 hG, bx_iinc2, w2, if_pos (show (n : Int) - 1 ≤ c + 1 by omega), b1_T]
        · rw [vA_ne b1]; exact w1 b b1 b2 b3 b4
        · rw [vA_ne (by omega)]; exact w5 c r c0 c1 r0 r1
        · show s.2.1 ≤ 15
          omega
/-- where a split begins -/
def s0 (V : Nat → Int → Int) : SS := (fun c r => V 386 (6 * r + c), 0, fun _ => 0, fun _ => 0)
theorem okS_0 (h : tldP n V) : okS n (s0 V) := ⟨Int.le_refl 0, fun c r c0 c1 r0 r1 => (h r c r0 r1 c0 c1).2, fun i i0 i1 => absurd (show i < 0 from i1) (by omega)⟩
theorem x_split (hG : Good n L G) (h26 : 2 ≤ n ∧ n ≤ 6) (hC : rg (V 3) 96 0 96) (hS : rg (V 4) 96 0 96) (hn : V 12 0 = n) (ht : tldP n V) : ∃ W', run (d + 3) 804 0 [xR 12, xU, xU, xU] [] (V, G) = some (some (xI (b1 ((spl (V 3) (V 4) n 64 0 (n - 1) (s0 V)).1 = true))), (W', G)) ∧ sX n V W' (spl (V 3) (V 4) n 64 0 (n - 1) (s0 V)).2 (b1 ((spl (V 3) (V 4) n 64 0 (n - 1) (s0 V)).1 = true)) ∧ okS n (spl (V 3) (V 4) n 64 0 (n - 1) (s0 V)).2 ∧ (spl (V 3) (V 4) n 64 0 (n - 1) (s0 V)).2.2.1 ≤ 15 := by
  have h := it_inv (D := d + 3) (q := 804) (pc := 2) (hi := n) (I := fun j ls μ => ls = [xR 12, xI j, xU, xU] ∧ ∃ U, μ = (U, G) ∧ (∀ b, ¬ (23 ≤ b ∧ b < 29) → U b = V b) ∧ ∀ c r, 0 ≤ c → c < j → 0 ≤ r → r < (n : Int) → U (23 + c.toNat) r = V (16 + c.toNat) r) (Q := fun z => ∃ W', z = some (some (xI (b1 ((spl (V 3) (V 4) n 64 0 (n - 1) (s0 V)).1 = true))), (W', G)) ∧ sX n V W' (spl (V 3) (V 4) n 64 0 (n - 1) (s0 V)).2 (b1 ((spl (V 3) (V 4) n 64 0 (n - 1) (s0 V)).1 = true)) ∧ okS n (spl (V 3) (V 4) n 64 0 (n - 1) (s0 V)).2 ∧ (spl (V 3) (V 4) n 64 0 (n - 1) (s0 V)).2.2.1 ≤ 15) (fun ls μ hI => by
    obtain ⟨rfl, U, rfl, u1, u2⟩ := hI
    have e12 : U 12 = V 12 := u1 12 (by omega)
    obtain ⟨W', a1, a2⟩ := x_split_lp (d := d) (V := V) hG h26 hC hS 64 0 (n - 1) (s0 V) (vA U 12 (vU (vU (V 12) 6 0) 7 0)) xU ⟨fun b b1 b2 b3 b4 => by rw [vA_ne b1]; exact u1 b b4, hn, rfl, rfl, fun c r c0 c1 r0 r1 => by rw [vA_ne (by omega), u2 c r c0 c1 r0 r1]; exact (ht r c r0 r1 c0 c1).1, fun i i0 i1 => absurd (show i < 0 from i1) (by omega)⟩ (okS_0 ht) (by omega) (by omega) (by omega) (by omega) (by omega) (by
      show 0 + ((n : Int) - 1 - 0) + tri ((n : Int) - 2 - 0) ≤ 15
      unfold tri
      repeat' split
      all_goals omega)
    refine ⟨W', ?_, a2⟩
    rw [bk804_2]
    simp (disch := first | omega | exact Nat.le_of_ble_eq_true rfl) only [bk804_0, bk804_37, bk804_104, bk804_118, bk804_124, Int.reduceToNat, vA_ap, Nat.reduceEqDiff, if_true, if_false, bx_nil, isL_I, isL_R, isL_U, if_ff, bind_some, tl_some, tl_none, bx_iconst, bx_istore_1, bx_iload_1, bx_aload_0, gf12_0 hG, bx_ic_ge, gf12_2 hG, aa15 hG, gf12_3 hG, aa22 hG, bx_iinc1, bx_goto, pf12_6 hG, pf12_7 hG, bx_isub, bx_istore_2, bx_iload_2, bx_ic_le, gf12_1 hG, cl2 hG, bx_istore_3, bx_iload_3, bx_ic_ne, bx_zret, cl805 hG, bx_iinc2, e12, hn, if_pos (show (n : Int) ≤ n by omega)]
    rw [bk804_49]
    have e0 : vA (vA U 12 (vU (V 12) 6 0)) 12 (vU (vU (V 12) 6 0) 7 0) = vA U 12 (vU (vU (V 12) 6 0) 7 0) := vA_vA _ _ _ _
    have e1 : vU (vU (V 12) 6 0) 7 0 0 = n := hn
    simp (disch := first | omega | exact Nat.le_of_ble_eq_true rfl) only [bk804_0, bk804_37, bk804_104, bk804_118, bk804_124, Int.reduceToNat, vA_ap, Nat.reduceEqDiff, if_true, if_false, bx_nil, isL_I, isL_R, isL_U, if_ff, bind_some, tl_some, tl_none, bx_iconst, bx_istore_1, bx_iload_1, bx_aload_0, gf12_0 hG, bx_ic_ge, gf12_2 hG, aa15 hG, gf12_3 hG, aa22 hG, bx_iinc1, bx_goto, pf12_6 hG, pf12_7 hG, bx_isub, bx_istore_2, bx_iload_2, bx_ic_le, gf12_1 hG, cl2 hG, bx_istore_3, bx_iload_3, bx_ic_ne, bx_zret, cl805 hG, bx_iinc2, e0, e1, if_neg (show ¬ (n : Int) - 1 ≤ 0 by omega)]
    exact a1) n 0 (by omega) (fun j ls μ h1 h2 hI => by
    obtain ⟨rfl, U, rfl, u1, u2⟩ := hI
    left
    have e12 : U 12 = V 12 := u1 12 (by omega)
    refine ⟨_, _, ⟨rfl, vA U (23 + j.toNat) (fun i => if 0 ≤ i ∧ i < 0 + (n : Int) then U (16 + j.toNat) (0 + (i - 0)) else U (23 + j.toNat) i), rfl, fun b b1 => ?_, fun c r c0 c1 r0 r1 => ?_⟩, ?_⟩
    · rw [vA_ne (by omega)]; exact u1 b b1
    · by_cases e : c = j
      · rw [e, vA_same, if_pos (by omega), u1 _ (by omega), show 0 + (r - 0) = r by omega]
      · rw [vA_ne (by omega)]
        exact u2 c r c0 (by omega) r0 r1
    · rw [bk804_2]
      simp (disch := first | omega | exact Nat.le_of_ble_eq_true rfl) only [bk804_0, bk804_37, bk804_104, bk804_118, bk804_124, Int.reduceToNat, vA_ap, Nat.reduceEqDiff, if_true, if_false, bx_nil, isL_I, isL_R, isL_U, if_ff, bind_some, tl_some, tl_none, bx_iconst, bx_istore_1, bx_iload_1, bx_aload_0, gf12_0 hG, bx_ic_ge, gf12_2 hG, aa15 hG, gf12_3 hG, aa22 hG, bx_iinc1, bx_goto, pf12_6 hG, pf12_7 hG, bx_isub, bx_istore_2, bx_iload_2, bx_ic_le, gf12_1 hG, cl2 hG, bx_istore_3, bx_iload_3, bx_ic_ne, bx_zret, cl805 hG, bx_iinc2, e12, hn, if_neg (show ¬ (n : Int) ≤ j by omega), bx_copy (sf23 hG h26.2 (show j.toNat < n by omega)) (sf16 hG h26.2 (show j.toNat < n by omega)) (show 23 + j.toNat ≠ 16 + j.toNat by omega) (show 0 ≤ (n : Int) ∧ (0 : Int) ≤ 0 ∧ (0 : Int) ≤ 0 by omega)]) [xR 12, xI 0, xU, xU] (V, G) ⟨rfl, V, rfl, fun b _ => rfl, fun c r c0 c1 => by omega⟩
  obtain ⟨W', e, hW'⟩ := h
  refine ⟨W', ?_, hW'⟩
  simp (disch := first | omega | exact Nat.le_of_ble_eq_true rfl) only [bk804_0, bk804_37, bk804_104, bk804_118, bk804_124, Int.reduceToNat, vA_ap, Nat.reduceEqDiff, if_true, if_false, bx_nil, isL_I, isL_R, isL_U, if_ff, bind_some, tl_some, tl_none, bx_iconst, bx_istore_1, bx_iload_1, bx_aload_0, gf12_0 hG, bx_ic_ge, gf12_2 hG, aa15 hG, gf12_3 hG, aa22 hG, bx_iinc1, bx_goto, pf12_6 hG, pf12_7 hG, bx_isub, bx_istore_2, bx_iload_2, bx_ic_le, gf12_1 hG, cl2 hG, bx_istore_3, bx_iload_3, bx_ic_ne, bx_zret, cl805 hG, bx_iinc2]
  exact e
/-- the reference's memory U in a split, W ahead of it -/
def sM (n : Nat) (W U : Nat → Int → Int) (s : SS) (w : Int) : Prop := (∀ b, b ≠ 376 → b ≠ 387 → b ≠ 388 → b ≠ 389 → b ≠ 390 → U b = W b) ∧ (∀ k, k ≠ 16 → k ≠ 17 → k ≠ 18 → U 376 k = W 376 k) ∧ U 376 16 = s.2.1 ∧ U 376 17 = 1 ∧ U 376 18 = w ∧ (∀ c r, 0 ≤ c → c < (n : Int) → 0 ≤ r → r < (n : Int) → U 387 (6 * r + c) = s.1 c r) ∧ (∀ i, 0 ≤ i → i < s.2.1 → U 388 i = s.2.2.1 i ∧ U 389 i = s.2.2.2 i)
theorem m_clears {x y : Int} (hG : Good n L G) (hx : 0 ≤ x ∧ x ≤ 96) (hy : 0 ≤ y ∧ y ≤ 96) (hC : rg (V 377) 96 0 96) (hS : rg (V 378) 96 0 96) : run (d + 1) 1123 0 [xR 376, xI x, xI y, xU] [] (V, G) = some (some (xI ((clrF (V 377) (V 378) x y).getD 96)), (V, G)) := by
  have h := it_ex (D := d + 1) (q := 1123) (pc := 2) (loc := fun k => [xR 376, xI x, xI y, xI k]) (F := fun _ => (V, G)) (res := fun k => some (some (xI k), (V, G))) (hi := 96) (fun k => (V 378 k * x + V 377 k * y) % 97 == 0) 96 0 (by omega) (fun k h1 h2 hp => by
    have c1 := hC k (by omega) (by omega)
    have c2 := hS k (by omega) (by omega)
    have p3 := mul_bd c2 hx
    have p4 := mul_bd c1 hy
    have hp' : ¬ (V 378 k * x + V 377 k * y) % 97 = 0 := by simpa using hp
    rw [bk1123_2]
    simp (disch := first | omega | exact Nat.le_of_ble_eq_true rfl) only [bk1123_0, bk1123_37, Int.reduceToNat, vA_ap, Nat.reduceEqDiff, if_true, if_false, bx_nil, isL_I, isL_R, isL_U, if_ff, bind_some, tl_some, tl_none, bx_iconst, bx_istore_3, bx_iload_3, bx_bipush, bx_ic_ge, bx_aload_0, gf376_2 hG, ia378 hG, is378 hG, bx_iload_1, bx_imul, gf376_1 hG, ia377 hG, is377 hG, bx_iload_2, bx_iadd, cl1101, bx_if_eq, bx_iinc3, bx_goto, bx_iret, if_neg (show ¬ 96 ≤ k by omega), m_fit, if_neg hp']) (fun k h1 h2 hp => by
    have c1 := hC k (by omega) (by omega)
    have c2 := hS k (by omega) (by omega)
    have p3 := mul_bd c2 hx
    have p4 := mul_bd c1 hy
    have hp' : (V 378 k * x + V 377 k * y) % 97 = 0 := by simpa using hp
    rw [bk1123_2]
    simp (disch := first | omega | exact Nat.le_of_ble_eq_true rfl) only [bk1123_0, bk1123_37, Int.reduceToNat, vA_ap, Nat.reduceEqDiff, if_true, if_false, bx_nil, isL_I, isL_R, isL_U, if_ff, bind_some, tl_some, tl_none, bx_iconst, bx_istore_3, bx_iload_3, bx_bipush, bx_ic_ge, bx_aload_0, gf376_2 hG, ia378 hG, is378 hG, bx_iload_1, bx_imul, gf376_1 hG, ia377 hG, is377 hG, bx_iload_2, bx_iadd, cl1101, bx_if_eq, bx_iinc3, bx_goto, bx_iret, if_neg (show ¬ 96 ≤ k by omega), m_fit, if_pos hp'])
  simp (disch := first | omega | exact Nat.le_of_ble_eq_true rfl) only [bk1123_0, bk1123_37, Int.reduceToNat, vA_ap, Nat.reduceEqDiff, if_true, if_false, bx_nil, isL_I, isL_R, isL_U, if_ff, bind_some, tl_some, tl_none, bx_iconst, bx_istore_3, bx_iload_3, bx_bipush, bx_ic_ge, bx_aload_0, gf376_2 hG, ia378 hG, is378 hG, bx_iload_1, bx_imul, gf376_1 hG, ia377 hG, is377 hG, bx_iload_2, bx_iadd, cl1101, bx_if_eq, bx_iinc3, bx_goto, bx_iret]
  rw [h]
  unfold clrF
  cases lstF (fun k => (V 378 k * x + V 377 k * y) % 97 == 0) 96 0 with
  | some k => rfl
  | none =>
    show run (d + 1) 1123 2 [xR 376, xI x, xI y, xI 96] [] (V, G) = _
    rw [bk1123_2]
    simp (disch := first | omega | exact Nat.le_of_ble_eq_true rfl) only [bk1123_0, bk1123_37, Int.reduceToNat, vA_ap, Nat.reduceEqDiff, if_true, if_false, bx_nil, isL_I, isL_R, isL_U, if_ff, bind_some, tl_some, tl_none, bx_iconst, bx_istore_3, bx_iload_3, bx_bipush, bx_ic_ge, bx_aload_0, gf376_2 hG, ia378 hG, is378 hG, bx_iload_1, bx_imul, gf376_1 hG, ia377 hG, is377 hG, bx_iload_2, bx_iadd, cl1101, bx_if_eq, bx_iinc3, bx_goto, bx_iret, if_pos (show (96 : Int) ≤ 96 by omega)]
    rfl
theorem m_split_in {W U : Nat → Int → Int} {s : SS} {c r k w : Int} {u v : XV} (hG : Good n L G) (h6 : n ≤ 6) (hn : W 376 0 = n) (hC : rg (W 377) 96 0 96) (hS : rg (W 378) 96 0 96) (hU : sM n W U s w) (hs : okS n s) (hr : 1 ≤ r ∧ r < (n : Int)) (hk : 0 ≤ k ∧ k ≤ 95) : ∃ U' u' v', run (d + 1) 1122 116 [xR 376, xI c, xI r, xI k, xI 0, u, v] [] (U, G) = run (d + 1) 1122 231 [xR 376, xI c, xI r, xI k, xI n, u', v'] [] (U', G) ∧ sM n W U' ((stS (W 377) (W 378) n s (r - 1) k).1, s.2) w := by
  obtain ⟨w1, w2, w3, w4, w5, w6, w7⟩ := hU
  obtain ⟨s1, s2, s3⟩ := hs
  have e3 : U 377 = W 377 := w1 _ (by decide) (by decide) (by decide) (by decide) (by decide)
  have e4 : U 378 = W 378 := w1 _ (by decide) (by decide) (by decide) (by decide) (by decide)
  have e0 : U 376 0 = n := (w2 0 (by omega) (by omega) (by omega)).trans hn
  have h := it_inv (D := d + 1) (q := 1122) (pc := 116) (hi := n) (I := fun j ls μ => (∃ u' v', ls = [xR 376, xI c, xI r, xI k, xI j, u', v']) ∧ ∃ T, μ = (T, G) ∧ (∀ b, b ≠ 387 → T b = U b) ∧ ∀ c r', 0 ≤ c → c < (n : Int) → 0 ≤ r' → r' < (n : Int) → T 387 (6 * r' + c) = if c < j then turnL (W 377) (W 378) (s.1 c) (r - 1) k r' else s.1 c r') (Q := fun z => ∃ U' u' v', z = run (d + 1) 1122 231 [xR 376, xI c, xI r, xI k, xI n, u', v'] [] (U', G) ∧ sM n W U' ((stS (W 377) (W 378) n s (r - 1) k).1, s.2) w) (fun ls μ hI => by
    obtain ⟨⟨u', v', rfl⟩, T, rfl, t1, t2⟩ := hI
    have t376 : T 376 = U 376 := t1 _ (by decide)
    refine ⟨T, u', v', ?_, fun b b1 b2 b3 b4 b5 => (t1 b b2).trans (w1 b b1 b2 b3 b4 b5), by rw [t376]; exact w2, by rw [t376]; exact w3, by rw [t376]; exact w4, by rw [t376]; exact w5, fun c r' c0 c1 r0 r1 => ?_, by rw [t1 _ (by decide), t1 _ (by decide)]; exact w7⟩
    · rw [bk1122_116]
      simp (disch := first | omega | exact Nat.le_of_ble_eq_true rfl) only [bx_iload4, bx_aload_0, gf376_0 hG, t376, e0, bx_ic_ge, if_pos (show (n : Int) ≤ n by omega), Int.reduceToNat]
    · rw [t2 c r' c0 c1 r0 r1, if_pos c1]
      show _ = (stS (W 377) (W 378) n s (r - 1) k).1 c r'
      rw [stS_at ⟨c0, c1⟩]) n 0 (by omega) (fun j ls μ h1 h2 hI => by
    obtain ⟨⟨u', v', rfl⟩, T, rfl, t1, t2⟩ := hI
    left
    have t376 : T 376 = U 376 := t1 _ (by decide)
    have t3 : T 377 = W 377 := (t1 _ (by decide)).trans e3
    have t4 : T 378 = W 378 := (t1 _ (by decide)).trans e4
    have f1 := t2 j (r - 1) h1 h2 (by omega) (by omega)
    have f2 := t2 j r h1 h2 (by omega) (by omega)
    rw [if_neg (by omega)] at f1 f2
    have g1 := s2 j (r - 1) h1 h2 (by omega) (by omega)
    have g2 := s2 j r h1 h2 (by omega) (by omega)
    have c1 := hC k (by omega) (by omega)
    have c2 := hS k (by omega) (by omega)
    have p1 := mul_bd c1 g1
    have p2 := mul_bd c2 g2
    have p3 := mul_bd c2 g1
    have p4 := mul_bd c1 g2
    refine ⟨_, _, ⟨⟨xI (s.1 j (r - 1)), xI (s.1 j r), rfl⟩, vA T 387 (vU (vU (T 387) (6 * (r - 1) + j) ((W 377 k * s.1 j (r - 1) - W 378 k * s.1 j r) % 97)) (6 * r + j) ((W 378 k * s.1 j (r - 1) + W 377 k * s.1 j r) % 97)), rfl, fun b b1 => ?_, fun c r' c0 c1 r0 r1 => ?_⟩, ?_⟩
    · rw [vA_ne b1]; exact t1 b b1
    · rw [vA_same]
      by_cases e : c = j
      · rw [if_pos (by omega), e]
        unfold turnL
        rw [show r - 1 + 1 = r by omega]
        by_cases q1 : r' = r - 1
        · rw [if_pos q1, q1, vU_ne (by omega), vU_at]
        · rw [if_neg q1]
          by_cases q2 : r' = r
          · rw [if_pos q2, q2, vU_at]
          · have f3 := t2 j r' h1 h2 r0 r1
            rw [if_neg (by omega)] at f3
            rw [if_neg q2, vU_ne (by omega), vU_ne (by omega), f3]
      · rw [vU_ne (by omega), vU_ne (by omega), t2 c r' c0 c1 r0 r1]
        by_cases e2 : c < j
        · rw [if_pos e2, if_pos (by omega)]
        · rw [if_neg e2, if_neg (by omega)]
    · rw [bk1122_116]
      have q1 : vU (T 387) (6 * (r - 1) + j) ((W 377 k * s.1 j (r - 1) - W 378 k * s.1 j r) % 97) (6 * r + j) = s.1 j r := by rw [vU_ne (by omega)]; exact f2
      simp (disch := first | omega | exact Nat.le_of_ble_eq_true rfl) only [bk1122_0, bk1122_26, bk1122_113, bk1122_231, bk1122_269, bk1122_275, bk1122_306, Int.reduceToNat, vA_ap, Nat.reduceEqDiff, if_true, if_false, bx_nil, isL_I, isL_R, isL_U, if_ff, bind_some, tl_some, tl_none, bx_iconst, bx_istore_1, bx_iload_1, bx_bipush, bx_ic_ge, bx_aload_0, gf376_12 hG, ia387 hG, is387 hG, gf376_11 hG, ia386 hG, is386 hG, bx_iinc1, bx_goto, pf376_16 hG, pf376_17 hG, pf376_18 hG, gf376_0 hG, bx_isub, bx_istore_2, bx_iload_2, bx_ic_le, bx_imul, bx_iadd, cl1123 hG, bx_istore_3, bx_iload_3, bx_ic_ne, gf376_16 hG, bx_iret, bx_istore4, bx_iload4, bx_istore5, bx_istore6, gf376_1 hG, ia377 hG, is377 hG, bx_iload5, gf376_2 hG, ia378 hG, is378 hG, bx_iload6, cl1101, bx_iinc4, gf376_13 hG, ia388 hG, is388 hG, gf376_14 hG, ia389 hG, is389 hG, bx_dupI, bx_dupR, bx_iinc2, gf376_15 hG, ia390 hG, is390 hG, t376, e0, t3, t4, f1, f2, if_neg (show ¬ (n : Int) ≤ j by omega), m_fit, vA_same, q1]
      rw [vA_vA]) [xR 376, xI c, xI r, xI k, xI 0, u, v] (U, G) ⟨⟨u, v, rfl⟩, U, rfl, fun b _ => rfl, fun c r' c0 c1 r0 r1 => by rw [if_neg (by omega)]; exact w6 c r' c0 c1 r0 r1⟩
  exact h
theorem m_split_sg {W U : Nat → Int → Int} {s : SS} {ls : List XV} {z : XV} (hG : Good n L G) (h26 : 2 ≤ n ∧ n ≤ 6) (hn : W 376 0 = n) (hU : sM n W U s 0) : ∃ U', run (d + 2) 1122 275 (xR 376 :: z :: ls) [] (U, G) = some (some (xI s.2.1), (U', G)) ∧ sM n W U' s 0 ∧ ∀ l, 0 ≤ l → l < (n : Int) → U' 390 l = s.1 l l := by
  obtain ⟨w1, w2, w3, w4, w5, w6, w7⟩ := hU
  have e0 : U 376 0 = n := (w2 0 (by omega) (by omega) (by omega)).trans hn
  have h := it_inv (D := d + 2) (q := 1122) (pc := 277) (hi := n) (I := fun j l' μ => l' = xR 376 :: xI j :: ls ∧ ∃ T, μ = (T, G) ∧ (∀ b, b ≠ 390 → T b = U b) ∧ ∀ l, 0 ≤ l → l < j → T 390 l = s.1 l l) (Q := fun z => ∃ U', z = some (some (xI s.2.1), (U', G)) ∧ sM n W U' s 0 ∧ ∀ l, 0 ≤ l → l < (n : Int) → U' 390 l = s.1 l l) (fun l' μ hI => by
    obtain ⟨rfl, T, rfl, t1, t2⟩ := hI
    have t376 : T 376 = U 376 := t1 _ (by decide)
    refine ⟨T, ?_, ⟨fun b b1 b2 b3 b4 b5 => (t1 b b5).trans (w1 b b1 b2 b3 b4 b5), by rw [t376]; exact w2, by rw [t376]; exact w3, by rw [t376]; exact w4, by rw [t376]; exact w5, by rw [t1 _ (by decide)]; exact w6, by rw [t1 _ (by decide), t1 _ (by decide)]; exact w7⟩, t2⟩
    rw [bk1122_277]
    simp (disch := first | omega | exact Nat.le_of_ble_eq_true rfl) only [bk1122_0, bk1122_26, bk1122_113, bk1122_231, bk1122_269, bk1122_275, bk1122_306, Int.reduceToNat, vA_ap, Nat.reduceEqDiff, if_true, if_false, bx_nil, isL_I, isL_R, isL_U, if_ff, bind_some, tl_some, tl_none, bx_iconst, bx_istore_1, bx_iload_1, bx_bipush, bx_ic_ge, bx_aload_0, gf376_12 hG, ia387 hG, is387 hG, gf376_11 hG, ia386 hG, is386 hG, bx_iinc1, bx_goto, pf376_16 hG, pf376_17 hG, pf376_18 hG, gf376_0 hG, bx_isub, bx_istore_2, bx_iload_2, bx_ic_le, bx_imul, bx_iadd, cl1123 hG, bx_istore_3, bx_iload_3, bx_ic_ne, gf376_16 hG, bx_iret, bx_istore4, bx_iload4, bx_istore5, bx_istore6, gf376_1 hG, ia377 hG, is377 hG, bx_iload5, gf376_2 hG, ia378 hG, is378 hG, bx_iload6, cl1101, bx_iinc4, gf376_13 hG, ia388 hG, is388 hG, gf376_14 hG, ia389 hG, is389 hG, bx_dupI, bx_dupR, bx_iinc2, gf376_15 hG, ia390 hG, is390 hG, t376, e0, w3, if_pos (show (n : Int) ≤ n by omega)]) n 0 (by omega) (fun j l' μ h1 h2 hI => by
    obtain ⟨rfl, T, rfl, t1, t2⟩ := hI
    left
    have t376 : T 376 = U 376 := t1 _ (by decide)
    have tsp : T 387 = U 387 := t1 _ (by decide)
    have f := w6 j j h1 h2 h1 h2
    rw [show 6 * j + j = 7 * j by omega] at f
    refine ⟨_, _, ⟨rfl, vA T 390 (vU (T 390) j (s.1 j j)), rfl, fun b b1 => ?_, fun l l0 l1 => ?_⟩, ?_⟩
    · rw [vA_ne b1]; exact t1 b b1
    · rw [vA_same]
      by_cases e : l = j
      · rw [e, vU_at]
      · rw [vU_ne e]; exact t2 l l0 (by omega)
    · rw [bk1122_277]
      simp (disch := first | omega | exact Nat.le_of_ble_eq_true rfl) only [bk1122_0, bk1122_26, bk1122_113, bk1122_231, bk1122_269, bk1122_275, bk1122_306, Int.reduceToNat, vA_ap, Nat.reduceEqDiff, if_true, if_false, bx_nil, isL_I, isL_R, isL_U, if_ff, bind_some, tl_some, tl_none, bx_iconst, bx_istore_1, bx_iload_1, bx_bipush, bx_ic_ge, bx_aload_0, gf376_12 hG, ia387 hG, is387 hG, gf376_11 hG, ia386 hG, is386 hG, bx_iinc1, bx_goto, pf376_16 hG, pf376_17 hG, pf376_18 hG, gf376_0 hG, bx_isub, bx_istore_2, bx_iload_2, bx_ic_le, bx_imul, bx_iadd, cl1123 hG, bx_istore_3, bx_iload_3, bx_ic_ne, gf376_16 hG, bx_iret, bx_istore4, bx_iload4, bx_istore5, bx_istore6, gf376_1 hG, ia377 hG, is377 hG, bx_iload5, gf376_2 hG, ia378 hG, is378 hG, bx_iload6, cl1101, bx_iinc4, gf376_13 hG, ia388 hG, is388 hG, gf376_14 hG, ia389 hG, is389 hG, bx_dupI, bx_dupR, bx_iinc2, gf376_15 hG, ia390 hG, is390 hG, t376, e0, tsp, f, if_neg (show ¬ (n : Int) ≤ j by omega)]) (xR 376 :: xI 0 :: ls) (U, G) ⟨rfl, U, rfl, fun b _ => rfl, fun l a b => by omega⟩
  obtain ⟨U', e, hU'⟩ := h
  refine ⟨U', ?_, hU'⟩
  rw [bk1122_275]
  simp (disch := first | omega | exact Nat.le_of_ble_eq_true rfl) only [bx_iconst, bx_istore_1, isL_R, if_ff, bx_nil]
  exact e
theorem m_split_lp {W : Nat → Int → Int} (hG : Good n L G) (h26 : 2 ≤ n ∧ n ≤ 6) (hn : W 376 0 = n) (hC : rg (W 377) 96 0 96) (hS : rg (W 378) 96 0 96) : ∀ (m : Nat) (c r : Int) (s : SS) (U : Nat → Int → Int) (z u v x : XV), sM n W U s 0 → okS n s → 0 ≤ c → c < (n : Int) - 1 → c ≤ r → r ≤ (n : Int) - 1 → 7 * ((n : Int) - 1 - c) + (r - c) < m → s.2.1 + (r - c) + tri ((n : Int) - 2 - c) ≤ 15 → ∃ U', run (d + 2) 1122 60 [xR 376, xI c, xI r, z, u, v, x] [] (U, G) = some (some (xI (if (spl (W 377) (W 378) n m c r s).1 = true then (spl (W 377) (W 378) n m c r s).2.2.1 else -10 - (spl (W 377) (W 378) n m c r s).2.2.1)), (U', G)) ∧ sM n W U' (spl (W 377) (W 378) n m c r s).2 (if (spl (W 377) (W 378) n m c r s).1 = true then 0 else 1) ∧ ((spl (W 377) (W 378) n m c r s).1 = true → ∀ l, 0 ≤ l → l < (n : Int) → U' 390 l = (spl (W 377) (W 378) n m c r s).2.1 l l) := by
  intro m
  induction m with
  | zero => intro c r s U z u v x h1 h2 h3 h4 h5 h6 h7; omega
  | succ m ih =>
    intro c r s U z u v x hU hs hc0 hc1 hr0 hr1 hf h15
    obtain ⟨w1, w2, w3, w4, w5, w6, w7⟩ := id hU
    have t0 : 0 ≤ tri ((n : Int) - 2 - c) := by unfold tri; repeat' split <;> omega
    have e0 : U 376 0 = n := (w2 0 (by omega) (by omega) (by omega)).trans hn
    unfold spl
    rw [if_pos hc1]
    by_cases g : c < r
    · rw [if_pos g]
      have e3 : U 377 = W 377 := w1 _ (by decide) (by decide) (by decide) (by decide) (by decide)
      have e4 : U 378 = W 378 := w1 _ (by decide) (by decide) (by decide) (by decide) (by decide)
      have f1 := w6 c (r - 1) hc0 (by omega) (by omega) (by omega)
      have f2 := w6 c r hc0 (by omega) (by omega) (by omega)
      have g1 := hs.2.1 c (r - 1) hc0 (by omega) (by omega) (by omega)
      have g2 := hs.2.1 c r hc0 (by omega) (by omega) (by omega)
      have hs1 := hs.1
      have hcl := m_clears (d := d) (V := U) (x := s.1 c (r - 1)) (y := s.1 c r) hG g1 g2 (by rw [e3]; exact hC) (by rw [e4]; exact hS)
      rw [e3, e4] at hcl
      cases hk : clrF (W 377) (W 378) (s.1 c (r - 1)) (s.1 c r) with
      | none =>
        rw [hk] at hcl
        refine ⟨vA U 376 (vU (U 376) 18 1), ?_, ⟨fun b b1 b2 b3 b4 b5 => by rw [vA_ne b1]; exact w1 b b1 b2 b3 b4 b5, fun k k1 k2 k3 => ?_, w3, w4, rfl, w6, w7⟩, fun q => by simp at q⟩
        · rw [bk1122_60]
          have e5 : vU (U 376) 18 1 16 = s.2.1 := w3
          simp (disch := first | omega | exact Nat.le_of_ble_eq_true rfl) only [bk1122_0, bk1122_26, bk1122_113, bk1122_231, bk1122_269, bk1122_275, bk1122_306, Int.reduceToNat, vA_ap, Nat.reduceEqDiff, if_true, if_false, bx_nil, isL_I, isL_R, isL_U, if_ff, bind_some, tl_some, tl_none, bx_iconst, bx_istore_1, bx_iload_1, bx_bipush, bx_ic_ge, bx_aload_0, gf376_12 hG, ia387 hG, is387 hG, gf376_11 hG, ia386 hG, is386 hG, bx_iinc1, bx_goto, pf376_16 hG, pf376_17 hG, pf376_18 hG, gf376_0 hG, bx_isub, bx_istore_2, bx_iload_2, bx_ic_le, bx_imul, bx_iadd, cl1123 hG, bx_istore_3, bx_iload_3, bx_ic_ne, gf376_16 hG, bx_iret, bx_istore4, bx_iload4, bx_istore5, bx_istore6, gf376_1 hG, ia377 hG, is377 hG, bx_iload5, gf376_2 hG, ia378 hG, is378 hG, bx_iload6, cl1101, bx_iinc4, gf376_13 hG, ia388 hG, is388 hG, gf376_14 hG, ia389 hG, is389 hG, bx_dupI, bx_dupR, bx_iinc2, gf376_15 hG, ia390 hG, is390 hG, if_neg (show ¬ r ≤ c by omega), f1, f2, hcl, Option.getD_none, if_pos (show (96 : Int) = 96 from rfl), e5, if_neg (show ¬ false = true by simp)]
        · show vU (U 376) 18 1 k = _
          rw [vU_ne k3]; exact w2 k k1 k2 k3
      | some k =>
        rw [hk] at hcl
        have hkb := clrF_bd hk
        obtain ⟨U1, u', v', a1, a2⟩ := m_split_in (d := d + 1) (c := c) (r := r) (k := k) (u := v) (v := x) hG h26.2 hn hC hS hU hs (by omega) hkb
        obtain ⟨x1, x2, x3, x4, x5, x6, x7⟩ := a2
        have y0 : U1 376 16 = s.2.1 := x3
        obtain ⟨U2, b1', b2, b3⟩ := ih c (r - 1) (stS (W 377) (W 378) n s (r - 1) k) (vA (vA (vA U1 388 (vU (U1 388) s.2.1 (r - 1))) 389 (vU (U1 389) s.2.1 k)) 376 (vU (U1 376) 16 (s.2.1 + 1))) (xI k) (xI n) u' v' ⟨fun b b1 b2 b3 b4 b5 => by rw [vA_ne b1, vA_ne b4, vA_ne b3]; exact x1 b b1 b2 b3 b4 b5, fun k k1 k2 k3 => by
            show vU (U1 376) 16 (s.2.1 + 1) k = _
            rw [vU_ne k1]; exact x2 k k1 k2 k3, rfl, x4, x5, x6, fun i i0 i1 => by
            have i2 : i < s.2.1 + 1 := i1
            show vU (U1 388) s.2.1 (r - 1) i = vU s.2.2.1 s.2.1 (r - 1) i ∧ vU (U1 389) s.2.1 k i = vU s.2.2.2 s.2.1 k i
            by_cases e : i = s.2.1
            · rw [e]; simp only [vU_at]; exact ⟨trivial, trivial⟩
            · simp only [vU_ne e]
              exact x7 i i0 (show i < s.2.1 by omega)⟩ (okS_st hs (by omega) hkb) hc0 hc1 (by omega) (by omega) (by omega) (by show s.2.1 + 1 + (r - 1 - c) + _ ≤ 15; omega)
        refine ⟨U2, ?_, b2, b3⟩
        rw [bk1122_60]
        simp (disch := first | omega | exact Nat.le_of_ble_eq_true rfl) only [bk1122_0, bk1122_26, bk1122_113, bk1122_231, bk1122_269, bk1122_275, bk1122_306, Int.reduceToNat, vA_ap, Nat.reduceEqDiff, if_true, if_false, bx_nil, isL_I, isL_R, isL_U, if_ff, bind_some, tl_some, tl_none, bx_iconst, bx_istore_1, bx_iload_1, bx_bipush, bx_ic_ge, bx_aload_0, gf376_12 hG, ia387 hG, is387 hG, gf376_11 hG, ia386 hG, is386 hG, bx_iinc1, bx_goto, pf376_16 hG, pf376_17 hG, pf376_18 hG, gf376_0 hG, bx_isub, bx_istore_2, bx_iload_2, bx_ic_le, bx_imul, bx_iadd, cl1123 hG, bx_istore_3, bx_iload_3, bx_ic_ne, gf376_16 hG, bx_iret, bx_istore4, bx_iload4, bx_istore5, bx_istore6, gf376_1 hG, ia377 hG, is377 hG, bx_iload5, gf376_2 hG, ia378 hG, is378 hG, bx_iload6, cl1101, bx_iinc4, gf376_13 hG, ia388 hG, is388 hG, gf376_14 hG, ia389 hG, is389 hG, bx_dupI, bx_dupR, bx_iinc2, gf376_15 hG, ia390 hG, is390 hG, if_neg (show ¬ r ≤ c by omega), f1, f2, hcl, Option.getD_some, if_neg (show ¬ k = 96 by omega)]
        rw [a1]
        simp (disch := first | omega | exact Nat.le_of_ble_eq_true rfl) only [bk1122_0, bk1122_26, bk1122_113, bk1122_231, bk1122_269, bk1122_275, bk1122_306, Int.reduceToNat, vA_ap, Nat.reduceEqDiff, if_true, if_false, bx_nil, isL_I, isL_R, isL_U, if_ff, bind_some, tl_some, tl_none, bx_iconst, bx_istore_1, bx_iload_1, bx_bipush, bx_ic_ge, bx_aload_0, gf376_12 hG, ia387 hG, is387 hG, gf376_11 hG, ia386 hG, is386 hG, bx_iinc1, bx_goto, pf376_16 hG, pf376_17 hG, pf376_18 hG, gf376_0 hG, bx_isub, bx_istore_2, bx_iload_2, bx_ic_le, bx_imul, bx_iadd, cl1123 hG, bx_istore_3, bx_iload_3, bx_ic_ne, gf376_16 hG, bx_iret, bx_istore4, bx_iload4, bx_istore5, bx_istore6, gf376_1 hG, ia377 hG, is377 hG, bx_iload5, gf376_2 hG, ia378 hG, is378 hG, bx_iload6, cl1101, bx_iinc4, gf376_13 hG, ia388 hG, is388 hG, gf376_14 hG, ia389 hG, is389 hG, bx_dupI, bx_dupR, bx_iinc2, gf376_15 hG, ia390 hG, is390 hG, y0]
        rw [show r + -1 = r - 1 by omega]
        exact b1'
    · rw [if_neg g]
      by_cases g2 : c + 1 < (n : Int) - 1
      · have t1 := tri_up (k := (n : Int) - 2 - c) (by omega)
        obtain ⟨U2, b1', b2, b3⟩ := ih (c + 1) (n - 1) s U z u v x hU hs (by omega) g2 (by omega) (by omega) (by omega) (by rw [show (n : Int) - 2 - (c + 1) = n - 2 - c - 1 by omega]; omega)
        refine ⟨U2, ?_, b2, b3⟩
        rw [bk1122_60]
        simp (disch := first | omega | exact Nat.le_of_ble_eq_true rfl) only [bk1122_0, bk1122_26, bk1122_113, bk1122_231, bk1122_269, bk1122_275, bk1122_306, Int.reduceToNat, vA_ap, Nat.reduceEqDiff, if_true, if_false, bx_nil, isL_I, isL_R, isL_U, if_ff, bind_some, tl_some, tl_none, bx_iconst, bx_istore_1, bx_iload_1, bx_bipush, bx_ic_ge, bx_aload_0, gf376_12 hG, ia387 hG, is387 hG, gf376_11 hG, ia386 hG, is386 hG, bx_iinc1, bx_goto, pf376_16 hG, pf376_17 hG, pf376_18 hG, gf376_0 hG, bx_isub, bx_istore_2, bx_iload_2, bx_ic_le, bx_imul, bx_iadd, cl1123 hG, bx_istore_3, bx_iload_3, bx_ic_ne, gf376_16 hG, bx_iret, bx_istore4, bx_iload4, bx_istore5, bx_istore6, gf376_1 hG, ia377 hG, is377 hG, bx_iload5, gf376_2 hG, ia378 hG, is378 hG, bx_iload6, cl1101, bx_iinc4, gf376_13 hG, ia388 hG, is388 hG, gf376_14 hG, ia389 hG, is389 hG, bx_dupI, bx_dupR, bx_iinc2, gf376_15 hG, ia390 hG, is390 hG, if_pos (show r ≤ c by omega)]
        rw [bk1122_43]
        simp (disch := first | omega | exact Nat.le_of_ble_eq_true rfl) only [bk1122_0, bk1122_26, bk1122_113, bk1122_231, bk1122_269, bk1122_275, bk1122_306, Int.reduceToNat, vA_ap, Nat.reduceEqDiff, if_true, if_false, bx_nil, isL_I, isL_R, isL_U, if_ff, bind_some, tl_some, tl_none, bx_iconst, bx_istore_1, bx_iload_1, bx_bipush, bx_ic_ge, bx_aload_0, gf376_12 hG, ia387 hG, is387 hG, gf376_11 hG, ia386 hG, is386 hG, bx_iinc1, bx_goto, pf376_16 hG, pf376_17 hG, pf376_18 hG, gf376_0 hG, bx_isub, bx_istore_2, bx_iload_2, bx_ic_le, bx_imul, bx_iadd, cl1123 hG, bx_istore_3, bx_iload_3, bx_ic_ne, gf376_16 hG, bx_iret, bx_istore4, bx_iload4, bx_istore5, bx_istore6, gf376_1 hG, ia377 hG, is377 hG, bx_iload5, gf376_2 hG, ia378 hG, is378 hG, bx_iload6, cl1101, bx_iinc4, gf376_13 hG, ia388 hG, is388 hG, gf376_14 hG, ia389 hG, is389 hG, bx_dupI, bx_dupR, bx_iinc2, gf376_15 hG, ia390 hG, is390 hG, e0, if_neg (show ¬ (n : Int) - 1 ≤ c + 1 by omega)]
        exact b1'
      · rw [spl_end m (by omega)]
        obtain ⟨U', a1, a2, a3⟩ := m_split_sg (d := d) (z := xI (c + 1)) (ls := [xI r, z, u, v, x]) hG h26 hn hU
        refine ⟨U', ?_, a2, fun _ => a3⟩
        rw [bk1122_60]
        simp (disch := first | omega | exact Nat.le_of_ble_eq_true rfl) only [bx_iload_2, bx_iload_1, bx_ic_le, if_pos (show r ≤ c by omega), Int.reduceToNat, bk1122_269, bx_iinc1, bx_goto, isL_R, if_ff]
        rw [bk1122_43]
        simp (disch := first | omega | exact Nat.le_of_ble_eq_true rfl) only [bx_iload_1, bx_aload_0, gf376_0 hG, e0, bx_iconst, bx_isub, bx_ic_ge, if_pos (show (n : Int) - 1 ≤ c + 1 by omega), Int.reduceToNat]
        exact a1
theorem mp_split {W : Nat → Int → Int} (hG : Good n L G) (h26 : 2 ≤ n ∧ n ≤ 6) (hn : W 376 0 = n) (hC : rg (W 377) 96 0 96) (hS : rg (W 378) 96 0 96) (hT : ∀ c r, 0 ≤ c → c < (n : Int) → 0 ≤ r → r < (n : Int) → 0 ≤ W 386 (6 * r + c) ∧ W 386 (6 * r + c) ≤ 96) : ∃ U', run (d + 2) 1122 0 [xR 376, xU, xU, xU, xU, xU, xU] [] (W, G) = some (some (xI (if (spl (W 377) (W 378) n 64 0 (n - 1) (s0 W)).1 = true then (spl (W 377) (W 378) n 64 0 (n - 1) (s0 W)).2.2.1 else -10 - (spl (W 377) (W 378) n 64 0 (n - 1) (s0 W)).2.2.1)), (U', G)) ∧ sM n W U' (spl (W 377) (W 378) n 64 0 (n - 1) (s0 W)).2 (if (spl (W 377) (W 378) n 64 0 (n - 1) (s0 W)).1 = true then 0 else 1) ∧ ((spl (W 377) (W 378) n 64 0 (n - 1) (s0 W)).1 = true → ∀ l, 0 ≤ l → l < (n : Int) → U' 390 l = (spl (W 377) (W 378) n 64 0 (n - 1) (s0 W)).2.1 l l) := by
  have h := it_up (D := d + 2) (q := 1122) (pc := 2) (loc := fun k => [xR 376, xI k, xU, xU, xU, xU, xU]) (F := fun k => (vA W 387 (fl (W 387) (W 386) 0 k), G)) (hi := 36) 36 0 (by omega) (fun k h1 h2 => by
    rw [bk1122_2, ← fl_up h1]
    simp (disch := first | omega | exact Nat.le_of_ble_eq_true rfl) only [bk1122_0, bk1122_26, bk1122_113, bk1122_231, bk1122_269, bk1122_275, bk1122_306, Int.reduceToNat, vA_ap, Nat.reduceEqDiff, if_true, if_false, bx_nil, isL_I, isL_R, isL_U, if_ff, bind_some, tl_some, tl_none, bx_iconst, bx_istore_1, bx_iload_1, bx_bipush, bx_ic_ge, bx_aload_0, gf376_12 hG, ia387 hG, is387 hG, gf376_11 hG, ia386 hG, is386 hG, bx_iinc1, bx_goto, pf376_16 hG, pf376_17 hG, pf376_18 hG, gf376_0 hG, bx_isub, bx_istore_2, bx_iload_2, bx_ic_le, bx_imul, bx_iadd, cl1123 hG, bx_istore_3, bx_iload_3, bx_ic_ne, gf376_16 hG, bx_iret, bx_istore4, bx_iload4, bx_istore5, bx_istore6, gf376_1 hG, ia377 hG, is377 hG, bx_iload5, gf376_2 hG, ia378 hG, is378 hG, bx_iload6, cl1101, bx_iinc4, gf376_13 hG, ia388 hG, is388 hG, gf376_14 hG, ia389 hG, is389 hG, bx_dupI, bx_dupR, bx_iinc2, gf376_15 hG, ia390 hG, is390 hG, if_neg (show ¬ 36 ≤ k by omega), vA_vA])
  rw [fl_nil, vA_self] at h
  have ok0 : okS n (s0 W) := ⟨Int.le_refl 0, fun c r c0 c1 r0 r1 => hT c r c0 c1 r0 r1, fun i i0 i1 => absurd (show i < 0 from i1) (by omega)⟩
  obtain ⟨U', a1, a2⟩ := m_split_lp (d := d) (W := W) hG h26 hn hC hS 64 0 (n - 1) (s0 W) (vA (vA W 387 (fl (W 387) (W 386) 0 36)) 376 (vU (vU (vU (W 376) 16 0) 17 1) 18 0)) xU xU xU xU ⟨fun b b1 b2 b3 b4 b5 => by rw [vA_ne b1, vA_ne b2], fun k k1 k2 k3 => by
      show vU (vU (vU (W 376) 16 0) 17 1) 18 0 k = _
      rw [vU_ne k3, vU_ne k2, vU_ne k1], rfl, rfl, rfl, fun c r c0 c1 r0 r1 => by
      show fl (W 387) (W 386) 0 36 (6 * r + c) = _
      rw [fl_in (by omega) (by omega)]; rfl, fun i i0 i1 => absurd (show i < 0 from i1) (by omega)⟩ ok0 (by omega) (by omega) (by omega) (by omega) (by omega) (by
      show 0 + ((n : Int) - 1 - 0) + tri ((n : Int) - 2 - 0) ≤ 15
      unfold tri
      repeat' split
      all_goals omega)
  refine ⟨U', ?_, a2⟩
  simp (disch := first | omega | exact Nat.le_of_ble_eq_true rfl) only [bk1122_0, bx_iconst, bx_istore_1, isL_R, if_ff, bx_nil]
  rw [h, bk1122_2]
  simp (disch := first | omega | exact Nat.le_of_ble_eq_true rfl) only [bk1122_0, bk1122_26, bk1122_113, bk1122_231, bk1122_269, bk1122_275, bk1122_306, Int.reduceToNat, vA_ap, Nat.reduceEqDiff, if_true, if_false, bx_nil, isL_I, isL_R, isL_U, if_ff, bind_some, tl_some, tl_none, bx_iconst, bx_istore_1, bx_iload_1, bx_bipush, bx_ic_ge, bx_aload_0, gf376_12 hG, ia387 hG, is387 hG, gf376_11 hG, ia386 hG, is386 hG, bx_iinc1, bx_goto, pf376_16 hG, pf376_17 hG, pf376_18 hG, gf376_0 hG, bx_isub, bx_istore_2, bx_iload_2, bx_ic_le, bx_imul, bx_iadd, cl1123 hG, bx_istore_3, bx_iload_3, bx_ic_ne, gf376_16 hG, bx_iret, bx_istore4, bx_iload4, bx_istore5, bx_istore6, gf376_1 hG, ia377 hG, is377 hG, bx_iload5, gf376_2 hG, ia378 hG, is378 hG, bx_iload6, cl1101, bx_iinc4, gf376_13 hG, ia388 hG, is388 hG, gf376_14 hG, ia389 hG, is389 hG, bx_dupI, bx_dupR, bx_iinc2, gf376_15 hG, ia390 hG, is390 hG, if_pos (show (36 : Int) ≤ 36 by omega)]
  rw [bk1122_43]
  have e0 : vU (vU (vU (W 376) 16 0) 17 1) 18 0 0 = n := hn
  simp (disch := first | omega | exact Nat.le_of_ble_eq_true rfl) only [bk1122_0, bk1122_26, bk1122_113, bk1122_231, bk1122_269, bk1122_275, bk1122_306, Int.reduceToNat, vA_ap, Nat.reduceEqDiff, if_true, if_false, bx_nil, isL_I, isL_R, isL_U, if_ff, bind_some, tl_some, tl_none, bx_iconst, bx_istore_1, bx_iload_1, bx_bipush, bx_ic_ge, bx_aload_0, gf376_12 hG, ia387 hG, is387 hG, gf376_11 hG, ia386 hG, is386 hG, bx_iinc1, bx_goto, pf376_16 hG, pf376_17 hG, pf376_18 hG, gf376_0 hG, bx_isub, bx_istore_2, bx_iload_2, bx_ic_le, bx_imul, bx_iadd, cl1123 hG, bx_istore_3, bx_iload_3, bx_ic_ne, gf376_16 hG, bx_iret, bx_istore4, bx_iload4, bx_istore5, bx_istore6, gf376_1 hG, ia377 hG, is377 hG, bx_iload5, gf376_2 hG, ia378 hG, is378 hG, bx_iload6, cl1101, bx_iinc4, gf376_13 hG, ia388 hG, is388 hG, gf376_14 hG, ia389 hG, is389 hG, bx_dupI, bx_dupR, bx_iinc2, gf376_15 hG, ia390 hG, is390 hG, vA_vA, e0, if_neg (show ¬ (n : Int) - 1 ≤ 0 by omega)]
  exact a1
theorem pr_split (hG : Good n L G) (h : Inv n V) : pair n G V 1012 1122 [xR 1] [xR 376, xU, xU, xU, xU, xU, xU] := by
  have hn := h.nn
  obtain ⟨W, hx, hW, hok, h15⟩ := x_split (d := 795) hG hn h.rC h.rS h.l12 h.tld
  obtain ⟨w1, w2, w3, w4, w5, w6⟩ := hW
  have f : ∀ b, 29 ≤ b → W b = V b := fun b hb => w1 b (by omega) (by omega) (by omega) (by omega)
  obtain ⟨U, hm, hU, hsg⟩ := mp_split (d := 797) (W := W) hG hn (by rw [f 376 (by omega)]; exact h.lm) (by rw [f 377 (by omega), h.cc]; exact h.rC) (by rw [f 378 (by omega), h.ss]; exact h.rS) (fun c r c0 c1 r0 r1 => by rw [f 386 (by omega)]; exact (h.tld r c r0 r1 c0 c1).2)
  have es : s0 W = s0 V := by unfold s0; rw [f 386 (by omega)]
  rw [f 377 (by omega), f 378 (by omega), h.cc, h.ss, es] at hm hU hsg
  generalize spl (V 3) (V 4) n 64 0 (n - 1) (s0 V) = p at *
  obtain ⟨u1, u2, u3, u4, u5, u6, u7⟩ := hU
  have hx' : run 799 1012 0 [xR 1] [] (V, G) = some (some (xI (if p.1 = true then p.2.2.1 else -10 - p.2.2.1)), (W, G)) := by
    have hx2 : run 798 804 0 [xR 12, xU, xU, xU] [] (V, G) = some (some (xI (b1 (p.1 = true))), (W, G)) := hx
    have p0 := hok.1
    by_cases a : p.1 = true
    · simp (disch := first | omega | exact Nat.le_of_ble_eq_true rfl) only [bk1012_0, bk1012_20, bk1012_30, Int.reduceToNat, vA_ap, Nat.reduceEqDiff, if_true, if_false, bx_nil, isL_I, isL_R, isL_U, if_ff, bind_some, tl_some, tl_none, bx_aload_0, gf1_2 hG, cl804 hG, bx_if_eq, gf12_6 hG, bx_goto, bx_bipush, bx_isub, bx_iret, hx2, b1_t a, one_ne, w3, if_pos a]
    · simp (disch := first | omega | exact Nat.le_of_ble_eq_true rfl) only [bk1012_0, bk1012_20, bk1012_30, Int.reduceToNat, vA_ap, Nat.reduceEqDiff, if_true, if_false, bx_nil, isL_I, isL_R, isL_U, if_ff, bind_some, tl_some, tl_none, bx_aload_0, gf1_2 hG, cl804 hG, bx_if_eq, gf12_6 hG, bx_goto, bx_bipush, bx_isub, bx_iret, hx2, b1_f a, w3, if_neg a]
  refine mkpair hx' hm ?_
  have fr : ∀ b, b ≠ 12 → b ≠ 13 → b ≠ 14 → ¬ (23 ≤ b ∧ b < 29) → b ≠ 376 → b ≠ 387 → b ≠ 388 → b ≠ 389 → b ≠ 390 → U b = V b := fun b b1 b2 b3 b4 b5 b6 b7 b8 b9 => (u1 b b5 b6 b7 b8 b9).trans (w1 b b1 b2 b3 b4)
  have g12 : U 12 = W 12 := u1 12 (by decide) (by decide) (by decide) (by decide) (by decide)
  have g13 : U 13 = W 13 := u1 13 (by decide) (by decide) (by decide) (by decide) (by decide)
  have g14 : U 14 = W 14 := u1 14 (by decide) (by decide) (by decide) (by decide) (by decide)
  have g376 : ∀ k, k ≠ 16 → k ≠ 17 → k ≠ 18 → U 376 k = V 376 k := fun k k1 k2 k3 => (u2 k k1 k2 k3).trans (by rw [f 376 (by omega)])
  have fstp : stpP n U := by
    unfold stpP
    rw [g12, g13, g14, w3, u3]
    refine ⟨rfl, ⟨hok.1, h15⟩, fun i i0 i1 => ?_⟩
    rw [(w6 i i0 i1).1, (w6 i i0 i1).2, (u7 i i0 i1).1, (u7 i i0 i1).2]
    exact ⟨rfl, rfl, hok.2.2 i i0 i1⟩
  have fspl : splP U := by
    unfold splP
    rw [g12, w4, u4, u5]
    by_cases a : p.1 = true
    · rw [b1_t a, if_pos a]; omega
    · rw [b1_f a, if_neg a]; omega
  have fsgn : sgnP n U := by
    intro hw i i0 i1
    rw [g12, w4] at hw
    have a : p.1 = true := by
      by_cases a : p.1 = true
      · exact a
      · rw [b1_f a] at hw; omega
    rw [hsg a i i0 i1, u1 (23 + i.toNat) (by omega) (by omega) (by omega) (by omega) (by omega), w5 i i i0 i1 i0 i1]
  have ft : tldP n U := tldP_tr hn.2 h.tld (fun c hc => fr _ (by omega) (by omega) (by omega) (by omega) (by omega) (by omega) (by omega) (by omega) (by omega)) (fr _ (by decide) (by decide) (by decide) (by decide) (by decide) (by decide) (by decide) (by decide) (by decide))
  have g12' : U 12 0 = n := by rw [g12]; exact w2
  obtain ⟨g, hV⟩ : ∃ g : Nat → Int → Int, U = fun b => if b = 12 then g b else if b = 13 then g b else if b = 14 then g b else if 23 ≤ b ∧ b < 29 then g b else if b = 376 then (fun k => if k = 16 then g 376 16 else if k = 17 then g 376 17 else if k = 18 then g 376 18 else V 376 k) else if b = 387 then g b else if b = 388 then g b else if b = 389 then g b else if b = 390 then g b else V b := by
    refine ⟨U, funext fun b => ?_⟩
    by_cases c1 : b = 12
    · rw [if_pos c1]
    rw [if_neg c1]
    by_cases c2 : b = 13
    · rw [if_pos c2]
    rw [if_neg c2]
    by_cases c3 : b = 14
    · rw [if_pos c3]
    rw [if_neg c3]
    by_cases c4 : 23 ≤ b ∧ b < 29
    · rw [if_pos c4]
    rw [if_neg c4]
    by_cases c5 : b = 376
    · rw [if_pos c5, c5]
      funext k
      by_cases k1 : k = 16
      · rw [if_pos k1, k1]
      rw [if_neg k1]
      by_cases k2 : k = 17
      · rw [if_pos k2, k2]
      rw [if_neg k2]
      by_cases k3 : k = 18
      · rw [if_pos k3, k3]
      rw [if_neg k3]
      exact g376 k k1 k2 k3
    rw [if_neg c5]
    by_cases c6 : b = 387
    · rw [if_pos c6]
    rw [if_neg c6]
    by_cases c7 : b = 388
    · rw [if_pos c7]
    rw [if_neg c7]
    by_cases c8 : b = 389
    · rw [if_pos c8]
    rw [if_neg c8]
    by_cases c9 : b = 390
    · rw [if_pos c9]
    rw [if_neg c9]
    exact fr b c1 c2 c3 c4 c5 c6 c7 c8 c9
  subst hV
  exact ⟨h.nn, h.l5, g12', h.l35, h.lm, h.lim, h.cc, h.ss, h.rC, h.rS, h.lan, h.set, h.stk, h.off, h.own, h.cre, h.lig, ft, fstp, fspl, fsgn, h.wrk, h.tap, h.ent, h.fnd, runP_tr h.rns (fun c hc => ⟨fr _ (by omega) (by omega) (by omega) (by omega) (by omega) (by omega) (by omega) (by omega) (by omega), fr _ (by omega) (by omega) (by omega) (by omega) (by omega) (by omega) (by omega) (by omega) (by omega), fr _ (by omega) (by omega) (by omega) (by omega) (by omega) (by omega) (by omega) (by omega) (by omega)⟩) ⟨rfl, rfl, rfl⟩ rfl, h.prb⟩
end SPX
