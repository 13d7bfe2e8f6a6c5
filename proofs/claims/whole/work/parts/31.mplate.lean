/-! THE REFERENCE's plate: heat, true turns, light -/
def rg (f : Int → Int) (N lo hi : Int) : Prop := ∀ k, 0 ≤ k → k < N → lo ≤ f k ∧ f k ≤ hi
abbrev htF (k : Int) : Int := if k < 96 - k then k else 96 - k
def hM (n : Int) (S B : Int → Int) (l i : Int) : Int := if isC n l i then htF (tO S B (6 * l + i)) else 0
def ttM (n : Int) (S B O : Int → Int) (cr l i : Int) : Int := if 0 ≤ S (6 * l + i) then S (6 * l + i) else (B (6 * l + i) + (hM n S B l (i - 2) + hM n S B l (i + 2)) / cr + O (6 * l + i)) % 96
def turnL (C S f : Int → Int) (i k : Int) : Int → Int := fun j => if j = i then (C k * f i - S k * f (i + 1)) % 97 else if j = i + 1 then (S k * f i + C k * f (i + 1)) % 97 else f j
def lyr (C S : Int → Int) (t : Int → Int → Int) (n l : Int) : Nat → Int → (Int → Int) → (Int → Int)
  | 0, _, f => f
  | m + 1, i, f => if i < n - 1 then lyr C S t n l m (i + 2) (turnL C S f i (t l i)) else f
def plt (C S : Int → Int) (t : Int → Int → Int) (n : Int) : Nat → Int → (Int → Int) → (Int → Int)
  | 0, _, f => f
  | m + 1, l, f => plt C S t n m (l + 1) (lyr C S t n l 3 (l % 2) f)
theorem mul_bd {a b A B : Int} (ha : 0 ≤ a ∧ a ≤ A) (hb : 0 ≤ b ∧ b ≤ B) : 0 ≤ a * b ∧ a * b ≤ A * B :=
  ⟨Int.mul_nonneg ha.1 hb.1, Int.mul_le_mul ha.2 hb.2 hb.1 (by omega)⟩
theorem m97 (x : Int) : 0 ≤ x % 97 ∧ x % 97 ≤ 96 := by omega
theorem turnL_rg {C S f : Int → Int} {N i k : Int} (h : rg f N 0 96) : rg (turnL C S f i k) N 0 96 := by
  intro j h0 h1
  unfold turnL
  split
  · exact m97 _
  · split
    · exact m97 _
    · exact h j h0 h1
theorem htF_bd {k : Int} (h : 0 ≤ k ∧ k ≤ 95) : 0 ≤ htF k ∧ htF k ≤ 48 := by unfold htF; split <;> omega
theorem tO_bd {S B : Int → Int} {k : Int} (hs : -1 ≤ S k ∧ S k ≤ 95) (hb : 0 ≤ B k ∧ B k ≤ 95) : 0 ≤ tO S B k ∧ tO S B k ≤ 95 := by unfold tO; split <;> omega
theorem isC_ix {n l i : Int} (h6 : n ≤ 6) (h : isC n l i) : 0 ≤ 6 * l + i ∧ 6 * l + i < 72 := by unfold isC at h; omega
theorem hM_bd {n l i : Int} {S B : Int → Int} (h6 : n ≤ 6) (hs : rg S 72 (-1) 95) (hb : rg B 72 0 95) : 0 ≤ hM n S B l i ∧ hM n S B l i ≤ 48 := by
  unfold hM
  split
  · next h =>
    obtain ⟨g1, g2⟩ := isC_ix h6 h
    exact htF_bd (tO_bd (hs _ g1 g2) (hb _ g1 g2))
  · omega
section MP
variable {n L d : Nat} {G : XG} {V : Nat → Int → Int} {μ : XM}
theorem m_heat {l i : Int} (hG : Good n L G) (hn : V 376 0 = n) (h2 : 2 ≤ n) (h6 : n ≤ 6) (hs : rg (V 380) 72 (-1) 95) (hb : rg (V 383) 72 0 95) : run (d + 2) 1111 0 [xR 376, xI l, xI i, xU] [] (V, G) = some (some (xI (hM n (V 380) (V 383) l i)), (V, G)) := by
  unfold hM
  by_cases hc : isC n l i
  · obtain ⟨g1, g2⟩ := isC_ix (by omega) hc
    have g3 := tO_bd (hs _ g1 g2) (hb _ g1 g2)
    unfold isC at hc
    have e1 : b1 ((0 ≤ l ∧ l ≤ 11) ∧ (0 ≤ i ∧ i ≤ (n : Int) - 2) ∧ i % 2 = l % 2) = 1 := b1_t hc
    rw [if_pos hc]
    simp (disch := first | omega | exact Nat.le_of_ble_eq_true rfl) only [bk1111_0, bk1111_11, bk1111_34, bk1111_38, Int.reduceToNat, vA_ap, Nat.reduceEqDiff, if_true, if_false, bx_nil, isL_I, isL_R, isL_U, if_ff, bind_some, tl_some, tl_none, bx_aload_0, bx_iload_1, bx_iload_2, cl1105 hG, bx_if_ne, bx_iconst, bx_iret, bx_bipush, bx_imul, bx_iadd, cl1112 hG, bx_istore_3, bx_iload_3, bx_isub, bx_ic_ge, bx_goto, m_isCell hG hn h2 h6, e1, if_neg (show ¬ (1 : Int) = 0 by omega), m_turnOf hG]
    generalize tO (V 380) (V 383) (6 * l + i) = w at *
    unfold htF
    repeat' split
    all_goals first | rfl | (exfalso; omega)
  · have e1 : b1 ((0 ≤ l ∧ l ≤ 11) ∧ (0 ≤ i ∧ i ≤ (n : Int) - 2) ∧ i % 2 = l % 2) = 0 := b1_f hc
    rw [if_neg hc]
    simp (disch := first | omega | exact Nat.le_of_ble_eq_true rfl) only [bk1111_0, bk1111_11, bk1111_34, bk1111_38, Int.reduceToNat, vA_ap, Nat.reduceEqDiff, if_true, if_false, bx_nil, isL_I, isL_R, isL_U, if_ff, bind_some, tl_some, tl_none, bx_aload_0, bx_iload_1, bx_iload_2, cl1105 hG, bx_if_ne, bx_iconst, bx_iret, bx_bipush, bx_imul, bx_iadd, cl1112 hG, bx_istore_3, bx_iload_3, bx_isub, bx_ic_ge, bx_goto, m_isCell hG hn h2 h6, e1, if_true]
theorem m_trueTurn {l i : Int} (hG : Good n L G) (hn : V 376 0 = n) (h2 : 2 ≤ n) (h6 : n ≤ 6) (hs : rg (V 380) 72 (-1) 95) (hb : rg (V 383) 72 0 95) (ho : rg (V 384) 72 (-100) 100) (hcr : 1 ≤ V 376 7 ∧ V 376 7 ≤ 99) (hc : isC n l i) : run (d + 3) 1113 0 [xR 376, xI l, xI i, xU] [] (V, G) = some (some (xI (ttM n (V 380) (V 383) (V 384) (V 376 7) l i)), (V, G)) := by
  obtain ⟨g1, g2⟩ := isC_ix (by omega) hc
  have g3 := hs _ g1 g2
  have g4 := hb _ g1 g2
  have g5 := ho _ g1 g2
  have k1 := hM_bd (l := l) (i := i - 2) (by omega : (n : Int) ≤ 6) hs hb
  have k2 := hM_bd (l := l) (i := i + 2) (by omega : (n : Int) ≤ 6) hs hb
  have hc' := hc
  unfold isC at hc'
  unfold ttM
  by_cases h : 0 ≤ V 380 (6 * l + i)
  · simp (disch := first | omega | exact Nat.le_of_ble_eq_true rfl) only [bk1113_0, bk1113_23, Int.reduceToNat, vA_ap, Nat.reduceEqDiff, if_true, if_false, bx_nil, isL_I, isL_R, isL_U, if_ff, bind_some, tl_some, tl_none, bx_bipush, bx_iload_1, bx_imul, bx_iload_2, bx_iadd, bx_istore_3, bx_aload_0, gf376_4 hG, ia380 hG, is380 hG, bx_iload_3, bx_if_lt, bx_iret, gf376_8 hG, ia383 hG, is383 hG, bx_iconst, bx_isub, cl1111 hG, gf376_7 hG, bx_idiv, gf376_9 hG, ia384 hG, is384 hG, cl1103, if_pos h, if_neg (show ¬ V 380 (6 * l + i) < 0 by omega)]
  · rw [if_neg h]
    simp (disch := first | omega | exact Nat.le_of_ble_eq_true rfl) only [bk1113_0, bk1113_23, Int.reduceToNat, vA_ap, Nat.reduceEqDiff, if_true, if_false, bx_nil, isL_I, isL_R, isL_U, if_ff, bind_some, tl_some, tl_none, bx_bipush, bx_iload_1, bx_imul, bx_iload_2, bx_iadd, bx_istore_3, bx_aload_0, gf376_4 hG, ia380 hG, is380 hG, bx_iload_3, bx_if_lt, bx_iret, gf376_8 hG, ia383 hG, is383 hG, bx_iconst, bx_isub, cl1111 hG, gf376_7 hG, bx_idiv, gf376_9 hG, ia384 hG, is384 hG, cl1103, if_pos (show V 380 (6 * l + i) < 0 by omega), m_heat hG hn h2 h6 hs hb]
    rw [td_pos (by omega)]
    have k3 : 0 ≤ (hM n (V 380) (V 383) l (i - 2) + hM n (V 380) (V 383) l (i + 2)) / V 376 7 := Int.ediv_nonneg (by omega) (by omega)
    have k4 : (hM n (V 380) (V 383) l (i - 2) + hM n (V 380) (V 383) l (i + 2)) / V 376 7 ≤ 96 := Int.le_trans (Int.ediv_le_self _ (by omega)) (by omega)
    generalize (hM n (V 380) (V 383) l (i - 2) + hM n (V 380) (V 383) l (i + 2)) / V 376 7 = w at *
    simp (disch := first | omega | exact Nat.le_of_ble_eq_true rfl) only [bk1113_0, bk1113_23, Int.reduceToNat, vA_ap, Nat.reduceEqDiff, if_true, if_false, bx_nil, isL_I, isL_R, isL_U, if_ff, bind_some, tl_some, tl_none, bx_bipush, bx_iload_1, bx_imul, bx_iload_2, bx_iadd, bx_istore_3, bx_aload_0, gf376_4 hG, ia380 hG, is380 hG, bx_iload_3, bx_if_lt, bx_iret, gf376_8 hG, ia383 hG, is383 hG, bx_iconst, bx_isub, cl1111 hG, gf376_7 hG, bx_idiv, gf376_9 hG, ia384 hG, is384 hG, cl1103, m_fitTurn]
theorem m_turns {i k : Int} (hG : Good n L G) (hi : 0 ≤ i ∧ i ≤ 4) (hk : 0 ≤ k ∧ k ≤ 95) (hC : rg (V 377) 96 0 96) (hS : rg (V 378) 96 0 96) (hf : rg (V 385) 6 0 96) : run (d + 1) 1118 0 [xR 376, xI i, xI k, xU, xU] [] (V, G) = some (none, (vA V 385 (turnL (V 377) (V 378) (V 385) i k), G)) := by
  have c1 := hC k (by omega) (by omega)
  have c2 := hS k (by omega) (by omega)
  have f1 := hf i (by omega) (by omega)
  have f2 := hf (i + 1) (by omega) (by omega)
  have p1 := mul_bd c1 f1
  have p2 := mul_bd c2 f2
  have p3 := mul_bd c2 f1
  have p4 := mul_bd c1 f2
  simp (disch := first | omega | exact Nat.le_of_ble_eq_true rfl) only [bk1118_0, Int.reduceToNat, vA_ap, Nat.reduceEqDiff, if_true, if_false, bx_nil, isL_I, isL_R, isL_U, if_ff, bind_some, tl_some, tl_none, bx_aload_0, gf376_10 hG, ia385 hG, is385 hG, bx_iload_1, bx_istore_3, bx_iconst, bx_iadd, bx_istore4, gf376_1 hG, ia377 hG, is377 hG, bx_iload_2, bx_iload_3, bx_imul, gf376_2 hG, ia378 hG, is378 hG, bx_iload4, bx_isub, cl1101, bx_vret, m_fit]
  rw [vA_vA]
  refine congrArg (fun z => some (none, (z, G))) (vA_ext (fun j => ?_))
  simp only [vA_same, turnL, vU]
  by_cases h1 : j = i
  · subst h1
    rw [if_neg (by omega), if_pos rfl, if_pos rfl]
  · simp only [h1, if_false]
theorem m_enters_lp {lane : Int} (hG : Good n L G) (hn : V 376 0 = n) (h6 : n ≤ 6) : ∀ (m : Nat) (l : Int) (V : Nat → Int → Int), V 376 0 = n → 0 ≤ l → l ≤ n → ((n : Int) - l).toNat = m → run d 1116 2 [xR 376, xI lane, xI l] [] (V, G) = some (none, (vA V 385 (fun j => if l ≤ j ∧ j < n then (if j = lane then 1 else 0) else V 385 j), G)) := by
  intro m
  induction m with
  | zero =>
    intro l V hn h0 h1 hm
    rw [bk1116_2]
    simp (disch := first | omega | exact Nat.le_of_ble_eq_true rfl) only [bk1116_0, bk1116_24, bk1116_25, bk1116_32, Int.reduceToNat, vA_ap, Nat.reduceEqDiff, if_true, if_false, bx_nil, isL_I, isL_R, isL_U, if_ff, bind_some, tl_some, tl_none, bx_iconst, bx_istore_2, bx_iload_2, bx_aload_0, gf376_0 hG, bx_ic_ge, gf376_10 hG, ia385 hG, is385 hG, bx_iload_1, bx_ic_ne, bx_goto, bx_iinc2, bx_vret, hn, if_pos (show (n : Int) ≤ l by omega)]
    rw [vA_id (fun j => if_neg (by omega))]
  | succ m ih =>
    intro l V hn h0 h1 hm
    rw [bk1116_2]
    have fin : ∀ x : Int, x = (if l = lane then 1 else 0) → run d 1116 2 [xR 376, xI lane, xI (l + 1)] [] (vA V 385 (vU (V 385) l x), G) = some (none, (vA V 385 (fun j => if l ≤ j ∧ j < n then (if j = lane then 1 else 0) else V 385 j), G)) := by
      intro x hx
      rw [ih (l + 1) _ (by simp only [vA]; exact hn) (by omega) (by omega) (by omega), vA_vA]
      refine congrArg (fun z => some (none, (z, G))) (vA_ext (fun j => ?_))
      by_cases h : j = l
      · subst h
        rw [if_neg (by omega), if_pos (by omega), vA_same, vU_at, hx]
      · rw [vA_same, vU_ne h]
        by_cases h2 : l ≤ j ∧ j < n
        · rw [if_pos (by omega), if_pos h2]
        · rw [if_neg (by omega), if_neg h2]
    by_cases he : l = lane
    · simp (disch := first | omega | exact Nat.le_of_ble_eq_true rfl) only [bk1116_0, bk1116_24, bk1116_25, bk1116_32, Int.reduceToNat, vA_ap, Nat.reduceEqDiff, if_true, if_false, bx_nil, isL_I, isL_R, isL_U, if_ff, bind_some, tl_some, tl_none, bx_iconst, bx_istore_2, bx_iload_2, bx_aload_0, gf376_0 hG, bx_ic_ge, gf376_10 hG, ia385 hG, is385 hG, bx_iload_1, bx_ic_ne, bx_goto, bx_iinc2, bx_vret, hn, if_neg (show ¬ (n : Int) ≤ l by omega), if_pos he]
      exact fin 1 (by rw [if_pos he])
    · simp (disch := first | omega | exact Nat.le_of_ble_eq_true rfl) only [bk1116_0, bk1116_24, bk1116_25, bk1116_32, Int.reduceToNat, vA_ap, Nat.reduceEqDiff, if_true, if_false, bx_nil, isL_I, isL_R, isL_U, if_ff, bind_some, tl_some, tl_none, bx_iconst, bx_istore_2, bx_iload_2, bx_aload_0, gf376_0 hG, bx_ic_ge, gf376_10 hG, ia385 hG, is385 hG, bx_iload_1, bx_ic_ne, bx_goto, bx_iinc2, bx_vret, hn, if_neg (show ¬ (n : Int) ≤ l by omega), if_neg he]
      exact fin 0 (by rw [if_neg he])
theorem m_enters {lane : Int} (hG : Good n L G) (hn : V 376 0 = n) (h6 : n ≤ 6) : run d 1116 0 [xR 376, xI lane, xU] [] (V, G) = some (none, (vA V 385 (fun j => if 0 ≤ j ∧ j < n then (if j = lane then 1 else 0) else V 385 j), G)) := by
  simp (disch := first | omega | exact Nat.le_of_ble_eq_true rfl) only [bk1116_0, bk1116_24, bk1116_25, bk1116_32, Int.reduceToNat, vA_ap, Nat.reduceEqDiff, if_true, if_false, bx_nil, isL_I, isL_R, isL_U, if_ff, bind_some, tl_some, tl_none, bx_iconst, bx_istore_2, bx_iload_2, bx_aload_0, gf376_0 hG, bx_ic_ge, gf376_10 hG, ia385 hG, is385 hG, bx_iload_1, bx_ic_ne, bx_goto, bx_iinc2, bx_vret]
  exact m_enters_lp hG hn h6 _ 0 V hn (by omega) (by omega) rfl
end MP
