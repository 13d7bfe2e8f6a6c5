/-! COUNT of both sides -/
theorem b1_T [Decidable True] : b1 True = 1 := b1_t trivial
def cn (p : Int → Bool) (k : Int) : Int := cntF p k.toNat 0
theorem cn_up {p : Int → Bool} {k : Int} (h : 0 ≤ k) : cn p (k + 1) = cn p k + (if p k = true then 1 else 0) := by
  unfold cn
  rw [show (k + 1).toNat = k.toNat + 1 by omega, cntF_add]
  show _ = _
  simp only [cntF]
  rw [show (0 : Int) + (k.toNat : Int) = k by omega, Int.add_zero]
theorem cn_bd {p : Int → Bool} {k : Int} (h : 0 ≤ k) : 0 ≤ cn p k ∧ cn p k ≤ k := by
  have := cntF_bd (p := p) k.toNat 0
  unfold cn
  omega
def an (p : Int → Bool) (lo k : Int) : Bool := anyF p (k - lo).toNat lo
theorem anyF_up {p : Int → Bool} : ∀ (m : Nat) (k : Int), anyF p (m + 1) k = (anyF p m k || p (k + m))
  | 0, k => by simp [anyF]
  | m + 1, k => by
    have e := anyF_up (p := p) m (k + 1)
    show (p k || anyF p (m + 1) (k + 1)) = ((p k || anyF p m (k + 1)) || p (k + ((m + 1 : Nat) : Int)))
    rw [e, Bool.or_assoc, show k + 1 + (m : Int) = k + ((m + 1 : Nat) : Int) by omega]
theorem an_up {p : Int → Bool} {lo k : Int} (h : lo ≤ k) : an p lo (k + 1) = (an p lo k || p k) := by
  unfold an
  rw [show (k + 1 - lo).toNat = (k - lo).toNat + 1 by omega, anyF_up, show lo + ((k - lo).toNat : Int) = k by omega]
def useM (V : Nat → Int → Int) (k : Int) : Bool := decide (0 < V 379 k) || decide (0 ≤ V 380 k)
section MC
variable {n L d : Nat} {G : XG} {V : Nat → Int → Int} {μ : XM}
theorem m_used_in {l s : Int} (hG : Good n L G) (hl : 0 ≤ l ∧ l < 12) : run d 1164 18 [xR 376, xI s, xI l, xI 0, xI (6 * l)] [] (V, G) = run d 1164 66 [xR 376, xI s, xI l, xI (b1 (an (useM V) (6 * l) (6 * l + 6) = true)), xI (6 * l + 6)] [] (V, G) := by
  have h := it_up (D := d) (q := 1164) (pc := 18) (loc := fun k => [xR 376, xI s, xI l, xI (b1 (an (useM V) (6 * l) k = true)), xI k]) (F := fun _ => (V, G)) (hi := 6 * l + 6) 6 (6 * l) (by omega) (fun k h1 h2 => by
    rw [bk1164_18, an_up h1]
    by_cases a : an (useM V) (6 * l) k = true
    · rw [a]
      simp (disch := first | omega | exact Nat.le_of_ble_eq_true rfl) only [bk1164_0, bk1164_54, bk1164_58, bk1164_59, bk1164_66, bk1164_75, bk1164_76, bk1164_84, Int.reduceToNat, vA_ap, Nat.reduceEqDiff, if_true, if_false, bx_nil, isL_I, isL_R, isL_U, if_ff, bind_some, tl_some, tl_none, bx_iconst, bx_istore_1, bx_istore_2, bx_iload_2, bx_bipush, bx_ic_ge, bx_istore_3, bx_imul, bx_istore4, bx_iload4, bx_iadd, bx_iload_3, bx_if_ne, bx_aload_0, gf376_3 hG, ia379 hG, is379 hG, bx_if_gt, gf376_4 hG, ia380 hG, is380 hG, bx_if_lt, bx_goto, bx_iinc4, bx_iload_1, bx_if_eq, bx_iinc2, bx_iret, if_neg (show ¬ 6 * l + 6 ≤ k by omega), b1_T, Bool.true_or, one_ne]
    · rw [Bool.not_eq_true] at a
      rw [a]
      by_cases b : 0 < V 379 k
      · have e : useM V k = true := by unfold useM; simp [b]
        simp (disch := first | omega | exact Nat.le_of_ble_eq_true rfl) only [bk1164_0, bk1164_54, bk1164_58, bk1164_59, bk1164_66, bk1164_75, bk1164_76, bk1164_84, Int.reduceToNat, vA_ap, Nat.reduceEqDiff, if_true, if_false, bx_nil, isL_I, isL_R, isL_U, if_ff, bind_some, tl_some, tl_none, bx_iconst, bx_istore_1, bx_istore_2, bx_iload_2, bx_bipush, bx_ic_ge, bx_istore_3, bx_imul, bx_istore4, bx_iload4, bx_iadd, bx_iload_3, bx_if_ne, bx_aload_0, gf376_3 hG, ia379 hG, is379 hG, bx_if_gt, gf376_4 hG, ia380 hG, is380 hG, bx_if_lt, bx_goto, bx_iinc4, bx_iload_1, bx_if_eq, bx_iinc2, bx_iret, if_neg (show ¬ 6 * l + 6 ≤ k by omega), b1_f (show ¬ false = true by simp), if_pos b, e, Bool.or_true, b1_T]
      · by_cases c : V 380 k < 0
        · have e : useM V k = false := by unfold useM; simp; omega
          simp (disch := first | omega | exact Nat.le_of_ble_eq_true rfl) only [bk1164_0, bk1164_54, bk1164_58, bk1164_59, bk1164_66, bk1164_75, bk1164_76, bk1164_84, Int.reduceToNat, vA_ap, Nat.reduceEqDiff, if_true, if_false, bx_nil, isL_I, isL_R, isL_U, if_ff, bind_some, tl_some, tl_none, bx_iconst, bx_istore_1, bx_istore_2, bx_iload_2, bx_bipush, bx_ic_ge, bx_istore_3, bx_imul, bx_istore4, bx_iload4, bx_iadd, bx_iload_3, bx_if_ne, bx_aload_0, gf376_3 hG, ia379 hG, is379 hG, bx_if_gt, gf376_4 hG, ia380 hG, is380 hG, bx_if_lt, bx_goto, bx_iinc4, bx_iload_1, bx_if_eq, bx_iinc2, bx_iret, if_neg (show ¬ 6 * l + 6 ≤ k by omega), b1_f (show ¬ false = true by simp), if_neg b, if_pos c, e, Bool.or_self]
        · have e : useM V k = true := by unfold useM; simp; omega
          simp (disch := first | omega | exact Nat.le_of_ble_eq_true rfl) only [bk1164_0, bk1164_54, bk1164_58, bk1164_59, bk1164_66, bk1164_75, bk1164_76, bk1164_84, Int.reduceToNat, vA_ap, Nat.reduceEqDiff, if_true, if_false, bx_nil, isL_I, isL_R, isL_U, if_ff, bind_some, tl_some, tl_none, bx_iconst, bx_istore_1, bx_istore_2, bx_iload_2, bx_bipush, bx_ic_ge, bx_istore_3, bx_imul, bx_istore4, bx_iload4, bx_iadd, bx_iload_3, bx_if_ne, bx_aload_0, gf376_3 hG, ia379 hG, is379 hG, bx_if_gt, gf376_4 hG, ia380 hG, is380 hG, bx_if_lt, bx_goto, bx_iinc4, bx_iload_1, bx_if_eq, bx_iinc2, bx_iret, if_neg (show ¬ 6 * l + 6 ≤ k by omega), b1_f (show ¬ false = true by simp), if_neg b, if_neg c, e, Bool.or_true, b1_T])
  have e0 : b1 (an (useM V) (6 * l) (6 * l) = true) = 0 := by
    unfold an
    rw [show (6 * l - 6 * l).toNat = 0 by omega]
    rfl
  rw [e0] at h
  rw [h, bk1164_18]
  simp (disch := first | omega | exact Nat.le_of_ble_eq_true rfl) only [bk1164_0, bk1164_54, bk1164_58, bk1164_59, bk1164_66, bk1164_75, bk1164_76, bk1164_84, Int.reduceToNat, vA_ap, Nat.reduceEqDiff, if_true, if_false, bx_nil, isL_I, isL_R, isL_U, if_ff, bind_some, tl_some, tl_none, bx_iconst, bx_istore_1, bx_istore_2, bx_iload_2, bx_bipush, bx_ic_ge, bx_istore_3, bx_imul, bx_istore4, bx_iload4, bx_iadd, bx_iload_3, bx_if_ne, bx_aload_0, gf376_3 hG, ia379 hG, is379 hG, bx_if_gt, gf376_4 hG, ia380 hG, is380 hG, bx_if_lt, bx_goto, bx_iinc4, bx_iload_1, bx_if_eq, bx_iinc2, bx_iret, if_pos (show 6 * l + 6 ≤ 6 * l + 6 by omega)]
theorem m_used (hG : Good n L G) : run d 1164 0 [xR 376, xU, xU, xU, xU] [] (V, G) = some (some (xI (cn (fun l => an (useM V) (6 * l) (6 * l + 6)) 12)), (V, G)) := by
  have h := it_inv (D := d) (q := 1164) (pc := 4) (hi := 12) (I := fun k ls μ => (∃ u v, ls = [xR 376, xI (cn (fun l => an (useM V) (6 * l) (6 * l + 6)) k), xI k, u, v] ∧ isL u = false) ∧ μ = (V, G)) (Q := fun z => z = some (some (xI (cn (fun l => an (useM V) (6 * l) (6 * l + 6)) 12)), (V, G))) (fun ls μ hI => by
    obtain ⟨⟨u, v, rfl, hu⟩, rfl⟩ := hI
    rw [bk1164_4]
    simp (disch := first | omega | exact Nat.le_of_ble_eq_true rfl) only [bk1164_0, bk1164_54, bk1164_58, bk1164_59, bk1164_66, bk1164_75, bk1164_76, bk1164_84, Int.reduceToNat, vA_ap, Nat.reduceEqDiff, if_true, if_false, bx_nil, isL_I, isL_R, isL_U, if_ff, bind_some, tl_some, tl_none, bx_iconst, bx_istore_1, bx_istore_2, bx_iload_2, bx_bipush, bx_ic_ge, bx_istore_3, bx_imul, bx_istore4, bx_iload4, bx_iadd, bx_iload_3, bx_if_ne, bx_aload_0, gf376_3 hG, ia379 hG, is379 hG, bx_if_gt, gf376_4 hG, ia380 hG, is380 hG, bx_if_lt, bx_goto, bx_iinc4, bx_iload_1, bx_if_eq, bx_iinc2, bx_iret, if_pos (show (12 : Int) ≤ 12 by omega)]) 12 0 (by omega) (fun k ls μ h1 h2 hI => by
    obtain ⟨⟨u, v, rfl, hu⟩, rfl⟩ := hI
    left
    have hb := cn_bd (p := fun l => an (useM V) (6 * l) (6 * l + 6)) h1
    refine ⟨_, _, ⟨⟨xI (b1 (an (useM V) (6 * k) (6 * k + 6) = true)), xI (6 * k + 6), rfl, rfl⟩, rfl⟩, ?_⟩
    rw [bk1164_4]
    simp (disch := first | omega | exact Nat.le_of_ble_eq_true rfl) only [bx_iload_2, bx_bipush, bx_ic_ge, if_neg (show ¬ 12 ≤ k by omega), bx_iconst, bx_istore_3, bx_imul, bx_istore4, bx_nil, isL_I, if_ff]
    rw [m_used_in hG (by omega), cn_up h1]
    by_cases a : an (useM V) (6 * k) (6 * k + 6) = true
    · rw [if_pos a]
      simp (disch := first | omega | exact Nat.le_of_ble_eq_true rfl) only [bk1164_0, bk1164_54, bk1164_58, bk1164_59, bk1164_66, bk1164_75, bk1164_76, bk1164_84, Int.reduceToNat, vA_ap, Nat.reduceEqDiff, if_true, if_false, bx_nil, isL_I, isL_R, isL_U, if_ff, bind_some, tl_some, tl_none, bx_iconst, bx_istore_1, bx_istore_2, bx_iload_2, bx_bipush, bx_ic_ge, bx_istore_3, bx_imul, bx_istore4, bx_iload4, bx_iadd, bx_iload_3, bx_if_ne, bx_aload_0, gf376_3 hG, ia379 hG, is379 hG, bx_if_gt, gf376_4 hG, ia380 hG, is380 hG, bx_if_lt, bx_goto, bx_iinc4, bx_iload_1, bx_if_eq, bx_iinc2, bx_iret, b1_t a, one_ne]
    · rw [if_neg a]
      simp (disch := first | omega | exact Nat.le_of_ble_eq_true rfl) only [bk1164_0, bk1164_54, bk1164_58, bk1164_59, bk1164_66, bk1164_75, bk1164_76, bk1164_84, Int.reduceToNat, vA_ap, Nat.reduceEqDiff, if_true, if_false, bx_nil, isL_I, isL_R, isL_U, if_ff, bind_some, tl_some, tl_none, bx_iconst, bx_istore_1, bx_istore_2, bx_iload_2, bx_bipush, bx_ic_ge, bx_istore_3, bx_imul, bx_istore4, bx_iload4, bx_iadd, bx_iload_3, bx_if_ne, bx_aload_0, gf376_3 hG, ia379 hG, is379 hG, bx_if_gt, gf376_4 hG, ia380 hG, is380 hG, bx_if_lt, bx_goto, bx_iinc4, bx_iload_1, bx_if_eq, bx_iinc2, bx_iret, b1_f a]) [xR 376, xI 0, xI 0, xU, xU] (V, G) ⟨⟨xU, xU, rfl, rfl⟩, rfl⟩
  simp (disch := first | omega | exact Nat.le_of_ble_eq_true rfl) only [bk1164_0, bk1164_54, bk1164_58, bk1164_59, bk1164_66, bk1164_75, bk1164_76, bk1164_84, Int.reduceToNat, vA_ap, Nat.reduceEqDiff, if_true, if_false, bx_nil, isL_I, isL_R, isL_U, if_ff, bind_some, tl_some, tl_none, bx_iconst, bx_istore_1, bx_istore_2, bx_iload_2, bx_bipush, bx_ic_ge, bx_istore_3, bx_imul, bx_istore4, bx_iload4, bx_iadd, bx_iload_3, bx_if_ne, bx_aload_0, gf376_3 hG, ia379 hG, is379 hG, bx_if_gt, gf376_4 hG, ia380 hG, is380 hG, bx_if_lt, bx_goto, bx_iinc4, bx_iload_1, bx_if_eq, bx_iinc2, bx_iret]
  exact h
theorem mp_count {w : Int} (hG : Good n L G) : run (d + 1) 1163 0 [xR 376, xI w, xU, xU] [] (V, G) = some (some (xI (if w = 0 then V 376 0 else if w = 1 then cn (fun k => decide (0 ≤ V 380 k)) 72 else if w = 2 then V 376 21 else if w = 3 then V 376 41 else if w = 4 then V 376 42 else if w = 5 then V 376 30 else if w = 6 then cn (fun l => an (useM V) (6 * l) (6 * l + 6)) 12 else if w = 7 then V 376 7 else -1)), (V, G)) := by
  by_cases w0 : w = 0
  · subst w0
    simp (disch := first | omega | exact Nat.le_of_ble_eq_true rfl) only [bk1163_0, bk1163_48, bk1163_53, bk1163_75, bk1163_76, bk1163_84, bk1163_86, bk1163_91, bk1163_96, bk1163_101, bk1163_106, bk1163_111, bk1163_116, Int.reduceToNat, vA_ap, Nat.reduceEqDiff, if_true, if_false, bx_nil, isL_I, isL_R, isL_U, if_ff, bind_some, tl_some, tl_none, bx_iconst, bx_istore_2, bx_iload_1, bx_aload_0, gf376_0 hG, bx_iret, bx_istore_3, bx_iload_3, bx_bipush, bx_ic_ge, bx_iload_2, gf376_4 hG, ia380 hG, is380 hG, bx_if_lt, bx_goto, bx_iadd, bx_iinc3, gf376_21 hG, gf376_41 hG, gf376_42 hG, gf376_30 hG, cl1164 hG, gf376_7 hG, (bx_tabI (dd := 116) (lo := 0) (hi := 7) (offs := #[48, 53, 86, 91, 96, 101, 106, 111]) (x := 0) (t := 48) (by omega) rfl)]
  · rw [if_neg w0]
    by_cases w1 : w = 1
    · subst w1
      simp (disch := first | omega | exact Nat.le_of_ble_eq_true rfl) only [bk1163_0, bk1163_48, bk1163_53, bk1163_75, bk1163_76, bk1163_84, bk1163_86, bk1163_91, bk1163_96, bk1163_101, bk1163_106, bk1163_111, bk1163_116, Int.reduceToNat, vA_ap, Nat.reduceEqDiff, if_true, if_false, bx_nil, isL_I, isL_R, isL_U, if_ff, bind_some, tl_some, tl_none, bx_iconst, bx_istore_2, bx_iload_1, bx_aload_0, gf376_0 hG, bx_iret, bx_istore_3, bx_iload_3, bx_bipush, bx_ic_ge, bx_iload_2, gf376_4 hG, ia380 hG, is380 hG, bx_if_lt, bx_goto, bx_iadd, bx_iinc3, gf376_21 hG, gf376_41 hG, gf376_42 hG, gf376_30 hG, cl1164 hG, gf376_7 hG, (bx_tabI (dd := 116) (lo := 0) (hi := 7) (offs := #[48, 53, 86, 91, 96, 101, 106, 111]) (x := 1) (t := 53) (by omega) rfl)]
      have h := it_up (D := d + 1) (q := 1163) (pc := 55) (loc := fun k => [xR 376, xI 1, xI (cn (fun k => decide (0 ≤ V 380 k)) k), xI k]) (F := fun _ => (V, G)) (hi := 72) 72 0 (by omega) (fun k h1 h2 => by
        have hb := cn_bd (p := fun k => decide (0 ≤ V 380 k)) h1
        rw [bk1163_55, cn_up h1]
        by_cases a : 0 ≤ V 380 k
        · simp (disch := first | omega | exact Nat.le_of_ble_eq_true rfl) only [bk1163_0, bk1163_48, bk1163_53, bk1163_75, bk1163_76, bk1163_84, bk1163_86, bk1163_91, bk1163_96, bk1163_101, bk1163_106, bk1163_111, bk1163_116, Int.reduceToNat, vA_ap, Nat.reduceEqDiff, if_true, if_false, bx_nil, isL_I, isL_R, isL_U, if_ff, bind_some, tl_some, tl_none, bx_iconst, bx_istore_2, bx_iload_1, bx_aload_0, gf376_0 hG, bx_iret, bx_istore_3, bx_iload_3, bx_bipush, bx_ic_ge, bx_iload_2, gf376_4 hG, ia380 hG, is380 hG, bx_if_lt, bx_goto, bx_iadd, bx_iinc3, gf376_21 hG, gf376_41 hG, gf376_42 hG, gf376_30 hG, cl1164 hG, gf376_7 hG, if_neg (show ¬ 72 ≤ k by omega), if_neg (show ¬ V 380 k < 0 by omega), a, decide_true]
        · simp (disch := first | omega | exact Nat.le_of_ble_eq_true rfl) only [bk1163_0, bk1163_48, bk1163_53, bk1163_75, bk1163_76, bk1163_84, bk1163_86, bk1163_91, bk1163_96, bk1163_101, bk1163_106, bk1163_111, bk1163_116, Int.reduceToNat, vA_ap, Nat.reduceEqDiff, if_true, if_false, bx_nil, isL_I, isL_R, isL_U, if_ff, bind_some, tl_some, tl_none, bx_iconst, bx_istore_2, bx_iload_1, bx_aload_0, gf376_0 hG, bx_iret, bx_istore_3, bx_iload_3, bx_bipush, bx_ic_ge, bx_iload_2, gf376_4 hG, ia380 hG, is380 hG, bx_if_lt, bx_goto, bx_iadd, bx_iinc3, gf376_21 hG, gf376_41 hG, gf376_42 hG, gf376_30 hG, cl1164 hG, gf376_7 hG, if_neg (show ¬ 72 ≤ k by omega), if_pos (show V 380 k < 0 by omega), a, decide_false, Int.add_zero, if_neg (show ¬ false = true by simp)])
      rw [show cn (fun k => decide (0 ≤ V 380 k)) 0 = 0 from rfl] at h
      rw [h, bk1163_55]
      simp (disch := first | omega | exact Nat.le_of_ble_eq_true rfl) only [bk1163_0, bk1163_48, bk1163_53, bk1163_75, bk1163_76, bk1163_84, bk1163_86, bk1163_91, bk1163_96, bk1163_101, bk1163_106, bk1163_111, bk1163_116, Int.reduceToNat, vA_ap, Nat.reduceEqDiff, if_true, if_false, bx_nil, isL_I, isL_R, isL_U, if_ff, bind_some, tl_some, tl_none, bx_iconst, bx_istore_2, bx_iload_1, bx_aload_0, gf376_0 hG, bx_iret, bx_istore_3, bx_iload_3, bx_bipush, bx_ic_ge, bx_iload_2, gf376_4 hG, ia380 hG, is380 hG, bx_if_lt, bx_goto, bx_iadd, bx_iinc3, gf376_21 hG, gf376_41 hG, gf376_42 hG, gf376_30 hG, cl1164 hG, gf376_7 hG, if_pos (show (72 : Int) ≤ 72 by omega)]
    · rw [if_neg w1]
      by_cases w2 : w = 2
      · subst w2
        simp (disch := first | omega | exact Nat.le_of_ble_eq_true rfl) only [bk1163_0, bk1163_48, bk1163_53, bk1163_75, bk1163_76, bk1163_84, bk1163_86, bk1163_91, bk1163_96, bk1163_101, bk1163_106, bk1163_111, bk1163_116, Int.reduceToNat, vA_ap, Nat.reduceEqDiff, if_true, if_false, bx_nil, isL_I, isL_R, isL_U, if_ff, bind_some, tl_some, tl_none, bx_iconst, bx_istore_2, bx_iload_1, bx_aload_0, gf376_0 hG, bx_iret, bx_istore_3, bx_iload_3, bx_bipush, bx_ic_ge, bx_iload_2, gf376_4 hG, ia380 hG, is380 hG, bx_if_lt, bx_goto, bx_iadd, bx_iinc3, gf376_21 hG, gf376_41 hG, gf376_42 hG, gf376_30 hG, cl1164 hG, gf376_7 hG, (bx_tabI (dd := 116) (lo := 0) (hi := 7) (offs := #[48, 53, 86, 91, 96, 101, 106, 111]) (x := 2) (t := 86) (by omega) rfl)]
      · rw [if_neg w2]
        by_cases w3 : w = 3
        · subst w3
          simp (disch := first | omega | exact Nat.le_of_ble_eq_true rfl) only [bk1163_0, bk1163_48, bk1163_53, bk1163_75, bk1163_76, bk1163_84, bk1163_86, bk1163_91, bk1163_96, bk1163_101, bk1163_106, bk1163_111, bk1163_116, Int.reduceToNat, vA_ap, Nat.reduceEqDiff, if_true, if_false, bx_nil, isL_I, isL_R, isL_U, if_ff, bind_some, tl_some, tl_none, bx_iconst, bx_istore_2, bx_iload_1, bx_aload_0, gf376_0 hG, bx_iret, bx_istore_3, bx_iload_3, bx_bipush, bx_ic_ge, bx_iload_2, gf376_4 hG, ia380 hG, is380 hG, bx_if_lt, bx_goto, bx_iadd, bx_iinc3, gf376_21 hG, gf376_41 hG, gf376_42 hG, gf376_30 hG, cl1164 hG, gf376_7 hG, (bx_tabI (dd := 116) (lo := 0) (hi := 7) (offs := #[48, 53, 86, 91, 96, 101, 106, 111]) (x := 3) (t := 91) (by omega) rfl)]
        · rw [if_neg w3]
          by_cases w4 : w = 4
          · subst w4
            simp (disch := first | omega | exact Nat.le_of_ble_eq_true rfl) only [bk1163_0, bk1163_48, bk1163_53, bk1163_75, bk1163_76, bk1163_84, bk1163_86, bk1163_91, bk1163_96, bk1163_101, bk1163_106, bk1163_111, bk1163_116, Int.reduceToNat, vA_ap, Nat.reduceEqDiff, if_true, if_false, bx_nil, isL_I, isL_R, isL_U, if_ff, bind_some, tl_some, tl_none, bx_iconst, bx_istore_2, bx_iload_1, bx_aload_0, gf376_0 hG, bx_iret, bx_istore_3, bx_iload_3, bx_bipush, bx_ic_ge, bx_iload_2, gf376_4 hG, ia380 hG, is380 hG, bx_if_lt, bx_goto, bx_iadd, bx_iinc3, gf376_21 hG, gf376_41 hG, gf376_42 hG, gf376_30 hG, cl1164 hG, gf376_7 hG, (bx_tabI (dd := 116) (lo := 0) (hi := 7) (offs := #[48, 53, 86, 91, 96, 101, 106, 111]) (x := 4) (t := 96) (by omega) rfl)]
          · rw [if_neg w4]
            by_cases w5 : w = 5
            · subst w5
              simp (disch := first | omega | exact Nat.le_of_ble_eq_true rfl) only [bk1163_0, bk1163_48, bk1163_53, bk1163_75, bk1163_76, bk1163_84, bk1163_86, bk1163_91, bk1163_96, bk1163_101, bk1163_106, bk1163_111, bk1163_116, Int.reduceToNat, vA_ap, Nat.reduceEqDiff, if_true, if_false, bx_nil, isL_I, isL_R, isL_U, if_ff, bind_some, tl_some, tl_none, bx_iconst, bx_istore_2, bx_iload_1, bx_aload_0, gf376_0 hG, bx_iret, bx_istore_3, bx_iload_3, bx_bipush, bx_ic_ge, bx_iload_2, gf376_4 hG, ia380 hG, is380 hG, bx_if_lt, bx_goto, bx_iadd, bx_iinc3, gf376_21 hG, gf376_41 hG, gf376_42 hG, gf376_30 hG, cl1164 hG, gf376_7 hG, (bx_tabI (dd := 116) (lo := 0) (hi := 7) (offs := #[48, 53, 86, 91, 96, 101, 106, 111]) (x := 5) (t := 101) (by omega) rfl)]
            · rw [if_neg w5]
              by_cases w6 : w = 6
              · subst w6
                simp (disch := first | omega | exact Nat.le_of_ble_eq_true rfl) only [bk1163_0, bk1163_48, bk1163_53, bk1163_75, bk1163_76, bk1163_84, bk1163_86, bk1163_91, bk1163_96, bk1163_101, bk1163_106, bk1163_111, bk1163_116, Int.reduceToNat, vA_ap, Nat.reduceEqDiff, if_true, if_false, bx_nil, isL_I, isL_R, isL_U, if_ff, bind_some, tl_some, tl_none, bx_iconst, bx_istore_2, bx_iload_1, bx_aload_0, gf376_0 hG, bx_iret, bx_istore_3, bx_iload_3, bx_bipush, bx_ic_ge, bx_iload_2, gf376_4 hG, ia380 hG, is380 hG, bx_if_lt, bx_goto, bx_iadd, bx_iinc3, gf376_21 hG, gf376_41 hG, gf376_42 hG, gf376_30 hG, cl1164 hG, gf376_7 hG, (bx_tabI (dd := 116) (lo := 0) (hi := 7) (offs := #[48, 53, 86, 91, 96, 101, 106, 111]) (x := 6) (t := 106) (by omega) rfl), m_used hG]
              · rw [if_neg w6]
                by_cases w7 : w = 7
                · subst w7
                  simp (disch := first | omega | exact Nat.le_of_ble_eq_true rfl) only [bk1163_0, bk1163_48, bk1163_53, bk1163_75, bk1163_76, bk1163_84, bk1163_86, bk1163_91, bk1163_96, bk1163_101, bk1163_106, bk1163_111, bk1163_116, Int.reduceToNat, vA_ap, Nat.reduceEqDiff, if_true, if_false, bx_nil, isL_I, isL_R, isL_U, if_ff, bind_some, tl_some, tl_none, bx_iconst, bx_istore_2, bx_iload_1, bx_aload_0, gf376_0 hG, bx_iret, bx_istore_3, bx_iload_3, bx_bipush, bx_ic_ge, bx_iload_2, gf376_4 hG, ia380 hG, is380 hG, bx_if_lt, bx_goto, bx_iadd, bx_iinc3, gf376_21 hG, gf376_41 hG, gf376_42 hG, gf376_30 hG, cl1164 hG, gf376_7 hG, (bx_tabI (dd := 116) (lo := 0) (hi := 7) (offs := #[48, 53, 86, 91, 96, 101, 106, 111]) (x := 7) (t := 111) (by omega) rfl)]
                · rw [if_neg w7]
                  simp (disch := first | omega | exact Nat.le_of_ble_eq_true rfl) only [bk1163_0, bk1163_48, bk1163_53, bk1163_75, bk1163_76, bk1163_84, bk1163_86, bk1163_91, bk1163_96, bk1163_101, bk1163_106, bk1163_111, bk1163_116, Int.reduceToNat, vA_ap, Nat.reduceEqDiff, if_true, if_false, bx_nil, isL_I, isL_R, isL_U, if_ff, bind_some, tl_some, tl_none, bx_iconst, bx_istore_2, bx_iload_1, bx_aload_0, gf376_0 hG, bx_iret, bx_istore_3, bx_iload_3, bx_bipush, bx_ic_ge, bx_iload_2, gf376_4 hG, ia380 hG, is380 hG, bx_if_lt, bx_goto, bx_iadd, bx_iinc3, gf376_21 hG, gf376_41 hG, gf376_42 hG, gf376_30 hG, cl1164 hG, gf376_7 hG, bx_tabO]
theorem xp_count {w : Int} (hG : Good n L G) : run (d + 3) 1033 0 [xR 1, xI w] [] (V, G) = some (some (xI (if w = 0 then V 5 0 else if w = 1 then cntF (fun c => decide (¬ V 8 c = -1)) 36 0 else if w = 2 then V 29 2 else if w = 3 then V 217 3 else if w = 4 then V 212 0 else if w = 5 then V 35 1 else if w = 6 then cntF (fun l => anyF (useX V) 3 (3 * l)) 12 0 else if w = 7 then V 5 6 else -1)), (V, G)) := by
  by_cases w0 : w = 0
  · subst w0
    simp (disch := first | omega | exact Nat.le_of_ble_eq_true rfl) only [bk1033_0, bk1033_48, bk1033_56, bk1033_64, bk1033_72, bk1033_80, bk1033_88, bk1033_96, bk1033_104, bk1033_112, Int.reduceToNat, vA_ap, Nat.reduceEqDiff, if_true, if_false, bx_nil, isL_I, isL_R, isL_U, if_ff, bind_some, tl_some, tl_none, bx_iload_1, bx_aload_0, gf1_1 hG, gf5_0 hG, bx_iret, cl310 hG, gf1_3 hG, gf1_7 hG, gf217_3 hG, gf1_6 hG, gf212_0 hG, gf1_5 hG, gf35_1 hG, cl311 hG, gf5_6 hG, bx_iconst, (bx_tabI (dd := 112) (lo := 0) (hi := 7) (offs := #[48, 56, 64, 72, 80, 88, 96, 104]) (x := 0) (t := 48) (by omega) rfl)]
  · rw [if_neg w0]
    by_cases w1 : w = 1
    · subst w1
      simp (disch := first | omega | exact Nat.le_of_ble_eq_true rfl) only [bk1033_0, bk1033_48, bk1033_56, bk1033_64, bk1033_72, bk1033_80, bk1033_88, bk1033_96, bk1033_104, bk1033_112, Int.reduceToNat, vA_ap, Nat.reduceEqDiff, if_true, if_false, bx_nil, isL_I, isL_R, isL_U, if_ff, bind_some, tl_some, tl_none, bx_iload_1, bx_aload_0, gf1_1 hG, gf5_0 hG, bx_iret, cl310 hG, gf1_3 hG, gf1_7 hG, gf217_3 hG, gf1_6 hG, gf212_0 hG, gf1_5 hG, gf35_1 hG, cl311 hG, gf5_6 hG, bx_iconst, (bx_tabI (dd := 112) (lo := 0) (hi := 7) (offs := #[48, 56, 64, 72, 80, 88, 96, 104]) (x := 1) (t := 56) (by omega) rfl), x_dead hG]
    · rw [if_neg w1]
      by_cases w2 : w = 2
      · subst w2
        simp (disch := first | omega | exact Nat.le_of_ble_eq_true rfl) only [bk1033_0, bk1033_48, bk1033_56, bk1033_64, bk1033_72, bk1033_80, bk1033_88, bk1033_96, bk1033_104, bk1033_112, Int.reduceToNat, vA_ap, Nat.reduceEqDiff, if_true, if_false, bx_nil, isL_I, isL_R, isL_U, if_ff, bind_some, tl_some, tl_none, bx_iload_1, bx_aload_0, gf1_1 hG, gf5_0 hG, bx_iret, cl310 hG, gf1_3 hG, gf1_7 hG, gf217_3 hG, gf1_6 hG, gf212_0 hG, gf1_5 hG, gf35_1 hG, cl311 hG, gf5_6 hG, bx_iconst, (bx_tabI (dd := 112) (lo := 0) (hi := 7) (offs := #[48, 56, 64, 72, 80, 88, 96, 104]) (x := 2) (t := 64) (by omega) rfl), rg_size hG row29]
      · rw [if_neg w2]
        by_cases w3 : w = 3
        · subst w3
          simp (disch := first | omega | exact Nat.le_of_ble_eq_true rfl) only [bk1033_0, bk1033_48, bk1033_56, bk1033_64, bk1033_72, bk1033_80, bk1033_88, bk1033_96, bk1033_104, bk1033_112, Int.reduceToNat, vA_ap, Nat.reduceEqDiff, if_true, if_false, bx_nil, isL_I, isL_R, isL_U, if_ff, bind_some, tl_some, tl_none, bx_iload_1, bx_aload_0, gf1_1 hG, gf5_0 hG, bx_iret, cl310 hG, gf1_3 hG, gf1_7 hG, gf217_3 hG, gf1_6 hG, gf212_0 hG, gf1_5 hG, gf35_1 hG, cl311 hG, gf5_6 hG, bx_iconst, (bx_tabI (dd := 112) (lo := 0) (hi := 7) (offs := #[48, 56, 64, 72, 80, 88, 96, 104]) (x := 3) (t := 72) (by omega) rfl)]
        · rw [if_neg w3]
          by_cases w4 : w = 4
          · subst w4
            simp (disch := first | omega | exact Nat.le_of_ble_eq_true rfl) only [bk1033_0, bk1033_48, bk1033_56, bk1033_64, bk1033_72, bk1033_80, bk1033_88, bk1033_96, bk1033_104, bk1033_112, Int.reduceToNat, vA_ap, Nat.reduceEqDiff, if_true, if_false, bx_nil, isL_I, isL_R, isL_U, if_ff, bind_some, tl_some, tl_none, bx_iload_1, bx_aload_0, gf1_1 hG, gf5_0 hG, bx_iret, cl310 hG, gf1_3 hG, gf1_7 hG, gf217_3 hG, gf1_6 hG, gf212_0 hG, gf1_5 hG, gf35_1 hG, cl311 hG, gf5_6 hG, bx_iconst, (bx_tabI (dd := 112) (lo := 0) (hi := 7) (offs := #[48, 56, 64, 72, 80, 88, 96, 104]) (x := 4) (t := 80) (by omega) rfl)]
          · rw [if_neg w4]
            by_cases w5 : w = 5
            · subst w5
              simp (disch := first | omega | exact Nat.le_of_ble_eq_true rfl) only [bk1033_0, bk1033_48, bk1033_56, bk1033_64, bk1033_72, bk1033_80, bk1033_88, bk1033_96, bk1033_104, bk1033_112, Int.reduceToNat, vA_ap, Nat.reduceEqDiff, if_true, if_false, bx_nil, isL_I, isL_R, isL_U, if_ff, bind_some, tl_some, tl_none, bx_iload_1, bx_aload_0, gf1_1 hG, gf5_0 hG, bx_iret, cl310 hG, gf1_3 hG, gf1_7 hG, gf217_3 hG, gf1_6 hG, gf212_0 hG, gf1_5 hG, gf35_1 hG, cl311 hG, gf5_6 hG, bx_iconst, (bx_tabI (dd := 112) (lo := 0) (hi := 7) (offs := #[48, 56, 64, 72, 80, 88, 96, 104]) (x := 5) (t := 88) (by omega) rfl)]
            · rw [if_neg w5]
              by_cases w6 : w = 6
              · subst w6
                simp (disch := first | omega | exact Nat.le_of_ble_eq_true rfl) only [bk1033_0, bk1033_48, bk1033_56, bk1033_64, bk1033_72, bk1033_80, bk1033_88, bk1033_96, bk1033_104, bk1033_112, Int.reduceToNat, vA_ap, Nat.reduceEqDiff, if_true, if_false, bx_nil, isL_I, isL_R, isL_U, if_ff, bind_some, tl_some, tl_none, bx_iload_1, bx_aload_0, gf1_1 hG, gf5_0 hG, bx_iret, cl310 hG, gf1_3 hG, gf1_7 hG, gf217_3 hG, gf1_6 hG, gf212_0 hG, gf1_5 hG, gf35_1 hG, cl311 hG, gf5_6 hG, bx_iconst, (bx_tabI (dd := 112) (lo := 0) (hi := 7) (offs := #[48, 56, 64, 72, 80, 88, 96, 104]) (x := 6) (t := 96) (by omega) rfl), x_layers hG]
              · rw [if_neg w6]
                by_cases w7 : w = 7
                · subst w7
                  simp (disch := first | omega | exact Nat.le_of_ble_eq_true rfl) only [bk1033_0, bk1033_48, bk1033_56, bk1033_64, bk1033_72, bk1033_80, bk1033_88, bk1033_96, bk1033_104, bk1033_112, Int.reduceToNat, vA_ap, Nat.reduceEqDiff, if_true, if_false, bx_nil, isL_I, isL_R, isL_U, if_ff, bind_some, tl_some, tl_none, bx_iload_1, bx_aload_0, gf1_1 hG, gf5_0 hG, bx_iret, cl310 hG, gf1_3 hG, gf1_7 hG, gf217_3 hG, gf1_6 hG, gf212_0 hG, gf1_5 hG, gf35_1 hG, cl311 hG, gf5_6 hG, bx_iconst, (bx_tabI (dd := 112) (lo := 0) (hi := 7) (offs := #[48, 56, 64, 72, 80, 88, 96, 104]) (x := 7) (t := 104) (by omega) rfl)]
                · rw [if_neg w7]
                  simp (disch := first | omega | exact Nat.le_of_ble_eq_true rfl) only [bk1033_0, bk1033_48, bk1033_56, bk1033_64, bk1033_72, bk1033_80, bk1033_88, bk1033_96, bk1033_104, bk1033_112, Int.reduceToNat, vA_ap, Nat.reduceEqDiff, if_true, if_false, bx_nil, isL_I, isL_R, isL_U, if_ff, bind_some, tl_some, tl_none, bx_iload_1, bx_aload_0, gf1_1 hG, gf5_0 hG, bx_iret, cl310 hG, gf1_3 hG, gf1_7 hG, gf217_3 hG, gf1_6 hG, gf212_0 hG, gf1_5 hG, gf35_1 hG, cl311 hG, gf5_6 hG, bx_iconst, bx_tabO]
end MC
/-- a layer's places, on both sides -/
theorem lay_cnt {pM pX : Int → Bool} {l : Int} (h : 0 ≤ l) (h1 : ∀ c, 3 * l ≤ c → c < 3 * l + 3 → pX c = pM (ix c)) (h2 : ∀ i, 0 ≤ i → i < 6 → i % 2 ≠ l % 2 → pM (6 * l + i) = false) : cntF pM 6 (6 * l) = cntF pX 3 (3 * l) ∧ anyF pM 6 (6 * l) = anyF pX 3 (3 * l) := by
  have e0 := h1 (3 * l) (by omega) (by omega)
  have e1 := h1 (3 * l + 1) (by omega) (by omega)
  have e2 := h1 (3 * l + 1 + 1) (by omega) (by omega)
  simp only [cntF, anyF]
  rw [e0, e1, e2]
  by_cases a : l % 2 = 0
  · have f1 := h2 1 (by omega) (by omega) (by omega)
    have f3 := h2 3 (by omega) (by omega) (by omega)
    have f5 := h2 5 (by omega) (by omega) (by omega)
    rw [show ix (3 * l) = 6 * l by unfold ix; omega, show ix (3 * l + 1) = 6 * l + 1 + 1 by unfold ix; omega, show ix (3 * l + 1 + 1) = 6 * l + 1 + 1 + 1 + 1 by unfold ix; omega]
    rw [show 6 * l + 1 + 1 + 1 + 1 + 1 = 6 * l + 5 by omega, f5, show 6 * l + 1 + 1 + 1 = 6 * l + 3 by omega, f3, f1]
    simp
  · have f0 := h2 0 (by omega) (by omega) (by omega)
    have f2 := h2 2 (by omega) (by omega) (by omega)
    have f4 := h2 4 (by omega) (by omega) (by omega)
    rw [show ix (3 * l) = 6 * l + 1 by unfold ix; omega, show ix (3 * l + 1) = 6 * l + 1 + 1 + 1 by unfold ix; omega, show ix (3 * l + 1 + 1) = 6 * l + 1 + 1 + 1 + 1 + 1 by unfold ix; omega]
    rw [show 6 * l + 1 + 1 + 1 + 1 = 6 * l + 4 by omega, f4, show 6 * l + 1 + 1 = 6 * l + 2 by omega, f2, show pM (6 * l) = false by rw [← f0, Int.add_zero]]
    simp
theorem all_cnt {pM pX : Int → Bool} (h1 : ∀ c, 0 ≤ c → c < 36 → pX c = pM (ix c)) (h2 : ∀ l i, 0 ≤ l → l < 12 → 0 ≤ i → i < 6 → i % 2 ≠ l % 2 → pM (6 * l + i) = false) : ∀ (m : Nat) (l : Int), 0 ≤ l → l + m ≤ 12 → cntF pM (6 * m) (6 * l) = cntF pX (3 * m) (3 * l)
  | 0, _, _, _ => rfl
  | m + 1, l, h0, h3 => by
    rw [show 6 * (m + 1) = 6 + 6 * m by omega, show 3 * (m + 1) = 3 + 3 * m by omega, cntF_add, cntF_add, show 6 * l + ((6 : Nat) : Int) = 6 * (l + 1) by omega, show 3 * l + ((3 : Nat) : Int) = 3 * (l + 1) by omega, all_cnt h1 h2 m (l + 1) (by omega) (by omega), (lay_cnt h0 (fun c a b => h1 c (by omega) (by omega)) (fun i a b c => h2 l i h0 (by omega) a b c)).1]
