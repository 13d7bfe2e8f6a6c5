/-! HELD -/
/-- the i-th number with p, counted from k -/
def hdF (p : Int → Bool) (i : Int) : Nat → Int → Int → Option Int
  | 0, _, _ => none
  | m + 1, h, k => if p h = true then (if k = i then some h else hdF p i m (h + 1) (k + 1)) else hdF p i m (h + 1) k
theorem hdF_neg {p : Int → Bool} {i : Int} (hi : i < 0) : ∀ (m : Nat) (h k : Int), 0 ≤ k → hdF p i m h k = none
  | 0, _, _, _ => rfl
  | m + 1, h, k, hk => by
    unfold hdF
    rw [if_neg (show ¬ k = i by omega), hdF_neg hi m _ _ (by omega), hdF_neg hi m _ _ hk]
    split <;> rfl
theorem hdF_cong {p p' : Int → Bool} {i : Int} : ∀ (m : Nat) (h k : Int), (∀ j, h ≤ j → j < h + m → p j = p' j) → hdF p i m h k = hdF p' i m h k
  | 0, _, _, _ => rfl
  | m + 1, h, k, e => by
    unfold hdF
    rw [e h (by omega) (by omega), hdF_cong m (h + 1) (k + 1) (fun j j0 j1 => e j (by omega) (by omega)), hdF_cong m (h + 1) k (fun j j0 j1 => e j (by omega) (by omega))]
section HD
variable {n L d : Nat} {G : XG} {V : Nat → Int → Int}
theorem x_heldAt_lp {i : Int} (hG : Good n L G) (hs : V 344 3 ≤ 145) : ∀ (m : Nat) (h k : Int), 0 ≤ h → h + m = V 344 3 → 0 ≤ k ∧ k ≤ h → run d 407 4 [xR 344, xI i, xI k, xI h] [] (V, G) = some (some (xI ((hdF (fun h => decide (¬ V 347 h = 0)) i m h k).getD (-1))), (V, G)) := by
  intro m
  induction m with
  | zero =>
    intro h k h0 hm hk
    rw [bk407_4]
    simp (disch := first | omega | exact Nat.le_of_ble_eq_true rfl) only [bk407_0, bk407_24, bk407_31, bk407_34, bk407_40, Int.reduceToNat, vA_ap, Nat.reduceEqDiff, if_true, if_false, bx_nil, isL_I, isL_R, isL_U, if_ff, bind_some, tl_some, tl_none, bx_iconst, bx_istore_2, bx_istore_3, bx_iload_3, bx_aload_0, gf344_3 hG, bx_ic_ge, gf344_8 hG, ia347 hG, is347 hG, bx_if_ne, bx_goto, bx_iload_2, bx_iload_1, bx_ic_ne, bx_iret, bx_iinc2, bx_iinc3, if_pos (show V 344 3 ≤ h by omega)]
    rfl
  | succ m ih =>
    intro h k h0 hm hk
    rw [bk407_4]
    unfold hdF
    by_cases a : V 347 h = 0
    · simp (disch := first | omega | exact Nat.le_of_ble_eq_true rfl) only [bk407_0, bk407_24, bk407_31, bk407_34, bk407_40, Int.reduceToNat, vA_ap, Nat.reduceEqDiff, if_true, if_false, bx_nil, isL_I, isL_R, isL_U, if_ff, bind_some, tl_some, tl_none, bx_iconst, bx_istore_2, bx_istore_3, bx_iload_3, bx_aload_0, gf344_3 hG, bx_ic_ge, gf344_8 hG, ia347 hG, is347 hG, bx_if_ne, bx_goto, bx_iload_2, bx_iload_1, bx_ic_ne, bx_iret, bx_iinc2, bx_iinc3, if_neg (show ¬ V 344 3 ≤ h by omega), if_pos a]
      rw [ih (h + 1) k (by omega) (by omega) (by omega), if_neg (by simp [a])]
    · rw [if_pos (by simp [a])]
      by_cases b : k = i
      · simp (disch := first | omega | exact Nat.le_of_ble_eq_true rfl) only [bk407_0, bk407_24, bk407_31, bk407_34, bk407_40, Int.reduceToNat, vA_ap, Nat.reduceEqDiff, if_true, if_false, bx_nil, isL_I, isL_R, isL_U, if_ff, bind_some, tl_some, tl_none, bx_iconst, bx_istore_2, bx_istore_3, bx_iload_3, bx_aload_0, gf344_3 hG, bx_ic_ge, gf344_8 hG, ia347 hG, is347 hG, bx_if_ne, bx_goto, bx_iload_2, bx_iload_1, bx_ic_ne, bx_iret, bx_iinc2, bx_iinc3, if_neg (show ¬ V 344 3 ≤ h by omega), if_neg a, if_pos b]
        rfl
      · simp (disch := first | omega | exact Nat.le_of_ble_eq_true rfl) only [bk407_0, bk407_24, bk407_31, bk407_34, bk407_40, Int.reduceToNat, vA_ap, Nat.reduceEqDiff, if_true, if_false, bx_nil, isL_I, isL_R, isL_U, if_ff, bind_some, tl_some, tl_none, bx_iconst, bx_istore_2, bx_istore_3, bx_iload_3, bx_aload_0, gf344_3 hG, bx_ic_ge, gf344_8 hG, ia347 hG, is347 hG, bx_if_ne, bx_goto, bx_iload_2, bx_iload_1, bx_ic_ne, bx_iret, bx_iinc2, bx_iinc3, if_neg (show ¬ V 344 3 ≤ h by omega), if_neg a, if_neg b]
        rw [ih (h + 1) (k + 1) (by omega) (by omega) (by omega)]
theorem xp_held {i : Int} (hG : Good n L G) (hs : 0 ≤ V 344 3 ∧ V 344 3 ≤ 145) : run (d + 1) 1029 0 [xR 1, xI i] [] (V, G) = some (some (xI (if V 344 2 = 0 then -3 else if i = -1 then V 344 5 else (hdF (fun h => decide (¬ V 347 h = 0)) i (V 344 3).toNat 0 0).getD (-1))), (V, G)) := by
  by_cases a : V 344 2 = 0
  · simp (disch := first | omega | exact Nat.le_of_ble_eq_true rfl) only [bk1029_0, bk1029_13, bk1029_28, bk1029_36, Int.reduceToNat, vA_ap, Nat.reduceEqDiff, if_true, if_false, bx_nil, isL_I, isL_R, isL_U, if_ff, bind_some, tl_some, tl_none, bx_aload_0, gf1_8 hG, gf344_2 hG, bx_if_ne, bx_bipush, bx_iret, bx_iload_1, bx_iconst, bx_ic_ne, gf344_5 hG, bx_goto, cl407 hG, if_pos a]
  · by_cases b : i = -1
    · simp (disch := first | omega | exact Nat.le_of_ble_eq_true rfl) only [bk1029_0, bk1029_13, bk1029_28, bk1029_36, Int.reduceToNat, vA_ap, Nat.reduceEqDiff, if_true, if_false, bx_nil, isL_I, isL_R, isL_U, if_ff, bind_some, tl_some, tl_none, bx_aload_0, gf1_8 hG, gf344_2 hG, bx_if_ne, bx_bipush, bx_iret, bx_iload_1, bx_iconst, bx_ic_ne, gf344_5 hG, bx_goto, cl407 hG, if_neg a, if_pos b]
    · have hh : run d 407 0 [xR 344, xI i, xU, xU] [] (V, G) = some (some (xI ((hdF (fun h => decide (¬ V 347 h = 0)) i (V 344 3).toNat 0 0).getD (-1))), (V, G)) := by
        simp (disch := first | omega | exact Nat.le_of_ble_eq_true rfl) only [bk407_0, bk407_24, bk407_31, bk407_34, bk407_40, Int.reduceToNat, vA_ap, Nat.reduceEqDiff, if_true, if_false, bx_nil, isL_I, isL_R, isL_U, if_ff, bind_some, tl_some, tl_none, bx_iconst, bx_istore_2, bx_istore_3, bx_iload_3, bx_aload_0, gf344_3 hG, bx_ic_ge, gf344_8 hG, ia347 hG, is347 hG, bx_if_ne, bx_goto, bx_iload_2, bx_iload_1, bx_ic_ne, bx_iret, bx_iinc2, bx_iinc3]
        exact x_heldAt_lp hG hs.2 _ 0 0 (by omega) (by omega) (by omega)
      simp (disch := first | omega | exact Nat.le_of_ble_eq_true rfl) only [bk1029_0, bk1029_13, bk1029_28, bk1029_36, Int.reduceToNat, vA_ap, Nat.reduceEqDiff, if_true, if_false, bx_nil, isL_I, isL_R, isL_U, if_ff, bind_some, tl_some, tl_none, bx_aload_0, gf1_8 hG, gf344_2 hG, bx_if_ne, bx_bipush, bx_iret, bx_iload_1, bx_iconst, bx_ic_ne, gf344_5 hG, bx_goto, cl407 hG, if_neg a, if_neg b, hh]
theorem m_held_lp {i : Int} (hG : Good n L G) (hs : V 376 48 ≤ 289) : ∀ (m : Nat) (h k : Int), 0 ≤ h → h + m = V 376 48 → 0 ≤ k ∧ k ≤ h → run d 1158 14 [xR 376, xI i, xI k, xI h] [] (V, G) = some (some (xI ((hdF (fun h => decide (¬ V 409 h = 0)) i m h k).getD (if i = -1 then k + cntF (fun h => decide (¬ V 409 h = 0)) m h else -1))), (V, G)) := by
  intro m
  induction m with
  | zero =>
    intro h k h0 hm hk
    rw [bk1158_14]
    show _ = some (some (xI (if i = -1 then k + 0 else -1)), (V, G))
    by_cases b : i = -1
    · simp (disch := first | omega | exact Nat.le_of_ble_eq_true rfl) only [bk1158_0, bk1158_10, bk1158_34, bk1158_41, bk1158_44, bk1158_50, bk1158_59, bk1158_60, Int.reduceToNat, vA_ap, Nat.reduceEqDiff, if_true, if_false, bx_nil, isL_I, isL_R, isL_U, if_ff, bind_some, tl_some, tl_none, bx_aload_0, gf376_50 hG, bx_if_ne, bx_bipush, bx_iret, bx_iconst, bx_istore_2, bx_istore_3, bx_iload_3, gf376_48 hG, bx_ic_ge, gf376_46 hG, ia409 hG, is409 hG, bx_goto, bx_iload_2, bx_iload_1, bx_ic_ne, bx_iinc2, bx_iinc3, if_pos (show V 376 48 ≤ h by omega), if_pos b, Int.add_zero]
    · simp (disch := first | omega | exact Nat.le_of_ble_eq_true rfl) only [bk1158_0, bk1158_10, bk1158_34, bk1158_41, bk1158_44, bk1158_50, bk1158_59, bk1158_60, Int.reduceToNat, vA_ap, Nat.reduceEqDiff, if_true, if_false, bx_nil, isL_I, isL_R, isL_U, if_ff, bind_some, tl_some, tl_none, bx_aload_0, gf376_50 hG, bx_if_ne, bx_bipush, bx_iret, bx_iconst, bx_istore_2, bx_istore_3, bx_iload_3, gf376_48 hG, bx_ic_ge, gf376_46 hG, ia409 hG, is409 hG, bx_goto, bx_iload_2, bx_iload_1, bx_ic_ne, bx_iinc2, bx_iinc3, if_pos (show V 376 48 ≤ h by omega), if_neg b]
  | succ m ih =>
    intro h k h0 hm hk
    rw [bk1158_14]
    unfold hdF cntF
    by_cases a : V 409 h = 0
    · simp (disch := first | omega | exact Nat.le_of_ble_eq_true rfl) only [bk1158_0, bk1158_10, bk1158_34, bk1158_41, bk1158_44, bk1158_50, bk1158_59, bk1158_60, Int.reduceToNat, vA_ap, Nat.reduceEqDiff, if_true, if_false, bx_nil, isL_I, isL_R, isL_U, if_ff, bind_some, tl_some, tl_none, bx_aload_0, gf376_50 hG, bx_if_ne, bx_bipush, bx_iret, bx_iconst, bx_istore_2, bx_istore_3, bx_iload_3, gf376_48 hG, bx_ic_ge, gf376_46 hG, ia409 hG, is409 hG, bx_goto, bx_iload_2, bx_iload_1, bx_ic_ne, bx_iinc2, bx_iinc3, if_neg (show ¬ V 376 48 ≤ h by omega), if_pos a]
      have e1 : ¬ (decide (¬ V 409 h = 0) = true) := by simp [a]
      rw [ih (h + 1) k (by omega) (by omega) (by omega), if_neg e1, if_neg e1, Int.zero_add]
    · have e1 : decide (¬ V 409 h = 0) = true := by simp [a]
      rw [if_pos e1, if_pos e1]
      by_cases b : k = i
      · simp (disch := first | omega | exact Nat.le_of_ble_eq_true rfl) only [bk1158_0, bk1158_10, bk1158_34, bk1158_41, bk1158_44, bk1158_50, bk1158_59, bk1158_60, Int.reduceToNat, vA_ap, Nat.reduceEqDiff, if_true, if_false, bx_nil, isL_I, isL_R, isL_U, if_ff, bind_some, tl_some, tl_none, bx_aload_0, gf376_50 hG, bx_if_ne, bx_bipush, bx_iret, bx_iconst, bx_istore_2, bx_istore_3, bx_iload_3, gf376_48 hG, bx_ic_ge, gf376_46 hG, ia409 hG, is409 hG, bx_goto, bx_iload_2, bx_iload_1, bx_ic_ne, bx_iinc2, bx_iinc3, if_neg (show ¬ V 376 48 ≤ h by omega), if_neg a, if_pos b]
        rfl
      · simp (disch := first | omega | exact Nat.le_of_ble_eq_true rfl) only [bk1158_0, bk1158_10, bk1158_34, bk1158_41, bk1158_44, bk1158_50, bk1158_59, bk1158_60, Int.reduceToNat, vA_ap, Nat.reduceEqDiff, if_true, if_false, bx_nil, isL_I, isL_R, isL_U, if_ff, bind_some, tl_some, tl_none, bx_aload_0, gf376_50 hG, bx_if_ne, bx_bipush, bx_iret, bx_iconst, bx_istore_2, bx_istore_3, bx_iload_3, gf376_48 hG, bx_ic_ge, gf376_46 hG, ia409 hG, is409 hG, bx_goto, bx_iload_2, bx_iload_1, bx_ic_ne, bx_iinc2, bx_iinc3, if_neg (show ¬ V 376 48 ≤ h by omega), if_neg a, if_neg b]
        rw [ih (h + 1) (k + 1) (by omega) (by omega) (by omega), Int.add_assoc]
theorem mp_held {i : Int} (hG : Good n L G) (hs : 0 ≤ V 376 48 ∧ V 376 48 ≤ 289) : run d 1158 0 [xR 376, xI i, xU, xU] [] (V, G) = some (some (xI (if V 376 50 = 0 then -3 else if i = -1 then cntF (fun h => decide (¬ V 409 h = 0)) (V 376 48).toNat 0 else (hdF (fun h => decide (¬ V 409 h = 0)) i (V 376 48).toNat 0 0).getD (-1))), (V, G)) := by
  by_cases a : V 376 50 = 0
  · simp (disch := first | omega | exact Nat.le_of_ble_eq_true rfl) only [bk1158_0, bk1158_10, bk1158_34, bk1158_41, bk1158_44, bk1158_50, bk1158_59, bk1158_60, Int.reduceToNat, vA_ap, Nat.reduceEqDiff, if_true, if_false, bx_nil, isL_I, isL_R, isL_U, if_ff, bind_some, tl_some, tl_none, bx_aload_0, gf376_50 hG, bx_if_ne, bx_bipush, bx_iret, bx_iconst, bx_istore_2, bx_istore_3, bx_iload_3, gf376_48 hG, bx_ic_ge, gf376_46 hG, ia409 hG, is409 hG, bx_goto, bx_iload_2, bx_iload_1, bx_ic_ne, bx_iinc2, bx_iinc3, if_pos a]
  · have hh := m_held_lp (d := d) (i := i) (V := V) hG hs.2 (V 376 48).toNat 0 0 (by omega) (by omega) (by omega)
    simp (disch := first | omega | exact Nat.le_of_ble_eq_true rfl) only [bk1158_0, bk1158_10, bk1158_34, bk1158_41, bk1158_44, bk1158_50, bk1158_59, bk1158_60, Int.reduceToNat, vA_ap, Nat.reduceEqDiff, if_true, if_false, bx_nil, isL_I, isL_R, isL_U, if_ff, bind_some, tl_some, tl_none, bx_aload_0, gf376_50 hG, bx_if_ne, bx_bipush, bx_iret, bx_iconst, bx_istore_2, bx_istore_3, bx_iload_3, gf376_48 hG, bx_ic_ge, gf376_46 hG, ia409 hG, is409 hG, bx_goto, bx_iload_2, bx_iload_1, bx_ic_ne, bx_iinc2, bx_iinc3, if_neg a]
    rw [hh]
    by_cases b : i = -1
    · rw [hdF_neg (by omega) _ _ _ (by omega), if_pos b, if_pos b, Int.zero_add]
      rfl
    · rw [if_neg b, if_neg b]
/-- how many are held, by the class's number -/
theorem held_cnt (h : prbP n V) (hb : ¬ V 344 2 = 0) : V 344 5 = cntF (fun h => decide (¬ V 409 h = 0)) (V 376 48).toNat 0 ∧ V 376 48 = V 344 3 ∧ (1 ≤ V 344 3 ∧ V 344 3 ≤ 145) := by
  obtain ⟨p1, p2, p3⟩ := h
  obtain ⟨q1, q2, q3, q4, q5, q6, q7, q8, q9⟩ := p3 (by omega)
  refine ⟨?_, q1, by omega⟩
  rw [q9, q1]
  refine cntF_cong _ _ (fun j j0 j1 => ?_)
  have := q8 j j0 (by omega)
  rw [this.1]
  rcases this.2 with e | e <;> simp [e]
theorem pr_held {i : Int} (hG : Good n L G) (h : Inv n V) : pair n G V 1029 1158 [xR 1, xI i] [xR 376, xI i, xU, xU] := by
  obtain ⟨p1, p2, p3⟩ := h.prb
  by_cases a : V 344 2 = 0
  · refine mkpair (r := -3) (V' := V) (V'' := V) ?_ ?_ h
    · simp (disch := first | omega | exact Nat.le_of_ble_eq_true rfl) only [bk1029_0, bk1029_13, bk1029_28, bk1029_36, Int.reduceToNat, vA_ap, Nat.reduceEqDiff, if_true, if_false, bx_nil, isL_I, isL_R, isL_U, if_ff, bind_some, tl_some, tl_none, bx_aload_0, gf1_8 hG, gf344_2 hG, bx_if_ne, bx_bipush, bx_iret, bx_iload_1, bx_iconst, bx_ic_ne, gf344_5 hG, bx_goto, cl407 hG, if_pos a]
    · simp (disch := first | omega | exact Nat.le_of_ble_eq_true rfl) only [bk1158_0, bk1158_10, bk1158_34, bk1158_41, bk1158_44, bk1158_50, bk1158_59, bk1158_60, Int.reduceToNat, vA_ap, Nat.reduceEqDiff, if_true, if_false, bx_nil, isL_I, isL_R, isL_U, if_ff, bind_some, tl_some, tl_none, bx_aload_0, gf376_50 hG, bx_if_ne, bx_bipush, bx_iret, bx_iconst, bx_istore_2, bx_istore_3, bx_iload_3, gf376_48 hG, bx_ic_ge, gf376_46 hG, ia409 hG, is409 hG, bx_goto, bx_iload_2, bx_iload_1, bx_ic_ne, bx_iinc2, bx_iinc3, p1, if_pos a]
  · obtain ⟨c1, c2, c3⟩ := held_cnt h.prb a
    have hx := xp_held (d := 798) (i := i) (V := V) hG (by omega)
    have hm := mp_held (d := 799) (i := i) (V := V) hG (by omega)
    refine mkpair hx (hm.trans ?_) h
    rw [p1, if_neg a, if_neg a, c1, c2]
    obtain ⟨q1, q2, q3, q4, q5, q6, q7, q8, q9⟩ := p3 (by omega)
    rw [hdF_cong (p := fun h => decide (¬ V 409 h = 0)) (p' := fun h => decide (¬ V 347 h = 0)) _ 0 0 (fun j j0 j1 => by rw [(q8 j j0 (by omega)).1])]
end HD
