/-! PROGRAM: rows of works of both sides -/
/-- a row of the class and a row of the reference say the same -/
def rowQ (n : Nat) (s : RS) (z : Int) (f : Int → Int) : Prop := s.1 = z ∧ (0 ≤ z ∧ z ≤ 11) ∧ (z ≤ 10 → ∀ w, 0 ≤ w → w < z → f w = 100 * s.2.1 w + s.2.2 w ∧ (0 ≤ s.2.1 w ∧ s.2.1 w + 1 < (n : Int)) ∧ (0 ≤ s.2.2 w ∧ s.2.2 w ≤ 95))
theorem rowQ_cong {n : Nat} {s : RS} {z z' : Int} {f f' : Int → Int} (h : rowQ n s z f) (ez : z' = z) (e : ∀ w, 0 ≤ w → w < 13 → f' w = f w) : rowQ n s z' f' := by
  subst ez
  obtain ⟨h1, h2, h3⟩ := h
  exact ⟨h1, h2, fun q w w0 w1 => by rw [e w w0 (by omega)]; exact h3 q w w0 w1⟩
theorem rowQ_add {n : Nat} {s : RS} {z u k : Int} {f : Int → Int} (h : rowQ n s z f) (hu : 0 ≤ u ∧ u + 1 < (n : Int)) (hk : 0 ≤ k ∧ k ≤ 95) : rowQ n (addR s u k) (if z = 11 then z else z + 1) (if z = 11 then f else vU f z (100 * u + k)) := by
  obtain ⟨h1, h2, h3⟩ := h
  unfold addR
  by_cases a : z = 11
  · rw [if_pos a, if_pos a, if_pos (by omega)]
    exact ⟨a.symm, h2, fun q => by omega⟩
  · rw [if_neg a, if_neg a]
    by_cases b : z = 10
    · rw [if_pos (by omega)]
      exact ⟨by show (11 : Int) = _; omega, by omega, fun q => by omega⟩
    · rw [if_neg (by omega)]
      refine ⟨by show s.1 + 1 = _; omega, by omega, fun q w w0 w1 => ?_⟩
      show vU f z (100 * u + k) w = 100 * vU s.2.1 s.1 u w + vU s.2.2 s.1 k w ∧ (0 ≤ vU s.2.1 s.1 u w ∧ vU s.2.1 s.1 u w + 1 < (n : Int)) ∧ (0 ≤ vU s.2.2 s.1 k w ∧ vU s.2.2 s.1 k w ≤ 95)
      rw [h1]
      by_cases e : w = z
      · rw [e, vU_at, vU_at, vU_at]
        exact ⟨rfl, hu, hk⟩
      · rw [vU_ne e, vU_ne e, vU_ne e]
        exact h3 (by omega) w w0 (by omega)
theorem adds_id {o : RS} : ∀ (m : Nat) (j : Int) (s : RS), s.1 = j → 0 ≤ j → j + m ≤ 10 → (adds o m j s).1 = j + m ∧ ∀ w, 0 ≤ w → w < j + m → (adds o m j s).2.1 w = (if w < j then s.2.1 w else o.2.1 w) ∧ (adds o m j s).2.2 w = (if w < j then s.2.2 w else o.2.2 w)
  | 0, j, s, h, h0, h1 => by
    refine ⟨by show s.1 = _; omega, fun w w0 w1 => ?_⟩
    rw [if_pos (by omega), if_pos (by omega)]
    exact ⟨rfl, rfl⟩
  | m + 1, j, s, h, h0, h1 => by
    have e : addR s (o.2.1 j) (o.2.2 j) = (s.1 + 1, vU s.2.1 s.1 (o.2.1 j), vU s.2.2 s.1 (o.2.2 j)) := by unfold addR; rw [if_neg (by omega)]
    obtain ⟨i1, i2⟩ := adds_id (o := o) m (j + 1) (addR s (o.2.1 j) (o.2.2 j)) (by rw [e]; show s.1 + 1 = _; omega) (by omega) (by omega)
    unfold adds
    refine ⟨by rw [i1]; omega, fun w w0 w1 => ?_⟩
    obtain ⟨k1, k2⟩ := i2 w w0 (by omega)
    rw [k1, k2, e, h]
    show (if w < j + 1 then vU s.2.1 j (o.2.1 j) w else o.2.1 w) = _ ∧ (if w < j + 1 then vU s.2.2 j (o.2.2 j) w else o.2.2 w) = _
    by_cases a : w < j
    · have a' : w < j + 1 := by omega
      have a2 : w ≠ j := by omega
      simp only [a, a', if_true, vU_ne a2]
      exact ⟨trivial, trivial⟩
    · rw [if_neg a, if_neg a]
      by_cases b : w = j
      · subst b
        have a' : w < w + 1 := by omega
        simp only [a', if_true, vU_at]
        exact ⟨trivial, trivial⟩
      · have a' : ¬ w < j + 1 := by omega
        simp only [a', if_false]
        exact ⟨trivial, trivial⟩
/-- a row is copied -/
theorem rowQ_copy {n : Nat} {a b : Int → Int} {o : RS} {z : Int} {f : Int → Int} (h : rowQ n o z f) : rowQ n (addAll (0, a, b) o) z f := by
  obtain ⟨h1, h2, h3⟩ := h
  unfold addAll
  by_cases q : 11 ≤ o.1
  · rw [if_pos q]
    exact ⟨by show (11 : Int) = _; omega, h2, fun y => by omega⟩
  · rw [if_neg q]
    obtain ⟨i1, i2⟩ := adds_id (o := o) o.1.toNat 0 (0, a, b) rfl (by omega) (by omega)
    refine ⟨by rw [i1]; omega, h2, fun y w w0 w1 => ?_⟩
    obtain ⟨k1, k2⟩ := i2 w w0 (by omega)
    rw [k1, k2, if_neg (by omega), if_neg (by omega)]
    exact h3 y w w0 w1
/-- the reference adds a number to the row it is in -/
def adM (V : Nat → Int → Int) (v : Int) : Nat → Int → Int := if V 396 (V 376 32) = 11 then V else vA (vA V 395 (vU (V 395) (13 * V 376 32 + V 396 (V 376 32)) v)) 396 (vU (V 396) (V 376 32) (V 396 (V 376 32) + 1))
def adL (g : Int → Int) : Nat → Int → (Nat → Int → Int) → Nat → Int → Int
  | 0, _, V => V
  | m + 1, j, V => adL g m (j + 1) (adM V (g j))
/-- W is V but for the row at D -/
def oth (D : Int) (V W : Nat → Int → Int) : Prop := (∀ k, k ≠ D → W 396 k = V 396 k) ∧ (∀ k w, k ≠ D → 0 ≤ w → w < 13 → W 395 (13 * k + w) = V 395 (13 * k + w)) ∧ ∀ b, b ≠ 395 → b ≠ 396 → W b = V b
theorem oth_rf {D : Int} {V : Nat → Int → Int} : oth D V V := ⟨fun _ _ => rfl, fun _ _ _ _ _ => rfl, fun _ _ _ => rfl⟩
theorem oth_tr {D : Int} {V W U : Nat → Int → Int} (a : oth D V W) (b : oth D W U) : oth D V U := ⟨fun k h => (b.1 k h).trans (a.1 k h), fun k w h w0 w1 => (b.2.1 k w h w0 w1).trans (a.2.1 k w h w0 w1), fun c h1 h2 => (b.2.2 c h1 h2).trans (a.2.2 c h1 h2)⟩
theorem adM_oth {V : Nat → Int → Int} {v : Int} (hz : 0 ≤ V 396 (V 376 32) ∧ V 396 (V 376 32) ≤ 11) : oth (V 376 32) V (adM V v) := by
  unfold adM
  by_cases a : V 396 (V 376 32) = 11
  · rw [if_pos a]; exact oth_rf
  · rw [if_neg a]
    refine ⟨fun k h => ?_, fun k w h w0 w1 => ?_, fun b h1 h2 => by rw [vA_ne h2, vA_ne h1]⟩
    · rw [vA_same, vU_ne h]
    · rw [vA_ne (by decide), vA_same, vU_ne (by omega)]
theorem adM_row {n : Nat} {V : Nat → Int → Int} {s : RS} {u k : Int} (h : rowQ n s (V 396 (V 376 32)) (fun w => V 395 (13 * V 376 32 + w))) (hu : 0 ≤ u ∧ u + 1 < (n : Int)) (hk : 0 ≤ k ∧ k ≤ 95) : rowQ n (addR s u k) (adM V (100 * u + k) 396 (V 376 32)) (fun w => adM V (100 * u + k) 395 (13 * V 376 32 + w)) := by
  have h1 := rowQ_add h hu hk
  unfold adM
  by_cases a : V 396 (V 376 32) = 11
  · rw [if_pos a] at h1 ⊢
    rw [if_pos a] at h1
    exact h1
  · rw [if_neg a] at h1 ⊢
    rw [if_neg a] at h1
    refine rowQ_cong h1 ?_ (fun w w0 w1 => ?_)
    · rw [vA_same, vU_at]
    · rw [vA_ne (by decide), vA_same]
      unfold vU
      by_cases e : w = V 396 (V 376 32)
      · rw [if_pos e, if_pos (by omega)]
      · rw [if_neg e, if_neg (by omega)]
theorem adM_sz {V : Nat → Int → Int} {v : Int} : adM V v 396 (V 376 32) = if V 396 (V 376 32) = 11 then 11 else V 396 (V 376 32) + 1 := by
  unfold adM
  by_cases a : V 396 (V 376 32) = 11
  · rw [if_pos a, if_pos a]; exact a
  · rw [if_neg a, if_neg a, vA_same, vU_at]
theorem adM_m {V : Nat → Int → Int} {v : Int} : adM V v 376 = V 376 := by
  unfold adM
  by_cases a : V 396 (V 376 32) = 11
  · rw [if_pos a]
  · rw [if_neg a]; rfl
theorem adL_oth {g : Int → Int} : ∀ (m : Nat) (j : Int) (V : Nat → Int → Int), (0 ≤ V 396 (V 376 32) ∧ V 396 (V 376 32) ≤ 11) → oth (V 376 32) V (adL g m j V) ∧ adL g m j V 396 (V 376 32) = (if V 396 (V 376 32) + m < 11 then V 396 (V 376 32) + m else 11)
  | 0, j, V, h => by
    refine ⟨oth_rf, ?_⟩
    show V 396 (V 376 32) = _
    split <;> omega
  | m + 1, j, V, h => by
    have e := adM_sz (V := V) (v := g j)
    have e2 := adM_m (V := V) (v := g j)
    have h2 : 0 ≤ adM V (g j) 396 (V 376 32) ∧ adM V (g j) 396 (V 376 32) ≤ 11 := by
      rw [e]; split <;> omega
    obtain ⟨i1, i2⟩ := adL_oth (g := g) m (j + 1) (adM V (g j)) (by rw [e2]; exact h2)
    rw [e2] at i1 i2
    unfold adL
    refine ⟨oth_tr (adM_oth h) i1, ?_⟩
    rw [i2, e]
    by_cases a : V 396 (V 376 32) = 11
    · rw [if_pos a, if_neg (by omega), if_neg (by omega)]
    · rw [if_neg a]
      by_cases b : V 396 (V 376 32) + 1 + (m : Int) < 11
      · rw [if_pos b, if_pos (by omega)]; omega
      · rw [if_neg b, if_neg (by omega)]
theorem adL_row {n : Nat} {g : Int → Int} {o : RS} : ∀ (m : Nat) (j : Int) (V : Nat → Int → Int) (s : RS), rowQ n s (V 396 (V 376 32)) (fun w => V 395 (13 * V 376 32 + w)) → (∀ w, j ≤ w → w < j + m → g w = 100 * o.2.1 w + o.2.2 w ∧ (0 ≤ o.2.1 w ∧ o.2.1 w + 1 < (n : Int)) ∧ (0 ≤ o.2.2 w ∧ o.2.2 w ≤ 95)) → rowQ n (adds o m j s) (adL g m j V 396 (V 376 32)) (fun w => adL g m j V 395 (13 * V 376 32 + w))
  | 0, j, V, s, h, _ => h
  | m + 1, j, V, s, h, hg => by
    obtain ⟨g1, g2, g3⟩ := hg j (by omega) (by omega)
    have e2 := adM_m (V := V) (v := g j)
    have h2 := adM_row h g2 g3
    rw [← g1] at h2
    have i := adL_row (n := n) (g := g) (o := o) m (j + 1) (adM V (g j)) (addR s (o.2.1 j) (o.2.2 j)) (by rw [e2]; exact h2) (fun w w0 w1 => hg w (by omega) (by omega))
    rw [e2] at i
    exact i
/-- all of one row behind another -/
theorem adL_all {n : Nat} {V : Nat → Int → Int} {g : Int → Int} {s o : RS} {z : Int} (h : rowQ n s (V 396 (V 376 32)) (fun w => V 395 (13 * V 376 32 + w))) (ho : rowQ n o z g) : rowQ n (addAll s o) (adL g z.toNat 0 V 396 (V 376 32)) (fun w => adL g z.toNat 0 V 395 (13 * V 376 32 + w)) := by
  obtain ⟨o1, o2, o3⟩ := ho
  unfold addAll
  by_cases q : 11 ≤ o.1
  · rw [if_pos q]
    have := (adL_oth (g := g) z.toNat 0 V h.2.1).2
    rw [if_neg (by have := h.2.1; omega)] at this
    exact ⟨by rw [this], by omega, fun y => by omega⟩
  · rw [if_neg q, o1]
    exact adL_row _ 0 V s h (fun w w0 w1 => o3 (by omega) w w0 (by omega))
section MA
variable {n L d : Nat} {G : XG} {V : Nat → Int → Int}
theorem m_adds {v : Int} (hG : Good n L G) (hd : 0 ≤ V 376 32 ∧ V 376 32 ≤ 50) (hz : 0 ≤ V 396 (V 376 32) ∧ V 396 (V 376 32) ≤ 11) : run d 1139 0 [xR 376, xI v] [] (V, G) = some (none, (adM V v, G)) := by
  unfold adM
  by_cases a : V 396 (V 376 32) = 11
  · rw [if_pos a]
    simp (disch := first | omega | exact Nat.le_of_ble_eq_true rfl) only [bk1139_0, bk1139_15, Int.reduceToNat, vA_ap, Nat.reduceEqDiff, if_true, if_false, bx_nil, isL_I, isL_R, isL_U, if_ff, bind_some, tl_some, tl_none, bx_aload_0, gf376_25 hG, ia396 hG, is396 hG, gf376_32 hG, bx_bipush, bx_ic_ne, bx_vret, gf376_24 hG, ia395 hG, is395 hG, bx_imul, bx_iadd, bx_iload_1, bx_dup2, bx_iconst, if_pos a]
  · rw [if_neg a]
    simp (disch := first | omega | exact Nat.le_of_ble_eq_true rfl) only [bk1139_0, bk1139_15, Int.reduceToNat, vA_ap, Nat.reduceEqDiff, if_true, if_false, bx_nil, isL_I, isL_R, isL_U, if_ff, bind_some, tl_some, tl_none, bx_aload_0, gf376_25 hG, ia396 hG, is396 hG, gf376_32 hG, bx_bipush, bx_ic_ne, bx_vret, gf376_24 hG, ia395 hG, is395 hG, bx_imul, bx_iadd, bx_iload_1, bx_dup2, bx_iconst, if_neg a]
/-- the loop of uses -/
theorem m_uses_lp {name : Int} (hG : Good n L G) (hn : 0 ≤ name ∧ name < 6) : ∀ (m : Nat) (j : Int) (V : Nat → Int → Int), 0 ≤ j → j + m = V 399 name → V 399 name ≤ 11 → (0 ≤ V 376 32 ∧ V 376 32 ≤ 50) → (0 ≤ V 396 (V 376 32) ∧ V 396 (V 376 32) ≤ 11) → run (d + 1) 1141 29 [xR 376, xI name, xI j] [] (V, G) = some (none, (adL (fun w => V 398 (11 * name + w)) m j V, G)) := by
  intro m
  induction m with
  | zero =>
    intro j V j0 hj h11 hd hz
    rw [bk1141_29]
    simp (disch := first | omega | exact Nat.le_of_ble_eq_true rfl) only [bk1141_0, bk1141_26, bk1141_27, bk1141_60, Int.reduceToNat, vA_ap, Nat.reduceEqDiff, if_true, if_false, bx_nil, isL_I, isL_R, isL_U, if_ff, bind_some, tl_some, tl_none, bx_aload_0, gf376_29 hG, ia400 hG, is400 hG, bx_iload_1, bx_if_ne, gf376_33 hG, bx_if_ge, gf376_31 hG, bx_iconst, bx_isub, pf376_33 hG, bx_vret, bx_istore_2, bx_iload_2, gf376_28 hG, ia399 hG, is399 hG, bx_ic_ge, gf376_27 hG, ia398 hG, is398 hG, bx_bipush, bx_imul, bx_iadd, cl1139 hG, bx_iinc2, bx_goto, if_pos (show V 399 name ≤ j by omega)]
    rfl
  | succ m ih =>
    intro j V j0 hj h11 hd hz
    rw [bk1141_29]
    simp (disch := first | omega | exact Nat.le_of_ble_eq_true rfl) only [bk1141_0, bk1141_26, bk1141_27, bk1141_60, Int.reduceToNat, vA_ap, Nat.reduceEqDiff, if_true, if_false, bx_nil, isL_I, isL_R, isL_U, if_ff, bind_some, tl_some, tl_none, bx_aload_0, gf376_29 hG, ia400 hG, is400 hG, bx_iload_1, bx_if_ne, gf376_33 hG, bx_if_ge, gf376_31 hG, bx_iconst, bx_isub, pf376_33 hG, bx_vret, bx_istore_2, bx_iload_2, gf376_28 hG, ia399 hG, is399 hG, bx_ic_ge, gf376_27 hG, ia398 hG, is398 hG, bx_bipush, bx_imul, bx_iadd, cl1139 hG, bx_iinc2, bx_goto, if_neg (show ¬ V 399 name ≤ j by omega), m_adds hG hd hz]
    have o := (adM_oth (v := V 398 (11 * name + j)) hz).2.2
    have e1 := o 399 (by decide) (by decide)
    have e2 := o 398 (by decide) (by decide)
    have e3 := o 376 (by decide) (by decide)
    have e4 := adM_sz (V := V) (v := V 398 (11 * name + j))
    have h := ih (j + 1) (adM V (V 398 (11 * name + j))) (by omega) (by rw [e1]; omega) (by rw [e1]; exact h11) (by rw [e3]; exact hd) (by rw [e3, e4]; split <;> omega)
    rw [e2] at h
    exact h
theorem m_uses {name : Int} (hG : Good n L G) (hn : 0 ≤ name ∧ name < 6) (hs : V 400 name = 1 → 0 ≤ V 399 name ∧ V 399 name ≤ 11) (hd : 0 ≤ V 376 32 ∧ V 376 32 ≤ 50) (hz : 0 ≤ V 396 (V 376 32) ∧ V 396 (V 376 32) ≤ 11) (ht : V 400 name = 0 ∨ V 400 name = 1) (ha : 0 ≤ V 376 31 ∧ V 376 31 ≤ 100) : run (d + 1) 1141 0 [xR 376, xI name, xU] [] (V, G) = some (none, ((if V 400 name = 0 then (if V 376 33 < 0 then vA V 376 (vU (V 376) 33 (V 376 31 - 1)) else V) else adL (fun w => V 398 (11 * name + w)) (V 399 name).toNat 0 V), G)) := by
  by_cases a : V 400 name = 0
  · rw [if_pos a]
    by_cases b : V 376 33 < 0
    · rw [if_pos b]
      simp (disch := first | omega | exact Nat.le_of_ble_eq_true rfl) only [bk1141_0, bk1141_26, bk1141_27, bk1141_60, Int.reduceToNat, vA_ap, Nat.reduceEqDiff, if_true, if_false, bx_nil, isL_I, isL_R, isL_U, if_ff, bind_some, tl_some, tl_none, bx_aload_0, gf376_29 hG, ia400 hG, is400 hG, bx_iload_1, bx_if_ne, gf376_33 hG, bx_if_ge, gf376_31 hG, bx_iconst, bx_isub, pf376_33 hG, bx_vret, bx_istore_2, bx_iload_2, gf376_28 hG, ia399 hG, is399 hG, bx_ic_ge, gf376_27 hG, ia398 hG, is398 hG, bx_bipush, bx_imul, bx_iadd, cl1139 hG, bx_iinc2, bx_goto, if_pos a, if_neg (show ¬ 0 ≤ V 376 33 by omega)]
    · rw [if_neg b]
      simp (disch := first | omega | exact Nat.le_of_ble_eq_true rfl) only [bk1141_0, bk1141_26, bk1141_27, bk1141_60, Int.reduceToNat, vA_ap, Nat.reduceEqDiff, if_true, if_false, bx_nil, isL_I, isL_R, isL_U, if_ff, bind_some, tl_some, tl_none, bx_aload_0, gf376_29 hG, ia400 hG, is400 hG, bx_iload_1, bx_if_ne, gf376_33 hG, bx_if_ge, gf376_31 hG, bx_iconst, bx_isub, pf376_33 hG, bx_vret, bx_istore_2, bx_iload_2, gf376_28 hG, ia399 hG, is399 hG, bx_ic_ge, gf376_27 hG, ia398 hG, is398 hG, bx_bipush, bx_imul, bx_iadd, cl1139 hG, bx_iinc2, bx_goto, if_pos a, if_pos (show 0 ≤ V 376 33 by omega)]
  · have a1 : V 400 name = 1 := ht.resolve_left a
    have s1 := hs a1
    rw [if_neg a]
    simp (disch := first | omega | exact Nat.le_of_ble_eq_true rfl) only [bk1141_0, bk1141_26, bk1141_27, bk1141_60, Int.reduceToNat, vA_ap, Nat.reduceEqDiff, if_true, if_false, bx_nil, isL_I, isL_R, isL_U, if_ff, bind_some, tl_some, tl_none, bx_aload_0, gf376_29 hG, ia400 hG, is400 hG, bx_iload_1, bx_if_ne, gf376_33 hG, bx_if_ge, gf376_31 hG, bx_iconst, bx_isub, pf376_33 hG, bx_vret, bx_istore_2, bx_iload_2, gf376_28 hG, ia399 hG, is399 hG, bx_ic_ge, gf376_27 hG, ia398 hG, is398 hG, bx_bipush, bx_imul, bx_iadd, cl1139 hG, bx_iinc2, bx_goto, if_neg a]
    exact m_uses_lp hG hn _ 0 V (by omega) (by omega) s1.2 hd hz
theorem m_opens {how : Int} (hG : Good n L G) (hd : 0 ≤ V 376 32 ∧ V 376 32 ≤ 49) : run d 1142 0 [xR 376, xI how] [] (V, G) = some (none, (vA (vA (vA V 376 (vU (V 376) 32 (V 376 32 + 1))) 396 (vU (V 396) (V 376 32 + 1) 0)) 397 (vU (V 397) (V 376 32 + 1) how), G)) := by
  have e1 : vU (V 376) 32 (V 376 32 + 1) 32 = V 376 32 + 1 := vU_at _ _ _
  simp (disch := first | omega | exact Nat.le_of_ble_eq_true rfl) only [bk1142_0, Int.reduceToNat, vA_ap, Nat.reduceEqDiff, if_true, if_false, bx_nil, isL_I, isL_R, isL_U, if_ff, bind_some, tl_some, tl_none, bx_aload_0, bx_dupI, bx_dupR, gf376_32 hG, bx_iconst, bx_iadd, pf376_32 hG, gf376_25 hG, ia396 hG, is396 hG, gf376_26 hG, ia397 hG, is397 hG, bx_iload_1, bx_vret, e1]
end MA
