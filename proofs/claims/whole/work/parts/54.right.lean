/-! RIGHT -/
def sm (f : Int → Int) : Nat → Int
  | 0 => 0
  | m + 1 => sm f m + f m
theorem sm_cong {f g : Int → Int} : ∀ (m : Nat), (∀ j, 0 ≤ j → j < (m : Int) → f j = g j) → sm f m = sm g m
  | 0, _ => rfl
  | m + 1, h => by
    unfold sm
    rw [sm_cong m (fun j a b => h j a (by omega)), h m (by omega) (by omega)]
theorem sm_bd {f : Int → Int} {B : Int} (hB : 0 ≤ B) : ∀ (m : Nat), (∀ j, 0 ≤ j → j < (m : Int) → 0 ≤ f j ∧ f j ≤ B) → 0 ≤ sm f m ∧ sm f m ≤ m * B
  | 0, _ => by simp [sm]
  | m + 1, h => by
    have h1 := sm_bd hB m (fun j a b => h j a (by omega))
    have h2 := h m (by omega) (by omega)
    unfold sm
    have e : ((m + 1 : Nat) : Int) * B = m * B + B := by rw [Int.natCast_add, Int.add_mul, Int.natCast_one, Int.one_mul]
    omega
/-- two columns of the told table, multiplied -/
def dotT (n : Nat) (V : Nat → Int → Int) (a b : Int) : Int := sm (fun r => V 386 (6 * r + a) * V 386 (6 * r + b)) n
def rgtP (n : Nat) (V : Nat → Int → Int) (a b : Int) : Prop := dotT n V a b % 97 = if a = b then 1 else 0
theorem dotT_comm {n : Nat} {V : Nat → Int → Int} {a b : Int} : dotT n V a b = dotT n V b a := sm_cong n (fun j _ _ => Int.mul_comm _ _)
section RG
variable {n L d : Nat} {G : XG} {V : Nat → Int → Int}
theorem term_bd (h : tldP n V) (h6 : n ≤ 6) {a b r : Int} (ha : 0 ≤ a ∧ a < (n : Int)) (hb : 0 ≤ b ∧ b < (n : Int)) (hr : 0 ≤ r ∧ r < (n : Int)) : 0 ≤ V 386 (6 * r + a) * V 386 (6 * r + b) ∧ V 386 (6 * r + a) * V 386 (6 * r + b) ≤ 9216 := by
  have h1 := h r a hr.1 hr.2 ha.1 ha.2
  have h2 := h r b hr.1 hr.2 hb.1 hb.2
  exact mul_bd (A := 96) (B := 96) h1.2 h2.2
theorem dot_bd (h : tldP n V) (h6 : n ≤ 6) {a b : Int} (ha : 0 ≤ a ∧ a < (n : Int)) (hb : 0 ≤ b ∧ b < (n : Int)) (m : Nat) (hm : m ≤ n) : 0 ≤ sm (fun r => V 386 (6 * r + a) * V 386 (6 * r + b)) m ∧ sm (fun r => V 386 (6 * r + a) * V 386 (6 * r + b)) m ≤ 55296 := by
  have := sm_bd (B := 9216) (by omega) m (fun j j0 j1 => term_bd h h6 ha hb ⟨j0, by omega⟩)
  omega
theorem x_product {a b : Int} (hG : Good n L G) (hn : V 12 0 = n) (h6 : n ≤ 6) (h : tldP n V) (ha : 0 ≤ a ∧ a < (n : Int)) (hb : 0 ≤ b ∧ b < (n : Int)) : run d 803 0 [xR 12, xR (16 + a.toNat), xR (16 + b.toNat), xU, xU] [] (V, G) = some (some (xI (dotT n V a b % 97)), (V, G)) := by
  have h1 := it_up (D := d) (q := 803) (pc := 5) (loc := fun k => [xR 12, xR (16 + a.toNat), xR (16 + b.toNat), xI (sm (fun r => V 386 (6 * r + a) * V 386 (6 * r + b)) k.toNat), xI k]) (F := fun _ => (V, G)) (hi := n) n 0 (by omega) (fun k h1 h2 => by
    have e1 := (h k a h1 h2 ha.1 ha.2).1
    have e2 := (h k b h1 h2 hb.1 hb.2).1
    have t1 := term_bd h h6 ha hb ⟨h1, h2⟩
    have t2 := dot_bd h h6 ha hb k.toNat (by omega)
    have e3 : sm (fun r => V 386 (6 * r + a) * V 386 (6 * r + b)) (k + 1).toNat = sm (fun r => V 386 (6 * r + a) * V 386 (6 * r + b)) k.toNat + V 386 (6 * k + a) * V 386 (6 * k + b) := by
      rw [show (k + 1).toNat = k.toNat + 1 by omega]
      show sm _ _ + _ = _
      rw [show ((k.toNat : Nat) : Int) = k by omega]
    rw [bk803_5, e3]
    simp (disch := first | omega | exact Nat.le_of_ble_eq_true rfl) only [bk803_0, bk803_32, Int.reduceToNat, vA_ap, Nat.reduceEqDiff, if_true, if_false, bx_nil, isL_I, isL_R, isL_U, if_ff, bind_some, tl_some, tl_none, bx_iconst, bx_istore_3, bx_istore4, bx_iload4, bx_aload_0, gf12_0 hG, bx_ic_ge, bx_iload_3, bx_aload_1, bx_aload_2, bx_imul, bx_iadd, bx_iinc4, bx_goto, bx_bipush, bx_irem, bx_iret, hn, if_neg (show ¬ (n : Int) ≤ k by omega), ia16 hG h6, e1, e2])
  have e0 : sm (fun r => V 386 (6 * r + a) * V 386 (6 * r + b)) (0 : Int).toNat = 0 := rfl
  rw [e0, Int.toNat_natCast] at h1
  simp (disch := first | omega | exact Nat.le_of_ble_eq_true rfl) only [bk803_0, bk803_32, Int.reduceToNat, vA_ap, Nat.reduceEqDiff, if_true, if_false, bx_nil, isL_I, isL_R, isL_U, if_ff, bind_some, tl_some, tl_none, bx_iconst, bx_istore_3, bx_istore4, bx_iload4, bx_aload_0, gf12_0 hG, bx_ic_ge, bx_iload_3, bx_aload_1, bx_aload_2, bx_imul, bx_iadd, bx_iinc4, bx_goto, bx_bipush, bx_irem, bx_iret]
  rw [h1, bk803_5]
  have t2 := dot_bd h h6 ha hb n (by omega)
  simp (disch := first | omega | exact Nat.le_of_ble_eq_true rfl) only [bk803_0, bk803_32, Int.reduceToNat, vA_ap, Nat.reduceEqDiff, if_true, if_false, bx_nil, isL_I, isL_R, isL_U, if_ff, bind_some, tl_some, tl_none, bx_iconst, bx_istore_3, bx_istore4, bx_iload4, bx_aload_0, gf12_0 hG, bx_ic_ge, bx_iload_3, bx_aload_1, bx_aload_2, bx_imul, bx_iadd, bx_iinc4, bx_goto, bx_bipush, bx_irem, bx_iret, hn, if_pos (show (n : Int) ≤ n by omega), tm_pos t2.1 (show (0 : Int) < 97 by omega)]
  rfl
/-- how right answers -/
def rgtQ (n : Nat) (V : Nat → Int → Int) (G : XG) (z : XO) : Prop := ((∀ a b, 0 ≤ a → a < (n : Int) → 0 ≤ b → b < (n : Int) → rgtP n V a b) ∧ z = some (some (xI 1), (V, G))) ∨ ((∃ a b, (0 ≤ a ∧ a < (n : Int)) ∧ (0 ≤ b ∧ b < (n : Int)) ∧ ¬ rgtP n V a b) ∧ z = some (some (xI 0), (V, G)))
theorem x_isRight_in {a : Int} (hG : Good n L G) (hn : V 12 0 = n) (h6 : n ≤ 6) (h : tldP n V) (ha : 0 ≤ a ∧ a < (n : Int)) : ∀ (m : Nat) (b : Int), a ≤ b → b + m = n → ((∃ b', (b ≤ b' ∧ b' < (n : Int)) ∧ ¬ rgtP n V a b') ∧ run (d + 1) 802 12 [xR 12, xI a, xI b] [] (V, G) = some (some (xI 0), (V, G))) ∨ ((∀ b', b ≤ b' → b' < (n : Int) → rgtP n V a b') ∧ run (d + 1) 802 12 [xR 12, xI a, xI b] [] (V, G) = run (d + 1) 802 2 [xR 12, xI (a + 1), xI n] [] (V, G)) := by
  intro m
  induction m with
  | zero =>
    intro b hb hm
    right
    refine ⟨fun b' g1 g2 => by omega, ?_⟩
    rw [bk802_12]
    simp (disch := first | omega | exact Nat.le_of_ble_eq_true rfl) only [bk802_0, bk802_45, bk802_46, bk802_51, bk802_57, bk802_63, Int.reduceToNat, vA_ap, Nat.reduceEqDiff, if_true, if_false, bx_nil, isL_I, isL_R, isL_U, if_ff, bind_some, tl_some, tl_none, bx_iconst, bx_istore_1, bx_iload_1, bx_aload_0, gf12_0 hG, bx_ic_ge, bx_istore_2, bx_iload_2, gf12_2 hG, aa15 hG, cl803 hG, bx_ic_ne, bx_goto, bx_ic_eq, bx_zret, bx_iinc2, bx_iinc1, hn, if_pos (show (n : Int) ≤ b by omega)]
    rw [show b = n by omega]
  | succ m ih =>
    intro b hb hm
    have hp := x_product (d := d) hG hn h6 h ha (show 0 ≤ b ∧ b < (n : Int) by omega)
    by_cases e : rgtP n V a b
    · have step : run (d + 1) 802 12 [xR 12, xI a, xI b] [] (V, G) = run (d + 1) 802 12 [xR 12, xI a, xI (b + 1)] [] (V, G) := by
        rw [bk802_12]
        unfold rgtP at e
        by_cases g : a = b
        · rw [if_pos g] at e
          simp (disch := first | omega | exact Nat.le_of_ble_eq_true rfl) only [bk802_0, bk802_45, bk802_46, bk802_51, bk802_57, bk802_63, Int.reduceToNat, vA_ap, Nat.reduceEqDiff, if_true, if_false, bx_nil, isL_I, isL_R, isL_U, if_ff, bind_some, tl_some, tl_none, bx_iconst, bx_istore_1, bx_iload_1, bx_aload_0, gf12_0 hG, bx_ic_ge, bx_istore_2, bx_iload_2, gf12_2 hG, aa15 hG, cl803 hG, bx_ic_ne, bx_goto, bx_ic_eq, bx_zret, bx_iinc2, bx_iinc1, hn, if_neg (show ¬ (n : Int) ≤ b by omega), hp, if_pos g, e, if_pos (show (1 : Int) = 1 from rfl)]
        · rw [if_neg g] at e
          simp (disch := first | omega | exact Nat.le_of_ble_eq_true rfl) only [bk802_0, bk802_45, bk802_46, bk802_51, bk802_57, bk802_63, Int.reduceToNat, vA_ap, Nat.reduceEqDiff, if_true, if_false, bx_nil, isL_I, isL_R, isL_U, if_ff, bind_some, tl_some, tl_none, bx_iconst, bx_istore_1, bx_iload_1, bx_aload_0, gf12_0 hG, bx_ic_ge, bx_istore_2, bx_iload_2, gf12_2 hG, aa15 hG, cl803 hG, bx_ic_ne, bx_goto, bx_ic_eq, bx_zret, bx_iinc2, bx_iinc1, hn, if_neg (show ¬ (n : Int) ≤ b by omega), hp, if_neg g, e, if_pos (show (0 : Int) = 0 from rfl)]
      rw [step]
      rcases ih (b + 1) (by omega) (by omega) with ⟨⟨b', g1, g2⟩, g3⟩ | ⟨g1, g3⟩
      · left
        exact ⟨⟨b', by omega, g2⟩, g3⟩
      · right
        refine ⟨fun b' q1 q2 => ?_, g3⟩
        by_cases q : b' = b
        · rw [q]; exact e
        · exact g1 b' (by omega) q2
    · left
      refine ⟨⟨b, by omega, e⟩, ?_⟩
      rw [bk802_12]
      unfold rgtP at e
      by_cases g : a = b
      · rw [if_pos g] at e
        simp (disch := first | omega | exact Nat.le_of_ble_eq_true rfl) only [bk802_0, bk802_45, bk802_46, bk802_51, bk802_57, bk802_63, Int.reduceToNat, vA_ap, Nat.reduceEqDiff, if_true, if_false, bx_nil, isL_I, isL_R, isL_U, if_ff, bind_some, tl_some, tl_none, bx_iconst, bx_istore_1, bx_iload_1, bx_aload_0, gf12_0 hG, bx_ic_ge, bx_istore_2, bx_iload_2, gf12_2 hG, aa15 hG, cl803 hG, bx_ic_ne, bx_goto, bx_ic_eq, bx_zret, bx_iinc2, bx_iinc1, hn, if_neg (show ¬ (n : Int) ≤ b by omega), hp, if_pos g, if_neg e]
      · rw [if_neg g] at e
        simp (disch := first | omega | exact Nat.le_of_ble_eq_true rfl) only [bk802_0, bk802_45, bk802_46, bk802_51, bk802_57, bk802_63, Int.reduceToNat, vA_ap, Nat.reduceEqDiff, if_true, if_false, bx_nil, isL_I, isL_R, isL_U, if_ff, bind_some, tl_some, tl_none, bx_iconst, bx_istore_1, bx_iload_1, bx_aload_0, gf12_0 hG, bx_ic_ge, bx_istore_2, bx_iload_2, gf12_2 hG, aa15 hG, cl803 hG, bx_ic_ne, bx_goto, bx_ic_eq, bx_zret, bx_iinc2, bx_iinc1, hn, if_neg (show ¬ (n : Int) ≤ b by omega), hp, if_neg g, if_neg e]
theorem x_isRight (hG : Good n L G) (hn : V 12 0 = n) (h6 : n ≤ 6) (h : tldP n V) : rgtQ n V G (run (d + 1) 802 0 [xR 12, xU, xU] [] (V, G)) := by
  have hl := it_inv (D := d + 1) (q := 802) (pc := 2) (hi := n) (I := fun k ls μ => (∃ u, ls = [xR 12, xI k, u]) ∧ μ = (V, G) ∧ ∀ a b, 0 ≤ a → a < k → a ≤ b → b < (n : Int) → rgtP n V a b) (Q := rgtQ n V G) (fun ls μ hI => by
    obtain ⟨⟨u, rfl⟩, rfl, hA⟩ := hI
    left
    refine ⟨fun a b a0 a1 b0 b1 => ?_, ?_⟩
    · by_cases g : a ≤ b
      · exact hA a b a0 a1 g b1
      · have := hA b a b0 b1 (by omega) a1
        unfold rgtP at this ⊢
        rw [dotT_comm, this, if_neg (by omega), if_neg (by omega)]
    · rw [bk802_2]
      simp (disch := first | omega | exact Nat.le_of_ble_eq_true rfl) only [bk802_0, bk802_45, bk802_46, bk802_51, bk802_57, bk802_63, Int.reduceToNat, vA_ap, Nat.reduceEqDiff, if_true, if_false, bx_nil, isL_I, isL_R, isL_U, if_ff, bind_some, tl_some, tl_none, bx_iconst, bx_istore_1, bx_iload_1, bx_aload_0, gf12_0 hG, bx_ic_ge, bx_istore_2, bx_iload_2, gf12_2 hG, aa15 hG, cl803 hG, bx_ic_ne, bx_goto, bx_ic_eq, bx_zret, bx_iinc2, bx_iinc1, hn, if_pos (show (n : Int) ≤ n by omega)]) n 0 (by omega) (fun k ls μ h1 h2 hI => by
    obtain ⟨⟨u, rfl⟩, rfl, hA⟩ := hI
    have e : run (d + 1) 802 2 [xR 12, xI k, u] [] (V, G) = run (d + 1) 802 12 [xR 12, xI k, xI k] [] (V, G) := by
      rw [bk802_2]
      simp (disch := first | omega | exact Nat.le_of_ble_eq_true rfl) only [bk802_0, bk802_45, bk802_46, bk802_51, bk802_57, bk802_63, Int.reduceToNat, vA_ap, Nat.reduceEqDiff, if_true, if_false, bx_nil, isL_I, isL_R, isL_U, if_ff, bind_some, tl_some, tl_none, bx_iconst, bx_istore_1, bx_iload_1, bx_aload_0, gf12_0 hG, bx_ic_ge, bx_istore_2, bx_iload_2, gf12_2 hG, aa15 hG, cl803 hG, bx_ic_ne, bx_goto, bx_ic_eq, bx_zret, bx_iinc2, bx_iinc1, hn, if_neg (show ¬ (n : Int) ≤ k by omega)]
    rcases x_isRight_in (d := d) hG hn h6 h ⟨h1, h2⟩ (n - k.toNat) k (by omega) (by omega) with ⟨⟨b', g1, g2⟩, g3⟩ | ⟨g1, g3⟩
    · right
      right
      exact ⟨⟨k, b', ⟨h1, h2⟩, by omega, g2⟩, e.trans g3⟩
    · left
      refine ⟨_, _, ⟨⟨xI n, rfl⟩, rfl, fun a b a0 a1 b0 b1 => ?_⟩, e.trans g3⟩
      by_cases q : a = k
      · rw [q]; exact g1 b (by omega) b1
      · exact hA a b a0 (by omega) b0 b1) [xR 12, xI 0, xU] (V, G) ⟨⟨xU, rfl⟩, rfl, fun a b a0 a1 => by omega⟩
  simp (disch := first | omega | exact Nat.le_of_ble_eq_true rfl) only [bk802_0, bk802_45, bk802_46, bk802_51, bk802_57, bk802_63, Int.reduceToNat, vA_ap, Nat.reduceEqDiff, if_true, if_false, bx_nil, isL_I, isL_R, isL_U, if_ff, bind_some, tl_some, tl_none, bx_iconst, bx_istore_1, bx_iload_1, bx_aload_0, gf12_0 hG, bx_ic_ge, bx_istore_2, bx_iload_2, gf12_2 hG, aa15 hG, cl803 hG, bx_ic_ne, bx_goto, bx_ic_eq, bx_zret, bx_iinc2, bx_iinc1]
  exact hl
theorem m_right_in {a : Int} (hG : Good n L G) (hn : V 376 0 = n) (h6 : n ≤ 6) (h : tldP n V) (ha : 0 ≤ a ∧ a < (n : Int)) : ∀ (m : Nat) (b : Int) (u v : XV), 0 ≤ b → b + m = n → ∃ u' v', ((∃ b', (b ≤ b' ∧ b' < (n : Int)) ∧ ¬ rgtP n V a b') ∧ run d 1121 12 [xR 376, xI a, xI b, u, v] [] (V, G) = some (some (xI 0), (V, G))) ∨ ((∀ b', b ≤ b' → b' < (n : Int) → rgtP n V a b') ∧ run d 1121 12 [xR 376, xI a, xI b, u, v] [] (V, G) = run d 1121 2 [xR 376, xI (a + 1), xI n, u', v'] [] (V, G)) := by
  intro m
  induction m with
  | zero =>
    intro b u v hb hm
    refine ⟨u, v, ?_⟩
    right
    refine ⟨fun b' g1 g2 => by omega, ?_⟩
    rw [bk1121_12]
    simp (disch := first | omega | exact Nat.le_of_ble_eq_true rfl) only [bk1121_0, bk1121_68, bk1121_81, bk1121_82, bk1121_87, bk1121_93, bk1121_99, Int.reduceToNat, vA_ap, Nat.reduceEqDiff, if_true, if_false, bx_nil, isL_I, isL_R, isL_U, if_ff, bind_some, tl_some, tl_none, bx_iconst, bx_istore_1, bx_iload_1, bx_aload_0, gf376_0 hG, bx_ic_ge, bx_istore_2, bx_iload_2, bx_istore_3, bx_istore4, bx_iload4, bx_iload_3, gf376_11 hG, ia386 hG, is386 hG, bx_bipush, bx_imul, bx_iadd, bx_iinc4, bx_goto, bx_irem, bx_ic_ne, bx_ic_eq, bx_iret, bx_iinc2, bx_iinc1, hn, if_pos (show (n : Int) ≤ b by omega)]
    rw [show b = n by omega]
  | succ m ih =>
    intro b u v hb hm
    have hbb : 0 ≤ b ∧ b < (n : Int) := by omega
    have h1 := it_up (D := d) (q := 1121) (pc := 25) (loc := fun k => [xR 376, xI a, xI b, xI (sm (fun r => V 386 (6 * r + a) * V 386 (6 * r + b)) k.toNat), xI k]) (F := fun _ => (V, G)) (hi := n) n 0 (by omega) (fun k h1 h2 => by
      have t1 := term_bd h h6 ha hbb ⟨h1, h2⟩
      have t2 := dot_bd h h6 ha hbb k.toNat (by omega)
      have e3 : sm (fun r => V 386 (6 * r + a) * V 386 (6 * r + b)) (k + 1).toNat = sm (fun r => V 386 (6 * r + a) * V 386 (6 * r + b)) k.toNat + V 386 (6 * k + a) * V 386 (6 * k + b) := by
        rw [show (k + 1).toNat = k.toNat + 1 by omega]
        show sm _ _ + _ = _
        rw [show ((k.toNat : Nat) : Int) = k by omega]
      rw [bk1121_25, e3]
      simp (disch := first | omega | exact Nat.le_of_ble_eq_true rfl) only [bk1121_0, bk1121_68, bk1121_81, bk1121_82, bk1121_87, bk1121_93, bk1121_99, Int.reduceToNat, vA_ap, Nat.reduceEqDiff, if_true, if_false, bx_nil, isL_I, isL_R, isL_U, if_ff, bind_some, tl_some, tl_none, bx_iconst, bx_istore_1, bx_iload_1, bx_aload_0, gf376_0 hG, bx_ic_ge, bx_istore_2, bx_iload_2, bx_istore_3, bx_istore4, bx_iload4, bx_iload_3, gf376_11 hG, ia386 hG, is386 hG, bx_bipush, bx_imul, bx_iadd, bx_iinc4, bx_goto, bx_irem, bx_ic_ne, bx_ic_eq, bx_iret, bx_iinc2, bx_iinc1, hn, if_neg (show ¬ (n : Int) ≤ k by omega)])
    have e0 : sm (fun r => V 386 (6 * r + a) * V 386 (6 * r + b)) (0 : Int).toNat = 0 := rfl
    rw [e0, Int.toNat_natCast] at h1
    have t2 := dot_bd h h6 ha hbb n (by omega)
    have e1 : run d 1121 12 [xR 376, xI a, xI b, u, v] [] (V, G) = run d 1121 68 [xR 376, xI a, xI b, xI (dotT n V a b), xI n] [] (V, G) := by
      rw [bk1121_12]
      simp (disch := first | omega | exact Nat.le_of_ble_eq_true rfl) only [bx_iload_2, bx_aload_0, gf376_0 hG, hn, bx_ic_ge, if_neg (show ¬ (n : Int) ≤ b by omega), bx_iconst, bx_istore_3, bx_istore4, bx_nil, isL_I, if_ff]
      rw [h1, bk1121_25]
      simp (disch := first | omega | exact Nat.le_of_ble_eq_true rfl) only [bx_iload4, bx_aload_0, gf376_0 hG, hn, bx_ic_ge, if_pos (show (n : Int) ≤ n by omega), Int.reduceToNat]
      rfl
    by_cases e : rgtP n V a b
    · obtain ⟨u', v', hi⟩ := ih (b + 1) (xI (dotT n V a b)) (xI n) (by omega) (by omega)
      refine ⟨u', v', ?_⟩
      have step : run d 1121 12 [xR 376, xI a, xI b, u, v] [] (V, G) = run d 1121 12 [xR 376, xI a, xI (b + 1), xI (dotT n V a b), xI n] [] (V, G) := by
        rw [e1]
        unfold rgtP at e
        by_cases g : a = b
        · rw [if_pos g] at e
          simp (disch := first | omega | exact Nat.le_of_ble_eq_true rfl) only [bk1121_0, bk1121_68, bk1121_81, bk1121_82, bk1121_87, bk1121_93, bk1121_99, Int.reduceToNat, vA_ap, Nat.reduceEqDiff, if_true, if_false, bx_nil, isL_I, isL_R, isL_U, if_ff, bind_some, tl_some, tl_none, bx_iconst, bx_istore_1, bx_iload_1, bx_aload_0, gf376_0 hG, bx_ic_ge, bx_istore_2, bx_iload_2, bx_istore_3, bx_istore4, bx_iload4, bx_iload_3, gf376_11 hG, ia386 hG, is386 hG, bx_bipush, bx_imul, bx_iadd, bx_iinc4, bx_goto, bx_irem, bx_ic_ne, bx_ic_eq, bx_iret, bx_iinc2, bx_iinc1, if_pos g, tm_pos (show 0 ≤ dotT n V a b from t2.1) (show (0 : Int) < 97 by omega), e, if_pos (show (1 : Int) = 1 from rfl)]
        · rw [if_neg g] at e
          simp (disch := first | omega | exact Nat.le_of_ble_eq_true rfl) only [bk1121_0, bk1121_68, bk1121_81, bk1121_82, bk1121_87, bk1121_93, bk1121_99, Int.reduceToNat, vA_ap, Nat.reduceEqDiff, if_true, if_false, bx_nil, isL_I, isL_R, isL_U, if_ff, bind_some, tl_some, tl_none, bx_iconst, bx_istore_1, bx_iload_1, bx_aload_0, gf376_0 hG, bx_ic_ge, bx_istore_2, bx_iload_2, bx_istore_3, bx_istore4, bx_iload4, bx_iload_3, gf376_11 hG, ia386 hG, is386 hG, bx_bipush, bx_imul, bx_iadd, bx_iinc4, bx_goto, bx_irem, bx_ic_ne, bx_ic_eq, bx_iret, bx_iinc2, bx_iinc1, if_neg g, tm_pos (show 0 ≤ dotT n V a b from t2.1) (show (0 : Int) < 97 by omega), e, if_pos (show (0 : Int) = 0 from rfl)]
      rw [step]
      rcases hi with ⟨⟨b', g1, g2⟩, g3⟩ | ⟨g1, g3⟩
      · left
        exact ⟨⟨b', by omega, g2⟩, g3⟩
      · right
        refine ⟨fun b' q1 q2 => ?_, g3⟩
        by_cases q : b' = b
        · rw [q]; exact e
        · exact g1 b' (by omega) q2
    · refine ⟨u, v, ?_⟩
      left
      refine ⟨⟨b, by omega, e⟩, ?_⟩
      rw [e1]
      unfold rgtP at e
      by_cases g : a = b
      · rw [if_pos g] at e
        simp (disch := first | omega | exact Nat.le_of_ble_eq_true rfl) only [bk1121_0, bk1121_68, bk1121_81, bk1121_82, bk1121_87, bk1121_93, bk1121_99, Int.reduceToNat, vA_ap, Nat.reduceEqDiff, if_true, if_false, bx_nil, isL_I, isL_R, isL_U, if_ff, bind_some, tl_some, tl_none, bx_iconst, bx_istore_1, bx_iload_1, bx_aload_0, gf376_0 hG, bx_ic_ge, bx_istore_2, bx_iload_2, bx_istore_3, bx_istore4, bx_iload4, bx_iload_3, gf376_11 hG, ia386 hG, is386 hG, bx_bipush, bx_imul, bx_iadd, bx_iinc4, bx_goto, bx_irem, bx_ic_ne, bx_ic_eq, bx_iret, bx_iinc2, bx_iinc1, if_pos g, tm_pos (show 0 ≤ dotT n V a b from t2.1) (show (0 : Int) < 97 by omega), if_neg e]
      · rw [if_neg g] at e
        simp (disch := first | omega | exact Nat.le_of_ble_eq_true rfl) only [bk1121_0, bk1121_68, bk1121_81, bk1121_82, bk1121_87, bk1121_93, bk1121_99, Int.reduceToNat, vA_ap, Nat.reduceEqDiff, if_true, if_false, bx_nil, isL_I, isL_R, isL_U, if_ff, bind_some, tl_some, tl_none, bx_iconst, bx_istore_1, bx_iload_1, bx_aload_0, gf376_0 hG, bx_ic_ge, bx_istore_2, bx_iload_2, bx_istore_3, bx_istore4, bx_iload4, bx_iload_3, gf376_11 hG, ia386 hG, is386 hG, bx_bipush, bx_imul, bx_iadd, bx_iinc4, bx_goto, bx_irem, bx_ic_ne, bx_ic_eq, bx_iret, bx_iinc2, bx_iinc1, if_neg g, tm_pos (show 0 ≤ dotT n V a b from t2.1) (show (0 : Int) < 97 by omega), if_neg e]
theorem mp_right (hG : Good n L G) (hn : V 376 0 = n) (h6 : n ≤ 6) (h : tldP n V) : rgtQ n V G (run d 1121 0 [xR 376, xU, xU, xU, xU] [] (V, G)) := by
  have hl := it_inv (D := d) (q := 1121) (pc := 2) (hi := n) (I := fun k ls μ => (∃ u v w, ls = [xR 376, xI k, u, v, w]) ∧ μ = (V, G) ∧ ∀ a b, 0 ≤ a → a < k → 0 ≤ b → b < (n : Int) → rgtP n V a b) (Q := rgtQ n V G) (fun ls μ hI => by
    obtain ⟨⟨u, v, w, rfl⟩, rfl, hA⟩ := hI
    left
    refine ⟨hA, ?_⟩
    rw [bk1121_2]
    simp (disch := first | omega | exact Nat.le_of_ble_eq_true rfl) only [bk1121_0, bk1121_68, bk1121_81, bk1121_82, bk1121_87, bk1121_93, bk1121_99, Int.reduceToNat, vA_ap, Nat.reduceEqDiff, if_true, if_false, bx_nil, isL_I, isL_R, isL_U, if_ff, bind_some, tl_some, tl_none, bx_iconst, bx_istore_1, bx_iload_1, bx_aload_0, gf376_0 hG, bx_ic_ge, bx_istore_2, bx_iload_2, bx_istore_3, bx_istore4, bx_iload4, bx_iload_3, gf376_11 hG, ia386 hG, is386 hG, bx_bipush, bx_imul, bx_iadd, bx_iinc4, bx_goto, bx_irem, bx_ic_ne, bx_ic_eq, bx_iret, bx_iinc2, bx_iinc1, hn, if_pos (show (n : Int) ≤ n by omega)]) n 0 (by omega) (fun k ls μ h1 h2 hI => by
    obtain ⟨⟨u, v, w, rfl⟩, rfl, hA⟩ := hI
    have e : run d 1121 2 [xR 376, xI k, u, v, w] [] (V, G) = run d 1121 12 [xR 376, xI k, xI 0, v, w] [] (V, G) := by
      rw [bk1121_2]
      simp (disch := first | omega | exact Nat.le_of_ble_eq_true rfl) only [bk1121_0, bk1121_68, bk1121_81, bk1121_82, bk1121_87, bk1121_93, bk1121_99, Int.reduceToNat, vA_ap, Nat.reduceEqDiff, if_true, if_false, bx_nil, isL_I, isL_R, isL_U, if_ff, bind_some, tl_some, tl_none, bx_iconst, bx_istore_1, bx_iload_1, bx_aload_0, gf376_0 hG, bx_ic_ge, bx_istore_2, bx_iload_2, bx_istore_3, bx_istore4, bx_iload4, bx_iload_3, gf376_11 hG, ia386 hG, is386 hG, bx_bipush, bx_imul, bx_iadd, bx_iinc4, bx_goto, bx_irem, bx_ic_ne, bx_ic_eq, bx_iret, bx_iinc2, bx_iinc1, hn, if_neg (show ¬ (n : Int) ≤ k by omega)]
    obtain ⟨u', v', hi⟩ := m_right_in (d := d) hG hn h6 h ⟨h1, h2⟩ n 0 v w (by omega) (by omega)
    rcases hi with ⟨⟨b', g1, g2⟩, g3⟩ | ⟨g1, g3⟩
    · right
      right
      exact ⟨⟨k, b', ⟨h1, h2⟩, by omega, g2⟩, e.trans g3⟩
    · left
      refine ⟨_, _, ⟨⟨xI n, u', v', rfl⟩, rfl, fun a b a0 a1 b0 b1 => ?_⟩, e.trans g3⟩
      by_cases q : a = k
      · rw [q]; exact g1 b b0 b1
      · exact hA a b a0 (by omega) b0 b1) [xR 376, xI 0, xU, xU, xU] (V, G) ⟨⟨xU, xU, xU, rfl⟩, rfl, fun a b a0 a1 => by omega⟩
  simp (disch := first | omega | exact Nat.le_of_ble_eq_true rfl) only [bk1121_0, bk1121_68, bk1121_81, bk1121_82, bk1121_87, bk1121_93, bk1121_99, Int.reduceToNat, vA_ap, Nat.reduceEqDiff, if_true, if_false, bx_nil, isL_I, isL_R, isL_U, if_ff, bind_some, tl_some, tl_none, bx_iconst, bx_istore_1, bx_iload_1, bx_aload_0, gf376_0 hG, bx_ic_ge, bx_istore_2, bx_iload_2, bx_istore_3, bx_istore4, bx_iload4, bx_iload_3, gf376_11 hG, ia386 hG, is386 hG, bx_bipush, bx_imul, bx_iadd, bx_iinc4, bx_goto, bx_irem, bx_ic_ne, bx_ic_eq, bx_iret, bx_iinc2, bx_iinc1]
  exact hl
theorem pr_right (hG : Good n L G) (h : Inv n V) : pair n G V 1011 1121 [xR 1] [xR 376, xU, xU, xU, xU] := by
  have hn := h.nn
  have hx := x_isRight (d := 797) hG h.l12 hn.2 h.tld
  have hm := mp_right (d := 799) hG h.lm hn.2 h.tld
  rcases hx with ⟨a1, a2⟩ | ⟨a1, a2⟩
  · rcases hm with ⟨b1, b2⟩ | ⟨⟨a, b, q1, q2, q3⟩, b2⟩
    · refine mkpair (r := 1) ?_ b2 h
      have a3 : run 798 802 0 [xR 12, xU, xU] [] (V, G) = some (some (xI 1), (V, G)) := a2
      simp (disch := first | omega | exact Nat.le_of_ble_eq_true rfl) only [bk1011_0, bk1011_14, bk1011_15, Int.reduceToNat, vA_ap, Nat.reduceEqDiff, if_true, if_false, bx_nil, isL_I, isL_R, isL_U, if_ff, bind_some, tl_some, tl_none, bx_aload_0, gf1_2 hG, cl802 hG, bx_if_eq, bx_iconst, bx_goto, bx_iret, a3, one_ne]
    · exact absurd (a1 a b q1.1 q1.2 q2.1 q2.2) q3
  · rcases hm with ⟨b1, b2⟩ | ⟨_, b2⟩
    · obtain ⟨a, b, q1, q2, q3⟩ := a1
      exact absurd (b1 a b q1.1 q1.2 q2.1 q2.2) q3
    · refine mkpair (r := 0) ?_ b2 h
      have a3 : run 798 802 0 [xR 12, xU, xU] [] (V, G) = some (some (xI 0), (V, G)) := a2
      simp (disch := first | omega | exact Nat.le_of_ble_eq_true rfl) only [bk1011_0, bk1011_14, bk1011_15, Int.reduceToNat, vA_ap, Nat.reduceEqDiff, if_true, if_false, bx_nil, isL_I, isL_R, isL_U, if_ff, bind_some, tl_some, tl_none, bx_aload_0, gf1_2 hG, cl802 hG, bx_if_eq, bx_iconst, bx_goto, bx_iret, a3]
end RG
