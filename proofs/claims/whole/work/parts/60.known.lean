/-! WHAT IS KNOWN of offsets, by the log -/
abbrev FF2 : Type := (Int → Int) × (Int → Int)
def knF (CO OF TK : Int → Int) (tick : Int) (z : FF2) : Nat → FF2
  | 0 => z
  | e + 1 => if TK e ≤ tick ∧ (knF CO OF TK tick z e).1 (CO e) ≤ TK e then (vU (knF CO OF TK tick z e).1 (CO e) (TK e), vU (knF CO OF TK tick z e).2 (CO e) (OF e)) else knF CO OF TK tick z e
def bstF (FC FF : Int → Int) (k tick : Int) : Nat → Int
  | 0 => -1
  | e + 1 => if FC e = k ∧ FF e ≤ tick ∧ (bstF FC FF k tick e < 0 ∨ FF (bstF FC FF k tick e) ≤ FF e) then e else bstF FC FF k tick e
theorem bst_bd {FC FF : Int → Int} {k tick : Int} : ∀ e, -1 ≤ bstF FC FF k tick e ∧ bstF FC FF k tick e < e
  | 0 => by simp [bstF]
  | e + 1 => by
    have := bst_bd (FC := FC) (FF := FF) (k := k) (tick := tick) e
    unfold bstF
    split <;> omega
theorem ix_inj {c c' : Int} (h : 0 ≤ c ∧ c < 36) (h' : 0 ≤ c' ∧ c' < 36) (e : ix c = ix c') : c = c' := by
  unfold ix at e
  omega
theorem kn_rel {CO OF TK FC FF : Int → Int} {tick c : Int} {z : FF2} (hc : 0 ≤ c ∧ c < 36) (z1 : z.1 c = 0) (z2 : z.2 c = 0) : ∀ (e : Nat), (∀ j, 0 ≤ j → j < (e : Int) → (0 ≤ CO j ∧ CO j < 36) ∧ FC j = ix (CO j) ∧ FF j = TK j ∧ 0 ≤ TK j) → (bstF FC FF (ix c) tick e < 0 ∧ (knF CO OF TK tick z e).1 c = 0 ∧ (knF CO OF TK tick z e).2 c = 0) ∨ (0 ≤ bstF FC FF (ix c) tick e ∧ (knF CO OF TK tick z e).1 c = TK (bstF FC FF (ix c) tick e) ∧ (knF CO OF TK tick z e).2 c = OF (bstF FC FF (ix c) tick e))
  | 0, _ => Or.inl ⟨by simp [bstF], z1, z2⟩
  | e + 1, h => by
    have ih := kn_rel (OF := OF) (tick := tick) hc z1 z2 e (fun j j0 j1 => h j j0 (by omega))
    obtain ⟨h1, h2, h3, h4⟩ := h e (by omega) (by omega)
    unfold bstF knF
    have hb := bst_bd (FC := FC) (FF := FF) (k := ix c) (tick := tick) e
    by_cases g : CO e = c
    · rw [g]
      have g1 : FC e = ix c := by rw [h2, g]
      by_cases t : TK e ≤ tick
      · by_cases q : (knF CO OF TK tick z e).1 c ≤ TK e
        · have q2 : bstF FC FF (ix c) tick e < 0 ∨ FF (bstF FC FF (ix c) tick e) ≤ FF e := by
            rcases ih with ⟨i1, i2, i3⟩ | ⟨i1, i2, i3⟩
            · exact Or.inl i1
            · right
              obtain ⟨_, _, f3, _⟩ := h _ i1 (by omega)
              rw [f3, h3, ← i2]
              exact q
          rw [if_pos ⟨g1, by rw [h3]; exact t, q2⟩, if_pos ⟨t, q⟩]
          right
          refine ⟨by omega, ?_, ?_⟩
          · show vU _ c _ c = _
            rw [vU_at]
          · show vU _ c _ c = _
            rw [vU_at]
        · have q2 : ¬ (bstF FC FF (ix c) tick e < 0 ∨ FF (bstF FC FF (ix c) tick e) ≤ FF e) := by
            rcases ih with ⟨i1, i2, i3⟩ | ⟨i1, i2, i3⟩
            · omega
            · obtain ⟨_, _, f3, _⟩ := h _ i1 (by omega)
              rw [f3, h3, ← i2]
              omega
          rw [if_neg (fun y => q2 y.2.2), if_neg (fun y => q y.2)]
          exact ih
      · rw [if_neg (fun y => t (by rw [← h3]; exact y.2.1)), if_neg (fun y => t y.1)]
        exact ih
    · have g1 : ¬ FC e = ix c := fun y => g (ix_inj h1 hc (by rw [← h2]; exact y))
      rw [if_neg (fun y => g1 y.1)]
      by_cases t : TK e ≤ tick ∧ (knF CO OF TK tick z e).1 (CO e) ≤ TK e
      · rw [if_pos t]
        have g2 : c ≠ CO e := fun y => g y.symm
        have v1 : vU (knF CO OF TK tick z e).1 (CO e) (TK e) c = (knF CO OF TK tick z e).1 c := vU_ne g2
        have v2 : vU (knF CO OF TK tick z e).2 (CO e) (OF e) c = (knF CO OF TK tick z e).2 c := vU_ne g2
        simp only [v1, v2]
        exact ih
      · rw [if_neg t]; exact ih
/-- the offset that the reference knows of a place -/
def knM (V : Nat → Int → Int) (k tick : Int) : Int := if bstF (V 404) (V 406) k tick (V 376 43).toNat < 0 then 0 else V 405 (bstF (V 404) (V 406) k tick (V 376 43).toNat)
/-- what the class knows when a array a is filled -/
def knX (V : Nat → Int → Int) (a : Nat) (tick : Int) : FF2 := knF (V 213) (V 214) (V 215) tick ((fun j => if 0 ≤ j ∧ j < 36 then 0 else V 216 j), (fun j => if 0 ≤ j ∧ j < 36 then 0 else V a j)) (V 212 1).toNat
section KN
variable {n L d : Nat} {G : XG} {V : Nat → Int → Int}
theorem kn_eq {W : Nat → Int → Int} {a : Nat} {tick c : Int} (h : fndP n V) (hW : W 376 43 = V 376 43 ∧ W 404 = V 404 ∧ W 406 = V 406 ∧ W 405 = V 405) (hc : 0 ≤ c ∧ c < 36) : (knX V a tick).2 c = knM W (ix c) tick := by
  obtain ⟨h1, h2, h3⟩ := h
  have hr := kn_rel (CO := V 213) (OF := V 214) (TK := V 215) (FC := V 404) (FF := V 406) (tick := tick) (c := c) (z := ((fun j => if 0 ≤ j ∧ j < 36 then 0 else V 216 j), (fun j => if 0 ≤ j ∧ j < 36 then 0 else V a j))) hc (if_pos hc) (if_pos hc) (V 212 1).toNat (fun j j0 j1 => by
    obtain ⟨g1, g2, g3, g4, g5, g6, g7⟩ := h3 j j0 (by omega)
    exact ⟨g1, g3, g6, g7⟩)
  have hb := bst_bd (FC := V 404) (FF := V 406) (k := ix c) (tick := tick) (V 212 1).toNat
  unfold knM knX
  rw [hW.1, hW.2.1, hW.2.2.1, hW.2.2.2, h1]
  rcases hr with ⟨r1, r2, r3⟩ | ⟨r1, r2, r3⟩
  · rw [if_pos r1, r3]
  · rw [if_neg (by omega), r3]
    exact ((h3 _ r1 (by omega)).2.2.2.1).symm
theorem knM_bd {k tick : Int} (h : fndP n V) : -8 ≤ knM V k tick ∧ knM V k tick ≤ 8 := by
  obtain ⟨h1, h2, h3⟩ := h
  have hb := bst_bd (FC := V 404) (FF := V 406) (k := k) (tick := tick) (V 376 43).toNat
  unfold knM
  split
  · omega
  · next g =>
    obtain ⟨g1, g2, g3, g4, g5, g6, g7⟩ := h3 _ (show 0 ≤ bstF (V 404) (V 406) k tick (V 376 43).toNat by omega) (by omega)
    rw [g4]; exact g5
theorem m_known {k tick : Int} (hG : Good n L G) (hf : 0 ≤ V 376 43 ∧ V 376 43 ≤ 60) : run d 1151 0 [xR 376, xI k, xI tick, xU, xU] [] (V, G) = some (some (xI (knM V k tick)), (V, G)) := by
  obtain ⟨N, hN⟩ : ∃ N : Nat, V 376 43 = N := ⟨(V 376 43).toNat, by omega⟩
  unfold knM
  rw [hN] at hf ⊢
  have h := it_up (D := d) (q := 1151) (pc := 5) (loc := fun e => [xR 376, xI k, xI tick, xI (bstF (V 404) (V 406) k tick e.toNat), xI e]) (F := fun _ => (V, G)) (hi := N) N 0 (by omega) (fun e h1 h2 => by
    have hb := bst_bd (FC := V 404) (FF := V 406) (k := k) (tick := tick) e.toNat
    have e3 : bstF (V 404) (V 406) k tick (e + 1).toNat = if V 404 e = k ∧ V 406 e ≤ tick ∧ (bstF (V 404) (V 406) k tick e.toNat < 0 ∨ V 406 (bstF (V 404) (V 406) k tick e.toNat) ≤ V 406 e) then e else bstF (V 404) (V 406) k tick e.toNat := by
      rw [show (e + 1).toNat = e.toNat + 1 by omega]
      conv => lhs; unfold bstF
      rw [show ((e.toNat : Nat) : Int) = e by omega]
    rw [bk1151_5, e3]
    generalize bstF (V 404) (V 406) k tick e.toNat = b at *
    by_cases c1 : V 404 e = k
    · by_cases c2 : V 406 e ≤ tick
      · by_cases c3 : b < 0
        · simp (disch := first | omega | exact Nat.le_of_ble_eq_true rfl) only [bk1151_0, bk1151_56, bk1151_59, bk1151_65, bk1151_73, bk1151_79, Int.reduceToNat, vA_ap, Nat.reduceEqDiff, if_true, if_false, bx_nil, isL_I, isL_R, isL_U, if_ff, bind_some, tl_some, tl_none, bx_iconst, bx_istore_3, bx_istore4, bx_iload4, bx_aload_0, gf376_43 hG, bx_ic_ge, gf376_38 hG, ia404 hG, is404 hG, bx_iload_1, bx_ic_ne, gf376_40 hG, ia406 hG, is406 hG, bx_iload_2, bx_ic_gt, bx_iload_3, bx_if_lt, bx_ic_lt, bx_iinc4, bx_goto, bx_if_ge, gf376_39 hG, ia405 hG, is405 hG, bx_iret, hN, if_neg (show ¬ (N : Int) ≤ e by omega), if_pos c1, if_neg (show ¬ tick < V 406 e by omega), if_pos c3, if_pos (show V 404 e = k ∧ V 406 e ≤ tick ∧ (b < 0 ∨ V 406 b ≤ V 406 e) from ⟨c1, c2, Or.inl c3⟩)]
        · by_cases c4 : V 406 e < V 406 b
          · simp (disch := first | omega | exact Nat.le_of_ble_eq_true rfl) only [bk1151_0, bk1151_56, bk1151_59, bk1151_65, bk1151_73, bk1151_79, Int.reduceToNat, vA_ap, Nat.reduceEqDiff, if_true, if_false, bx_nil, isL_I, isL_R, isL_U, if_ff, bind_some, tl_some, tl_none, bx_iconst, bx_istore_3, bx_istore4, bx_iload4, bx_aload_0, gf376_43 hG, bx_ic_ge, gf376_38 hG, ia404 hG, is404 hG, bx_iload_1, bx_ic_ne, gf376_40 hG, ia406 hG, is406 hG, bx_iload_2, bx_ic_gt, bx_iload_3, bx_if_lt, bx_ic_lt, bx_iinc4, bx_goto, bx_if_ge, gf376_39 hG, ia405 hG, is405 hG, bx_iret, hN, if_neg (show ¬ (N : Int) ≤ e by omega), if_pos c1, if_neg (show ¬ tick < V 406 e by omega), if_neg c3, if_pos c4, if_neg (show ¬ (V 404 e = k ∧ V 406 e ≤ tick ∧ (b < 0 ∨ V 406 b ≤ V 406 e)) from fun y => by omega)]
          · simp (disch := first | omega | exact Nat.le_of_ble_eq_true rfl) only [bk1151_0, bk1151_56, bk1151_59, bk1151_65, bk1151_73, bk1151_79, Int.reduceToNat, vA_ap, Nat.reduceEqDiff, if_true, if_false, bx_nil, isL_I, isL_R, isL_U, if_ff, bind_some, tl_some, tl_none, bx_iconst, bx_istore_3, bx_istore4, bx_iload4, bx_aload_0, gf376_43 hG, bx_ic_ge, gf376_38 hG, ia404 hG, is404 hG, bx_iload_1, bx_ic_ne, gf376_40 hG, ia406 hG, is406 hG, bx_iload_2, bx_ic_gt, bx_iload_3, bx_if_lt, bx_ic_lt, bx_iinc4, bx_goto, bx_if_ge, gf376_39 hG, ia405 hG, is405 hG, bx_iret, hN, if_neg (show ¬ (N : Int) ≤ e by omega), if_pos c1, if_neg (show ¬ tick < V 406 e by omega), if_neg c3, if_neg c4, if_pos (show V 404 e = k ∧ V 406 e ≤ tick ∧ (b < 0 ∨ V 406 b ≤ V 406 e) from ⟨c1, c2, Or.inr (by omega)⟩)]
      · simp (disch := first | omega | exact Nat.le_of_ble_eq_true rfl) only [bk1151_0, bk1151_56, bk1151_59, bk1151_65, bk1151_73, bk1151_79, Int.reduceToNat, vA_ap, Nat.reduceEqDiff, if_true, if_false, bx_nil, isL_I, isL_R, isL_U, if_ff, bind_some, tl_some, tl_none, bx_iconst, bx_istore_3, bx_istore4, bx_iload4, bx_aload_0, gf376_43 hG, bx_ic_ge, gf376_38 hG, ia404 hG, is404 hG, bx_iload_1, bx_ic_ne, gf376_40 hG, ia406 hG, is406 hG, bx_iload_2, bx_ic_gt, bx_iload_3, bx_if_lt, bx_ic_lt, bx_iinc4, bx_goto, bx_if_ge, gf376_39 hG, ia405 hG, is405 hG, bx_iret, hN, if_neg (show ¬ (N : Int) ≤ e by omega), if_pos c1, if_pos (show tick < V 406 e by omega), if_neg (show ¬ (V 404 e = k ∧ V 406 e ≤ tick ∧ (b < 0 ∨ V 406 b ≤ V 406 e)) from fun y => c2 y.2.1)]
    · simp (disch := first | omega | exact Nat.le_of_ble_eq_true rfl) only [bk1151_0, bk1151_56, bk1151_59, bk1151_65, bk1151_73, bk1151_79, Int.reduceToNat, vA_ap, Nat.reduceEqDiff, if_true, if_false, bx_nil, isL_I, isL_R, isL_U, if_ff, bind_some, tl_some, tl_none, bx_iconst, bx_istore_3, bx_istore4, bx_iload4, bx_aload_0, gf376_43 hG, bx_ic_ge, gf376_38 hG, ia404 hG, is404 hG, bx_iload_1, bx_ic_ne, gf376_40 hG, ia406 hG, is406 hG, bx_iload_2, bx_ic_gt, bx_iload_3, bx_if_lt, bx_ic_lt, bx_iinc4, bx_goto, bx_if_ge, gf376_39 hG, ia405 hG, is405 hG, bx_iret, hN, if_neg (show ¬ (N : Int) ≤ e by omega), if_neg c1, if_neg (show ¬ (V 404 e = k ∧ V 406 e ≤ tick ∧ (b < 0 ∨ V 406 b ≤ V 406 e)) from fun y => c1 y.1)])
  have e0 : bstF (V 404) (V 406) k tick (0 : Int).toNat = -1 := rfl
  rw [e0] at h
  simp (disch := first | omega | exact Nat.le_of_ble_eq_true rfl) only [bk1151_0, bk1151_56, bk1151_59, bk1151_65, bk1151_73, bk1151_79, Int.reduceToNat, vA_ap, Nat.reduceEqDiff, if_true, if_false, bx_nil, isL_I, isL_R, isL_U, if_ff, bind_some, tl_some, tl_none, bx_iconst, bx_istore_3, bx_istore4, bx_iload4, bx_aload_0, gf376_43 hG, bx_ic_ge, gf376_38 hG, ia404 hG, is404 hG, bx_iload_1, bx_ic_ne, gf376_40 hG, ia406 hG, is406 hG, bx_iload_2, bx_ic_gt, bx_iload_3, bx_if_lt, bx_ic_lt, bx_iinc4, bx_goto, bx_if_ge, gf376_39 hG, ia405 hG, is405 hG, bx_iret]
  rw [h, bk1151_5]
  have hb := bst_bd (FC := V 404) (FF := V 406) (k := k) (tick := tick) (N : Int).toNat
  generalize bstF (V 404) (V 406) k tick (N : Int).toNat = b at *
  by_cases c : b < 0
  · simp (disch := first | omega | exact Nat.le_of_ble_eq_true rfl) only [bk1151_0, bk1151_56, bk1151_59, bk1151_65, bk1151_73, bk1151_79, Int.reduceToNat, vA_ap, Nat.reduceEqDiff, if_true, if_false, bx_nil, isL_I, isL_R, isL_U, if_ff, bind_some, tl_some, tl_none, bx_iconst, bx_istore_3, bx_istore4, bx_iload4, bx_aload_0, gf376_43 hG, bx_ic_ge, gf376_38 hG, ia404 hG, is404 hG, bx_iload_1, bx_ic_ne, gf376_40 hG, ia406 hG, is406 hG, bx_iload_2, bx_ic_gt, bx_iload_3, bx_if_lt, bx_ic_lt, bx_iinc4, bx_goto, bx_if_ge, gf376_39 hG, ia405 hG, is405 hG, bx_iret, hN, if_pos (show (N : Int) ≤ N by omega), if_neg (show ¬ 0 ≤ b by omega), if_pos c]
  · simp (disch := first | omega | exact Nat.le_of_ble_eq_true rfl) only [bk1151_0, bk1151_56, bk1151_59, bk1151_65, bk1151_73, bk1151_79, Int.reduceToNat, vA_ap, Nat.reduceEqDiff, if_true, if_false, bx_nil, isL_I, isL_R, isL_U, if_ff, bind_some, tl_some, tl_none, bx_iconst, bx_istore_3, bx_istore4, bx_iload4, bx_aload_0, gf376_43 hG, bx_ic_ge, gf376_38 hG, ia404 hG, is404 hG, bx_iload_1, bx_ic_ne, gf376_40 hG, ia406 hG, is406 hG, bx_iload_2, bx_ic_gt, bx_iload_3, bx_if_lt, bx_ic_lt, bx_iinc4, bx_goto, bx_if_ge, gf376_39 hG, ia405 hG, is405 hG, bx_iret, hN, if_pos (show (N : Int) ≤ N by omega), if_pos (show 0 ≤ b by omega), if_neg c]
theorem x_fillKnown {a : Nat} {tick : Int} (hG : Good n L G) (ha : G.1 a = (1, 36)) (n1 : 216 < a) (hf : 0 ≤ V 212 1 ∧ V 212 1 ≤ 60) (hco : ∀ e, 0 ≤ e → e < V 212 1 → 0 ≤ V 213 e ∧ V 213 e < 36) : run (d + 1) 203 0 [xR 212, xI tick, xR a, xU, xU] [] (V, G) = some (none, (vA (vA V a (knX V a tick).2) 216 (knX V a tick).1, G)) := by
  obtain ⟨N, hN⟩ : ∃ N : Nat, V 212 1 = N := ⟨(V 212 1).toNat, by omega⟩
  have m1 : ¬ 212 = a := by omega
  have m2 : ¬ 213 = a := by omega
  have m3 : ¬ 214 = a := by omega
  have m4 : ¬ 215 = a := by omega
  have m5 : ¬ 216 = a := by omega
  have m6 : ¬ a = 216 := by omega
  unfold knX
  rw [hN] at hf hco ⊢
  rw [Int.toNat_natCast]
  generalize hz : (((fun j => if 0 ≤ j ∧ j < 36 then (0 : Int) else V 216 j), (fun j => if 0 ≤ j ∧ j < 36 then (0 : Int) else V a j)) : FF2) = z
  have h := it_inv (D := d + 1) (q := 203) (pc := 15) (hi := N) (I := fun e ls μ => (∃ u, ls = [xR 212, xI tick, xR a, xI e, u]) ∧ μ = (vA (vA V a (knF (V 213) (V 214) (V 215) tick z e.toNat).2) 216 (knF (V 213) (V 214) (V 215) tick z e.toNat).1, G)) (Q := fun w => w = some (none, (vA (vA V a (knF (V 213) (V 214) (V 215) tick z N).2) 216 (knF (V 213) (V 214) (V 215) tick z N).1, G))) (fun ls μ hI => by
    obtain ⟨⟨u, rfl⟩, rfl⟩ := hI
    rw [bk203_15, Int.toNat_natCast]
    simp (disch := first | omega | exact Nat.le_of_ble_eq_true rfl) only [bk203_0, bk203_80, bk203_86, Int.reduceToNat, vA_ap, Nat.reduceEqDiff, if_true, if_false, bx_nil, isL_I, isL_R, isL_U, if_ff, bind_some, tl_some, tl_none, bx_aload_2, bx_iconst, cl1400, bx_aload_0, gf212_5 hG, ia216 hG, is216 hG, bx_istore_3, bx_iload_3, gf212_1 hG, bx_ic_ge, gf212_2 hG, ia213 hG, is213 hG, bx_istore4, gf212_4 hG, ia215 hG, is215 hG, bx_iload_1, bx_ic_gt, bx_iload4, bx_ic_lt, gf212_3 hG, ia214 hG, is214 hG, bx_iinc3, bx_goto, bx_vret, m1, hN, if_pos (show (N : Int) ≤ N by omega)]) N 0 (by omega) (fun e ls μ h1 h2 hI => by
    obtain ⟨⟨u, rfl⟩, rfl⟩ := hI
    left
    refine ⟨_, _, ⟨⟨xI (V 213 e), rfl⟩, rfl⟩, ?_⟩
    have hc := hco e h1 h2
    have e3 : knF (V 213) (V 214) (V 215) tick z (e + 1).toNat = if V 215 e ≤ tick ∧ (knF (V 213) (V 214) (V 215) tick z e.toNat).1 (V 213 e) ≤ V 215 e then (vU (knF (V 213) (V 214) (V 215) tick z e.toNat).1 (V 213 e) (V 215 e), vU (knF (V 213) (V 214) (V 215) tick z e.toNat).2 (V 213 e) (V 214 e)) else knF (V 213) (V 214) (V 215) tick z e.toNat := by
      rw [show (e + 1).toNat = e.toNat + 1 by omega]
      conv => lhs; unfold knF
      rw [show ((e.toNat : Nat) : Int) = e by omega]
    rw [bk203_15, e3]
    generalize knF (V 213) (V 214) (V 215) tick z e.toNat = K at *
    by_cases c1 : V 215 e ≤ tick
    · by_cases c2 : K.1 (V 213 e) ≤ V 215 e
      · simp (disch := first | omega | exact Nat.le_of_ble_eq_true rfl) only [bk203_0, bk203_80, bk203_86, Int.reduceToNat, vA_ap, Nat.reduceEqDiff, if_true, if_false, bx_nil, isL_I, isL_R, isL_U, if_ff, bind_some, tl_some, tl_none, bx_aload_2, bx_iconst, cl1400, bx_aload_0, gf212_5 hG, ia216 hG, is216 hG, bx_istore_3, bx_iload_3, gf212_1 hG, bx_ic_ge, gf212_2 hG, ia213 hG, is213 hG, bx_istore4, gf212_4 hG, ia215 hG, is215 hG, bx_iload_1, bx_ic_gt, bx_iload4, bx_ic_lt, gf212_3 hG, ia214 hG, is214 hG, bx_iinc3, bx_goto, bx_vret, m1, m2, m3, m4, m5, m6, hN, if_neg (show ¬ (N : Int) ≤ e by omega), if_neg (show ¬ tick < V 215 e by omega), if_neg (show ¬ V 215 e < K.1 (V 213 e) by omega), if_pos (And.intro c1 c2), bx_iast ha]
        refine congrArg (fun w => run (d + 1) 203 15 [xR 212, xI tick, xR a, xI (e + 1), xI (V 213 e)] [] (w, G)) (funext fun b => ?_)
        by_cases b1 : b = a
        · subst b1; simp [vA, m6]
        · by_cases b2 : b = 216
          · subst b2; simp [vA, b1]
          · simp [vA, b1, b2]
      · simp (disch := first | omega | exact Nat.le_of_ble_eq_true rfl) only [bk203_0, bk203_80, bk203_86, Int.reduceToNat, vA_ap, Nat.reduceEqDiff, if_true, if_false, bx_nil, isL_I, isL_R, isL_U, if_ff, bind_some, tl_some, tl_none, bx_aload_2, bx_iconst, cl1400, bx_aload_0, gf212_5 hG, ia216 hG, is216 hG, bx_istore_3, bx_iload_3, gf212_1 hG, bx_ic_ge, gf212_2 hG, ia213 hG, is213 hG, bx_istore4, gf212_4 hG, ia215 hG, is215 hG, bx_iload_1, bx_ic_gt, bx_iload4, bx_ic_lt, gf212_3 hG, ia214 hG, is214 hG, bx_iinc3, bx_goto, bx_vret, m1, m2, m3, m4, m5, m6, hN, if_neg (show ¬ (N : Int) ≤ e by omega), if_neg (show ¬ tick < V 215 e by omega), if_pos (show V 215 e < K.1 (V 213 e) by omega), if_neg (show ¬ (V 215 e ≤ tick ∧ K.1 (V 213 e) ≤ V 215 e) from fun y => c2 y.2)]
    · simp (disch := first | omega | exact Nat.le_of_ble_eq_true rfl) only [bk203_0, bk203_80, bk203_86, Int.reduceToNat, vA_ap, Nat.reduceEqDiff, if_true, if_false, bx_nil, isL_I, isL_R, isL_U, if_ff, bind_some, tl_some, tl_none, bx_aload_2, bx_iconst, cl1400, bx_aload_0, gf212_5 hG, ia216 hG, is216 hG, bx_istore_3, bx_iload_3, gf212_1 hG, bx_ic_ge, gf212_2 hG, ia213 hG, is213 hG, bx_istore4, gf212_4 hG, ia215 hG, is215 hG, bx_iload_1, bx_ic_gt, bx_iload4, bx_ic_lt, gf212_3 hG, ia214 hG, is214 hG, bx_iinc3, bx_goto, bx_vret, m1, m2, m3, m4, m5, m6, hN, if_neg (show ¬ (N : Int) ≤ e by omega), if_pos (show tick < V 215 e by omega), if_neg (show ¬ (V 215 e ≤ tick ∧ K.1 (V 213 e) ≤ V 215 e) from fun y => c1 y.1)]) [xR 212, xI tick, xR a, xI 0, xU] (vA (vA V a z.2) 216 z.1, G) ⟨⟨xU, rfl⟩, rfl⟩
  have hf1 := j_fill (d := d) (V := V) (v := 0) ha (by omega)
  have hf2 := j_fill (d := d) (V := vA V a (fun j => if 0 ≤ j ∧ j < ((36 : Nat) : Int) then 0 else V a j)) (v := 0) (gsh hG 216 rfl rfl : G.1 216 = (1, 36)) (by omega)
  simp (disch := first | omega | exact Nat.le_of_ble_eq_true rfl) only [bk203_0, bk203_80, bk203_86, Int.reduceToNat, vA_ap, Nat.reduceEqDiff, if_true, if_false, bx_nil, isL_I, isL_R, isL_U, if_ff, bind_some, tl_some, tl_none, bx_aload_2, bx_iconst, cl1400, bx_aload_0, gf212_5 hG, ia216 hG, is216 hG, bx_istore_3, bx_iload_3, gf212_1 hG, bx_ic_ge, gf212_2 hG, ia213 hG, is213 hG, bx_istore4, gf212_4 hG, ia215 hG, is215 hG, bx_iload_1, bx_ic_gt, bx_iload4, bx_ic_lt, gf212_3 hG, ia214 hG, is214 hG, bx_iinc3, bx_goto, bx_vret, hf1]
  rw [hf2]
  simp (disch := first | omega | exact Nat.le_of_ble_eq_true rfl) only [bind_some, tl_none, bx_iconst, bx_istore_3, bx_nil, isL_R, if_ff]
  rw [← hz] at h ⊢
  have e5 : (vA V a fun j => if 0 ≤ j ∧ j < ((36 : Nat) : Int) then 0 else V a j) 216 = V 216 := vA_ne m5
  rw [e5]
  exact h
end KN
