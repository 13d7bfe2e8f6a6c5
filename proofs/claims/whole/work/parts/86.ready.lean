/-! LAY: the class's works that are ready, and what a layer may and must do -/
/-- what is to be laid, by the class -/
def lpX (n : Nat) (V : Nat → Int → Int) : LayP := ((n : Int), (V 29 2).toNat, V 30, V 31, fun l i => V 8 (xi l i))
/-- two works have a lane in common -/
abbrev shr (V : Nat → Int → Int) (v w : Nat) : Prop := -1 ≤ V 30 v - V 30 w ∧ V 30 v - V 30 w ≤ 1
def earOK (V : Nat → Int → Int) : Prop := ∀ w : Nat, (w : Int) < V 29 2 → ∃ e : Nat, V 34 w = e ∧ e < 1024 ∧ ∀ v : Nat, e.testBit v = true ↔ v < w ∧ shr V v w
def rdy (V : Nat → Int → Int) (lane : Int) (D w : Nat) : Prop := (w : Int) < V 29 2 ∧ V 30 w = lane ∧ D.testBit w = false ∧ ∀ v : Nat, v < w → shr V v w → D.testBit v = true
theorem rdy_one {V : Nat → Int → Int} {lane : Int} {D w w' : Nat} (h : rdy V lane D w) (h' : rdy V lane D w') : w = w' := by
  obtain ⟨a1, a2, a3, a4⟩ := h
  obtain ⟨b1, b2, b3, b4⟩ := h'
  apply Classical.byContradiction
  intro hne
  by_cases q : w < w'
  · have := b4 w q (by unfold shr; omega)
    rw [a3] at this; cases this
  · have := a4 w' (by omega) (by unfold shr; omega)
    rw [b3] at this; cases this
/-- what laying needs of the class's memory -/
def layX (n : Nat) (V : Nat → Int → Int) : Prop := (2 ≤ n ∧ n ≤ 6) ∧ (0 ≤ V 29 2 ∧ V 29 2 ≤ 10) ∧ (∀ w, 0 ≤ w → w < V 29 2 → (0 ≤ V 30 w ∧ V 30 w + 1 < (n : Int)) ∧ (0 ≤ V 31 w ∧ V 31 w ≤ 95)) ∧ rg (V 8) 36 (-1) 95 ∧ lanOK n (V 6) ∧ V 5 0 = n
theorem dif_0 {a b : Nat} : dif a b = 0 ↔ ∀ v, a.testBit v = true → b.testBit v = true := by
  constructor
  · intro h v hv
    have := dif_bit a b v
    rw [h, Nat.zero_testBit, hv] at this
    cases hb : b.testBit v with
    | true => rfl
    | false => rw [hb] at this; cases this
  · intro h
    apply Nat.eq_of_testBit_eq
    intro i
    rw [dif_bit, Nat.zero_testBit]
    cases ha : a.testBit i with
    | false => rfl
    | true => rw [h i ha]; rfl
section RY
variable {n L d : Nat} {G : XG} {V : Nat → Int → Int}
theorem x_ready {lane : Int} {D : Nat} (hG : Good n L G) (h : layX n V) (he : earOK V) (hD : D < 1024) : ∃ r, run d 105 0 [xR 32, xI lane, xI D, xU] [] (V, G) = some (some (xI r), (V, G)) ∧ ((r = -1 ∧ ∀ w, ¬ rdy V lane D w) ∨ ∃ w : Nat, r = w ∧ rdy V lane D w) := by
  obtain ⟨h26, hk, hw, hst, hln, hpl⟩ := h
  obtain ⟨k, hkk⟩ : ∃ k : Nat, V 29 2 = k := ⟨(V 29 2).toNat, by omega⟩
  have hl := it_inv (D := d) (q := 105) (pc := 2) (hi := k) (I := fun w ls μ => ls = [xR 32, xI lane, xI D, xI w] ∧ μ = (V, G) ∧ ∀ v : Nat, (v : Int) < w → V 30 v = lane → D.testBit v = true) (Q := fun y => ∃ r, y = some (some (xI r), (V, G)) ∧ ((r = -1 ∧ ∀ w, ¬ rdy V lane D w) ∨ ∃ w : Nat, r = w ∧ rdy V lane D w)) (fun ls μ hI => by
    obtain ⟨rfl, rfl, h1⟩ := hI
    refine ⟨-1, ?_, Or.inl ⟨rfl, fun w hr => ?_⟩⟩
    · rw [bk105_2]
      simp (disch := first | omega | exact Nat.le_of_ble_eq_true rfl) only [bk105_0, bk105_51, bk105_52, bk105_53, bk105_59, Int.reduceToNat, vA_ap, Nat.reduceEqDiff, if_true, if_false, bx_nil, isL_I, isL_R, isL_U, if_ff, bind_some, tl_some, tl_none, bx_iconst, bx_istore_3, bx_iload_3, bx_aload_0, gf32_1 hG, bx_ic_ge, bx_iload_1, bx_ic_ne, bx_iload_2, bx_ishr, bx_iand, bx_if_ne, gf32_3 hG, ia34 hG, is34 hG, bx_ixor, bx_goto, bx_iret, bx_iinc3, rg_size hG row29, hkk, if_pos (show (k : Int) ≤ k by omega)]
    · have := h1 w (by have := hr.1; omega) hr.2.1
      rw [hr.2.2.1] at this; cases this) k 0 (by omega) (fun w ls μ w0 w1 hI => by
    obtain ⟨rfl, rfl, h1⟩ := hI
    obtain ⟨wn, rfl⟩ : ∃ wn : Nat, w = wn := ⟨w.toNat, by omega⟩
    have hb := bit_N (a := D) (w := wn) (by omega) (by omega)
    by_cases q1 : V 30 wn = lane
    · by_cases q2 : D.testBit wn = true
      · rw [if_pos q2] at hb
        left
        refine ⟨_, _, ⟨rfl, rfl, fun v hv hvl => ?_⟩, ?_⟩
        · by_cases e : v = wn
          · rw [e]; exact q2
          · exact h1 v (by omega) hvl
        · rw [bk105_2]
          simp (disch := first | omega | exact Nat.le_of_ble_eq_true rfl) only [bk105_0, bk105_51, bk105_52, bk105_53, bk105_59, Int.reduceToNat, vA_ap, Nat.reduceEqDiff, if_true, if_false, bx_nil, isL_I, isL_R, isL_U, if_ff, bind_some, tl_some, tl_none, bx_iconst, bx_istore_3, bx_iload_3, bx_aload_0, gf32_1 hG, bx_ic_ge, bx_iload_1, bx_ic_ne, bx_iload_2, bx_ishr, bx_iand, bx_if_ne, gf32_3 hG, ia34 hG, is34 hG, bx_ixor, bx_goto, bx_iret, bx_iinc3, rg_size hG row29, rg_lane hG row29, ri_lane hG row29, hkk, if_neg (show ¬ (k : Int) ≤ wn by omega), if_pos q1, hb, one_ne]
      · rw [if_neg q2] at hb
        right
        obtain ⟨e, e1, e2, e3⟩ := he wn (by omega)
        have hdf := dif_N (a := e) (b := D) (by omega) (by omega)
        by_cases q3 : dif e D = 0
        · have q3' : ((dif e D : Nat) : Int) = 0 := by omega
          refine ⟨wn, ?_, Or.inr ⟨wn, rfl, by omega, q1, by simpa using q2, fun v hv hs => (dif_0.mp q3) v ((e3 v).mpr ⟨hv, hs⟩)⟩⟩
          rw [bk105_2]
          simp (disch := first | omega | exact Nat.le_of_ble_eq_true rfl) only [bk105_0, bk105_51, bk105_52, bk105_53, bk105_59, Int.reduceToNat, vA_ap, Nat.reduceEqDiff, if_true, if_false, bx_nil, isL_I, isL_R, isL_U, if_ff, bind_some, tl_some, tl_none, bx_iconst, bx_istore_3, bx_iload_3, bx_aload_0, gf32_1 hG, bx_ic_ge, bx_iload_1, bx_ic_ne, bx_iload_2, bx_ishr, bx_iand, bx_if_ne, gf32_3 hG, ia34 hG, is34 hG, bx_ixor, bx_goto, bx_iret, bx_iinc3, rg_size hG row29, rg_lane hG row29, ri_lane hG row29, hkk, if_neg (show ¬ (k : Int) ≤ wn by omega), if_pos q1, hb, e1, hdf, if_pos q3']
        · have q3' : ¬ ((dif e D : Nat) : Int) = 0 := by omega
          refine ⟨-1, ?_, Or.inl ⟨rfl, fun w hr => ?_⟩⟩
          · rw [bk105_2]
            simp (disch := first | omega | exact Nat.le_of_ble_eq_true rfl) only [bk105_0, bk105_51, bk105_52, bk105_53, bk105_59, Int.reduceToNat, vA_ap, Nat.reduceEqDiff, if_true, if_false, bx_nil, isL_I, isL_R, isL_U, if_ff, bind_some, tl_some, tl_none, bx_iconst, bx_istore_3, bx_iload_3, bx_aload_0, gf32_1 hG, bx_ic_ge, bx_iload_1, bx_ic_ne, bx_iload_2, bx_ishr, bx_iand, bx_if_ne, gf32_3 hG, ia34 hG, is34 hG, bx_ixor, bx_goto, bx_iret, bx_iinc3, rg_size hG row29, rg_lane hG row29, ri_lane hG row29, hkk, if_neg (show ¬ (k : Int) ≤ wn by omega), if_pos q1, hb, e1, hdf, if_neg q3']
          · have hw1 : w = wn := by
              apply Classical.byContradiction
              intro hne
              by_cases lt : w < wn
              · have := h1 w (by omega) hr.2.1
                rw [hr.2.2.1] at this; cases this
              · have := hr.2.2.2 wn (by omega) (by have := hr.2.1; unfold shr; omega)
                exact q2 this
            subst hw1
            exact q3 (dif_0.mpr fun v hv => hr.2.2.2 v ((e3 v).mp hv).1 ((e3 v).mp hv).2)
    · left
      refine ⟨_, _, ⟨rfl, rfl, fun v hv hvl => ?_⟩, ?_⟩
      · by_cases e : v = wn
        · rw [e] at hvl; exact absurd hvl q1
        · exact h1 v (by omega) hvl
      · rw [bk105_2]
        simp (disch := first | omega | exact Nat.le_of_ble_eq_true rfl) only [bk105_0, bk105_51, bk105_52, bk105_53, bk105_59, Int.reduceToNat, vA_ap, Nat.reduceEqDiff, if_true, if_false, bx_nil, isL_I, isL_R, isL_U, if_ff, bind_some, tl_some, tl_none, bx_iconst, bx_istore_3, bx_iload_3, bx_aload_0, gf32_1 hG, bx_ic_ge, bx_iload_1, bx_ic_ne, bx_iload_2, bx_ishr, bx_iand, bx_if_ne, gf32_3 hG, ia34 hG, is34 hG, bx_ixor, bx_goto, bx_iret, bx_iinc3, rg_size hG row29, rg_lane hG row29, ri_lane hG row29, hkk, if_neg (show ¬ (k : Int) ≤ wn by omega), if_neg q1])
  simp (disch := first | omega | exact Nat.le_of_ble_eq_true rfl) only [bk105_0, bk105_51, bk105_52, bk105_53, bk105_59, Int.reduceToNat, vA_ap, Nat.reduceEqDiff, if_true, if_false, bx_nil, isL_I, isL_R, isL_U, if_ff, bind_some, tl_some, tl_none, bx_iconst, bx_istore_3, bx_iload_3, bx_aload_0, gf32_1 hG, bx_ic_ge, bx_iload_1, bx_ic_ne, bx_iload_2, bx_ishr, bx_iand, bx_if_ne, gf32_3 hG, ia34 hG, is34 hG, bx_ixor, bx_goto, bx_iret, bx_iinc3]
  exact hl _ _ ⟨rfl, rfl, fun v hv => by omega⟩
/-- the works that a layer may do and must do -/
def chP (p : LayP) (l : Int) (D must may : Nat) : Prop := (must < 1024 ∧ may < 1024) ∧ (∀ w, may.testBit w = true ↔ Rd p l D w ∧ ¬ 0 < p.2.2.2.2 l (p.2.2.1 w)) ∧ (∀ w, must.testBit w = true ↔ Rd p l D w ∧ 0 < p.2.2.2.2 l (p.2.2.1 w)) ∧ ∀ i, isC p.1 l i → 0 < p.2.2.2.2 l i → ∃ w, Rd p l D w ∧ p.2.2.1 w = i
theorem Rd_rdy {l : Int} {D w : Nat} (h : layX n V) : Rd (lpX n V) l D w ↔ rdy V (V 30 w) D w ∧ isC n l (V 30 w) ∧ (V 8 (xi l (V 30 w)) = -1 ∨ V 8 (xi l (V 30 w)) = V 31 w) := by
  have hk := h.2.1
  constructor
  · rintro ⟨a1, a2, a3, a4, a5⟩
    have a1' : w < (V 29 2).toNat := a1
    exact ⟨⟨by omega, rfl, a2, a4⟩, a3, a5⟩
  · rintro ⟨⟨b1, _, b3, b4⟩, a3, a5⟩
    exact ⟨show w < (V 29 2).toNat by omega, b3, a3, b4, a5⟩
theorem two_lt {w : Nat} (h : w < 10) : 2 ^ w < 1024 := Nat.lt_of_le_of_lt (Nat.pow_le_pow_right (by decide) (show w ≤ 9 by omega)) (by decide)
theorem x_choices {l : Int} {D : Nat} (hG : Good n L G) (h : layX n V) (he : earOK V) (hD : D < 1024) (hl : 0 ≤ l ∧ l ≤ 11) : ∃ r, run (d + 1) 104 0 [xR 32, xI l, xI D, xU, xU, xU, xU, xU, xU] [] (V, G) = some (some (xI r), (V, G)) ∧ ((r = -1 ∧ ∀ S, ¬ Vd (lpX n V) l S D) ∨ ∃ must may : Nat, r = ((must * 1024 + may : Nat) : Int) ∧ chP (lpX n V) l D must may) := by
  obtain ⟨h26, hk, hw, hst, hln, hpl⟩ := id h
  have hRw : ∀ w, Rd (lpX n V) l D w → (w : Int) < V 29 2 := fun w hr => ((Rd_rdy h).mp hr).1.1
  have hl2 := it_inv (D := d + 1) (q := 104) (pc := 10) (hi := 3 * l + 3) (I := fun c ls μ => ∃ must may : Nat, (∃ u6 u7 u8, ls = [xR 32, xI l, xI D, xI may, xI must, xI c, u6, u7, u8]) ∧ μ = (V, G) ∧ (must < 1024 ∧ may < 1024) ∧ (∀ w, may.testBit w = true ↔ Rd (lpX n V) l D w ∧ ¬ 0 < V 8 (xi l (V 30 w)) ∧ xi l (V 30 w) < c) ∧ (∀ w, must.testBit w = true ↔ Rd (lpX n V) l D w ∧ 0 < V 8 (xi l (V 30 w)) ∧ xi l (V 30 w) < c) ∧ ∀ i, isC n l i → xi l i < c → 0 < V 8 (xi l i) → ∃ w : Nat, Rd (lpX n V) l D w ∧ V 30 w = i) (Q := fun y => ∃ r, y = some (some (xI r), (V, G)) ∧ ((r = -1 ∧ ∀ S, ¬ Vd (lpX n V) l S D) ∨ ∃ must may : Nat, r = ((must * 1024 + may : Nat) : Int) ∧ chP (lpX n V) l D must may)) (fun ls μ hI => by
    obtain ⟨must, may, ⟨u6, u7, u8, rfl⟩, rfl, g0, g1, g2, g3⟩ := hI
    have hx : ∀ i, isC n l i → xi l i < 3 * l + 3 := fun i hi => by unfold isC at hi; unfold xi; omega
    refine ⟨((must * 1024 + may : Nat) : Int), ?_, Or.inr ⟨must, may, rfl, g0, fun w => ?_, fun w => ?_, fun i hi hp => g3 i hi (hx i hi) hp⟩⟩
    · have e1 : orI ((must * 1024 : Nat) : Int) (may : Int) = ((must * 1024 + may : Nat) : Int) := by
        rw [or_N (by omega) (by omega), Nat.mul_comm, show 1024 = 2 ^ 10 by rfl, Nat.two_pow_add_eq_or_of_lt (show may < 2 ^ 10 by omega)]
      rw [bk104_10]
      simp (disch := first | omega | exact Nat.le_of_ble_eq_true rfl) only [bk104_0, bk104_35, bk104_91, bk104_95, bk104_96, bk104_120, bk104_135, bk104_142, bk104_148, Int.reduceToNat, vA_ap, Nat.reduceEqDiff, if_true, if_false, bx_nil, isL_I, isL_R, isL_U, if_ff, bind_some, tl_some, tl_none, bx_iconst, bx_istore_3, bx_istore4, bx_iload_1, bx_imul, bx_istore5, bx_iload5, bx_iadd, bx_ic_ge, bx_aload_0, gf32_0 hG, cl308 hG, bx_if_ne, bx_goto, gf5_4 hG, ia8 hG, is8 hG, bx_istore6, gf5_2 hG, ia6 hG, is6 hG, bx_iload_2, cl105 hG, bx_istore7, bx_iload7, bx_ic_eq, bx_iload6, gf32_1 hG, bx_ic_ne, bx_istore8, bx_iload8, bx_if_eq, bx_if_le, bx_iload4, bx_ishl, bx_ior, bx_iload_3, bx_iret, bx_iinc5, bx_bipush, if_pos (show (l + 1) * 3 ≤ 3 * l + 3 by omega), shl_10 g0.1, e1]
    · constructor
      · intro y; have := (g1 w).mp y; exact ⟨this.1, this.2.1⟩
      · rintro ⟨y1, y2⟩; exact (g1 w).mpr ⟨y1, y2, hx _ y1.2.2.1⟩
    · constructor
      · intro y; have := (g2 w).mp y; exact ⟨this.1, this.2.1⟩
      · rintro ⟨y1, y2⟩; exact (g2 w).mpr ⟨y1, y2, hx _ y1.2.2.1⟩) 3 (3 * l) (by omega) (fun c ls μ c0 c1 hI => by
    obtain ⟨must, may, ⟨u6, u7, u8, rfl⟩, rfl, g0, g1, g2, g3⟩ := hI
    have cb : 0 ≤ c ∧ c < 36 := by omega
    have hlc := hln c cb.1 cb.2
    have hcl : c / 3 = l := by omega
    by_cases q : V 6 c = -1
    · -- no cell
      left
      have hno : ∀ i, isC n l i → xi l i ≠ c := fun i hi e => by
        have := ln_xi hi (by omega)
        rw [e, ← hlc, q] at this
        unfold isC at hi; omega
      refine ⟨_, _, ⟨must, may, ⟨u6, u7, u8, rfl⟩, rfl, g0, fun w => ?_, fun w => ?_, fun i hi hx hp => g3 i hi (by have := hno i hi; omega) hp⟩, ?_⟩
      · rw [g1 w]
        constructor
        · rintro ⟨y1, y2, y3⟩; exact ⟨y1, y2, by omega⟩
        · rintro ⟨y1, y2, y3⟩; exact ⟨y1, y2, by have := hno (V 30 w) y1.2.2.1; omega⟩
      · rw [g2 w]
        constructor
        · rintro ⟨y1, y2, y3⟩; exact ⟨y1, y2, by omega⟩
        · rintro ⟨y1, y2, y3⟩; exact ⟨y1, y2, by have := hno (V 30 w) y1.2.2.1; omega⟩
      · rw [bk104_10]
        simp (disch := first | omega | exact Nat.le_of_ble_eq_true rfl) only [bk104_0, bk104_35, bk104_91, bk104_95, bk104_96, bk104_120, bk104_135, bk104_142, bk104_148, Int.reduceToNat, vA_ap, Nat.reduceEqDiff, if_true, if_false, bx_nil, isL_I, isL_R, isL_U, if_ff, bind_some, tl_some, tl_none, bx_iconst, bx_istore_3, bx_istore4, bx_iload_1, bx_imul, bx_istore5, bx_iload5, bx_iadd, bx_ic_ge, bx_aload_0, gf32_0 hG, cl308 hG, bx_if_ne, bx_goto, gf5_4 hG, ia8 hG, is8 hG, bx_istore6, gf5_2 hG, ia6 hG, is6 hG, bx_iload_2, cl105 hG, bx_istore7, bx_iload7, bx_ic_eq, bx_iload6, gf32_1 hG, bx_ic_ne, bx_istore8, bx_iload8, bx_if_eq, bx_if_le, bx_iload4, bx_ishl, bx_ior, bx_iload_3, bx_iret, bx_iinc5, bx_bipush, if_neg (show ¬ (l + 1) * 3 ≤ c by omega), x_isCell hG cb.1 cb.2, b1_f (not_not_intro q)]
    · have q' : lnF n c ≠ -1 := by rw [← hlc]; exact q
      obtain ⟨z1, z2, z3⟩ := ix_ln cb q'
      rw [hcl, ← hlc] at z1 z2
      generalize hi : V 6 c = i at *
      have hxi : ∀ j, isC n l j → (xi l j = c ↔ j = i) := fun j hj => by
        constructor
        · intro e
          have h1 := ln_xi hj (by omega)
          have h2 := ln_xi z1 (by omega)
          rw [e] at h1; rw [z2] at h2
          omega
        · intro e; rw [e]; exact z2
      obtain ⟨r, r1, r2⟩ := x_ready (d := d) (lane := i) hG h he hD
      have hsb := hst c cb.1 cb.2
      have hbits : ∀ (m : Nat) (w0 : Nat) (P : Nat → Prop), (∀ w, m.testBit w = true ↔ P w) → ∀ w, (m ||| 2 ^ w0).testBit w = true ↔ P w ∨ w = w0 := fun m w0 P hm w => by
        rw [Nat.testBit_or, Bool.or_eq_true, hm w, Nat.testBit_two_pow, decide_eq_true_eq]
        constructor
        · rintro (y | y)
          · exact Or.inl y
          · exact Or.inr y.symm
        · rintro (y | y)
          · exact Or.inl y
          · exact Or.inr y.symm
      -- does a work fit
      by_cases ft : ∃ w : Nat, r = w ∧ (V 8 c = -1 ∨ V 8 c = V 31 w)
      · obtain ⟨w0, rfl, f2⟩ := ft
        have hr : rdy V i D w0 := by
          rcases r2 with ⟨y, _⟩ | ⟨w, y1, y2⟩
          · omega
          · have : w0 = w := by omega
            rw [this]; exact y2
        have hR : Rd (lpX n V) l D w0 := (Rd_rdy h).mpr ⟨by rw [hr.2.1]; exact hr, by rw [hr.2.1]; exact z1, by rw [hr.2.1, z2]; exact f2⟩
        have huq : ∀ w, Rd (lpX n V) l D w → V 30 w = i → w = w0 := fun w hw2 e => by
          have := ((Rd_rdy h).mp hw2).1
          rw [e] at this
          exact rdy_one this hr
        have hw0 : w0 < 10 := by have := hr.1; omega
        have h2w := two_lt hw0
        have hsh := shl_N (w := w0) (by omega)
        have hfit : run (d + 1) 104 10 [xR 32, xI l, xI D, xI may, xI must, xI c, u6, u7, u8] [] (V, G) = run (d + 1) 104 96 [xR 32, xI l, xI D, xI may, xI must, xI c, xI (V 8 c), xI w0, u8] [xI 1] (V, G) := by
          rw [bk104_10]
          by_cases s1 : V 8 c = -1
          · simp (disch := first | omega | exact Nat.le_of_ble_eq_true rfl) only [bx_iload5, bx_iload_1, bx_iconst, bx_iadd, bx_imul, bx_ic_ge, if_neg (show ¬ (l + 1) * 3 ≤ c by omega), bx_aload_0, gf32_0 hG, cl308 hG, x_isCell hG cb.1 cb.2, hi, b1_t q, bind_some, tl_some, bx_if_ne, one_ne, if_false, Int.reduceToNat, bk104_35, gf5_4 hG, ia8 hG, bx_istore6, isL_I, if_ff, gf5_2 hG, ia6 hG, bx_iload_2, cl105 hG, r1, bx_istore7, bx_iload7, bx_ic_eq, if_neg (show ¬ ((w0 : Nat) : Int) = -1 by omega), bx_iload6, if_pos s1, bk104_91, bx_goto]
          · have s2 := f2.resolve_left s1
            simp (disch := first | omega | exact Nat.le_of_ble_eq_true rfl) only [bx_iload5, bx_iload_1, bx_iconst, bx_iadd, bx_imul, bx_ic_ge, if_neg (show ¬ (l + 1) * 3 ≤ c by omega), bx_aload_0, gf32_0 hG, cl308 hG, x_isCell hG cb.1 cb.2, hi, b1_t q, bind_some, tl_some, bx_if_ne, one_ne, if_false, Int.reduceToNat, bk104_35, gf5_4 hG, ia8 hG, bx_istore6, isL_I, if_ff, gf5_2 hG, ia6 hG, bx_iload_2, cl105 hG, r1, bx_istore7, bx_iload7, bx_ic_eq, bx_ic_ne, if_neg (show ¬ ((w0 : Nat) : Int) = -1 by omega), bx_iload6, if_neg s1, gf32_1 hG, rg_turn hG row29, ri_turn hG row29, if_pos s2, bx_nil, bk104_91, bx_goto]
        left
        by_cases sp : 0 < V 8 c
        · have hor := or_N (a := must) (b := 2 ^ w0) (by omega) (by omega)
          have hb := hbits must w0 _ g2
          refine ⟨_, _, ⟨must ||| 2 ^ w0, may, ⟨xI (V 8 c), xI w0, xI 1, rfl⟩, rfl, ⟨Nat.or_lt_two_pow (n := 10) g0.1 h2w, g0.2⟩, fun w => ?_, fun w => ?_, fun j hj hx hp => ?_⟩, ?_⟩
          · rw [g1 w]
            constructor
            · rintro ⟨y1, y2, y3⟩; exact ⟨y1, y2, by omega⟩
            · rintro ⟨y1, y2, y3⟩
              refine ⟨y1, y2, ?_⟩
              apply Classical.byContradiction
              intro y4
              have y5 : xi l (V 30 w) = c := by omega
              rw [y5] at y2; exact y2 sp
          · rw [hb w]
            constructor
            · rintro (⟨y1, y2, y3⟩ | y)
              · exact ⟨y1, y2, by omega⟩
              · rw [y]; refine ⟨hR, ?_, ?_⟩
                · rw [hr.2.1, z2]; exact sp
                · rw [hr.2.1, z2]; omega
            · rintro ⟨y1, y2, y3⟩
              by_cases y4 : xi l (V 30 w) = c
              · exact Or.inr (huq w y1 ((hxi _ y1.2.2.1).mp y4))
              · exact Or.inl ⟨y1, y2, by omega⟩
          · by_cases y4 : xi l j = c
            · exact ⟨w0, hR, by rw [hr.2.1]; exact ((hxi j hj).mp y4).symm⟩
            · exact g3 j hj (by omega) hp
          · rw [hfit]
            simp (disch := first | omega | exact Nat.le_of_ble_eq_true rfl) only [bk104_0, bk104_35, bk104_91, bk104_95, bk104_96, bk104_120, bk104_135, bk104_142, bk104_148, Int.reduceToNat, vA_ap, Nat.reduceEqDiff, if_true, if_false, bx_nil, isL_I, isL_R, isL_U, if_ff, bind_some, tl_some, tl_none, bx_iconst, bx_istore_3, bx_istore4, bx_iload_1, bx_imul, bx_istore5, bx_iload5, bx_iadd, bx_ic_ge, bx_aload_0, gf32_0 hG, cl308 hG, bx_if_ne, bx_goto, gf5_4 hG, ia8 hG, is8 hG, bx_istore6, gf5_2 hG, ia6 hG, is6 hG, bx_iload_2, cl105 hG, bx_istore7, bx_iload7, bx_ic_eq, bx_iload6, gf32_1 hG, bx_ic_ne, bx_istore8, bx_iload8, bx_if_eq, bx_if_le, bx_iload4, bx_ishl, bx_ior, bx_iload_3, bx_iret, bx_iinc5, bx_bipush, one_ne, if_neg (show ¬ V 8 c ≤ 0 by omega), hsh, hor]
        · have hor := or_N (a := may) (b := 2 ^ w0) (by omega) (by omega)
          have hb := hbits may w0 _ g1
          refine ⟨_, _, ⟨must, may ||| 2 ^ w0, ⟨xI (V 8 c), xI w0, xI 1, rfl⟩, rfl, ⟨g0.1, Nat.or_lt_two_pow (n := 10) g0.2 h2w⟩, fun w => ?_, fun w => ?_, fun j hj hx hp => ?_⟩, ?_⟩
          · rw [hb w]
            constructor
            · rintro (⟨y1, y2, y3⟩ | y)
              · exact ⟨y1, y2, by omega⟩
              · rw [y]; refine ⟨hR, ?_, ?_⟩
                · rw [hr.2.1, z2]; exact sp
                · rw [hr.2.1, z2]; omega
            · rintro ⟨y1, y2, y3⟩
              by_cases y4 : xi l (V 30 w) = c
              · exact Or.inr (huq w y1 ((hxi _ y1.2.2.1).mp y4))
              · exact Or.inl ⟨y1, y2, by omega⟩
          · rw [g2 w]
            constructor
            · rintro ⟨y1, y2, y3⟩; exact ⟨y1, y2, by omega⟩
            · rintro ⟨y1, y2, y3⟩
              refine ⟨y1, y2, ?_⟩
              apply Classical.byContradiction
              intro y4
              have y5 : xi l (V 30 w) = c := by omega
              rw [y5] at y2; exact sp y2
          · by_cases y4 : xi l j = c
            · rw [y4] at hp; exact absurd hp sp
            · exact g3 j hj (by omega) hp
          · rw [hfit]
            simp (disch := first | omega | exact Nat.le_of_ble_eq_true rfl) only [bk104_0, bk104_35, bk104_91, bk104_95, bk104_96, bk104_120, bk104_135, bk104_142, bk104_148, Int.reduceToNat, vA_ap, Nat.reduceEqDiff, if_true, if_false, bx_nil, isL_I, isL_R, isL_U, if_ff, bind_some, tl_some, tl_none, bx_iconst, bx_istore_3, bx_istore4, bx_iload_1, bx_imul, bx_istore5, bx_iload5, bx_iadd, bx_ic_ge, bx_aload_0, gf32_0 hG, cl308 hG, bx_if_ne, bx_goto, gf5_4 hG, ia8 hG, is8 hG, bx_istore6, gf5_2 hG, ia6 hG, is6 hG, bx_iload_2, cl105 hG, bx_istore7, bx_iload7, bx_ic_eq, bx_iload6, gf32_1 hG, bx_ic_ne, bx_istore8, bx_iload8, bx_if_eq, bx_if_le, bx_iload4, bx_ishl, bx_ior, bx_iload_3, bx_iret, bx_iinc5, bx_bipush, one_ne, if_pos (show V 8 c ≤ 0 by omega), hsh, hor]
      · -- none fits
        have hno : ∀ w, Rd (lpX n V) l D w → V 30 w ≠ i := fun w hw2 e => by
          obtain ⟨y1, y2, y3⟩ := (Rd_rdy h).mp hw2
          rw [e] at y1 y3
          rw [z2] at y3
          rcases r2 with ⟨_, y4⟩ | ⟨w', y4, y5⟩
          · exact y4 w y1
          · have : w = w' := rdy_one y1 y5
            subst this
            exact ft ⟨w, y4, y3⟩
        have hfit : ∃ u7', run (d + 1) 104 10 [xR 32, xI l, xI D, xI may, xI must, xI c, u6, u7, u8] [] (V, G) = run (d + 1) 104 96 [xR 32, xI l, xI D, xI may, xI must, xI c, xI (V 8 c), xI u7', u8] [xI 0] (V, G) := by
          refine ⟨r, ?_⟩
          rw [bk104_10]
          rcases r2 with ⟨rfl, _⟩ | ⟨w', rfl, y5⟩
          · simp (disch := first | omega | exact Nat.le_of_ble_eq_true rfl) only [bx_iload5, bx_iload_1, bx_iconst, bx_iadd, bx_imul, bx_ic_ge, if_neg (show ¬ (l + 1) * 3 ≤ c by omega), bx_aload_0, gf32_0 hG, cl308 hG, x_isCell hG cb.1 cb.2, hi, b1_t q, bind_some, tl_some, bx_if_ne, one_ne, if_false, Int.reduceToNat, bk104_35, gf5_4 hG, ia8 hG, bx_istore6, isL_I, if_ff, gf5_2 hG, ia6 hG, bx_iload_2, cl105 hG, r1, bx_istore7, bx_iload7, bx_ic_eq, if_true, bk104_95, bx_nil]
            rw [bk104_96]
          · have s1 : ¬ V 8 c = -1 := fun y => ft ⟨w', rfl, Or.inl y⟩
            have s2 : ¬ V 8 c = V 31 w' := fun y => ft ⟨w', rfl, Or.inr y⟩
            have hw' := y5.1
            simp (disch := first | omega | exact Nat.le_of_ble_eq_true rfl) only [bx_iload5, bx_iload_1, bx_iconst, bx_iadd, bx_imul, bx_ic_ge, if_neg (show ¬ (l + 1) * 3 ≤ c by omega), bx_aload_0, gf32_0 hG, cl308 hG, x_isCell hG cb.1 cb.2, hi, b1_t q, bind_some, tl_some, bx_if_ne, one_ne, if_false, Int.reduceToNat, bk104_35, gf5_4 hG, ia8 hG, bx_istore6, isL_I, if_ff, gf5_2 hG, ia6 hG, bx_iload_2, cl105 hG, r1, bx_istore7, bx_iload7, bx_ic_eq, bx_ic_ne, if_neg (show ¬ ((w' : Nat) : Int) = -1 by omega), bx_iload6, if_neg s1, gf32_1 hG, rg_turn hG row29, ri_turn hG row29, if_neg s2, bk104_95, bx_nil]
            rw [bk104_96]
        obtain ⟨u7', hfit⟩ := hfit
        by_cases sp : 0 < V 8 c
        · right
          refine ⟨-1, ?_, Or.inl ⟨rfl, fun S hS => ?_⟩⟩
          · rw [hfit]
            simp (disch := first | omega | exact Nat.le_of_ble_eq_true rfl) only [bk104_0, bk104_35, bk104_91, bk104_95, bk104_96, bk104_120, bk104_135, bk104_142, bk104_148, Int.reduceToNat, vA_ap, Nat.reduceEqDiff, if_true, if_false, bx_nil, isL_I, isL_R, isL_U, if_ff, bind_some, tl_some, tl_none, bx_iconst, bx_istore_3, bx_istore4, bx_iload_1, bx_imul, bx_istore5, bx_iload5, bx_iadd, bx_ic_ge, bx_aload_0, gf32_0 hG, cl308 hG, bx_if_ne, bx_goto, gf5_4 hG, ia8 hG, is8 hG, bx_istore6, gf5_2 hG, ia6 hG, is6 hG, bx_iload_2, cl105 hG, bx_istore7, bx_iload7, bx_ic_eq, bx_iload6, gf32_1 hG, bx_ic_ne, bx_istore8, bx_iload8, bx_if_eq, bx_if_le, bx_iload4, bx_ishl, bx_ior, bx_iload_3, bx_iret, bx_iinc5, bx_bipush, if_neg (show ¬ V 8 c ≤ 0 by omega)]
          · obtain ⟨w, hw2, hw3⟩ := hS.2 i z1 (by show 0 < V 8 (xi l i); rw [z2]; exact sp)
            exact hno w (hS.1 w hw2) hw3
        · left
          refine ⟨_, _, ⟨must, may, ⟨xI (V 8 c), xI u7', xI 0, rfl⟩, rfl, g0, fun w => ?_, fun w => ?_, fun j hj hx hp => ?_⟩, ?_⟩
          · rw [g1 w]
            constructor
            · rintro ⟨y1, y2, y3⟩; exact ⟨y1, y2, by omega⟩
            · rintro ⟨y1, y2, y3⟩
              exact ⟨y1, y2, by have := mt (hxi (V 30 w) y1.2.2.1).mp (hno w y1); omega⟩
          · rw [g2 w]
            constructor
            · rintro ⟨y1, y2, y3⟩; exact ⟨y1, y2, by omega⟩
            · rintro ⟨y1, y2, y3⟩
              exact ⟨y1, y2, by have := mt (hxi (V 30 w) y1.2.2.1).mp (hno w y1); omega⟩
          · by_cases y4 : xi l j = c
            · rw [y4] at hp; exact absurd hp sp
            · exact g3 j hj (by omega) hp
          · rw [hfit]
            simp (disch := first | omega | exact Nat.le_of_ble_eq_true rfl) only [bk104_0, bk104_35, bk104_91, bk104_95, bk104_96, bk104_120, bk104_135, bk104_142, bk104_148, Int.reduceToNat, vA_ap, Nat.reduceEqDiff, if_true, if_false, bx_nil, isL_I, isL_R, isL_U, if_ff, bind_some, tl_some, tl_none, bx_iconst, bx_istore_3, bx_istore4, bx_iload_1, bx_imul, bx_istore5, bx_iload5, bx_iadd, bx_ic_ge, bx_aload_0, gf32_0 hG, cl308 hG, bx_if_ne, bx_goto, gf5_4 hG, ia8 hG, is8 hG, bx_istore6, gf5_2 hG, ia6 hG, is6 hG, bx_iload_2, cl105 hG, bx_istore7, bx_iload7, bx_ic_eq, bx_iload6, gf32_1 hG, bx_ic_ne, bx_istore8, bx_iload8, bx_if_eq, bx_if_le, bx_iload4, bx_ishl, bx_ior, bx_iload_3, bx_iret, bx_iinc5, bx_bipush, if_pos (show V 8 c ≤ 0 by omega)])
  simp (disch := first | omega | exact Nat.le_of_ble_eq_true rfl) only [bk104_0, bk104_35, bk104_91, bk104_95, bk104_96, bk104_120, bk104_135, bk104_142, bk104_148, Int.reduceToNat, vA_ap, Nat.reduceEqDiff, if_true, if_false, bx_nil, isL_I, isL_R, isL_U, if_ff, bind_some, tl_some, tl_none, bx_iconst, bx_istore_3, bx_istore4, bx_iload_1, bx_imul, bx_istore5, bx_iload5, bx_iadd, bx_ic_ge, bx_aload_0, gf32_0 hG, cl308 hG, bx_if_ne, bx_goto, gf5_4 hG, ia8 hG, is8 hG, bx_istore6, gf5_2 hG, ia6 hG, is6 hG, bx_iload_2, cl105 hG, bx_istore7, bx_iload7, bx_ic_eq, bx_iload6, gf32_1 hG, bx_ic_ne, bx_istore8, bx_iload8, bx_if_eq, bx_if_le, bx_iload4, bx_ishl, bx_ior, bx_iload_3, bx_iret, bx_iinc5, bx_bipush]
  rw [show l * 3 = 3 * l by omega]
  have hcx : ∀ i, isC n l i → 3 * l ≤ xi l i := fun i hi => by unfold isC at hi; unfold xi; omega
  refine hl2 _ _ ⟨0, 0, ⟨xU, xU, xU, rfl⟩, rfl, by omega, fun w => ?_, fun w => ?_, fun i hi hx => ?_⟩
  · rw [Nat.zero_testBit]
    constructor
    · intro y; cases y
    · rintro ⟨y1, y2, y3⟩; have := hcx (V 30 w) y1.2.2.1; omega
  · rw [Nat.zero_testBit]
    constructor
    · intro y; cases y
    · rintro ⟨y1, y2, y3⟩; have := hcx (V 30 w) y1.2.2.1; omega
  · have := hcx i hi; omega
end RY
