/-! LAY: the class's greatest sets, and settings -/
/-- S is the greatest set that a layer may do on the way to L layers -/
def gsP (p : LayP) (b l : Int) (D : Nat) (L : Int) (S : Nat) : Prop := Vd p l S D ∧ FwP p b (l + 1) (D ||| S) L ∧ ∀ S', Vd p l S' D → FwP p b (l + 1) (D ||| S') L → S' ≤ S
theorem gsP_one {p : LayP} {b l : Int} {D : Nat} {L : Int} {S S' : Nat} (h : gsP p b l D L S) (h' : gsP p b l D L S') : S = S' :=
  Nat.le_antisymm (h'.2.2 S h.1 h.2.1) (h.2.2 S' h'.1 h'.2.1)
/-- one layer's works are set: numbers of cells by N -/
def plA (p : LayP) (N : Int → Int) (l : Int) (S : Nat) : Nat → (Int → Int) → Int → Int
  | 0, F => F
  | w + 1, F => if S.testBit w = true ∧ p.2.2.2.2 l (p.2.2.1 w) = -1 then vU (plA p N l S w F) (N (p.2.2.1 w)) (p.2.2.2.1 w) else plA p N l S w F
def dnF (sq : Nat → Nat) : Nat → Nat
  | 0 => 0
  | l + 1 => dnF sq l ||| sq l
/-- the way down the layers -/
def wayP (p : LayP) (b L : Int) (sq : Nat → Nat) : Prop := ∀ l : Nat, (l : Int) < L → gsP p b l (dnF sq l) L (sq l)
def layA (p : LayP) (N : Int → Int → Int) (sq : Nat → Nat) (F : Int → Int) : Nat → Int → Int
  | 0 => F
  | l + 1 => plA p (N l) l (sq l) p.2.1 (layA p N sq F l)
theorem dnF_cong {sq sq' : Nat → Nat} : ∀ (l : Nat), (∀ j, j < l → sq j = sq' j) → dnF sq l = dnF sq' l
  | 0, _ => rfl
  | l + 1, h => by
    unfold dnF
    rw [dnF_cong l (fun j hj => h j (by omega)), h l (by omega)]
theorem way_one {p : LayP} {b L : Int} {sq sq' : Nat → Nat} (h : wayP p b L sq) (h' : wayP p b L sq') : ∀ l : Nat, (l : Int) < L → sq l = sq' l := by
  intro l
  induction l using Nat.strongRecOn with
  | ind l ih =>
    intro hl
    have h1 := h l hl
    have h2 := h' l hl
    rw [dnF_cong (sq := sq) (sq' := sq') l (fun j hj => ih j hj (by omega))] at h1
    exact gsP_one h1 h2
theorem layA_cong {p : LayP} {N : Int → Int → Int} {sq sq' : Nat → Nat} {F : Int → Int} : ∀ (l : Nat), (∀ j, j < l → sq j = sq' j) → layA p N sq F l = layA p N sq' F l
  | 0, _ => rfl
  | l + 1, h => by
    unfold layA
    rw [layA_cong l (fun j hj => h j (by omega)), h l (by omega)]
/-- along the way what is left takes just as many layers -/
theorem way_fw {p : LayP} {b L : Int} {sq : Nat → Nat} (h0 : FwP p b 0 0 L) (h : wayP p b L sq) : ∀ l : Nat, (l : Int) ≤ L → FwP p b l (dnF sq l) L
  | 0, _ => h0
  | l + 1, hl => by
    have := (h l (by omega)).2.1
    rw [show ((l + 1 : Nat) : Int) = (l : Int) + 1 by omega]
    exact this
section XL2
variable {n L d : Nat} {G : XG} {V : Nat → Int → Int}
theorem vd_lt {p : LayP} {l : Int} {S D : Nat} (h : Vd p l S D) : S < 2 ^ p.2.1 := by
  apply Nat.lt_pow_two_of_testBit
  intro i hi
  cases hm : S.testBit i with
  | false => rfl
  | true => have := (h.1 i hm).1; omega
theorem x_greatest {b L' : Int} {l : Nat} {D : Nat} (hG : Good n L G) (hb : 0 ≤ b ∧ b ≤ 12) (hV : fewOK n b V) (hbb : b = 0 ∨ ¬ bare (lpX n V) (b - 1)) (hD : D < 2 ^ (lpX n V).2.1) (hL : L' ≤ 12) (hl : (l : Int) < L') (hF : FwP (lpX n V) b l D L') : ∃ W S, run (d + 16) 107 0 [xR 32, xI l, xI D, xI L', xU, xU, xU, xU] [] (V, G) = some (some (xI ((S : Nat) : Int)), (W, G)) ∧ (∀ b, b ≠ 33 → W b = V b) ∧ memOK (lpX n V) b W ∧ gsP (lpX n V) b l D L' S := by
  obtain ⟨h1, h2, h3, h4, h5⟩ := id hV
  have hk10 : (lpX n V).2.1 ≤ 10 := by
    have := h1.2.1
    show (V 29 2).toNat ≤ 10
    omega
  have hp10 := pow_10 hk10
  obtain ⟨S0, s1, s2⟩ := FwP_ex hF hL hl
  obtain ⟨r, r1, r2⟩ := x_choices (d := d + 14) (l := l) (D := D) hG h1 h2 (by omega) (by omega)
  rcases r2 with ⟨rfl, hno⟩ | ⟨must, may, hr, hch⟩
  · exact absurd s1 (hno S0)
  · obtain ⟨c1, c2⟩ := ch_lt hch
    have hmm := hch.1
    subst hr
    have hand : andI ((must * 1024 + may : Nat) : Int) 1023 = (may : Int) := by
      have h := and_N (a := must * 1024 + may) (b := 1023) (by omega) (by omega)
      have h' : andI ((must * 1024 + may : Nat) : Int) ((1023 : Nat) : Int) = andI ((must * 1024 + may : Nat) : Int) 1023 := rfl
      rw [← h', h, show 1023 = 2 ^ 10 - 1 by rfl, Nat.and_two_pow_sub_one_eq_mod, show (must * 1024 + may) % 2 ^ 10 = may by omega]
    have hshr : shrI ((must * 1024 + may : Nat) : Int) 10 = (must : Int) := by
      have h := shr_N (a := must * 1024 + may) (w := 10) (by omega) (by omega)
      have h' : shrI ((must * 1024 + may : Nat) : Int) ((10 : Nat) : Int) = shrI ((must * 1024 + may : Nat) : Int) 10 := rfl
      rw [← h', h, Nat.shiftRight_eq_div_pow, show (must * 1024 + may) / 2 ^ 10 = must by omega]
    have hthn : orI (D : Int) (must : Int) = ((D ||| must : Nat) : Int) := or_N (by omega) (by omega)
    have hdm : D ||| must < 2 ^ (lpX n V).2.1 := Nat.or_lt_two_pow hD c1
    have hlt : ∀ t, t &&& may = t → (D ||| must) ||| t < 2 ^ (lpX n V).2.1 := fun t ht => Nat.or_lt_two_pow hdm (Nat.lt_of_le_of_lt (by rw [← ht]; exact Nat.and_le_right) c2)
    have hdj : ∀ t, t &&& may = t → must ||| t = must + t := fun t ht => by
      refine or_add must t (Nat.eq_of_testBit_eq fun i => ?_)
      rw [Nat.testBit_and, Nat.zero_testBit]
      cases hm : must.testBit i with
      | false => rfl
      | true =>
        cases ht2 : t.testBit i with
        | false => rfl
        | true =>
          have hmy : may.testBit i = true := by
            have := congrArg (fun x => Nat.testBit x i) ht
            simp only [Nat.testBit_and, ht2, Bool.true_and] at this
            exact this
          exact absurd ((hch.2.2.1 i).mp hm).2 ((hch.2.1 i).mp hmy).2
    have loop : ∀ (s : Nat) (W : Nat → Int → Int), s &&& may = s → (∀ b, b ≠ 33 → W b = V b) → memOK (lpX n V) b W → (∀ t, t &&& may = t → s < t → ¬ FwP (lpX n V) b (l + 1) ((D ||| must) ||| t) L') → ∃ W' S, run (d + 16) 107 34 [xR 32, xI l, xI D, xI L', xI ((must * 1024 + may : Nat) : Int), xI may, xI must, xI s] [] (W, G) = some (some (xI ((S : Nat) : Int)), (W', G)) ∧ (∀ b, b ≠ 33 → W' b = V b) ∧ memOK (lpX n V) b W' ∧ gsP (lpX n V) b l D L' S := by
      intro s
      induction s using Nat.strongRecOn with
      | ind s ihs =>
        intro W hs fW hW hall
        have hs10 : s ≤ may := by rw [← hs]; exact Nat.and_le_right
        -- a set that is found is the greatest
        have hfin : FwP (lpX n V) b (l + 1) ((D ||| must) ||| s) L' → gsP (lpX n V) b l D L' (must ||| s) := fun hf => by
          refine ⟨(ch_vd hch).mpr ⟨s, hs, rfl⟩, by rw [← Nat.or_assoc]; exact hf, fun S' v1 v2 => ?_⟩
          obtain ⟨t, t1, t2⟩ := (ch_vd hch).mp v1
          rw [t2, ← Nat.or_assoc] at v2
          rw [t2, hdj t t1, hdj s hs]
          have : ¬ s < t := fun y => hall t t1 y v2
          omega
        by_cases z : s = 0
        · subst z
          refine ⟨W, must, ?_, fW, hW, ?_⟩
          · rw [bk107_34]
            simp (disch := first | omega | exact Nat.le_of_ble_eq_true rfl) only [bk107_0, bk107_15, bk107_63, bk107_75, Int.reduceToNat, vA_ap, Nat.reduceEqDiff, if_true, if_false, bx_nil, isL_I, isL_R, isL_U, if_ff, bind_some, tl_some, tl_none, bx_aload_0, bx_iload_1, bx_iload_2, cl104 hG, bx_istore4, bx_iload4, bx_if_ge, bx_iconst, bx_iret, bx_sipush, bx_iand, bx_istore5, bx_bipush, bx_ishr, bx_istore6, bx_iload5, bx_istore7, bx_iload7, bx_if_le, bx_iadd, bx_iload6, bx_ior, cl103 hG, bx_iload_3, bx_ic_ne, bx_isub, bx_goto, if_pos (show (((0 : Nat)) : Int) ≤ 0 by omega)]
          · obtain ⟨t, t1, t2⟩ := (ch_vd hch).mp s1
            have hg := (FwP_go hF hL hl s1).mp s2
            rw [t2, ← Nat.or_assoc] at hg
            have t0 : t = 0 := by
              apply Classical.byContradiction
              intro y
              exact hall t t1 (by omega) hg
            rw [t0] at hg
            have := hfin hg
            rw [Nat.or_zero] at this
            exact this
        · have hor : orI ((D ||| must : Nat) : Int) (s : Int) = (((D ||| must) ||| s : Nat) : Int) := or_N (by omega) (by omega)
          have hor2 : orI (must : Int) (s : Int) = ((must ||| s : Nat) : Int) := or_N (by omega) (by omega)
          obtain ⟨m, hm⟩ : ∃ m : Nat, (l : Int) + 1 + m = 12 := ⟨(11 - (l : Int)).toNat, by omega⟩
          obtain ⟨W1, f, t1, t2, t3, t4⟩ := x_few (d := d + 13 - m) (b := b) hG hb m (l + 1) ((D ||| must) ||| s) W hm (by omega) (fewOK_fr fW hV hW) (by rw [lpX_fr fW]; exact hbb) (by rw [lpX_fr fW]; exact hlt s hs)
          rw [lpX_fr fW] at t3 t4
          rw [show d + 13 - m + 2 + m = d + 15 by omega] at t1
          have t1' : run (d + 15) 103 0 [xR 32, xI ((l : Int) + 1), xI (((D ||| must) ||| s : Nat) : Int), xU, xU, xU, xU, xU, xU] [] (W, G) = some (some (xI f), (W1, G)) := t1
          have fW1 : ∀ b, b ≠ 33 → W1 b = V b := fun b hb => (t2 b hb).trans (fW b hb)
          by_cases y : f = L'
          · refine ⟨W1, must ||| s, ?_, fW1, t3, hfin (by rw [← y]; exact t4)⟩
            rw [bk107_34]
            simp (disch := first | omega | exact Nat.le_of_ble_eq_true rfl) only [bk107_0, bk107_15, bk107_63, bk107_75, Int.reduceToNat, vA_ap, Nat.reduceEqDiff, if_true, if_false, bx_nil, isL_I, isL_R, isL_U, if_ff, bind_some, tl_some, tl_none, bx_aload_0, bx_iload_1, bx_iload_2, cl104 hG, bx_istore4, bx_iload4, bx_if_ge, bx_iconst, bx_iret, bx_sipush, bx_iand, bx_istore5, bx_bipush, bx_ishr, bx_istore6, bx_iload5, bx_istore7, bx_iload7, bx_if_le, bx_iadd, bx_iload6, bx_ior, cl103 hG, bx_iload_3, bx_ic_ne, bx_isub, bx_goto, if_neg (show ¬ (s : Int) ≤ 0 by omega), hthn, hor, t1', if_pos y, hor2]
          · have hns : andI ((s : Int) - 1) (may : Int) = (((s - 1) &&& may : Nat) : Int) := by
              have h := and_N (a := s - 1) (b := may) (by omega) (by omega)
              rw [show ((s - 1 : Nat) : Int) = (s : Int) - 1 by omega] at h
              exact h
            obtain ⟨W', S, o1, o2, o3, o4⟩ := ihs ((s - 1) &&& may) (sub_lt (by omega)) W1 (sub_and _ _) fW1 t3 (fun t ht hlt2 => by
              by_cases e : t = s
              · subst e
                intro hc
                exact y (FwP_one t4 hc)
              · refine hall t ht ?_
                apply Classical.byContradiction
                intro y2
                have := sub_next s may t hs ht (by omega)
                omega)
            refine ⟨W', S, ?_, o2, o3, o4⟩
            rw [← o1, bk107_34]
            simp (disch := first | omega | exact Nat.le_of_ble_eq_true rfl) only [bk107_0, bk107_15, bk107_63, bk107_75, Int.reduceToNat, vA_ap, Nat.reduceEqDiff, if_true, if_false, bx_nil, isL_I, isL_R, isL_U, if_ff, bind_some, tl_some, tl_none, bx_aload_0, bx_iload_1, bx_iload_2, cl104 hG, bx_istore4, bx_iload4, bx_if_ge, bx_iconst, bx_iret, bx_sipush, bx_iand, bx_istore5, bx_bipush, bx_ishr, bx_istore6, bx_iload5, bx_istore7, bx_iload7, bx_if_le, bx_iadd, bx_iload6, bx_ior, cl103 hG, bx_iload_3, bx_ic_ne, bx_isub, bx_goto, if_neg (show ¬ (s : Int) ≤ 0 by omega), hthn, hor, t1', if_neg y, hns]
    obtain ⟨W', S, o1, o2, o3, o4⟩ := loop may V (Nat.and_self _) (fun _ _ => rfl) h5 (fun t ht hlt2 => by
      have : t ≤ may := by rw [← ht]; exact Nat.and_le_right
      omega)
    refine ⟨W', S, ?_, o2, o3, o4⟩
    rw [← o1]
    have r1' : run (d + 15) 104 0 [xR 32, xI l, xI D, xU, xU, xU, xU, xU, xU] [] (V, G) = some (some (xI ((must * 1024 + may : Nat) : Int)), (V, G)) := r1
    simp (disch := first | omega | exact Nat.le_of_ble_eq_true rfl) only [bk107_0, bk107_15, bk107_63, bk107_75, Int.reduceToNat, vA_ap, Nat.reduceEqDiff, if_true, if_false, bx_nil, isL_I, isL_R, isL_U, if_ff, bind_some, tl_some, tl_none, bx_aload_0, bx_iload_1, bx_iload_2, cl104 hG, bx_istore4, bx_iload4, bx_if_ge, bx_iconst, bx_iret, bx_sipush, bx_iand, bx_istore5, bx_bipush, bx_ishr, bx_istore6, bx_iload5, bx_istore7, bx_iload7, bx_if_le, bx_iadd, bx_iload6, bx_ior, cl103 hG, bx_iload_3, bx_ic_ne, bx_isub, bx_goto, r1', if_pos (show 0 ≤ ((must * 1024 + may : Nat) : Int) by omega), hand, hshr]
/-- one layer is set -/
theorem x_putLayer {l S D : Nat} (hG : Good n L G) (h : layX n V) (hl : l ≤ 11) (hS : S < 1024) (hv : Vd (lpX n V) l S D) : run (d + 1) 108 0 [xR 32, xI l, xI S, xU, xU] [] (V, G) = some (none, (vA V 7 (plA (lpX n V) (xi l) l S (lpX n V).2.1 (V 7)), G)) := by
  obtain ⟨h26, hk, hwl, hst, hln, hpl⟩ := id h
  obtain ⟨k, hkk⟩ : ∃ k : Nat, V 29 2 = k := ⟨(V 29 2).toNat, by omega⟩
  have hp2 : (lpX n V).2.1 = k := by show (V 29 2).toNat = k; omega
  rw [hp2]
  have hl2 := it_inv (D := d + 1) (q := 108) (pc := 2) (hi := k) (I := fun w ls μ => (∃ u, ls = [xR 32, xI l, xI S, xI w, u]) ∧ μ = (vA V 7 (plA (lpX n V) (xi l) l S w.toNat (V 7)), G)) (Q := fun y => y = some (none, (vA V 7 (plA (lpX n V) (xi l) l S k (V 7)), G))) (fun ls μ hI => by
    obtain ⟨⟨u, rfl⟩, rfl⟩ := hI
    rw [bk108_2, Int.toNat_natCast]
    simp (disch := first | omega | exact Nat.le_of_ble_eq_true rfl) only [bk108_0, bk108_25, bk108_42, bk108_81, bk108_87, Int.reduceToNat, vA_ap, Nat.reduceEqDiff, if_true, if_false, bx_nil, isL_I, isL_R, isL_U, if_ff, bind_some, tl_some, tl_none, bx_iconst, bx_istore_3, bx_iload_3, bx_aload_0, gf32_1 hG, bx_ic_ge, bx_iload_2, bx_ishr, bx_iand, bx_if_ne, bx_goto, gf32_0 hG, bx_iload_1, cl301 hG, bx_istore4, bx_iload4, bx_ic_eq, cl302 hG, gf5_3 hG, ia7 hG, is7 hG, bx_iinc3, bx_vret, rg_size hG row29, hkk, if_pos (show (k : Int) ≤ k by omega)]) k 0 (by omega) (fun w ls μ w0 w1 hI => by
    obtain ⟨⟨u, rfl⟩, rfl⟩ := hI
    obtain ⟨wn, rfl⟩ : ∃ wn : Nat, w = wn := ⟨w.toNat, by omega⟩
    left
    have hb := bit_N (a := S) (w := wn) (by omega) (by omega)
    have hwb := hwl wn (by omega) (by omega)
    have e3 : plA (lpX n V) (xi l) l S ((wn : Int) + 1).toNat (V 7) = if S.testBit wn = true ∧ V 8 (xi l (V 30 wn)) = -1 then vU (plA (lpX n V) (xi l) l S (wn : Int).toNat (V 7)) (xi l (V 30 wn)) (V 31 wn) else plA (lpX n V) (xi l) l S (wn : Int).toNat (V 7) := by
      rw [show ((wn : Int) + 1).toNat = wn + 1 by omega, Int.toNat_natCast]
      rfl
    rw [e3]
    generalize plA (lpX n V) (xi l) l S (wn : Int).toNat (V 7) = F
    by_cases q1 : S.testBit wn = true
    · rw [if_pos q1] at hb
      have hc : isC n l (V 30 wn) := (hv.1 wn q1).2.2.1
      have hx := xi_in (by omega) hc
      have hca := x_cellAt (d := d) (l := (l : Int)) (i := V 30 wn) (V := vA V 7 F) hG hpl h26.1 h26.2
      rw [if_pos hc] at hca
      have exi : 3 * (l : Int) + V 30 wn / 2 = xi l (V 30 wn) := rfl
      rw [exi] at hca
      generalize xi l (V 30 wn) = c at *
      by_cases q2 : V 8 c = -1
      · rw [if_pos ⟨q1, q2⟩]
        have hd : run d 302 0 [xR 5, xI c] [] (vA V 7 F, G) = some (some (xI 0), (vA V 7 F, G)) := by
          rw [x_isDead hG hx.1 hx.2]
          have : b1 (¬ (vA V 7 F) 8 c = -1) = 0 := b1_f (not_not_intro q2)
          rw [this]
        refine ⟨_, _, ⟨⟨xI c, rfl⟩, rfl⟩, ?_⟩
        rw [bk108_2]
        simp (disch := first | omega | exact Nat.le_of_ble_eq_true rfl) only [bk108_0, bk108_25, bk108_42, bk108_81, bk108_87, Int.reduceToNat, vA_ap, Nat.reduceEqDiff, if_true, if_false, bx_nil, isL_I, isL_R, isL_U, if_ff, bind_some, tl_some, tl_none, bx_iconst, bx_istore_3, bx_iload_3, bx_aload_0, gf32_1 hG, bx_ic_ge, bx_iload_2, bx_ishr, bx_iand, bx_if_ne, bx_goto, gf32_0 hG, bx_iload_1, cl301 hG, bx_istore4, bx_iload4, bx_ic_eq, cl302 hG, gf5_3 hG, ia7 hG, is7 hG, bx_iinc3, bx_vret, rg_size hG row29, rg_lane hG row29, ri_lane hG row29, rg_turn hG row29, ri_turn hG row29, hkk, if_neg (show ¬ (k : Int) ≤ wn by omega), hb, one_ne, hca, if_neg (show ¬ c = -1 by omega), hd, vA_vA]
      · rw [if_neg (fun y => q2 y.2)]
        have hd : run d 302 0 [xR 5, xI c] [] (vA V 7 F, G) = some (some (xI 1), (vA V 7 F, G)) := by
          rw [x_isDead hG hx.1 hx.2]
          have : b1 (¬ (vA V 7 F) 8 c = -1) = 1 := b1_t q2
          rw [this]
        refine ⟨_, _, ⟨⟨xI c, rfl⟩, rfl⟩, ?_⟩
        rw [bk108_2]
        simp (disch := first | omega | exact Nat.le_of_ble_eq_true rfl) only [bk108_0, bk108_25, bk108_42, bk108_81, bk108_87, Int.reduceToNat, vA_ap, Nat.reduceEqDiff, if_true, if_false, bx_nil, isL_I, isL_R, isL_U, if_ff, bind_some, tl_some, tl_none, bx_iconst, bx_istore_3, bx_iload_3, bx_aload_0, gf32_1 hG, bx_ic_ge, bx_iload_2, bx_ishr, bx_iand, bx_if_ne, bx_goto, gf32_0 hG, bx_iload_1, cl301 hG, bx_istore4, bx_iload4, bx_ic_eq, cl302 hG, gf5_3 hG, ia7 hG, is7 hG, bx_iinc3, bx_vret, rg_size hG row29, rg_lane hG row29, ri_lane hG row29, hkk, if_neg (show ¬ (k : Int) ≤ wn by omega), hb, one_ne, hca, if_neg (show ¬ c = -1 by omega), hd]
    · rw [if_neg q1] at hb
      rw [if_neg (fun y => q1 y.1)]
      refine ⟨_, _, ⟨⟨xI (-1), rfl⟩, rfl⟩, ?_⟩
      rw [bk108_2]
      simp (disch := first | omega | exact Nat.le_of_ble_eq_true rfl) only [bk108_0, bk108_25, bk108_42, bk108_81, bk108_87, Int.reduceToNat, vA_ap, Nat.reduceEqDiff, if_true, if_false, bx_nil, isL_I, isL_R, isL_U, if_ff, bind_some, tl_some, tl_none, bx_iconst, bx_istore_3, bx_iload_3, bx_aload_0, gf32_1 hG, bx_ic_ge, bx_iload_2, bx_ishr, bx_iand, bx_if_ne, bx_goto, gf32_0 hG, bx_iload_1, cl301 hG, bx_istore4, bx_iload4, bx_ic_eq, cl302 hG, gf5_3 hG, ia7 hG, is7 hG, bx_iinc3, bx_vret, rg_size hG row29, hkk, if_neg (show ¬ (k : Int) ≤ wn by omega), hb, if_true])
  simp (disch := first | omega | exact Nat.le_of_ble_eq_true rfl) only [bk108_0, bk108_25, bk108_42, bk108_81, bk108_87, Int.reduceToNat, vA_ap, Nat.reduceEqDiff, if_true, if_false, bx_nil, isL_I, isL_R, isL_U, if_ff, bind_some, tl_some, tl_none, bx_iconst, bx_istore_3, bx_iload_3, bx_aload_0, gf32_1 hG, bx_ic_ge, bx_iload_2, bx_ishr, bx_iand, bx_if_ne, bx_goto, gf32_0 hG, bx_iload_1, cl301 hG, bx_istore4, bx_iload4, bx_ic_eq, cl302 hG, gf5_3 hG, ia7 hG, is7 hG, bx_iinc3, bx_vret]
  refine hl2 _ _ ⟨⟨xU, rfl⟩, ?_⟩
  have : plA (lpX n V) (xi l) l S (0 : Int).toNat (V 7) = V 7 := rfl
  rw [this, vA_self]
end XL2
