/-! PROBE, both sides -/
def knC (V : Nat → Int → Int) (c : Int) : Int := knM V (ix c) (V 217 3)
/-- offsets by a hypothesis -/
def hoC (V : Nat → Int → Int) (h : Int) : Int → Int := if V 345 h = -1 then knC V else vU (knC V) (V 345 h) (knC V (V 345 h) + V 346 h)
/-- light that enters at lane j, by offsets O -/
def lgF (V : Nat → Int → Int) (O : Int → Int) (j : Int) : Int → Int := sendX (V 3) (V 4) (V 6) (ttX (V 8) (V 7) O (V 5 6)) 36 0 (eF j)
/-- cells that probes change of the class -/
def frS (V W : Nat → Int → Int) : Prop := ∀ b, b ≠ 216 → ¬ (344 ≤ b ∧ b < 373) → W b = V b
section PR1
variable {n L d : Nat} {G : XG} {V : Nat → Int → Int}
theorem knM_fr2 {W : Nat → Int → Int} {k r : Int} (h1 : W 376 = V 376) (h2 : W 404 = V 404) (h3 : W 406 = V 406) (h4 : W 405 = V 405) : knM W k r = knM V k r := by
  unfold knM
  rw [h1, h2, h3, h4]
/-- turns by what is known now -/
theorem x_fkt (hG : Good n L G) (hx : xB n V) (hf : fndP n V) (he : V 212 0 ≤ 60) : ∃ W, run (d + 5) 405 0 [xR 344, xI (V 217 3)] [] (V, G) = some (none, (W, G)) ∧ (∀ b, b ≠ 216 → b ≠ 348 → b ≠ 349 → W b = V b) ∧ ∀ c, 0 ≤ c → c < 36 → W 349 c = ttX (V 8) (V 7) (knC V) (V 5 6) c := by
  obtain ⟨x1, x2, x3, x4, x5, x6, x7, x8, x9⟩ := hx
  have hfk := x_fillKnown (d := d + 3) (V := V) (a := 348) (tick := V 217 3) hG (gsh hG 348 rfl rfl) (by omega) (by have := hf.2.1; omega) (fun e e0 e1 => (hf.2.2 e e0 e1).1)
  obtain ⟨A, hA⟩ : ∃ A, A = vA (vA V 348 (knX V 348 (V 217 3)).2) 216 (knX V 348 (V 217 3)).1 := ⟨_, rfl⟩
  rw [← hA] at hfk
  have A1 : ∀ b, b ≠ 348 → b ≠ 216 → A b = V b := fun b b1 b2 => by rw [hA, vA_ne b2, vA_ne b1]
  have A2 : A 348 = (knX V 348 (V 217 3)).2 := by rw [hA, vA_ne (by omega), vA_same]
  have hke : ∀ c, 0 ≤ c → c < 36 → (knX V 348 (V 217 3)).2 c = knC V c := fun c c0 c1 => kn_eq (W := V) hf ⟨rfl, rfl, rfl, rfl⟩ ⟨c0, c1⟩
  have hkr : rg (knX V 348 (V 217 3)).2 36 (-100) 100 := fun c c0 c1 => by
    rw [hke c c0 c1]
    have := knM_bd (V := V) (k := ix c) (tick := V 217 3) hf
    unfold knC
    omega
  have hft := x_fillTT (d := d) (V := A) (a := 7) (b := 348) (t := 349) hG (gsh hG 7 rfl rfl) (gsh hG 348 rfl rfl) (gsh hG 349 rfl rfl) (by omega) (by omega) (by omega) (by omega) (by rw [A1 _ (by omega) (by omega)]; exact x3) (by rw [A1 _ (by omega) (by omega)]; exact x4) (by rw [A2]; exact hkr) (by rw [A1 _ (by omega) (by omega)]; exact x6)
  rw [A1 5 (by omega) (by omega), A1 8 (by omega) (by omega), A1 7 (by omega) (by omega), A2] at hft
  refine ⟨vA A 349 (fun j => if 0 ≤ j ∧ j < 36 then ttX (V 8) (V 7) (knX V 348 (V 217 3)).2 (V 5 6) j else A 349 j), ?_, fun b b1 b2 b3 => ?_, fun c c0 c1 => ?_⟩
  · simp (disch := first | omega | exact Nat.le_of_ble_eq_true rfl) only [bk405_0, Int.reduceToNat, vA_ap, Nat.reduceEqDiff, if_true, if_false, bx_nil, isL_I, isL_R, isL_U, if_ff, bind_some, tl_some, tl_none, bx_aload_0, gf344_1 hG, bx_iload_1, gf344_9 hG, ia348 hG, is348 hG, cl203 hG, gf344_0 hG, gf5_3 hG, ia7 hG, is7 hG, gf344_10 hG, ia349 hG, is349 hG, cl309 hG, bx_vret, hfk, hft]
  · rw [vA_ne b3]; exact A1 b b2 b1
  · rw [vA_same, if_pos ⟨c0, c1⟩]
    unfold ttX
    rw [hke c c0 c1]
/-- a row of hypotheses is looked at -/
theorem x_look_lp {A : Nat → Int → Int} {j m tick seen : Int} {N : Nat} {oc : Int → Int → Int} (hG : Good n L G) (hN : A 344 3 = N) (hN2 : N ≤ 145) (h6 : n ≤ 6) (hm : 0 ≤ m ∧ m < (n : Int)) (hh : ∀ k, 0 ≤ k → k < (N : Int) → A 347 k = 0 ∨ A 347 k = 1) (hct : 0 ≤ A 344 5 ∧ A 344 5 ≤ 145) (hoc : ∀ W h, (∀ b, b ≠ 364 → b ≠ 347 → b ≠ 344 → W b = A b) → 0 ≤ h → h < (N : Int) → ∃ W' a, run (d + 3) 406 0 [xR 344, xI h, xU, xU, xU] [] (W, G) = some (some (xR a), (W', G)) ∧ G.1 a = (1, 6) ∧ (∀ b, b ≠ 364 → W' b = W b) ∧ eqn n (W' a) (oc h)) : ∃ W, run (d + 4) 403 64 [xR 344, xI j, xI m, xI tick, xI seen, xI 0] [] (A, G) = some (some (xI seen), (W, G)) ∧ (∀ b, b ≠ 364 → b ≠ 347 → b ≠ 344 → W b = A b) ∧ W 344 = vU (A 344) 5 (A 344 5 - cn (fun k => decide (¬ A 347 k = 0 ∧ ¬ oc k m = seen)) N) ∧ ∀ k, 0 ≤ k → k < (N : Int) → W 347 k = if ¬ A 347 k = 0 ∧ ¬ oc k m = seen then 0 else A 347 k := by
  have hl := it_inv (D := d + 4) (q := 403) (pc := 64) (hi := N) (I := fun h ls μ => ls = [xR 344, xI j, xI m, xI tick, xI seen, xI h] ∧ ∃ W, μ = (W, G) ∧ (∀ b, b ≠ 364 → b ≠ 347 → b ≠ 344 → W b = A b) ∧ W 344 = vU (A 344) 5 (A 344 5 - cn (fun k => decide (¬ A 347 k = 0 ∧ ¬ oc k m = seen)) h) ∧ (∀ k, 0 ≤ k → k < h → W 347 k = if ¬ A 347 k = 0 ∧ ¬ oc k m = seen then 0 else A 347 k) ∧ ∀ k, h ≤ k → k < (N : Int) → W 347 k = A 347 k) (Q := fun y => ∃ W, y = some (some (xI seen), (W, G)) ∧ (∀ b, b ≠ 364 → b ≠ 347 → b ≠ 344 → W b = A b) ∧ W 344 = vU (A 344) 5 (A 344 5 - cn (fun k => decide (¬ A 347 k = 0 ∧ ¬ oc k m = seen)) N) ∧ ∀ k, 0 ≤ k → k < (N : Int) → W 347 k = if ¬ A 347 k = 0 ∧ ¬ oc k m = seen then 0 else A 347 k) (fun ls μ hI => by
    obtain ⟨rfl, W, rfl, w1, w2, w3, w4⟩ := hI
    have es : W 344 3 = N := by rw [w2]; exact hN
    refine ⟨W, ?_, w1, w2, w3⟩
    rw [bk403_64]
    simp (disch := first | omega | exact Nat.le_of_ble_eq_true rfl) only [bk403_0, bk403_114, bk403_120, Int.reduceToNat, vA_ap, Nat.reduceEqDiff, if_true, if_false, bx_nil, isL_I, isL_R, isL_U, if_ff, bind_some, tl_some, tl_none, bx_aload_0, bx_dupI, bx_dupR, gf344_4 hG, bx_iconst, bx_iadd, pf344_4 hG, gf344_0 hG, gf5_3 hG, ia7 hG, is7 hG, gf5_5 hG, ia9 hG, is9 hG, gf344_10 hG, ia349 hG, is349 hG, cl309 hG, bx_iload_1, cl404 hG, gf344_11 hG, aa350 hG, bx_bipush, bx_iload_2, bx_istore4, bx_iload_3, cl405 hG, bx_istore5, bx_iload5, gf344_3 hG, bx_ic_ge, gf344_8 hG, ia347 hG, is347 hG, bx_if_eq, cl406 hG, bx_iload4, bx_ic_eq, gf344_5 hG, bx_isub, pf344_5 hG, bx_iinc5, bx_goto, bx_iret, es, if_pos (show (N : Int) ≤ N by omega)]) N 0 (by omega) (fun h ls μ h1 h2 hI => by
    obtain ⟨rfl, W, rfl, w1, w2, w3, w4⟩ := hI
    left
    have es : W 344 3 = N := by rw [w2]; exact hN
    have hb := cn_bd (p := fun k => decide (¬ A 347 k = 0 ∧ ¬ oc k m = seen)) h1
    have hu := cn_up (p := fun k => decide (¬ A 347 k = 0 ∧ ¬ oc k m = seen)) h1
    have e5 : W 344 5 = A 344 5 - cn (fun k => decide (¬ A 347 k = 0 ∧ ¬ oc k m = seen)) h := by rw [w2]; rfl
    have eh := w4 h (by omega) h2
    by_cases q : A 347 h = 0
    · have qn : ¬ (¬ A 347 h = 0 ∧ ¬ oc h m = seen) := fun y => y.1 q
      rw [if_neg (by simp [q]), Int.add_zero] at hu
      refine ⟨_, _, ⟨rfl, W, rfl, w1, by rw [hu]; exact w2, fun k k0 k1 => ?_, fun k k0 k1 => w4 k (by omega) k1⟩, ?_⟩
      · by_cases e : k = h
        · rw [e, if_neg qn, eh]
        · exact w3 k k0 (by omega)
      · rw [bk403_64]
        simp (disch := first | omega | exact Nat.le_of_ble_eq_true rfl) only [bk403_0, bk403_114, bk403_120, Int.reduceToNat, vA_ap, Nat.reduceEqDiff, if_true, if_false, bx_nil, isL_I, isL_R, isL_U, if_ff, bind_some, tl_some, tl_none, bx_aload_0, bx_dupI, bx_dupR, gf344_4 hG, bx_iconst, bx_iadd, pf344_4 hG, gf344_0 hG, gf5_3 hG, ia7 hG, is7 hG, gf5_5 hG, ia9 hG, is9 hG, gf344_10 hG, ia349 hG, is349 hG, cl309 hG, bx_iload_1, cl404 hG, gf344_11 hG, aa350 hG, bx_bipush, bx_iload_2, bx_istore4, bx_iload_3, cl405 hG, bx_istore5, bx_iload5, gf344_3 hG, bx_ic_ge, gf344_8 hG, ia347 hG, is347 hG, bx_if_eq, cl406 hG, bx_iload4, bx_ic_eq, gf344_5 hG, bx_isub, pf344_5 hG, bx_iinc5, bx_goto, bx_iret, es, if_neg (show ¬ (N : Int) ≤ h by omega), eh, if_pos q]
    · obtain ⟨W', a, r1, r2, r3, r4⟩ := hoc W h w1 h1 h2
      have f344 : W' 344 = W 344 := r3 _ (by decide)
      have f347 : W' 347 = W 347 := r3 _ (by decide)
      have w1' : ∀ b, b ≠ 364 → b ≠ 347 → b ≠ 344 → W' b = A b := fun b b1 b2 b3 => (r3 b b1).trans (w1 b b1 b2 b3)
      have rm := r4 m hm.1 hm.2
      by_cases q2 : oc h m = seen
      · have qn : ¬ (¬ A 347 h = 0 ∧ ¬ oc h m = seen) := fun y => y.2 q2
        rw [if_neg (by simp [q2]), Int.add_zero] at hu
        refine ⟨_, _, ⟨rfl, W', rfl, w1', by rw [hu, f344]; exact w2, fun k k0 k1 => ?_, fun k k0 k1 => by rw [f347]; exact w4 k (by omega) k1⟩, ?_⟩
        · rw [f347]
          by_cases e : k = h
          · rw [e, if_neg qn, eh]
          · exact w3 k k0 (by omega)
        · rw [bk403_64]
          simp (disch := first | omega | exact Nat.le_of_ble_eq_true rfl) only [bk403_0, bk403_114, bk403_120, Int.reduceToNat, vA_ap, Nat.reduceEqDiff, if_true, if_false, bx_nil, isL_I, isL_R, isL_U, if_ff, bind_some, tl_some, tl_none, bx_aload_0, bx_dupI, bx_dupR, gf344_4 hG, bx_iconst, bx_iadd, pf344_4 hG, gf344_0 hG, gf5_3 hG, ia7 hG, is7 hG, gf5_5 hG, ia9 hG, is9 hG, gf344_10 hG, ia349 hG, is349 hG, cl309 hG, bx_iload_1, cl404 hG, gf344_11 hG, aa350 hG, bx_bipush, bx_iload_2, bx_istore4, bx_iload_3, cl405 hG, bx_istore5, bx_iload5, gf344_3 hG, bx_ic_ge, gf344_8 hG, ia347 hG, is347 hG, bx_if_eq, cl406 hG, bx_iload4, bx_ic_eq, gf344_5 hG, bx_isub, pf344_5 hG, bx_iinc5, bx_goto, bx_iret, es, if_neg (show ¬ (N : Int) ≤ h by omega), eh, if_neg q, r1, bx_iald r2, rm, if_pos q2]
      · have qn : ¬ A 347 h = 0 ∧ ¬ oc h m = seen := ⟨q, q2⟩
        rw [if_pos (by simp [q, q2])] at hu
        refine ⟨_, _, ⟨rfl, vA (vA W' 347 (vU (W 347) h 0)) 344 (vU (W 344) 5 (W 344 5 - 1)), rfl, fun b b1 b2 b3 => ?_, ?_, fun k k0 k1 => ?_, fun k k0 k1 => ?_⟩, ?_⟩
        · rw [vA_ne b3, vA_ne b2]; exact w1' b b1 b2 b3
        · rw [vA_same, hu, e5, w2]
          funext k
          by_cases e : k = 5
          · subst e; simp [vU]; omega
          · simp [vU, e]
        · rw [vA_ne (by decide), vA_same]
          by_cases e : k = h
          · rw [e, vU_at, if_pos qn]
          · rw [vU_ne e]; exact w3 k k0 (by omega)
        · rw [vA_ne (by decide), vA_same, vU_ne (by omega)]; exact w4 k (by omega) k1
        · rw [bk403_64]
          have hb2 := cn_bd (p := fun k => decide (¬ A 347 k = 0 ∧ ¬ oc k m = seen)) (show 0 ≤ h by omega)
          simp (disch := first | omega | exact Nat.le_of_ble_eq_true rfl) only [bk403_0, bk403_114, bk403_120, Int.reduceToNat, vA_ap, Nat.reduceEqDiff, if_true, if_false, bx_nil, isL_I, isL_R, isL_U, if_ff, bind_some, tl_some, tl_none, bx_aload_0, bx_dupI, bx_dupR, gf344_4 hG, bx_iconst, bx_iadd, pf344_4 hG, gf344_0 hG, gf5_3 hG, ia7 hG, is7 hG, gf5_5 hG, ia9 hG, is9 hG, gf344_10 hG, ia349 hG, is349 hG, cl309 hG, bx_iload_1, cl404 hG, gf344_11 hG, aa350 hG, bx_bipush, bx_iload_2, bx_istore4, bx_iload_3, cl405 hG, bx_istore5, bx_iload5, gf344_3 hG, bx_ic_ge, gf344_8 hG, ia347 hG, is347 hG, bx_if_eq, cl406 hG, bx_iload4, bx_ic_eq, gf344_5 hG, bx_isub, pf344_5 hG, bx_iinc5, bx_goto, bx_iret, es, if_neg (show ¬ (N : Int) ≤ h by omega), eh, if_neg q, r1, bx_iald r2, rm, if_neg q2, f344, f347, is347 hG (Or.inl rfl : (0 : Int) = 0 ∨ (0 : Int) = 1)])
  exact hl _ _ ⟨rfl, A, rfl, fun _ _ _ _ => rfl, by
    rw [show cn (fun k => decide (¬ A 347 k = 0 ∧ ¬ oc k m = seen)) 0 = 0 from rfl, Int.sub_zero]
    funext k
    by_cases e : k = 5
    · subst e; simp [vU]
    · simp [vU, e], fun k k0 k1 => by omega, fun k k0 k1 => rfl⟩
/-- what one more turn in a living cell comes to -/
theorem tt_more {S B O O' : Int → Int} {cr c mo : Int} (hs : S c = -1) (ho : O' c = O c + mo) : (ttX S B O cr c + mo) % 96 = ttX S B O' cr c := by
  unfold ttX
  rw [if_pos hs, if_pos hs, ho]
  omega
theorem tt_same {S B O O' : Int → Int} {cr c : Int} (ho : ¬ S c = -1 ∨ O' c = O c) : ttX S B O cr c = ttX S B O' cr c := by
  unfold ttX
  by_cases hs : S c = -1
  · rw [if_pos hs, if_pos hs, ho.resolve_left (not_not_intro hs)]
  · rw [if_neg hs, if_neg hs]
/-- outcomes of the class by turns as known -/
theorem ot_lg {A : Nat → Int → Int} {h j : Int} (hL : lnB (V 6)) (hA : A 3 = V 3 ∧ A 4 = V 4 ∧ A 6 = V 6 ∧ A 8 = V 8) (e1 : A 345 h = V 345 h) (e2 : A 346 h = V 346 h) (ht : ∀ c, 0 ≤ c → c < 36 → A 349 c = ttX (V 8) (V 7) (knC V) (V 5 6) c) (hc : V 345 h = -1 ∨ (0 ≤ V 345 h ∧ V 345 h < 36)) : eqn 6 (sendX (A 3) (A 4) (A 6) (otT A h) 36 0 (eF j)) (lgF V (hoC V h) j) := by
  unfold lgF
  rw [hA.1, hA.2.1, hA.2.2.1]
  refine send6 hL 36 0 (by omega) (fun _ _ _ => rfl) (fun c c0 c1 => ?_)
  unfold otT hoC
  rw [e1, e2, hA.2.2.2]
  by_cases q1 : V 345 h = -1
  · rw [if_pos (Or.inl q1), if_pos q1]
    exact ht c c0 (by omega)
  · rw [if_neg q1]
    have cb := hc.resolve_left q1
    by_cases q2 : V 8 (V 345 h) = -1
    · rw [if_neg (fun y => y.elim q1 (fun z => z q2))]
      by_cases e : c = V 345 h
      · rw [e, vU_at, ht _ cb.1 cb.2]
        exact tt_more q2 (by rw [vU_at])
      · rw [vU_ne e, ht c c0 (by omega)]
        exact tt_same (Or.inr (vU_ne e))
    · rw [if_pos (Or.inr q2), ht c c0 (by omega)]
      by_cases e : c = V 345 h
      · rw [e]; exact tt_same (Or.inl q2)
      · exact tt_same (Or.inr (vU_ne e))
/-- what a hypothesis's cell and more may be -/
theorem hyp_bd (h : prbP n V) (hb : ¬ V 344 2 = 0) {k : Int} (hk : 0 ≤ k ∧ k < V 344 3) : (V 345 k = -1 ∨ (0 ≤ V 345 k ∧ V 345 k < 36)) ∧ (k = 0 ∧ V 345 k = -1 ∨ 1 ≤ k ∧ -2 ≤ V 346 k ∧ V 346 k ≤ 2 ∧ (0 ≤ V 345 k ∧ V 345 k < 36) ∧ V 407 ((k - 1) / 4) = ix (V 345 k) ∧ V 346 k = mrF ((k - 1) % 4)) := by
  obtain ⟨p1, p2, p3⟩ := h
  obtain ⟨q1, q2, q3, q4, q5, q6, q7, q8, q9⟩ := p3 (by omega)
  by_cases e : k = 0
  · rw [e]; exact ⟨Or.inl q6, Or.inl ⟨rfl, q6⟩⟩
  · obtain ⟨y1, y2, y3, y4⟩ := q7 ((k - 1) / 4) ((k - 1) % 4) (by omega) (by omega) (by omega) (by omega)
    rw [show 1 + 4 * ((k - 1) / 4) + (k - 1) % 4 = k by omega] at y1 y2 y3 y4
    refine ⟨Or.inr y1, Or.inr ⟨by omega, ?_, ?_, y1, y3, y4⟩⟩
    · rw [y4]; split <;> omega
    · rw [y4]; split <;> omega
end PR1
