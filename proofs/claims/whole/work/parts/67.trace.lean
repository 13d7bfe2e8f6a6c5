/-! PROBE: light traced layer by layer, and what a hypothesis comes to -/
def eF (j : Int) : Int → Int := fun l => if l = j then 1 else 0
theorem eF_rg {j N : Int} : rg (eF j) N 0 96 := fun l _ _ => by unfold eF; split <;> omega
/-- light at each layer, by turns t -/
def trP (V W : Nat → Int → Int) (t : Int → Int) (j : Int) : Prop := ∀ l : Nat, l ≤ 12 → eqn 6 (W (351 + l)) (sendX (V 3) (V 4) (V 6) t (3 * l) 0 (eF j))
def lnB (LN : Int → Int) : Prop := ∀ c, 0 ≤ c → c < 36 → LN c ≠ -1 → 0 ≤ LN c ∧ LN c + 1 < 6
theorem lanOK_b {n : Int} {LN : Int → Int} (h6 : n ≤ 6) (h : lanOK n LN) : lnB LN := fun c c0 c1 hc => by
  rw [h c c0 c1] at hc ⊢
  have := ln_bd ⟨c0, c1⟩ hc
  omega
theorem send6 {C S LN t t' f g : Int → Int} (hL : lnB LN) (m : Nat) (c : Int) (hc : 0 ≤ c ∧ c + m ≤ 36) (hf : eqn 6 f g) (ht : ∀ j, c ≤ j → j < c + m → t j = t' j) : eqn 6 (sendX C S LN t m c f) (sendX C S LN t' m c g) :=
  sendX_cong m c f g hf (fun j j0 j1 => ⟨rfl, fun j2 => ⟨hL j (by omega) (by omega) j2, ht j j0 j1⟩⟩)
theorem eqn_tr {n : Int} {f g h : Int → Int} (a : eqn n f g) (b : eqn n g h) : eqn n f h := fun l l0 l1 => (a l l0 l1).trans (b l l0 l1)
/-- the turns by a hypothesis -/
def otT (V : Nat → Int → Int) (h : Int) : Int → Int := if V 345 h = -1 ∨ ¬ V 8 (V 345 h) = -1 then V 349 else vU (V 349) (V 345 h) ((V 349 (V 345 h) + V 346 h) % 96)
/-- what tracing needs -/
def xT (V : Nat → Int → Int) : Prop := rg (V 3) 96 0 96 ∧ rg (V 4) 96 0 96 ∧ lnOK (V 6) ∧ lnB (V 6) ∧ rg (V 349) 36 0 95
section TRC
variable {n L d : Nat} {G : XG} {V : Nat → Int → Int}
theorem x_trace {j : Int} (hG : Good n L G) (hT : xT V) (hj : 0 ≤ j ∧ j < 6) : ∃ W, run (d + 3) 404 0 [xR 344, xI j, xU] [] (V, G) = some (none, (W, G)) ∧ (∀ b, ¬ (351 ≤ b ∧ b < 364) → W b = V b) ∧ trP V W (V 349) j := by
  obtain ⟨t1, t2, t3, t4, t5⟩ := hT
  have hl := it_inv (D := d + 3) (q := 404) (pc := 21) (hi := 12) (I := fun k ls μ => ls = [xR 344, xI j, xI k] ∧ ∃ W, μ = (W, G) ∧ (∀ b, ¬ (351 ≤ b ∧ b < 364) → W b = V b) ∧ ∀ l : Nat, (l : Int) ≤ k → eqn 6 (W (351 + l)) (sendX (V 3) (V 4) (V 6) (V 349) (3 * l) 0 (eF j))) (Q := fun y => ∃ W, y = some (none, (W, G)) ∧ (∀ b, ¬ (351 ≤ b ∧ b < 364) → W b = V b) ∧ trP V W (V 349) j) (fun ls μ hI => by
    obtain ⟨rfl, W, rfl, w1, w2⟩ := hI
    refine ⟨W, ?_, w1, fun l hl => w2 l (by omega)⟩
    rw [bk404_21]
    simp (disch := first | omega | exact Nat.le_of_ble_eq_true rfl) only [bk404_0, bk404_77, Int.reduceToNat, vA_ap, Nat.reduceEqDiff, if_true, if_false, bx_nil, isL_I, isL_R, isL_U, if_ff, bind_some, tl_some, tl_none, bx_aload_0, gf344_11 hG, aa350 hG, bx_iconst, cl1400, bx_iload_1, bx_istore_2, bx_iload_2, bx_bipush, bx_ic_ge, bx_iadd, gf344_0 hG, gf344_10 hG, ia349 hG, is349 hG, cl307 hG, bx_iinc2, bx_goto, bx_vret, if_pos (show (12 : Int) ≤ 12 by omega)]) 12 0 (by omega) (fun k ls μ h1 h2 hI => by
    obtain ⟨rfl, W, rfl, w1, w2⟩ := hI
    left
    obtain ⟨r, rfl⟩ : ∃ r : Nat, k = r := ⟨k.toNat, by omega⟩
    have tn : ((r : Int) + 1).toNat = r + 1 := by omega
    have s0 := sf351 hG (show r < 13 by omega)
    have s1 := sf351 hG (show r + 1 < 13 by omega)
    obtain ⟨E, hE⟩ : ∃ E, E = vA W (351 + (r + 1)) (fun j => if 0 ≤ j ∧ j < 0 + 6 then W (351 + r) (0 + (j - 0)) else W (351 + (r + 1)) j) := ⟨_, rfl⟩
    have E1 : ∀ b, b ≠ 351 + (r + 1) → E b = W b := fun b hb => by rw [hE, vA_ne hb]
    have E2 : eqn 6 (E (351 + (r + 1))) (W (351 + r)) := fun l l0 l1 => by rw [hE, vA_same, if_pos (by omega), show 0 + (l - 0) = l by omega]
    have f : ∀ b, ¬ (351 ≤ b ∧ b < 364) → E b = V b := fun b hb => (E1 b (by omega)).trans (w1 b hb)
    have hrg : rg (E (351 + (r + 1))) 6 0 96 := fun l l0 l1 => by
      rw [E2 l l0 l1, w2 r (by omega) l l0 l1]
      exact sendX_rg (N := 6) _ _ _ eF_rg l l0 l1
    have hsd := x_send (d := d) (V := E) (a := 351 + (r + 1)) (t := 349) (fr := r) (to := (r : Int) + 1) (m := 3) hG s1 (gsh hG 349 rfl rfl) (by omega) (by omega) (by omega) (by omega) (by omega) (by omega) (by rw [f 3 (by omega)]; exact t1) (by rw [f 4 (by omega)]; exact t2) (by rw [f 6 (by omega)]; exact t3) (by rw [f _ (by decide)]; exact t5) hrg
    rw [f 3 (by omega), f 4 (by omega), f 6 (by omega), f 349 (by decide)] at hsd
    refine ⟨_, _, ⟨rfl, vA E (351 + (r + 1)) (sendX (V 3) (V 4) (V 6) (V 349) 3 (3 * (r : Int)) (E (351 + (r + 1)))), rfl, fun b hb => ?_, fun l hl => ?_⟩, ?_⟩
    · rw [vA_ne (by omega)]; exact f b hb
    · by_cases e : l = r + 1
      · subst e
        rw [vA_same, show 3 * (r + 1) = 3 * r + 3 by omega, sendX_add, show (0 : Int) + ((3 * r : Nat) : Int) = 3 * (r : Int) by omega]
        exact send6 t4 3 _ (by omega) (eqn_tr E2 (w2 r (by omega))) (fun _ _ _ => rfl)
      · rw [vA_ne (by omega), E1 _ (by omega)]
        exact w2 l (by omega)
    · rw [bk404_21]
      simp (disch := first | omega | exact Nat.le_of_ble_eq_true rfl) only [bk404_0, bk404_77, Int.reduceToNat, vA_ap, Nat.reduceEqDiff, if_true, if_false, bx_nil, isL_I, isL_R, isL_U, if_ff, bind_some, tl_some, tl_none, bx_aload_0, gf344_11 hG, aa350 hG, bx_iconst, cl1400, bx_iload_1, bx_istore_2, bx_iload_2, bx_bipush, bx_ic_ge, bx_iadd, gf344_0 hG, gf344_10 hG, ia349 hG, is349 hG, cl307 hG, bx_iinc2, bx_goto, bx_vret, if_neg (show ¬ 12 ≤ (r : Int) by omega), Int.toNat_natCast, tn, bx_copy s1 s0 (show 351 + (r + 1) ≠ 351 + r by omega) (show (0 : Int) ≤ 6 ∧ (0 : Int) ≤ 0 ∧ (0 : Int) ≤ 0 by omega), ← hE, hsd])
  have hst : run (d + 3) 404 0 [xR 344, xI j, xU] [] (V, G) = run (d + 3) 404 21 [xR 344, xI j, xI 0] [] (vA V (351 + 0) (vU (fun j => if 0 ≤ j ∧ j < ((6 : Nat) : Int) then 0 else V (351 + 0) j) j 1), G) := by
    simp (disch := first | omega | exact Nat.le_of_ble_eq_true rfl) only [bk404_0, bk404_77, Int.reduceToNat, vA_ap, Nat.reduceEqDiff, if_true, if_false, bx_nil, isL_I, isL_R, isL_U, if_ff, bind_some, tl_some, tl_none, bx_aload_0, gf344_11 hG, aa350 hG, bx_iconst, cl1400, bx_iload_1, bx_istore_2, bx_iload_2, bx_bipush, bx_ic_ge, bx_iadd, gf344_0 hG, gf344_10 hG, ia349 hG, is349 hG, cl307 hG, bx_iinc2, bx_goto, bx_vret, j_fill (sf351 hG (show 0 < 13 by omega)), is351 hG, vA_vA]
  rw [hst]
  refine hl _ _ ⟨rfl, _, rfl, fun b hb => vA_ne (by omega), fun l hl => ?_⟩
  have e : l = 0 := by omega
  subst e
  rw [vA_same]
  intro l l0 l1
  show vU (fun j => if 0 ≤ j ∧ j < ((6 : Nat) : Int) then 0 else V (351 + 0) j) j 1 l = eF j l
  unfold vU eF
  by_cases e : l = j
  · rw [if_pos e, if_pos e]
  · rw [if_neg e, if_neg e]
    exact if_pos ⟨l0, l1⟩
theorem x_outcome {A : Nat → Int → Int} {h j : Int} (hG : Good n L G) (hT : xT V) (hA : A 3 = V 3 ∧ A 4 = V 4 ∧ A 6 = V 6) (htr : trP A V (V 349) j) (hh : 0 ≤ h ∧ h < 145) (hc : V 345 h = -1 ∨ (0 ≤ V 345 h ∧ V 345 h < 36)) (hm : ¬ V 345 h = -1 → -2 ≤ V 346 h ∧ V 346 h ≤ 2) : ∃ W a, run (d + 3) 406 0 [xR 344, xI h, xU, xU, xU] [] (V, G) = some (some (xR a), (W, G)) ∧ G.1 a = (1, 6) ∧ (∀ b, b ≠ 364 → W b = V b) ∧ eqn 6 (W a) (sendX (A 3) (A 4) (A 6) (otT V h) 36 0 (eF j)) ∧ a < 365 := by
  obtain ⟨t1, t2, t3, t4, t5⟩ := hT
  unfold otT
  by_cases q : V 345 h = -1 ∨ ¬ V 8 (V 345 h) = -1
  · refine ⟨V, 351 + 12, ?_, sf351 hG (by omega), fun b _ => rfl, ?_⟩
    · by_cases q1 : V 345 h = -1
      · simp (disch := first | omega | exact Nat.le_of_ble_eq_true rfl) only [bk406_0, bk406_23, bk406_31, Int.reduceToNat, vA_ap, Nat.reduceEqDiff, if_true, if_false, bx_nil, isL_I, isL_R, isL_U, if_ff, bind_some, tl_some, tl_none, bx_aload_0, gf344_6 hG, ia345 hG, is345 hG, bx_iload_1, bx_istore_2, bx_iload_2, bx_iconst, bx_ic_eq, gf344_0 hG, cl302 hG, bx_if_eq, gf344_11 hG, aa350 hG, bx_bipush, bx_aret, bx_idiv, bx_istore_3, gf344_10 hG, ia349 hG, is349 hG, bx_istore4, bx_iload4, gf344_7 hG, ia346 hG, is346 hG, bx_iadd, cl1300, bx_iload_3, gf344_12 hG, ia364 hG, is364 hG, cl307 hG, if_pos q1]
      · have q2 : ¬ V 8 (V 345 h) = -1 := q.resolve_left q1
        have c0 := (hc.resolve_left q1).1
        have c1 := (hc.resolve_left q1).2
        simp (disch := first | omega | exact Nat.le_of_ble_eq_true rfl) only [bk406_0, bk406_23, bk406_31, Int.reduceToNat, vA_ap, Nat.reduceEqDiff, if_true, if_false, bx_nil, isL_I, isL_R, isL_U, if_ff, bind_some, tl_some, tl_none, bx_aload_0, gf344_6 hG, ia345 hG, is345 hG, bx_iload_1, bx_istore_2, bx_iload_2, bx_iconst, bx_ic_eq, gf344_0 hG, cl302 hG, bx_if_eq, gf344_11 hG, aa350 hG, bx_bipush, bx_aret, bx_idiv, bx_istore_3, gf344_10 hG, ia349 hG, is349 hG, bx_istore4, bx_iload4, gf344_7 hG, ia346 hG, is346 hG, bx_iadd, cl1300, bx_iload_3, gf344_12 hG, ia364 hG, is364 hG, cl307 hG, if_neg q1, x_isDead hG c0 c1, b1_t q2, one_ne]
    · rw [if_pos q]
      exact ⟨htr 12 (by omega), by omega⟩
  · rw [if_neg q]
    have q1 : ¬ V 345 h = -1 := fun y => q (Or.inl y)
    have q2 : V 8 (V 345 h) = -1 := Classical.byContradiction fun y => q (Or.inr y)
    have c0 := (hc.resolve_left q1).1
    have c1 := (hc.resolve_left q1).2
    have hm' := hm q1
    clear hm hc q
    generalize hcc : V 345 h = c at *
    generalize hmm : V 346 h = mo at *
    obtain ⟨r, hr⟩ : ∃ r : Nat, c / 3 = r := ⟨(c / 3).toNat, by omega⟩
    have hr12 : r < 12 := by omega
    have bt := t5 c c0 c1
    have s0 := sf351 hG (show r < 13 by omega)
    obtain ⟨tt, htt⟩ : ∃ tt, tt = vU (V 349) c ((V 349 c + mo) % 96) := ⟨_, rfl⟩
    have htg : rg tt 36 0 95 := fun k k0 k1 => by
      rw [htt]
      by_cases e : k = c
      · rw [e, vU_at]; omega
      · rw [vU_ne e]; exact t5 k k0 k1
    obtain ⟨B, hB⟩ : ∃ B, B = vA (vA V 349 tt) 364 (fun j => if 0 ≤ j ∧ j < 0 + 6 then V (351 + r) (0 + (j - 0)) else V 364 j) := ⟨_, rfl⟩
    have B1 : ∀ b, b ≠ 349 → b ≠ 364 → B b = V b := fun b b1 b2 => by rw [hB, vA_ne b2, vA_ne b1]
    have B2 : B 349 = tt := by rw [hB, vA_ne (by decide), vA_same]
    have B3 : eqn 6 (B 364) (V (351 + r)) := fun l l0 l1 => by rw [hB, vA_same, if_pos (by omega), show 0 + (l - 0) = l by omega]
    have hrg : rg (B 364) 6 0 96 := fun l l0 l1 => by
      rw [B3 l l0 l1, htr r (by omega) l l0 l1]
      exact sendX_rg (N := 6) _ _ _ eF_rg l l0 l1
    have hsd := x_send (d := d) (V := B) (a := 364) (t := 349) (fr := r) (to := 12) (m := 36 - 3 * r) hG (gsh hG 364 rfl rfl) (gsh hG 349 rfl rfl) (by omega) (by omega) (by omega) (by omega) (by omega) (by omega) (by rw [B1 _ (by decide) (by decide)]; exact t1) (by rw [B1 _ (by decide) (by decide)]; exact t2) (by rw [B1 _ (by decide) (by decide)]; exact t3) (by rw [B2]; exact htg) hrg
    rw [B1 3 (by decide) (by decide), B1 4 (by decide) (by decide), B1 6 (by decide) (by decide), B2] at hsd
    obtain ⟨E, hE⟩ : ∃ E, E = vA B 364 (sendX (V 3) (V 4) (V 6) tt (36 - 3 * r) (3 * (r : Int)) (B 364)) := ⟨_, rfl⟩
    rw [← hE] at hsd
    have E2 : E 349 = tt := by rw [hE, vA_ne (by decide), B2]
    refine ⟨vA E 349 (vU tt c (V 349 c)), 364, ?_, gsh hG 364 rfl rfl, fun b hb => ?_, ?_⟩
    · have n1 : ¬ 364 = 351 + r := by omega
      have n2 : ¬ 351 + r = 349 := by omega
      have hd : run (d + 2) 302 0 [xR 5, xI c] [] (V, G) = some (some (xI 0), (V, G)) := by rw [x_isDead hG c0 c1, b1_f (not_not_intro q2)]
      simp (disch := first | omega | exact Nat.le_of_ble_eq_true rfl) only [bk406_0, bk406_23, bk406_31, Int.reduceToNat, vA_ap, Nat.reduceEqDiff, if_true, if_false, bx_nil, isL_I, isL_R, isL_U, if_ff, bind_some, tl_some, tl_none, bx_aload_0, gf344_6 hG, ia345 hG, is345 hG, bx_iload_1, bx_istore_2, bx_iload_2, bx_iconst, bx_ic_eq, gf344_0 hG, cl302 hG, bx_if_eq, gf344_11 hG, aa350 hG, bx_bipush, bx_aret, bx_idiv, bx_istore_3, gf344_10 hG, ia349 hG, is349 hG, bx_istore4, bx_iload4, gf344_7 hG, ia346 hG, is346 hG, bx_iadd, cl1300, bx_iload_3, gf344_12 hG, ia364 hG, is364 hG, cl307 hG, hcc, hmm, if_neg q1, hd, td_pos c0, hr, Int.toNat_natCast, j_floorMod (show i32 (V 349 c + mo) from ⟨by omega, by omega⟩), ← htt, n2, bx_copy (gsh hG 364 rfl rfl : G.1 364 = (1, 6)) s0 (show 364 ≠ 351 + r by omega) (show (0 : Int) ≤ 6 ∧ (0 : Int) ≤ 0 ∧ (0 : Int) ≤ 0 by omega), ← hB, hsd, E2]
    · by_cases e : b = 349
      · rw [e, vA_same, htt]
        funext k
        by_cases e2 : k = c
        · rw [e2, vU_at]
        · rw [vU_ne e2, vU_ne e2]
      · rw [vA_ne e, hE, vA_ne hb]; exact B1 b e hb
    · refine ⟨?_, by omega⟩
      rw [vA_ne (by decide), hE, vA_same, hA.1, hA.2.1, hA.2.2]
      have e36 : sendX (V 3) (V 4) (V 6) tt 36 0 (eF j) = sendX (V 3) (V 4) (V 6) tt (36 - 3 * r) (0 + ((3 * r : Nat) : Int)) (sendX (V 3) (V 4) (V 6) tt (3 * r) 0 (eF j)) := by
        rw [← sendX_add, show 3 * r + (36 - 3 * r) = 36 by omega]
      rw [← htt, e36, show (0 : Int) + ((3 * r : Nat) : Int) = 3 * (r : Int) by omega]
      refine send6 t4 _ _ (by omega) (eqn_tr B3 (eqn_tr (htr r (by omega)) ?_)) (fun _ _ _ => rfl)
      rw [hA.1, hA.2.1, hA.2.2]
      refine send6 t4 _ _ (by omega) (fun _ _ _ => rfl) (fun k k0 k1 => ?_)
      rw [htt, vU_ne (by omega)]
end TRC
