/-! LAW from its first row -/
theorem law_cell {n L d a s : Nat} {V : Nat → Int → Int} {R : Nat → Int → Option Nat} (hL : L ≤ 2561) : run d 1200 0 [xR 0, xI 0] [] (V, GA n L a R s) = some (some (xI (if (L : Int) ≤ 0 then 0 else V 0 0)), (V, GA n L a R s)) := by
  have h0 : (GA n L a R s).1 0 = (9, L) := rfl
  rw [bk1200_0]
  by_cases c : (L : Int) ≤ 0
  · simp (disch := first | omega | exact Nat.le_of_ble_eq_true rfl) only [bx_iload_1, bx_aload_0, bx_alen h0 ⟨Or.inr (Or.inr rfl), show L ≤ 100000 by omega⟩, bx_ic_ge, if_pos c, Int.reduceToNat, bk1200_12, bx_iconst, bx_iret, bx_nil]
  · simp (disch := first | omega | exact Nat.le_of_ble_eq_true rfl) only [bx_iload_1, bx_aload_0, bx_alen h0 ⟨Or.inr (Or.inr rfl), show L ≤ 100000 by omega⟩, bx_ic_ge, if_neg c, Int.reduceToNat, bk1200_13, bx_goto, bx_sald h0, bx_iret, bx_nil]
theorem m0_eq {n L : Nat} {xs : Nat → Int32} : m0 L xs (ivN n) = (V0 xs, GA n L 1 (fun _ => noR) 0) := by
  have h1 : oI n 1 = 0 := by unfold oI; rw [if_pos (by omega)]
  have h2 : (fun a => if a = 0 then ((9, L) : Nat × Nat) else (0, 0)) = shJ n L (oI n 1) := by
    funext a
    unfold shJ
    by_cases c : a = 0
    · rw [if_pos c, if_pos c]
    · rw [if_neg c, if_neg c, if_neg (by omega)]
  show (V0 xs, (fun a => if a = 0 then ((9, L) : Nat × Nat) else (0, 0)), (fun _ _ => none), 0, 0, ivN n) = (V0 xs, shJ n L (oI n 1), (fun _ => noR), oI n 1, 0, ivN n)
  rw [h2, h1]; rfl
theorem c_x' {n L s : Nat} {v : Int} {V : Nat → Int → Int} {R : Nat → Int → Option Nat} (h6 : n ≤ 6) (hv : i32 v) (hn : v % 5 + 2 = n) (hz : zV 1 V) (hr : zR 1 R) : ∃ s', s' ≤ s + 60000 ∧ run 799 1000 0 [xR 1, xI v, xU] [] (V, GA n L 2 R s) = some (none, (XV10 n V, GA n L 376 (XR10 n R) s')) := by
  refine ⟨_, ?_, c_x (d := 795) h6 hv hn hz hr⟩
  have h := Nat.mul_le_mul h6 h6
  have k : (cO 0 ≤ 100 ∧ cO 1 ≤ 100 ∧ cO 2 ≤ 100 ∧ cO 3 ≤ 100 ∧ cO 4 ≤ 100) ∧ (cO 5 ≤ 100 ∧ cO 6 ≤ 100 ∧ cO 7 ≤ 100 ∧ cO 8 ≤ 100 ∧ cO 9 ≤ 100) := by decide
  generalize n * n = q at *
  omega
theorem c_m' {n L s : Nat} {v : Int} {V : Nat → Int → Int} {R : Nat → Int → Option Nat} (h6 : n ≤ 6) (hn : v % 5 + 2 = n) (hz : zV 376 V) (hr : zR 376 R) : ∃ s', s' ≤ s + 60000 ∧ run 799 1100 0 [xR 376, xI v, xU, xU] [] (V, GA n L 377 R s) = some (none, (vA (vA (vA (vA (vA V 376 (vU (vU zF 7 99) 0 n)) 377 cF) 378 sF) 380 (mF 72)) 381 (mF 72), GA n L 411 (rA R 376 mG) s')) := by
  refine ⟨_, ?_, c_m (d := 797) h6 hn hz hr⟩
  omega
set_option maxRecDepth 20000 in
theorem law_run (L : Nat) (xs : Nat → Int32) (hL : L ≤ 2561) : ∃ (iv o : Nat → Nat) (μ' : XM), (∀ j, o (iv j) = j) ∧ (∀ j, iv j ≠ 0) ∧ run 800 1201 0 (en 1201 [xR 0]) [] (m0 L xs iv) = some (some (xI 1), μ') ∧ μ'.2.2.2.1 ≤ 600000 ∧ μ'.2.2.2.2.1 ≤ 7302250 := by
  obtain ⟨x, hx⟩ : ∃ x : Int, x = if (L : Int) ≤ 0 then 0 else V0 xs 0 0 := ⟨_, rfl⟩
  have hi : ∀ j, i32 (V0 xs 0 j) := fun j => ⟨Int32.le_toInt (xs j.toNat), Int32.toInt_lt (xs j.toNat)⟩
  have hv : i32 x := by
    rw [hx]
    split
    · exact ⟨by omega, by omega⟩
    · exact hi 0
  obtain ⟨n, hn⟩ : ∃ n : Nat, x % 5 + 2 = n := ⟨(x % 5 + 2).toNat, by omega⟩
  have h26 : 2 ≤ n ∧ n ≤ 6 := by omega
  have h6 := h26.2
  have hz : zV 1 (V0 xs) := fun b hb => V0_z hb
  have hr : zR 1 (fun _ => noR) := fun _ _ => rfl
  have hz' : zV 376 (XV10 n (V0 xs)) := fun b hb => by
    unfold XV10 XV9 XV8 XV7 XV6 XV5 XV4 XV3 XV2 XV1
    repeat rw [vA_ne (by omega)]
    exact V0_z (by omega)
  have hr' : zR 376 (XR10 n (fun _ => noR)) := by
    unfold XR10 XR9 XR8 XR7 XR6 XR5 XR4 XR3 XR2 XR1
    repeat (first | exact zR_up hr (by omega) | refine zR_w ?_ (by omega) | refine zR_rw ?_ (by omega) (by omega))
  have hx' : (if (L : Int) ≤ 0 then 0 else XV10 n (V0 xs) 0 0) = x := hx.symm
  have hst : ∃ s, s ≤ 7302250 ∧ run 800 1201 0 (en 1201 [xR 0]) [] (m0 L xs (ivN n)) = run 800 1201 28 [xR 0, xR 1, xR 376, xI 1] [] (WV n (V0 xs), GA n L 411 (WR n) s) := by
    obtain ⟨s1, b1, e1⟩ := c_x' (n := n) (L := L) (s := 0 + cO 10) h6 hv hn hz hr
    obtain ⟨s2, b2, e2⟩ := c_m' (n := n) (L := L) (s := s1 + cO 11) h6 hn hz' hr'
    have k : cO 10 ≤ 100 ∧ cO 11 ≤ 100 := by decide
    refine ⟨s2, by omega, ?_⟩
    rw [m0_eq, show en 1201 [xR 0] = [xR 0, xU, xU, xU] from rfl, bk1201_0]
    rw [c_new (a := 1) (c := 10) h6 (by omega) rfl rfl (hz 1 (by omega)) rfl]
    simp (disch := first | omega | assumption | (with_unfolding_all exact (id rfl)) | (simp only [rA_ap, uR_ap, eq_self, if_true, if_false, Int.reduceEq, Nat.reduceEqDiff]; done) | (with_unfolding_all exact Or.inl rfl) | exact hz _ (by omega) | exact hr _ (by omega) | (simp only [rA_ap, Nat.reduceEqDiff, if_false]; exact hr _ (by omega)) | (simp only [vA_ap, Nat.reduceEqDiff, if_false]; exact hz _ (by omega)) | ((repeat (first | exact zV_up hz (by omega) | refine zV_w ?_ (by omega))); done) | ((repeat (first | exact zR_up hr (by omega) | refine zR_w ?_ (by omega))); done) | (refine zRa ?_; (repeat (first | exact zR_up hr (by omega) | refine zR_w ?_ (by omega) | refine zR_rw ?_ (by omega) (by omega))); done) | ((repeat (first | exact zR_up hr (by omega) | refine zR_w ?_ (by omega) | refine zR_rw ?_ (by omega) (by omega))); done) | exact Nat.le_of_ble_eq_true rfl) only [bx_dupR, bx_aload_0, bx_iconst, cl1200, law_cell hL, ← hx, bind_some, tl_some, tl_none, cl1000, Nat.reduceAdd, e1, bx_astore_1, isL_R, if_ff]
    rw [c_new (a := 376) (c := 11) h6 (by omega) rfl rfl (hz' 376 (by omega)) (hr' 376 (by omega))]
    simp (disch := first | omega | assumption | (with_unfolding_all exact (id rfl)) | (simp only [rA_ap, uR_ap, eq_self, if_true, if_false, Int.reduceEq, Nat.reduceEqDiff]; done) | (with_unfolding_all exact Or.inl rfl) | exact hz _ (by omega) | exact hr _ (by omega) | (simp only [rA_ap, Nat.reduceEqDiff, if_false]; exact hr _ (by omega)) | (simp only [vA_ap, Nat.reduceEqDiff, if_false]; exact hz _ (by omega)) | ((repeat (first | exact zV_up hz (by omega) | refine zV_w ?_ (by omega))); done) | ((repeat (first | exact zR_up hr (by omega) | refine zR_w ?_ (by omega))); done) | (refine zRa ?_; (repeat (first | exact zR_up hr (by omega) | refine zR_w ?_ (by omega) | refine zR_rw ?_ (by omega) (by omega))); done) | ((repeat (first | exact zR_up hr (by omega) | refine zR_w ?_ (by omega) | refine zR_rw ?_ (by omega) (by omega))); done) | exact Nat.le_of_ble_eq_true rfl) only [bx_dupR, bx_aload_0, bx_iconst, cl1200, law_cell hL, hx', bind_some, tl_some, tl_none, cl1100, Nat.reduceAdd, e2, bx_astore_2, bx_istore_3, isL_R, if_ff, bx_nil]
    rfl
  obtain ⟨s, hs, he⟩ := hst
  have h0 : ∀ j, i32 (WV n (V0 xs) 0 j) := fun j => hi j
  obtain ⟨V', hV'⟩ := law_loop (good_0 (L := L) (s := s) h26) hL (fun j => iv_0 h6 j) 600 1 (WV n (V0 xs)) (by omega) (by omega) (by omega) h0 (inv_0 h26)
  refine ⟨ivN n, oI n, _, fun j => o_iv h26.1 h6 j, fun j => iv_0 h6 j, he.trans hV', ?_, hs⟩
  show oI n 411 ≤ 600000
  unfold oI
  rw [if_neg (by omega), if_neg (by omega)]; omega
