/-! CONSTRUCTORS: Reader -/
def rwR (R : Nat → Int → Option Nat) (c arr k : Nat) : Nat → Int → Option Nat := fun b => if (c ≤ b ∧ b < c + 3 * k) ∧ (b - c) % 3 = 0 then uR (uR noR 0 (b + 1)) 1 (b + 1 + 1) else if b = arr then (fun j => if 0 ≤ j ∧ j < (k : Int) then some (c + 3 * j.toNat) else none) else R b
section CC
variable {n L d a s : Nat} {V : Nat → Int → Int} {R : Nat → Int → Option Nat}
theorem rwR_0 {c arr : Nat} (h : R arr = noR) : rwR R c arr 0 = R := by
  funext b
  unfold rwR
  rw [if_neg (by omega)]
  by_cases e : b = arr
  · rw [if_pos e, e, h]
    funext j
    rw [if_neg (by omega)]; rfl
  · rw [if_neg e]
theorem rwR_hi {c arr m b : Nat} (ha : arr < c) (hr : zR c R) (hb : c + 3 * m ≤ b) : rwR R c arr m b = noR := by
  unfold rwR
  rw [if_neg (by omega), if_neg (by omega)]
  exact hr b (by omega)
theorem rwR_up {c arr m : Nat} (ha : arr < c) : rA (rA (rwR R c arr m) (c + 3 * m) (uR (uR noR 0 (c + 3 * m + 1)) 1 (c + 3 * m + 1 + 1))) arr (uR (rwR R c arr m arr) (m : Int) (c + 3 * m)) = rwR R c arr (m + 1) := by
  funext b
  simp only [rA_ap]
  by_cases e : b = arr
  · rw [if_pos e, e]
    unfold rwR
    rw [if_neg (by omega), if_pos rfl, if_neg (by omega), if_pos rfl]
    funext j
    simp only [uR_ap]
    by_cases f : j = (m : Int)
    · rw [if_pos f, if_pos (by omega), f, Int.toNat_natCast]
    · rw [if_neg f]
      by_cases g : 0 ≤ j ∧ j < (m : Int)
      · rw [if_pos g, if_pos (by omega)]
      · rw [if_neg g, if_neg (by omega)]
  · rw [if_neg e]
    by_cases f : b = c + 3 * m
    · rw [if_pos f, f]
      unfold rwR
      rw [if_pos (by omega)]
    · rw [if_neg f]
      unfold rwR
      by_cases g : (c ≤ b ∧ b < c + 3 * m) ∧ (b - c) % 3 = 0
      · rw [if_pos g, if_pos (by omega)]
      · rw [if_neg g, if_neg e, if_neg (show ¬ ((c ≤ b ∧ b < c + 3 * (m + 1)) ∧ (b - c) % 3 = 0) by omega), if_neg e]
theorem aast' {b len z q nx : Nat} {is : List Instr} {ls st : List XV} (h6 : n ≤ 6) (hb : okI n b = true) (hs : shF n b = (5, len)) (hk : okI n z = true) (hsz : (shF n z).1 = 16) {j : Int} (ha : okI n a = true ∨ a = 411) (hlt : b < a) (hzl : z < a) (h0 : 0 ≤ j) (h : j < len) : bx d q (.aastore :: is) nx ls (xR z :: xI j :: xR b :: st) (V, GA n L a R s) = bx d q is nx ls st (V, GA n L a (rA R b (uR (R b) j z)) s) := by
  have k1 : shJ n L (oI n a) b = (5, len) := by rw [shJ_in h6 hb (o_lt h6 hb ha hlt)]; exact hs
  have k2 : (shJ n L (oI n a) z).1 = 16 := by rw [shJ_in h6 hk (o_lt h6 hk ha hzl)]; exact hsz
  rw [bx]
  simp only [xs, tA, tI, k1, k2, true_and, if_pos (show 0 ≤ j ∧ j < (len : Int) from ⟨h0, h⟩)]
  rfl
theorem rd_mid {q nx c arr len m : Nat} {is : List Instr} {ls : List XV} (h6 : n ≤ 6) (harr : arr < c) (hc : 29 ≤ c) (hle : c + 3 * m + 3 ≤ 411) (hA : okI n arr = true) (hsA : shF n arr = (5, len)) (hm : m < len) (t0 : shF n (c + 3 * m) = (16, 0)) (t1 : shF n (c + 3 * m + 1) = (1, 10)) (t2 : shF n (c + 3 * m + 1 + 1) = (1, 10)) (hz : zV c V) (hr : zR c R) : bx (d + 2) q (.new 6 :: .dup :: .invokespecial 600 :: .aastore :: is) nx ls [xI (m : Int), xR arr] (V, GA n L (c + 3 * m) (rwR R c arr m) s) = bx (d + 2) q is nx ls [] (V, GA n L (c + 3 * (m + 1)) (rwR R c arr (m + 1)) (s + 23)) := by
  have k0 : okI n (c + 3 * m) = true := (okI_iff h6).mpr (by omega)
  have a3 : okI n (c + 3 * m + 1 + 1 + 1) = true ∨ c + 3 * m + 1 + 1 + 1 = 411 := by
    by_cases c : c + 3 * m + 1 + 1 + 1 = 411
    · exact Or.inr c
    · exact Or.inl ((okI_iff h6).mpr (by omega))
  have r1 : rwR R c arr m (c + 3 * m) = noR := rwR_hi harr hr (by omega)
  have r2 : zR (c + 3 * m) (rwR R c arr m) := fun b hb => rwR_hi harr hr hb
  have hq : (shF n (c + 3 * m)).1 = 16 := by rw [t0]
  have ne : arr ≠ c + 3 * m := by omega
  rw [c_new (c := 6) h6 (Or.inr (by omega)) k0 t0 (hz _ (by omega)) r1]
  simp (disch := first | omega | assumption | (with_unfolding_all exact (id rfl)) | (simp only [rA_ap, uR_ap, eq_self, if_true, if_false, Int.reduceEq, Nat.reduceEqDiff]; done) | (with_unfolding_all exact Or.inl rfl) | exact hz _ (by omega) | exact hr _ (by omega) | (simp only [rA_ap, Nat.reduceEqDiff, if_false]; exact hr _ (by omega)) | (simp only [vA_ap, Nat.reduceEqDiff, if_false]; exact hz _ (by omega)) | ((repeat (first | exact zV_up hz (by omega) | refine zV_w ?_ (by omega))); done) | ((repeat (first | exact zR_up hr (by omega) | refine zR_w ?_ (by omega))); done) | (refine zRa ?_; (repeat (first | exact zR_up hr (by omega) | refine zR_w ?_ (by omega) | refine zR_rw ?_ (by omega) (by omega))); done) | ((repeat (first | exact zR_up hr (by omega) | refine zR_w ?_ (by omega) | refine zR_rw ?_ (by omega) (by omega))); done) | exact Nat.le_of_ble_eq_true rfl) only [bx_dupR, cl600, c_row (r := c + 3 * m) (n := n) (L := L) h6 (by omega) hle hq t1 t2 (zV_up hz (by omega)) r2, bind_some, tl_none, aast' (n := n) (L := L) (b := arr) (len := len) (z := c + 3 * m) (a := c + 3 * m + 1 + 1 + 1) h6 hA hsA k0 hq a3, rA_ne ne]
  rw [rwR_up harr, show c + 3 * m + 1 + 1 + 1 = c + 3 * (m + 1) by omega, show s + cO 6 + 10 + 10 = s + 23 from rfl]
theorem rows_ok : (List.range 51).all (fun m => decide (shL.getD (41 + 3 * m) (0, 0) = (16, 0) ∧ shL.getD (41 + 3 * m + 1) (0, 0) = (1, 10) ∧ shL.getD (41 + 3 * m + 1 + 1) (0, 0) = (1, 10))) = true := by decide +kernel
theorem rows_ok2 : (List.range 6).all (fun m => decide (shL.getD (194 + 3 * m) (0, 0) = (16, 0) ∧ shL.getD (194 + 3 * m + 1) (0, 0) = (1, 10) ∧ shL.getD (194 + 3 * m + 1 + 1) (0, 0) = (1, 10))) = true := by decide +kernel
set_option maxRecDepth 8000 in
theorem c_reader (h6 : n ≤ 6) (hz : zV 35 V) (hr : zR 35 R) : run (d + 2) 500 0 [xR 35, xI n, xU] [] (V, GA n L 36 R s) = some (none, (vA V 35 (vU zF 0 n), GA n L 212 (rwR (rwR (rA R 35 (uR (uR (uR (uR (uR noR 2 36) 3 37) 4 38) 5 39) 6 40)) 41 37 51) 194 39 6) (s + 100 + 51 + 51 + 6 + 6 + 23 * 51 + 23 * 6))) := by
  have hr5 := hr 35 (by omega)
  have hz5 := hz 35 (by omega)
  obtain ⟨R', hR'⟩ : ∃ R', R' = (rA R 35 (uR (uR (uR (uR (uR noR 2 36) 3 37) 4 38) 5 39) 6 40)) := ⟨_, rfl⟩
  obtain ⟨V', hV'⟩ : ∃ V', V' = vA V 35 (vU zF 0 n) := ⟨_, rfl⟩
  have hr' : zR 36 R' := by rw [hR']; exact zR_w (zR_up hr (by omega)) (by omega)
  have hz' : zV 36 V' := by rw [hV']; exact zV_w (zV_up hz (by omega)) (by omega)
  have r3 : R' 35 3 = some 37 := by rw [hR']; rfl
  have r5 : R' 35 5 = some 39 := by rw [hR']; rfl
  have hst : run (d + 2) 500 0 [xR 35, xI n, xU] [] (V, GA n L 36 R s) = run (d + 2) 500 53 [xR 35, xI n, xI 0] [] (V', GA n L 41 R' (s + 100 + 51 + 51 + 6 + 6)) := by
    simp (disch := first | omega | assumption | (with_unfolding_all exact (id rfl)) | (simp only [rA_ap, uR_ap, eq_self, if_true, if_false, Int.reduceEq, Nat.reduceEqDiff]; done) | (with_unfolding_all exact Or.inl rfl) | exact hz _ (by omega) | exact hr _ (by omega) | (simp only [rA_ap, Nat.reduceEqDiff, if_false]; exact hr _ (by omega)) | (simp only [vA_ap, Nat.reduceEqDiff, if_false]; exact hz _ (by omega)) | ((repeat (first | exact zV_up hz (by omega) | refine zV_w ?_ (by omega))); done) | ((repeat (first | exact zR_up hr (by omega) | refine zR_w ?_ (by omega))); done) | (refine zRa ?_; (repeat (first | exact zR_up hr (by omega) | refine zR_w ?_ (by omega) | refine zR_rw ?_ (by omega) (by omega))); done) | ((repeat (first | exact zR_up hr (by omega) | refine zR_w ?_ (by omega) | refine zR_rw ?_ (by omega) (by omega))); done) | exact Nat.le_of_ble_eq_true rfl) only [bk500_0, bk500_78, bk500_105, Int.reduceToNat, vA_ap, rA_ap, rA_rA, rA_s2, rA2_eq, vA_vA, Nat.reduceEqDiff, Nat.reduceAdd, if_true, if_false, bx_nil, isL_I, isL_R, isL_U, if_ff, bind_some, tl_some, tl_none, bx_obj, bx_dupR, bx_aload_0, bx_bipush, c_arrI (n := n) (L := L) (a := 36) (len := 100) (x := 100) h6 (by omega) rfl rfl rfl (by omega), pfR' 35 502 2 rfl h6 rfl rfl rfl, c_anew (n := n) (L := L) (a := 37) (len := 51) (x := 51) h6 (by omega) rfl rfl rfl (by omega), pfR' 35 503 3 rfl h6 rfl rfl rfl, c_arrI (n := n) (L := L) (a := 38) (len := 51) (x := 51) h6 (by omega) rfl rfl rfl (by omega), pfR' 35 504 4 rfl h6 rfl rfl rfl, c_anew (n := n) (L := L) (a := 39) (len := 6) (x := 6) h6 (by omega) rfl rfl rfl (by omega), pfR' 35 505 5 rfl h6 rfl rfl rfl, c_arrZ (n := n) (L := L) (a := 40) (len := 6) (x := 6) h6 (by omega) rfl rfl rfl (by omega), pfR' 35 506 6 rfl h6 rfl rfl rfl, bx_iload_1, pfI' 35 500 0 rfl h6 rfl rfl rfl, bx_iconst, bx_istore_2, bx_iload_2, bx_ic_gt, gfR' 35 503 3 37 rfl h6 rfl rfl rfl, c_new h6, bx_dupI, cl600, bx_iinc2, bx_goto, bx_ic_ge, gfR' 35 505 5 39 rfl h6 rfl rfl rfl, bx_vret, hr5, hz5]
    rw [hR', hV']
  generalize s + 100 + 51 + 51 + 6 + 6 = s1 at *
  have h := it_up (D := d + 2) (q := 500) (pc := 53) (loc := fun k => [xR 35, xI n, xI k]) (F := fun k => (V', GA n L (41 + 3 * k.toNat) (rwR R' 41 37 k.toNat) (s1 + 23 * k.toNat))) (hi := 51) 51 0 (by omega) (fun k k0 k1 => by
    obtain ⟨m, rfl⟩ : ∃ m : Nat, k = m := ⟨k.toNat, by omega⟩
    have hm : m < 51 := by omega
    have t := of_decide_eq_true (List.all_eq_true.mp rows_ok m (List.mem_range.mpr hm))
    have g3 : rwR R' 41 37 m 35 3 = some 37 := by
      unfold rwR; rw [if_neg (by omega), if_neg (by omega)]; exact r3
    have ka : okI n (41 + 3 * m) = true ∨ 41 + 3 * m = 411 := Or.inl ((okI_iff h6).mpr (by omega))
    rw [bk500_53]
    simp only [Int.toNat_natCast, show ((m : Int) + 1).toNat = m + 1 by omega]
    simp (disch := first | omega | assumption | (with_unfolding_all exact (id rfl)) | (simp only [rA_ap, uR_ap, eq_self, if_true, if_false, Int.reduceEq, Nat.reduceEqDiff]; done) | (with_unfolding_all exact Or.inl rfl) | exact hz _ (by omega) | exact hr _ (by omega) | (simp only [rA_ap, Nat.reduceEqDiff, if_false]; exact hr _ (by omega)) | (simp only [vA_ap, Nat.reduceEqDiff, if_false]; exact hz _ (by omega)) | ((repeat (first | exact zV_up hz (by omega) | refine zV_w ?_ (by omega))); done) | ((repeat (first | exact zR_up hr (by omega) | refine zR_w ?_ (by omega))); done) | (refine zRa ?_; (repeat (first | exact zR_up hr (by omega) | refine zR_w ?_ (by omega) | refine zR_rw ?_ (by omega) (by omega))); done) | ((repeat (first | exact zR_up hr (by omega) | refine zR_w ?_ (by omega) | refine zR_rw ?_ (by omega) (by omega))); done) | exact Nat.le_of_ble_eq_true rfl) only [bk500_0, bk500_78, bk500_105, Int.reduceToNat, vA_ap, rA_ap, rA_rA, rA_s2, rA2_eq, vA_vA, Nat.reduceEqDiff, Nat.reduceAdd, if_true, if_false, bx_nil, isL_I, isL_R, isL_U, if_ff, bind_some, tl_some, tl_none, bx_obj, bx_dupR, bx_aload_0, bx_bipush, c_arrI (n := n) (L := L) (a := 36) (len := 100) (x := 100) h6 (by omega) rfl rfl rfl (by omega), pfR' 35 502 2 rfl h6 rfl rfl rfl, c_anew (n := n) (L := L) (a := 37) (len := 51) (x := 51) h6 (by omega) rfl rfl rfl (by omega), pfR' 35 503 3 rfl h6 rfl rfl rfl, c_arrI (n := n) (L := L) (a := 38) (len := 51) (x := 51) h6 (by omega) rfl rfl rfl (by omega), pfR' 35 504 4 rfl h6 rfl rfl rfl, c_anew (n := n) (L := L) (a := 39) (len := 6) (x := 6) h6 (by omega) rfl rfl rfl (by omega), pfR' 35 505 5 rfl h6 rfl rfl rfl, c_arrZ (n := n) (L := L) (a := 40) (len := 6) (x := 6) h6 (by omega) rfl rfl rfl (by omega), pfR' 35 506 6 rfl h6 rfl rfl rfl, bx_iload_1, pfI' 35 500 0 rfl h6 rfl rfl rfl, bx_iconst, bx_istore_2, bx_iload_2, bx_ic_gt, gfR' 35 503 3 37 rfl h6 rfl rfl rfl, c_new h6, bx_dupI, cl600, bx_iinc2, bx_goto, bx_ic_ge, gfR' 35 505 5 39 rfl h6 rfl rfl rfl, bx_vret, g3, if_neg (show ¬ (50 : Int) < (m : Int) by omega), rd_mid (n := n) (L := L) (c := 41) (arr := 37) (len := 51) (m := m) (V := V') (R := R') h6 (by omega) (by omega) (by omega) rfl rfl hm ((sh_hi (by omega)).trans t.1) ((sh_hi (by omega)).trans t.2.1) ((sh_hi (by omega)).trans t.2.2) (zV_up hz' (by omega)) (zR_up hr' (by omega))]
    rw [show s1 + 23 * m + 23 = s1 + 23 * (m + 1) by omega])
  obtain ⟨R2, hR2⟩ : ∃ R2, R2 = rwR R' 41 37 51 := ⟨_, rfl⟩
  have r25 : R2 35 5 = some 39 := by
    rw [hR2]; unfold rwR; rw [if_neg (by omega), if_neg (by omega)]; exact r5
  have r239 : R2 39 = noR := by
    rw [hR2]; unfold rwR; rw [if_neg (by omega), if_neg (by omega)]; exact hr' _ (by omega)
  have hr2 : zR 194 R2 := by
    rw [hR2]; exact fun b hb => rwR_hi (by omega) (zR_up hr' (by omega)) (by omega)
  have h2 := it_up (D := d + 2) (q := 500) (pc := 80) (loc := fun k => [xR 35, xI n, xI k]) (F := fun k => (V', GA n L (194 + 3 * k.toNat) (rwR R2 194 39 k.toNat) (s1 + 23 * 51 + 23 * k.toNat))) (hi := 6) 6 0 (by omega) (fun k k0 k1 => by
    obtain ⟨m, rfl⟩ : ∃ m : Nat, k = m := ⟨k.toNat, by omega⟩
    have hm : m < 6 := by omega
    have t := of_decide_eq_true (List.all_eq_true.mp rows_ok2 m (List.mem_range.mpr hm))
    have g3 : rwR R2 194 39 m 35 5 = some 39 := by
      unfold rwR; rw [if_neg (by omega), if_neg (by omega)]; exact r25
    have ka : okI n (194 + 3 * m) = true ∨ 194 + 3 * m = 411 := Or.inl ((okI_iff h6).mpr (by omega))
    rw [bk500_80]
    simp only [Int.toNat_natCast, show ((m : Int) + 1).toNat = m + 1 by omega]
    simp (disch := first | omega | assumption | (with_unfolding_all exact (id rfl)) | (simp only [rA_ap, uR_ap, eq_self, if_true, if_false, Int.reduceEq, Nat.reduceEqDiff]; done) | (with_unfolding_all exact Or.inl rfl) | exact hz _ (by omega) | exact hr _ (by omega) | (simp only [rA_ap, Nat.reduceEqDiff, if_false]; exact hr _ (by omega)) | (simp only [vA_ap, Nat.reduceEqDiff, if_false]; exact hz _ (by omega)) | ((repeat (first | exact zV_up hz (by omega) | refine zV_w ?_ (by omega))); done) | ((repeat (first | exact zR_up hr (by omega) | refine zR_w ?_ (by omega))); done) | (refine zRa ?_; (repeat (first | exact zR_up hr (by omega) | refine zR_w ?_ (by omega) | refine zR_rw ?_ (by omega) (by omega))); done) | ((repeat (first | exact zR_up hr (by omega) | refine zR_w ?_ (by omega) | refine zR_rw ?_ (by omega) (by omega))); done) | exact Nat.le_of_ble_eq_true rfl) only [bk500_0, bk500_78, bk500_105, Int.reduceToNat, vA_ap, rA_ap, rA_rA, rA_s2, rA2_eq, vA_vA, Nat.reduceEqDiff, Nat.reduceAdd, if_true, if_false, bx_nil, isL_I, isL_R, isL_U, if_ff, bind_some, tl_some, tl_none, bx_obj, bx_dupR, bx_aload_0, bx_bipush, c_arrI (n := n) (L := L) (a := 36) (len := 100) (x := 100) h6 (by omega) rfl rfl rfl (by omega), pfR' 35 502 2 rfl h6 rfl rfl rfl, c_anew (n := n) (L := L) (a := 37) (len := 51) (x := 51) h6 (by omega) rfl rfl rfl (by omega), pfR' 35 503 3 rfl h6 rfl rfl rfl, c_arrI (n := n) (L := L) (a := 38) (len := 51) (x := 51) h6 (by omega) rfl rfl rfl (by omega), pfR' 35 504 4 rfl h6 rfl rfl rfl, c_anew (n := n) (L := L) (a := 39) (len := 6) (x := 6) h6 (by omega) rfl rfl rfl (by omega), pfR' 35 505 5 rfl h6 rfl rfl rfl, c_arrZ (n := n) (L := L) (a := 40) (len := 6) (x := 6) h6 (by omega) rfl rfl rfl (by omega), pfR' 35 506 6 rfl h6 rfl rfl rfl, bx_iload_1, pfI' 35 500 0 rfl h6 rfl rfl rfl, bx_iconst, bx_istore_2, bx_iload_2, bx_ic_gt, gfR' 35 503 3 37 rfl h6 rfl rfl rfl, c_new h6, bx_dupI, cl600, bx_iinc2, bx_goto, bx_ic_ge, gfR' 35 505 5 39 rfl h6 rfl rfl rfl, bx_vret, g3, if_neg (show ¬ (6 : Int) ≤ (m : Int) by omega), rd_mid (n := n) (L := L) (c := 194) (arr := 39) (len := 6) (m := m) (V := V') (R := R2) h6 (by omega) (by omega) (by omega) rfl rfl hm ((sh_hi (by omega)).trans t.1) ((sh_hi (by omega)).trans t.2.1) ((sh_hi (by omega)).trans t.2.2) (zV_up hz' (by omega)) hr2]
    rw [show s1 + 23 * 51 + 23 * m + 23 = s1 + 23 * 51 + 23 * (m + 1) by omega])
  rw [hst]
  have e0 : rwR R' 41 37 (0 : Int).toNat = R' := rwR_0 (hr' _ (by omega))
  have e2 : rwR R2 194 39 (0 : Int).toNat = R2 := rwR_0 r239
  have h' : run (d + 2) 500 53 [xR 35, xI n, xI 0] [] (V', GA n L 41 R' s1) = run (d + 2) 500 53 [xR 35, xI n, xI 51] [] (V', GA n L 194 R2 (s1 + 23 * 51)) := by
    rw [hR2]
    refine Eq.trans ?_ h
    rw [e0]; rfl
  have h2' : run (d + 2) 500 80 [xR 35, xI n, xI 0] [] (V', GA n L 194 R2 (s1 + 23 * 51)) = run (d + 2) 500 80 [xR 35, xI n, xI 6] [] (V', GA n L 212 (rwR R2 194 39 6) (s1 + 23 * 51 + 23 * 6)) := by
    refine Eq.trans ?_ h2
    rw [e2]; rfl
  rw [h', bk500_53]
  simp (disch := first | omega | assumption | (with_unfolding_all exact (id rfl)) | (simp only [rA_ap, uR_ap, eq_self, if_true, if_false, Int.reduceEq, Nat.reduceEqDiff]; done) | (with_unfolding_all exact Or.inl rfl) | exact hz _ (by omega) | exact hr _ (by omega) | (simp only [rA_ap, Nat.reduceEqDiff, if_false]; exact hr _ (by omega)) | (simp only [vA_ap, Nat.reduceEqDiff, if_false]; exact hz _ (by omega)) | ((repeat (first | exact zV_up hz (by omega) | refine zV_w ?_ (by omega))); done) | ((repeat (first | exact zR_up hr (by omega) | refine zR_w ?_ (by omega))); done) | (refine zRa ?_; (repeat (first | exact zR_up hr (by omega) | refine zR_w ?_ (by omega) | refine zR_rw ?_ (by omega) (by omega))); done) | ((repeat (first | exact zR_up hr (by omega) | refine zR_w ?_ (by omega) | refine zR_rw ?_ (by omega) (by omega))); done) | exact Nat.le_of_ble_eq_true rfl) only [bk500_0, bk500_78, bk500_105, Int.reduceToNat, vA_ap, rA_ap, rA_rA, rA_s2, rA2_eq, vA_vA, Nat.reduceEqDiff, Nat.reduceAdd, if_true, if_false, bx_nil, isL_I, isL_R, isL_U, if_ff, bind_some, tl_some, tl_none, bx_obj, bx_dupR, bx_aload_0, bx_bipush, c_arrI (n := n) (L := L) (a := 36) (len := 100) (x := 100) h6 (by omega) rfl rfl rfl (by omega), pfR' 35 502 2 rfl h6 rfl rfl rfl, c_anew (n := n) (L := L) (a := 37) (len := 51) (x := 51) h6 (by omega) rfl rfl rfl (by omega), pfR' 35 503 3 rfl h6 rfl rfl rfl, c_arrI (n := n) (L := L) (a := 38) (len := 51) (x := 51) h6 (by omega) rfl rfl rfl (by omega), pfR' 35 504 4 rfl h6 rfl rfl rfl, c_anew (n := n) (L := L) (a := 39) (len := 6) (x := 6) h6 (by omega) rfl rfl rfl (by omega), pfR' 35 505 5 rfl h6 rfl rfl rfl, c_arrZ (n := n) (L := L) (a := 40) (len := 6) (x := 6) h6 (by omega) rfl rfl rfl (by omega), pfR' 35 506 6 rfl h6 rfl rfl rfl, bx_iload_1, pfI' 35 500 0 rfl h6 rfl rfl rfl, bx_iconst, bx_istore_2, bx_iload_2, bx_ic_gt, gfR' 35 503 3 37 rfl h6 rfl rfl rfl, c_new h6, bx_dupI, cl600, bx_iinc2, bx_goto, bx_ic_ge, gfR' 35 505 5 39 rfl h6 rfl rfl rfl, bx_vret, if_pos (show (50 : Int) < 51 by omega)]
  rw [h2', bk500_80]
  simp (disch := first | omega | assumption | (with_unfolding_all exact (id rfl)) | (simp only [rA_ap, uR_ap, eq_self, if_true, if_false, Int.reduceEq, Nat.reduceEqDiff]; done) | (with_unfolding_all exact Or.inl rfl) | exact hz _ (by omega) | exact hr _ (by omega) | (simp only [rA_ap, Nat.reduceEqDiff, if_false]; exact hr _ (by omega)) | (simp only [vA_ap, Nat.reduceEqDiff, if_false]; exact hz _ (by omega)) | ((repeat (first | exact zV_up hz (by omega) | refine zV_w ?_ (by omega))); done) | ((repeat (first | exact zR_up hr (by omega) | refine zR_w ?_ (by omega))); done) | (refine zRa ?_; (repeat (first | exact zR_up hr (by omega) | refine zR_w ?_ (by omega) | refine zR_rw ?_ (by omega) (by omega))); done) | ((repeat (first | exact zR_up hr (by omega) | refine zR_w ?_ (by omega) | refine zR_rw ?_ (by omega) (by omega))); done) | exact Nat.le_of_ble_eq_true rfl) only [bk500_0, bk500_78, bk500_105, Int.reduceToNat, vA_ap, rA_ap, rA_rA, rA_s2, rA2_eq, vA_vA, Nat.reduceEqDiff, Nat.reduceAdd, if_true, if_false, bx_nil, isL_I, isL_R, isL_U, if_ff, bind_some, tl_some, tl_none, bx_obj, bx_dupR, bx_aload_0, bx_bipush, c_arrI (n := n) (L := L) (a := 36) (len := 100) (x := 100) h6 (by omega) rfl rfl rfl (by omega), pfR' 35 502 2 rfl h6 rfl rfl rfl, c_anew (n := n) (L := L) (a := 37) (len := 51) (x := 51) h6 (by omega) rfl rfl rfl (by omega), pfR' 35 503 3 rfl h6 rfl rfl rfl, c_arrI (n := n) (L := L) (a := 38) (len := 51) (x := 51) h6 (by omega) rfl rfl rfl (by omega), pfR' 35 504 4 rfl h6 rfl rfl rfl, c_anew (n := n) (L := L) (a := 39) (len := 6) (x := 6) h6 (by omega) rfl rfl rfl (by omega), pfR' 35 505 5 rfl h6 rfl rfl rfl, c_arrZ (n := n) (L := L) (a := 40) (len := 6) (x := 6) h6 (by omega) rfl rfl rfl (by omega), pfR' 35 506 6 rfl h6 rfl rfl rfl, bx_iload_1, pfI' 35 500 0 rfl h6 rfl rfl rfl, bx_iconst, bx_istore_2, bx_iload_2, bx_ic_gt, gfR' 35 503 3 37 rfl h6 rfl rfl rfl, c_new h6, bx_dupI, cl600, bx_iinc2, bx_goto, bx_ic_ge, gfR' 35 505 5 39 rfl h6 rfl rfl rfl, bx_vret, Int.le_refl, if_true]
  rw [hR2, hR', hV']
end CC
