/-! CONSTRUCTORS: the model's object. Written by our program genm.py -/
theorem rA_id {R : Nat → Int → Option Nat} {a : Nat} (h : R a = noR) : rA R a noR = R := by
  funext b
  rw [rA_ap]
  by_cases e : b = a
  · rw [if_pos e, e, h]
  · rw [if_neg e]
section CC
variable {n L d q nx a s : Nat} {is : List Instr} {ls : List XV} {V : Nat → Int → Int} {R : Nat → Int → Option Nat} {G : Int → Option Nat}
theorem sm_bipush_int (len k : Nat) (x : Int) (h6 : n ≤ 6) (ha : 377 ≤ a) (hb : a < 411) (hs : shF n a = (1, len)) (hx : x = len) (hl : len ≤ 100000) (hk : (((1100 + k) % 100 : Nat) : Int) = k) (hs2 : (shF n 376).1 = 10 + (1100 + k) / 100) (hf : fT ((1100 + k) / 100) ((1100 + k) % 100) = 3) (hz : zV 377 V) (hr : zR 376 R) : bx d q (.aload_n 0 :: .bipush x :: .newarray .int :: .putfield (1100 + k) :: is) nx (xR 376 :: ls) [] (V, GA n L a (rA R 376 G) s) = bx d q is nx (xR 376 :: ls) [] (V, GA n L (a + 1) (rA R 376 (uR G (k : Int) a)) (s + len)) := by
  have a1 : okI n (a + 1) = true ∨ a + 1 = 411 := by
    by_cases c : a + 1 = 411
    · exact Or.inr c
    · exact Or.inl ((okI_iff h6).mpr (by omega))
  have r1 : rA R 376 G a = noR := by rw [rA_ne (by omega)]; exact hr a (by omega)
  rw [bx_aload_0, bx_bipush, c_arrI (len := len) h6 (Or.inr (by omega)) ((okI_iff h6).mpr (by omega)) hs hx hl (hz a ha) r1, pfR' 376 (1100 + k) k hk h6 ((okI_iff h6).mpr (by omega)) hs2 hf a1 (by omega), rA_same, rA_rA]
theorem sm_bipush_boolean (len k : Nat) (x : Int) (h6 : n ≤ 6) (ha : 377 ≤ a) (hb : a < 411) (hs : shF n a = (2, len)) (hx : x = len) (hl : len ≤ 100000) (hk : (((1100 + k) % 100 : Nat) : Int) = k) (hs2 : (shF n 376).1 = 10 + (1100 + k) / 100) (hf : fT ((1100 + k) / 100) ((1100 + k) % 100) = 3) (hz : zV 377 V) (hr : zR 376 R) : bx d q (.aload_n 0 :: .bipush x :: .newarray .boolean :: .putfield (1100 + k) :: is) nx (xR 376 :: ls) [] (V, GA n L a (rA R 376 G) s) = bx d q is nx (xR 376 :: ls) [] (V, GA n L (a + 1) (rA R 376 (uR G (k : Int) a)) (s + len)) := by
  have a1 : okI n (a + 1) = true ∨ a + 1 = 411 := by
    by_cases c : a + 1 = 411
    · exact Or.inr c
    · exact Or.inl ((okI_iff h6).mpr (by omega))
  have r1 : rA R 376 G a = noR := by rw [rA_ne (by omega)]; exact hr a (by omega)
  rw [bx_aload_0, bx_bipush, c_arrZ (len := len) h6 (Or.inr (by omega)) ((okI_iff h6).mpr (by omega)) hs hx hl (hz a ha) r1, pfR' 376 (1100 + k) k hk h6 ((okI_iff h6).mpr (by omega)) hs2 hf a1 (by omega), rA_same, rA_rA]
theorem sm_sipush_int (len k : Nat) (x : Int) (h6 : n ≤ 6) (ha : 377 ≤ a) (hb : a < 411) (hs : shF n a = (1, len)) (hx : x = len) (hl : len ≤ 100000) (hk : (((1100 + k) % 100 : Nat) : Int) = k) (hs2 : (shF n 376).1 = 10 + (1100 + k) / 100) (hf : fT ((1100 + k) / 100) ((1100 + k) % 100) = 3) (hz : zV 377 V) (hr : zR 376 R) : bx d q (.aload_n 0 :: .sipush x :: .newarray .int :: .putfield (1100 + k) :: is) nx (xR 376 :: ls) [] (V, GA n L a (rA R 376 G) s) = bx d q is nx (xR 376 :: ls) [] (V, GA n L (a + 1) (rA R 376 (uR G (k : Int) a)) (s + len)) := by
  have a1 : okI n (a + 1) = true ∨ a + 1 = 411 := by
    by_cases c : a + 1 = 411
    · exact Or.inr c
    · exact Or.inl ((okI_iff h6).mpr (by omega))
  have r1 : rA R 376 G a = noR := by rw [rA_ne (by omega)]; exact hr a (by omega)
  rw [bx_aload_0, bx_sipush, c_arrI (len := len) h6 (Or.inr (by omega)) ((okI_iff h6).mpr (by omega)) hs hx hl (hz a ha) r1, pfR' 376 (1100 + k) k hk h6 ((okI_iff h6).mpr (by omega)) hs2 hf a1 (by omega), rA_same, rA_rA]
theorem sm_sipush_boolean (len k : Nat) (x : Int) (h6 : n ≤ 6) (ha : 377 ≤ a) (hb : a < 411) (hs : shF n a = (2, len)) (hx : x = len) (hl : len ≤ 100000) (hk : (((1100 + k) % 100 : Nat) : Int) = k) (hs2 : (shF n 376).1 = 10 + (1100 + k) / 100) (hf : fT ((1100 + k) / 100) ((1100 + k) % 100) = 3) (hz : zV 377 V) (hr : zR 376 R) : bx d q (.aload_n 0 :: .sipush x :: .newarray .boolean :: .putfield (1100 + k) :: is) nx (xR 376 :: ls) [] (V, GA n L a (rA R 376 G) s) = bx d q is nx (xR 376 :: ls) [] (V, GA n L (a + 1) (rA R 376 (uR G (k : Int) a)) (s + len)) := by
  have a1 : okI n (a + 1) = true ∨ a + 1 = 411 := by
    by_cases c : a + 1 = 411
    · exact Or.inr c
    · exact Or.inl ((okI_iff h6).mpr (by omega))
  have r1 : rA R 376 G a = noR := by rw [rA_ne (by omega)]; exact hr a (by omega)
  rw [bx_aload_0, bx_sipush, c_arrZ (len := len) h6 (Or.inr (by omega)) ((okI_iff h6).mpr (by omega)) hs hx hl (hz a ha) r1, pfR' 376 (1100 + k) k hk h6 ((okI_iff h6).mpr (by omega)) hs2 hf a1 (by omega), rA_same, rA_rA]
end CC
def mG : Int → Option Nat := (uR (uR (uR (uR (uR (uR (uR (uR (uR (uR (uR (uR (uR (uR (uR (uR (uR (uR (uR (uR (uR (uR (uR (uR (uR (uR (uR (uR (uR (uR (uR (uR (uR (uR noR 1 377) 2 378) 3 379) 4 380) 5 381) 6 382) 8 383) 9 384) 10 385) 11 386) 12 387) 13 388) 14 389) 15 390) 19 391) 20 392) 22 393) 23 394) 24 395) 25 396) 26 397) 27 398) 28 399) 29 400) 35 401) 36 402) 37 403) 38 404) 39 405) 40 406) 44 407) 45 408) 46 409) 51 410)
set_option maxRecDepth 20000 in
theorem c_m1 {n L d s : Nat} {v : Int} {V : Nat → Int → Int} {R : Nat → Int → Option Nat} (h6 : n ≤ 6) (hn : v % 5 + 2 = n) (hz : zV 376 V) (hr : zR 376 R) : ∃ y, run (d + 2) 1100 0 [xR 376, xI v, xU, xU] [] (V, GA n L 377 R s) = run (d + 2) 1100 319 [xR 376, xI v, xI y, xI 1] [] (vA (vA V 376 (vU (vU zF 7 99) 0 n)) 377 (vU zF 0 1), GA n L 411 (rA R 376 mG) (s + 96 + 96 + 72 + 72 + 72 + 72 + 72 + 72 + 6 + 36 + 36 + 15 + 15 + 6 + 11 + 11 + 13312 + 100 + 1300 + 100 + 100 + 66 + 6 + 6 + 240 + 240 + 2880 + 60 + 60 + 60 + 72 + 289 + 289 + 97)) := by
  have hr6 : R 376 = noR := hr 376 (by omega)
  have hz6 : V 376 = zF := hz 376 (by omega)
  have hz7 : V 377 = zF := hz 377 (by omega)
  refine ⟨v.tmod 5, ?_⟩
  rw [bk1100_0]
  rw [show GA n L 377 R s = GA n L 377 (rA R 376 noR) s by rw [rA_id hr6], bx_aload_0]
  rw [bx_obj (by exact Nat.le_of_ble_eq_true rfl)]
  refine (sm_bipush_int 96 1 96 h6 (by omega) (by omega) rfl rfl (by omega) rfl rfl rfl (zV_up hz (by omega)) hr).trans ?_
  refine (sm_bipush_int 96 2 96 h6 (by omega) (by omega) rfl rfl (by omega) rfl rfl rfl (zV_up hz (by omega)) hr).trans ?_
  refine (sm_bipush_int 72 3 72 h6 (by omega) (by omega) rfl rfl (by omega) rfl rfl rfl (zV_up hz (by omega)) hr).trans ?_
  refine (sm_bipush_int 72 4 72 h6 (by omega) (by omega) rfl rfl (by omega) rfl rfl rfl (zV_up hz (by omega)) hr).trans ?_
  refine (sm_bipush_int 72 5 72 h6 (by omega) (by omega) rfl rfl (by omega) rfl rfl rfl (zV_up hz (by omega)) hr).trans ?_
  refine (sm_bipush_int 72 6 72 h6 (by omega) (by omega) rfl rfl (by omega) rfl rfl rfl (zV_up hz (by omega)) hr).trans ?_
  rw [bx_aload_0, bx_bipush, pfI' 376 1107 7 rfl h6 rfl rfl rfl (Or.inl rfl) (by omega), hz6]
  have hz' : zV 377 (vA V 376 (vU zF 7 99)) := zV_w (zV_up hz (by omega)) (by omega)
  refine (sm_bipush_int 72 8 72 h6 (by omega) (by omega) rfl rfl (by omega) rfl rfl rfl hz' hr).trans ?_
  refine (sm_bipush_int 72 9 72 h6 (by omega) (by omega) rfl rfl (by omega) rfl rfl rfl hz' hr).trans ?_
  refine (sm_bipush_int 6 10 6 h6 (by omega) (by omega) rfl rfl (by omega) rfl rfl rfl hz' hr).trans ?_
  refine (sm_bipush_int 36 11 36 h6 (by omega) (by omega) rfl rfl (by omega) rfl rfl rfl hz' hr).trans ?_
  refine (sm_bipush_int 36 12 36 h6 (by omega) (by omega) rfl rfl (by omega) rfl rfl rfl hz' hr).trans ?_
  refine (sm_bipush_int 15 13 15 h6 (by omega) (by omega) rfl rfl (by omega) rfl rfl rfl hz' hr).trans ?_
  refine (sm_bipush_int 15 14 15 h6 (by omega) (by omega) rfl rfl (by omega) rfl rfl rfl hz' hr).trans ?_
  refine (sm_bipush_int 6 15 6 h6 (by omega) (by omega) rfl rfl (by omega) rfl rfl rfl hz' hr).trans ?_
  refine (sm_bipush_int 11 19 11 h6 (by omega) (by omega) rfl rfl (by omega) rfl rfl rfl hz' hr).trans ?_
  refine (sm_bipush_int 11 20 11 h6 (by omega) (by omega) rfl rfl (by omega) rfl rfl rfl hz' hr).trans ?_
  refine (sm_sipush_boolean 13312 22 13312 h6 (by omega) (by omega) rfl rfl (by omega) rfl rfl rfl hz' hr).trans ?_
  refine (sm_bipush_int 100 23 100 h6 (by omega) (by omega) rfl rfl (by omega) rfl rfl rfl hz' hr).trans ?_
  refine (sm_sipush_int 1300 24 1300 h6 (by omega) (by omega) rfl rfl (by omega) rfl rfl rfl hz' hr).trans ?_
  refine (sm_bipush_int 100 25 100 h6 (by omega) (by omega) rfl rfl (by omega) rfl rfl rfl hz' hr).trans ?_
  refine (sm_bipush_int 100 26 100 h6 (by omega) (by omega) rfl rfl (by omega) rfl rfl rfl hz' hr).trans ?_
  refine (sm_bipush_int 66 27 66 h6 (by omega) (by omega) rfl rfl (by omega) rfl rfl rfl hz' hr).trans ?_
  refine (sm_bipush_int 6 28 6 h6 (by omega) (by omega) rfl rfl (by omega) rfl rfl rfl hz' hr).trans ?_
  refine (sm_bipush_boolean 6 29 6 h6 (by omega) (by omega) rfl rfl (by omega) rfl rfl rfl hz' hr).trans ?_
  refine (sm_sipush_int 240 35 240 h6 (by omega) (by omega) rfl rfl (by omega) rfl rfl rfl hz' hr).trans ?_
  refine (sm_sipush_int 240 36 240 h6 (by omega) (by omega) rfl rfl (by omega) rfl rfl rfl hz' hr).trans ?_
  refine (sm_sipush_int 2880 37 2880 h6 (by omega) (by omega) rfl rfl (by omega) rfl rfl rfl hz' hr).trans ?_
  refine (sm_bipush_int 60 38 60 h6 (by omega) (by omega) rfl rfl (by omega) rfl rfl rfl hz' hr).trans ?_
  refine (sm_bipush_int 60 39 60 h6 (by omega) (by omega) rfl rfl (by omega) rfl rfl rfl hz' hr).trans ?_
  refine (sm_bipush_int 60 40 60 h6 (by omega) (by omega) rfl rfl (by omega) rfl rfl rfl hz' hr).trans ?_
  refine (sm_bipush_int 72 44 72 h6 (by omega) (by omega) rfl rfl (by omega) rfl rfl rfl hz' hr).trans ?_
  refine (sm_sipush_int 289 45 289 h6 (by omega) (by omega) rfl rfl (by omega) rfl rfl rfl hz' hr).trans ?_
  refine (sm_sipush_boolean 289 46 289 h6 (by omega) (by omega) rfl rfl (by omega) rfl rfl rfl hz' hr).trans ?_
  refine (sm_bipush_int 97 51 97 h6 (by omega) (by omega) rfl rfl (by omega) rfl rfl rfl hz' hr).trans ?_
  change bx (d + 2) 1100 _ _ _ _ (vA V 376 (vU zF 7 99), GA n L 411 (rA R 376 mG) _) = _
  have m1 : rA R 376 mG 376 1 = some 377 := by rw [rA_same]; rfl
  have h1 := tm_em (x := v) (y := 5) (by omega)
  generalize rA R 376 mG = R1 at *
  have h2 := Int.emod_nonneg v (by omega : (5 : Int) ≠ 0)
  have h3 := Int.emod_lt_of_pos v (by omega : (0 : Int) < 5)
  simp (disch := first | omega | assumption | (with_unfolding_all exact (id rfl)) | (simp only [rA_ap, uR_ap, eq_self, if_true, if_false, Int.reduceEq, Nat.reduceEqDiff]; done) | (with_unfolding_all exact Or.inl rfl) | exact hz _ (by omega) | exact hr _ (by omega) | (simp only [rA_ap, Nat.reduceEqDiff, if_false]; exact hr _ (by omega)) | (simp only [vA_ap, Nat.reduceEqDiff, if_false]; exact hz _ (by omega)) | ((repeat (first | exact zV_up hz (by omega) | refine zV_w ?_ (by omega))); done) | ((repeat (first | exact zR_up hr (by omega) | refine zR_w ?_ (by omega))); done) | (refine zRa ?_; (repeat (first | exact zR_up hr (by omega) | refine zR_w ?_ (by omega) | refine zR_rw ?_ (by omega) (by omega))); done) | ((repeat (first | exact zR_up hr (by omega) | refine zR_w ?_ (by omega) | refine zR_rw ?_ (by omega) (by omega))); done) | exact Nat.le_of_ble_eq_true rfl) only [bx_iload_1, bx_iconst, bx_irem]
  generalize v.tmod 5 = t at *
  by_cases c : 0 ≤ t
  · have e : t + 2 = n := by omega
    simp (disch := first | omega | assumption | (with_unfolding_all exact (id rfl)) | (simp only [rA_ap, uR_ap, eq_self, if_true, if_false, Int.reduceEq, Nat.reduceEqDiff]; done) | (with_unfolding_all exact Or.inl rfl) | exact hz _ (by omega) | exact hr _ (by omega) | (simp only [rA_ap, Nat.reduceEqDiff, if_false]; exact hr _ (by omega)) | (simp only [vA_ap, Nat.reduceEqDiff, if_false]; exact hz _ (by omega)) | ((repeat (first | exact zV_up hz (by omega) | refine zV_w ?_ (by omega))); done) | ((repeat (first | exact zR_up hr (by omega) | refine zR_w ?_ (by omega))); done) | (refine zRa ?_; (repeat (first | exact zR_up hr (by omega) | refine zR_w ?_ (by omega) | refine zR_rw ?_ (by omega) (by omega))); done) | ((repeat (first | exact zR_up hr (by omega) | refine zR_w ?_ (by omega) | refine zR_rw ?_ (by omega) (by omega))); done) | exact Nat.le_of_ble_eq_true rfl) only [Int.reduceToNat, bk1100_304, bk1100_305, bx_nil, bx_istore_2, bx_istore_3, isL_R, isL_I, if_ff, bx_aload_0, bx_iload_2, bx_iconst, bx_iadd, bx_goto, bx_if_ge, if_pos c, e, pfI' 376 1100 0 rfl h6 rfl rfl rfl, gfR' 376 1101 1 377 rfl h6 rfl rfl rfl, m1, iast' 377 96 h6 rfl rfl, vA_ap, vA_vA, Nat.reduceEqDiff, if_true, if_false, hz7]
  · have e : t + 5 + 2 = n := by omega
    simp (disch := first | omega | assumption | (with_unfolding_all exact (id rfl)) | (simp only [rA_ap, uR_ap, eq_self, if_true, if_false, Int.reduceEq, Nat.reduceEqDiff]; done) | (with_unfolding_all exact Or.inl rfl) | exact hz _ (by omega) | exact hr _ (by omega) | (simp only [rA_ap, Nat.reduceEqDiff, if_false]; exact hr _ (by omega)) | (simp only [vA_ap, Nat.reduceEqDiff, if_false]; exact hz _ (by omega)) | ((repeat (first | exact zV_up hz (by omega) | refine zV_w ?_ (by omega))); done) | ((repeat (first | exact zR_up hr (by omega) | refine zR_w ?_ (by omega))); done) | (refine zRa ?_; (repeat (first | exact zR_up hr (by omega) | refine zR_w ?_ (by omega) | refine zR_rw ?_ (by omega) (by omega))); done) | ((repeat (first | exact zR_up hr (by omega) | refine zR_w ?_ (by omega) | refine zR_rw ?_ (by omega) (by omega))); done) | exact Nat.le_of_ble_eq_true rfl) only [Int.reduceToNat, bk1100_304, bk1100_305, bx_nil, bx_istore_2, bx_istore_3, isL_R, isL_I, if_ff, bx_aload_0, bx_iload_2, bx_iconst, bx_iadd, bx_goto, bx_if_ge, if_neg c, e, pfI' 376 1100 0 rfl h6 rfl rfl rfl, gfR' 376 1101 1 377 rfl h6 rfl rfl rfl, m1, iast' 377 96 h6 rfl rfl, vA_ap, vA_vA, Nat.reduceEqDiff, if_true, if_false, hz7]
set_option maxRecDepth 20000 in
theorem c_m {n L d s : Nat} {v : Int} {V : Nat → Int → Int} {R : Nat → Int → Option Nat} (h6 : n ≤ 6) (hn : v % 5 + 2 = n) (hz : zV 376 V) (hr : zR 376 R) : run (d + 2) 1100 0 [xR 376, xI v, xU, xU] [] (V, GA n L 377 R s) = some (none, (vA (vA (vA (vA (vA V 376 (vU (vU zF 7 99) 0 n)) 377 cF) 378 sF) 380 (mF 72)) 381 (mF 72), GA n L 411 (rA R 376 mG) (s + 96 + 96 + 72 + 72 + 72 + 72 + 72 + 72 + 6 + 36 + 36 + 15 + 15 + 6 + 11 + 11 + 13312 + 100 + 1300 + 100 + 100 + 66 + 6 + 6 + 240 + 240 + 2880 + 60 + 60 + 60 + 72 + 289 + 289 + 97))) := by
  obtain ⟨y, hy⟩ := c_m1 (d := d) (s := s) (L := L) h6 hn hz hr
  rw [hy]
  have hz8 : V 378 = zF := hz 378 (by omega)
  have hz80 : V 380 = zF := hz 380 (by omega)
  have hz81 : V 381 = zF := hz 381 (by omega)
  obtain ⟨S, hS⟩ : ∃ S, S = s + 96 + 96 + 72 + 72 + 72 + 72 + 72 + 72 + 6 + 36 + 36 + 15 + 15 + 6 + 11 + 11 + 13312 + 100 + 1300 + 100 + 100 + 66 + 6 + 6 + 240 + 240 + 2880 + 60 + 60 + 60 + 72 + 289 + 289 + 97 := ⟨_, rfl⟩
  rw [← hS]
  have r1 : rA R 376 mG 376 1 = some 377 := by rw [rA_same]; rfl
  have r2 : rA R 376 mG 376 2 = some 378 := by rw [rA_same]; rfl
  have r4 : rA R 376 mG 376 4 = some 380 := by rw [rA_same]; rfl
  have r5 : rA R 376 mG 376 5 = some 381 := by rw [rA_same]; rfl
  generalize rA R 376 mG = R' at *
  have zz8 : (vA V 376 (vU (vU zF 7 99) 0 n)) 378 = zF := by rw [vA_ne (by omega)]; exact hz8
  have zz80 : (vA V 376 (vU (vU zF 7 99) 0 n)) 380 = zF := by rw [vA_ne (by omega)]; exact hz80
  have zz81 : (vA V 376 (vU (vU zF 7 99) 0 n)) 381 = zF := by rw [vA_ne (by omega)]; exact hz81
  clear hy
  generalize vA V 376 (vU (vU zF 7 99) 0 n) = V1 at *
  have h := it_up (D := d + 2) (q := 1100) (pc := 319) (loc := fun k => [xR 376, xI v, xI y, xI k]) (F := fun k => (vA (vA V1 377 (fl zF (fun k => (csF k.toNat).1) 0 k)) 378 (fl zF (fun k => (csF k.toNat).2) 0 k), GA n L 411 R' S)) (hi := 96) 95 1 (by omega) (fun k k0 k1 => by
    have e1 : fl zF (fun k => (csF k.toNat).1) 0 k (k - 1) = (csF (k - 1).toNat).1 := fl_in (by omega) (by omega)
    have e2 : fl zF (fun k => (csF k.toNat).2) 0 k (k - 1) = (csF (k - 1).toNat).2 := fl_in (by omega) (by omega)
    have hb := csF_bd (k - 1).toNat
    have e3 : csF k.toNat = (((csF (k - 1).toNat).1 * 22 - (csF (k - 1).toNat).2 * 83) % 97, ((csF (k - 1).toNat).2 * 22 + (csF (k - 1).toNat).1 * 83) % 97) := by
      rw [show k.toNat = (k - 1).toNat + 1 by omega]; rfl
    rw [bk1100_319, ← fl_up (by omega), ← fl_up (by omega)]
    have e4 : vU (fl zF (fun k => (csF k.toNat).1) 0 k) k ((csF k.toNat).1) (k - 1) = (csF (k - 1).toNat).1 := by rw [vU_ne (by omega)]; exact e1
    rw [e3] at *
    generalize csF (k - 1).toNat = p at *
    simp (disch := first | omega | assumption | (with_unfolding_all exact (id rfl)) | (simp only [rA_ap, uR_ap, eq_self, if_true, if_false, Int.reduceEq, Nat.reduceEqDiff]; done) | (with_unfolding_all exact Or.inl rfl) | exact hz _ (by omega) | exact hr _ (by omega) | (simp only [rA_ap, Nat.reduceEqDiff, if_false]; exact hr _ (by omega)) | (simp only [vA_ap, Nat.reduceEqDiff, if_false]; exact hz _ (by omega)) | ((repeat (first | exact zV_up hz (by omega) | refine zV_w ?_ (by omega))); done) | ((repeat (first | exact zR_up hr (by omega) | refine zR_w ?_ (by omega))); done) | (refine zRa ?_; (repeat (first | exact zR_up hr (by omega) | refine zR_w ?_ (by omega) | refine zR_rw ?_ (by omega) (by omega))); done) | ((repeat (first | exact zR_up hr (by omega) | refine zR_w ?_ (by omega) | refine zR_rw ?_ (by omega) (by omega))); done) | exact Nat.le_of_ble_eq_true rfl) only [bx_nil, bx_iload_3, bx_bipush, bx_ic_ge, bx_aload_0, bx_iconst, bx_isub, bx_imul, bx_iadd, cl1101, m_fit, bind_some, tl_some, bx_iinc3, bx_goto, Int.reduceToNat, vA_ap, vA_vA, Nat.reduceEqDiff, if_true, if_false, gfR' 376 1101 1 377 rfl h6 rfl rfl rfl, gfR' 376 1102 2 378 rfl h6 rfl rfl rfl, r1, r2, iald' 377 96 h6 rfl rfl, iald' 378 96 h6 rfl rfl, iast' 377 96 h6 rfl rfl, iast' 378 96 h6 rfl rfl, if_neg (show ¬ 96 ≤ k by omega), e1, e2, e4, vA_4, isL_I, if_ff])
  have e0 : (vA (vA V1 377 (fl zF (fun k => (csF k.toNat).1) 0 1)) 378 (fl zF (fun k => (csF k.toNat).2) 0 1)) = vA V1 377 (vU zF 0 1) := by
    have e1 : fl zF (fun k => (csF k.toNat).1) 0 1 = vU zF 0 1 := by
      rw [show (1 : Int) = 0 + 1 from rfl, ← fl_up (by omega), fl_nil]; rfl
    have e2 : fl zF (fun k => (csF k.toNat).2) 0 1 = zF := by
      rw [show (1 : Int) = 0 + 1 from rfl, ← fl_up (by omega), fl_nil]
      funext j; unfold vU zF; split <;> rfl
    rw [e1, e2]
    funext b
    by_cases e : b = 378
    · rw [e, vA_same, vA_ne (by omega), zz8]
    · rw [vA_ne e]
  rw [← e0]
  refine h.trans ?_
  show run (d + 2) 1100 319 [xR 376, xI v, xI y, xI 96] [] (vA (vA V1 377 cF) 378 sF, GA n L 411 R' S) = _
  have zc80 : vA (vA V1 377 cF) 378 sF 380 = zF := by rw [vA_ne (by omega), vA_ne (by omega)]; exact zz80
  have zc81 : vA (vA V1 377 cF) 378 sF 381 = zF := by rw [vA_ne (by omega), vA_ne (by omega)]; exact zz81
  generalize vA (vA V1 377 cF) 378 sF = V2 at *
  rw [bk1100_319]
  simp (disch := first | omega | assumption | (with_unfolding_all exact (id rfl)) | (simp only [rA_ap, uR_ap, eq_self, if_true, if_false, Int.reduceEq, Nat.reduceEqDiff]; done) | (with_unfolding_all exact Or.inl rfl) | exact hz _ (by omega) | exact hr _ (by omega) | (simp only [rA_ap, Nat.reduceEqDiff, if_false]; exact hr _ (by omega)) | (simp only [vA_ap, Nat.reduceEqDiff, if_false]; exact hz _ (by omega)) | ((repeat (first | exact zV_up hz (by omega) | refine zV_w ?_ (by omega))); done) | ((repeat (first | exact zR_up hr (by omega) | refine zR_w ?_ (by omega))); done) | (refine zRa ?_; (repeat (first | exact zR_up hr (by omega) | refine zR_w ?_ (by omega) | refine zR_rw ?_ (by omega) (by omega))); done) | ((repeat (first | exact zR_up hr (by omega) | refine zR_w ?_ (by omega) | refine zR_rw ?_ (by omega) (by omega))); done) | exact Nat.le_of_ble_eq_true rfl) only [bx_nil, bx_iload_3, bx_bipush, bx_ic_ge, Int.reduceToNat, Int.le_refl, if_true, bk1100_395, bx_iconst, bx_istore_3, isL_I, if_ff]
  have h2 := it_up (D := d + 2) (q := 1100) (pc := 397) (loc := fun k => [xR 376, xI v, xI y, xI k]) (F := fun k => (vA (vA V2 380 (fl zF (fun _ => -1) 0 k)) 381 (fl zF (fun _ => -1) 0 k), GA n L 411 R' S)) (hi := 72) 72 0 (by omega) (fun k k0 k1 => by
    rw [bk1100_397, ← fl_up (by omega)]
    simp (disch := first | omega | assumption | (with_unfolding_all exact (id rfl)) | (simp only [rA_ap, uR_ap, eq_self, if_true, if_false, Int.reduceEq, Nat.reduceEqDiff]; done) | (with_unfolding_all exact Or.inl rfl) | exact hz _ (by omega) | exact hr _ (by omega) | (simp only [rA_ap, Nat.reduceEqDiff, if_false]; exact hr _ (by omega)) | (simp only [vA_ap, Nat.reduceEqDiff, if_false]; exact hz _ (by omega)) | ((repeat (first | exact zV_up hz (by omega) | refine zV_w ?_ (by omega))); done) | ((repeat (first | exact zR_up hr (by omega) | refine zR_w ?_ (by omega))); done) | (refine zRa ?_; (repeat (first | exact zR_up hr (by omega) | refine zR_w ?_ (by omega) | refine zR_rw ?_ (by omega) (by omega))); done) | ((repeat (first | exact zR_up hr (by omega) | refine zR_w ?_ (by omega) | refine zR_rw ?_ (by omega) (by omega))); done) | exact Nat.le_of_ble_eq_true rfl) only [bx_nil, bx_iload_3, bx_bipush, bx_ic_ge, bx_aload_0, bx_iconst, bx_iinc3, bx_goto, Int.reduceToNat, vA_ap, vA_vA, Nat.reduceEqDiff, if_true, if_false, gfR' 376 1104 4 380 rfl h6 rfl rfl rfl, gfR' 376 1105 5 381 rfl h6 rfl rfl rfl, r4, r5, iast' 380 72 h6 rfl rfl, iast' 381 72 h6 rfl rfl, if_neg (show ¬ 72 ≤ k by omega), vA_4, isL_I, if_ff])
  have e2 : vA (vA V2 380 (fl zF (fun _ => -1) 0 0)) 381 (fl zF (fun _ => -1) 0 0) = V2 := by
    rw [fl_nil]
    funext b
    by_cases e : b = 381
    · rw [e, vA_same, zc81]
    · rw [vA_ne e]
      by_cases f : b = 380
      · rw [f, vA_same, zc80]
      · rw [vA_ne f]
  have h2' : run (d + 2) 1100 397 [xR 376, xI v, xI y, xI 0] [] (V2, GA n L 411 R' S) = run (d + 2) 1100 397 [xR 376, xI v, xI y, xI 72] [] (vA (vA V2 380 (mF 72)) 381 (mF 72), GA n L 411 R' S) := by
    refine Eq.trans ?_ h2
    rw [e2]
  rw [h2', bk1100_397]
  simp (disch := first | omega | assumption | (with_unfolding_all exact (id rfl)) | (simp only [rA_ap, uR_ap, eq_self, if_true, if_false, Int.reduceEq, Nat.reduceEqDiff]; done) | (with_unfolding_all exact Or.inl rfl) | exact hz _ (by omega) | exact hr _ (by omega) | (simp only [rA_ap, Nat.reduceEqDiff, if_false]; exact hr _ (by omega)) | (simp only [vA_ap, Nat.reduceEqDiff, if_false]; exact hz _ (by omega)) | ((repeat (first | exact zV_up hz (by omega) | refine zV_w ?_ (by omega))); done) | ((repeat (first | exact zR_up hr (by omega) | refine zR_w ?_ (by omega))); done) | (refine zRa ?_; (repeat (first | exact zR_up hr (by omega) | refine zR_w ?_ (by omega) | refine zR_rw ?_ (by omega) (by omega))); done) | ((repeat (first | exact zR_up hr (by omega) | refine zR_w ?_ (by omega) | refine zR_rw ?_ (by omega) (by omega))); done) | exact Nat.le_of_ble_eq_true rfl) only [bx_nil, bx_iload_3, bx_bipush, bx_ic_ge, Int.reduceToNat, Int.le_refl, if_true, bk1100_423, bx_vret]
