/-! CONSTRUCTORS: the plate's object. Written by our program genx.py -/
theorem zRa {a : Nat} {R : Nat → Int → Option Nat} (h : zR a R) : R a = noR := h a (Nat.le_refl _)
theorem zR_rw {a : Nat} {R : Nat → Int → Option Nat} {c arr k : Nat} (h : zR a R) (h1 : arr < a) (h2 : c + 3 * k ≤ a) : zR a (rwR R c arr k) := fun b hb => by
  unfold rwR
  rw [if_neg (by omega), if_neg (by omega)]
  exact h b hb
theorem rwR_ne {R : Nat → Int → Option Nat} {c arr k b : Nat} (h1 : b < c) (h2 : b ≠ arr) : rwR R c arr k b = R b := by
  unfold rwR
  rw [if_neg (by omega), if_neg h2]
section CC
variable {n L d a s : Nat} {V : Nat → Int → Int} {R : Nat → Int → Option Nat}
theorem c_works (h6 : n ≤ 6) (hz : zV 29 V) (hr : zR 29 R) : run (d + 1) 600 0 [xR 29] [] (V, GA n L 30 R s) = some (none, (V, GA n L 32 (rA R 29 (uR (uR noR 0 30) 1 31)) (s + 10 + 10))) := c_row (r := 29) h6 (by omega) (by omega) rfl rfl rfl hz hr
end CC
set_option maxRecDepth 20000 in
theorem sg_0 {n L d s nx : Nat} {is : List Instr} {v : Int} {V : Nat → Int → Int} {R : Nat → Int → Option Nat} {G : Int → Option Nat} (h6 : n ≤ 6) (hz : zV 2 V) (hr : zR 2 R) (h1 : R 1 = G) : bx (d + 4) 1000 (.aload_n 0 :: .new 0 :: .dup :: .invokespecial 0 :: .putfield 1000 :: is) nx [xR 1, xI v, xI n] [] (V, GA n L 2 R s) = bx (d + 4) 1000 is nx [xR 1, xI v, xI n] [] ((vA (vA V 3 cF) 4 sF), GA n L 5 (rA (rA R 1 (uR G 0 2)) 2 (uR (uR noR 0 3) 1 4)) (s + cO 0 + 96 + 96)) := by
  subst h1
  simp (disch := first | omega | assumption | (with_unfolding_all exact (id rfl)) | (simp only [rA_ap, uR_ap, eq_self, if_true, if_false, Int.reduceEq, Nat.reduceEqDiff]; done) | (with_unfolding_all exact Or.inl rfl) | exact hz _ (by omega) | exact hr _ (by omega) | (simp only [rA_ap, Nat.reduceEqDiff, if_false]; exact hr _ (by omega)) | (simp only [vA_ap, Nat.reduceEqDiff, if_false]; exact hz _ (by omega)) | ((repeat (first | exact zV_up hz (by omega) | refine zV_w ?_ (by omega))); done) | ((repeat (first | exact zR_up hr (by omega) | refine zR_w ?_ (by omega))); done) | (refine zRa ?_; (repeat (first | exact zR_up hr (by omega) | refine zR_w ?_ (by omega) | refine zR_rw ?_ (by omega) (by omega))); done) | ((repeat (first | exact zR_up hr (by omega) | refine zR_w ?_ (by omega) | refine zR_rw ?_ (by omega) (by omega))); done) | exact Nat.le_of_ble_eq_true rfl) only [bx_aload_0, bx_iload_2, bx_dupR, c_new (n := n) (L := L) (a := 2) (c := 0) h6 (by omega) rfl rfl, cl0, pfR' 1 1000 0 rfl h6 rfl rfl rfl, c_circle h6, bind_some, tl_none, rA_ap, rA_s2, rA2_eq, Nat.reduceEqDiff, if_false, if_true,  rwR_ne]
set_option maxRecDepth 20000 in
theorem sg_1 {n L d s nx : Nat} {is : List Instr} {v : Int} {V : Nat → Int → Int} {R : Nat → Int → Option Nat} {G : Int → Option Nat} (h6 : n ≤ 6) (hz : zV 5 V) (hr : zR 5 R) (h1 : R 1 = G) (x0 : G 0 = some 2) : bx (d + 4) 1000 (.aload_n 0 :: .new 3 :: .dup :: .iload_n 2 :: .aload_n 0 :: .getfield 1000 :: .invokespecial 300 :: .putfield 1001 :: is) nx [xR 1, xI v, xI n] [] (V, GA n L 5 R s) = bx (d + 4) 1000 is nx [xR 1, xI v, xI n] [] ((vA (vA (vA V 5 (vU (vU zF 6 99) 0 n)) 6 (fl zF (lnF n) 0 36)) 8 (mF 36)), GA n L 12 (rA (rA R 1 (uR G 1 5)) 5 (uR (uR (uR (uR (uR (uR (uR noR 2 6) 3 7) 4 8) 5 9) 7 10) 8 11) 1 2)) (s + cO 3 + 36 + 36 + 36 + 36 + 36 + 6)) := by
  subst h1
  simp (disch := first | omega | assumption | (with_unfolding_all exact (id rfl)) | (simp only [rA_ap, uR_ap, eq_self, if_true, if_false, Int.reduceEq, Nat.reduceEqDiff]; done) | (with_unfolding_all exact Or.inl rfl) | exact hz _ (by omega) | exact hr _ (by omega) | (simp only [rA_ap, Nat.reduceEqDiff, if_false]; exact hr _ (by omega)) | (simp only [vA_ap, Nat.reduceEqDiff, if_false]; exact hz _ (by omega)) | ((repeat (first | exact zV_up hz (by omega) | refine zV_w ?_ (by omega))); done) | ((repeat (first | exact zR_up hr (by omega) | refine zR_w ?_ (by omega))); done) | (refine zRa ?_; (repeat (first | exact zR_up hr (by omega) | refine zR_w ?_ (by omega) | refine zR_rw ?_ (by omega) (by omega))); done) | ((repeat (first | exact zR_up hr (by omega) | refine zR_w ?_ (by omega) | refine zR_rw ?_ (by omega) (by omega))); done) | exact Nat.le_of_ble_eq_true rfl) only [bx_aload_0, bx_iload_2, bx_dupR, c_new (n := n) (L := L) (a := 5) (c := 3) h6 (by omega) rfl rfl, cl300, pfR' 1 1001 1 rfl h6 rfl rfl rfl, c_plate h6, bind_some, tl_none, rA_ap, rA_s2, rA2_eq, Nat.reduceEqDiff, if_false, if_true, gfR' 1 1000 0 2 rfl h6 rfl rfl rfl, x0, rwR_ne]
set_option maxRecDepth 20000 in
theorem sg_2 {n L d s nx : Nat} {is : List Instr} {v : Int} {V : Nat → Int → Int} {R : Nat → Int → Option Nat} {G : Int → Option Nat} (h6 : n ≤ 6) (hz : zV 12 V) (hr : zR 12 R) (h1 : R 1 = G) (x0 : G 0 = some 2) : bx (d + 4) 1000 (.aload_n 0 :: .new 8 :: .dup :: .iload_n 2 :: .aload_n 0 :: .getfield 1000 :: .invokespecial 800 :: .putfield 1002 :: is) nx [xR 1, xI v, xI n] [] (V, GA n L 12 R s) = bx (d + 4) 1000 is nx [xR 1, xI v, xI n] [] ((vA V 12 (vU zF 0 n)), GA n L 29 (rA (rA (rA (rA R 1 (uR G 2 12)) 12 (uR (uR (uR (uR (uR noR 4 13) 5 14) 1 2) 2 15) 3 22)) 15 (gM 15 n)) 22 (gM 22 n)) (s + cO 8 + 15 + 15 + n + n * n + n + n * n)) := by
  subst h1
  simp (disch := first | omega | assumption | (with_unfolding_all exact (id rfl)) | (simp only [rA_ap, uR_ap, eq_self, if_true, if_false, Int.reduceEq, Nat.reduceEqDiff]; done) | (with_unfolding_all exact Or.inl rfl) | exact hz _ (by omega) | exact hr _ (by omega) | (simp only [rA_ap, Nat.reduceEqDiff, if_false]; exact hr _ (by omega)) | (simp only [vA_ap, Nat.reduceEqDiff, if_false]; exact hz _ (by omega)) | ((repeat (first | exact zV_up hz (by omega) | refine zV_w ?_ (by omega))); done) | ((repeat (first | exact zR_up hr (by omega) | refine zR_w ?_ (by omega))); done) | (refine zRa ?_; (repeat (first | exact zR_up hr (by omega) | refine zR_w ?_ (by omega) | refine zR_rw ?_ (by omega) (by omega))); done) | ((repeat (first | exact zR_up hr (by omega) | refine zR_w ?_ (by omega) | refine zR_rw ?_ (by omega) (by omega))); done) | exact Nat.le_of_ble_eq_true rfl) only [bx_aload_0, bx_iload_2, bx_dupR, c_new (n := n) (L := L) (a := 12) (c := 8) h6 (by omega) rfl rfl, cl800, pfR' 1 1002 2 rfl h6 rfl rfl rfl, c_told h6, bind_some, tl_none, rA_ap, rA_s2, rA2_eq, Nat.reduceEqDiff, if_false, if_true, gfR' 1 1000 0 2 rfl h6 rfl rfl rfl, x0, rwR_ne]
set_option maxRecDepth 20000 in
theorem sg_3 {n L d s nx : Nat} {is : List Instr} {v : Int} {V : Nat → Int → Int} {R : Nat → Int → Option Nat} {G : Int → Option Nat} (h6 : n ≤ 6) (hz : zV 29 V) (hr : zR 29 R) (h1 : R 1 = G) : bx (d + 4) 1000 (.aload_n 0 :: .new 6 :: .dup :: .invokespecial 600 :: .putfield 1003 :: is) nx [xR 1, xI v, xI n] [] (V, GA n L 29 R s) = bx (d + 4) 1000 is nx [xR 1, xI v, xI n] [] (V, GA n L 32 (rA (rA R 1 (uR G 3 29)) 29 (uR (uR noR 0 30) 1 31)) (s + cO 6 + 10 + 10)) := by
  subst h1
  simp (disch := first | omega | assumption | (with_unfolding_all exact (id rfl)) | (simp only [rA_ap, uR_ap, eq_self, if_true, if_false, Int.reduceEq, Nat.reduceEqDiff]; done) | (with_unfolding_all exact Or.inl rfl) | exact hz _ (by omega) | exact hr _ (by omega) | (simp only [rA_ap, Nat.reduceEqDiff, if_false]; exact hr _ (by omega)) | (simp only [vA_ap, Nat.reduceEqDiff, if_false]; exact hz _ (by omega)) | ((repeat (first | exact zV_up hz (by omega) | refine zV_w ?_ (by omega))); done) | ((repeat (first | exact zR_up hr (by omega) | refine zR_w ?_ (by omega))); done) | (refine zRa ?_; (repeat (first | exact zR_up hr (by omega) | refine zR_w ?_ (by omega) | refine zR_rw ?_ (by omega) (by omega))); done) | ((repeat (first | exact zR_up hr (by omega) | refine zR_w ?_ (by omega) | refine zR_rw ?_ (by omega) (by omega))); done) | exact Nat.le_of_ble_eq_true rfl) only [bx_aload_0, bx_iload_2, bx_dupR, c_new (n := n) (L := L) (a := 29) (c := 6) h6 (by omega) rfl rfl, cl600, pfR' 1 1003 3 rfl h6 rfl rfl rfl, c_works h6, bind_some, tl_none, rA_ap, rA_s2, rA2_eq, Nat.reduceEqDiff, if_false, if_true,  rwR_ne]
set_option maxRecDepth 20000 in
theorem sg_4 {n L d s nx : Nat} {is : List Instr} {v : Int} {V : Nat → Int → Int} {R : Nat → Int → Option Nat} {G : Int → Option Nat} (h6 : n ≤ 6) (hz : zV 32 V) (hr : zR 32 R) (h1 : R 1 = G) (x1 : G 1 = some 5) (x3 : G 3 = some 29) : bx (d + 4) 1000 (.aload_n 0 :: .new 1 :: .dup :: .aload_n 0 :: .getfield 1001 :: .aload_n 0 :: .getfield 1003 :: .invokespecial 100 :: .putfield 1004 :: is) nx [xR 1, xI v, xI n] [] (V, GA n L 32 R s) = bx (d + 4) 1000 is nx [xR 1, xI v, xI n] [] (V, GA n L 35 (rA (rA R 1 (uR G 4 32)) 32 (uR (uR (uR (uR noR 2 33) 3 34) 0 5) 1 29)) (s + cO 1 + 1024 + 10)) := by
  subst h1
  simp (disch := first | omega | assumption | (with_unfolding_all exact (id rfl)) | (simp only [rA_ap, uR_ap, eq_self, if_true, if_false, Int.reduceEq, Nat.reduceEqDiff]; done) | (with_unfolding_all exact Or.inl rfl) | exact hz _ (by omega) | exact hr _ (by omega) | (simp only [rA_ap, Nat.reduceEqDiff, if_false]; exact hr _ (by omega)) | (simp only [vA_ap, Nat.reduceEqDiff, if_false]; exact hz _ (by omega)) | ((repeat (first | exact zV_up hz (by omega) | refine zV_w ?_ (by omega))); done) | ((repeat (first | exact zR_up hr (by omega) | refine zR_w ?_ (by omega))); done) | (refine zRa ?_; (repeat (first | exact zR_up hr (by omega) | refine zR_w ?_ (by omega) | refine zR_rw ?_ (by omega) (by omega))); done) | ((repeat (first | exact zR_up hr (by omega) | refine zR_w ?_ (by omega) | refine zR_rw ?_ (by omega) (by omega))); done) | exact Nat.le_of_ble_eq_true rfl) only [bx_aload_0, bx_iload_2, bx_dupR, c_new (n := n) (L := L) (a := 32) (c := 1) h6 (by omega) rfl rfl, cl100, pfR' 1 1004 4 rfl h6 rfl rfl rfl, c_layout h6, bind_some, tl_none, rA_ap, rA_s2, rA2_eq, Nat.reduceEqDiff, if_false, if_true, gfR' 1 1001 1 5 rfl h6 rfl rfl rfl, gfR' 1 1003 3 29 rfl h6 rfl rfl rfl, x1, x3, rwR_ne]
set_option maxRecDepth 20000 in
theorem sg_5 {n L d s nx : Nat} {is : List Instr} {v : Int} {V : Nat → Int → Int} {R : Nat → Int → Option Nat} {G : Int → Option Nat} (h6 : n ≤ 6) (hz : zV 35 V) (hr : zR 35 R) (h1 : R 1 = G) : bx (d + 4) 1000 (.aload_n 0 :: .new 5 :: .dup :: .iload_n 2 :: .invokespecial 500 :: .putfield 1005 :: is) nx [xR 1, xI v, xI n] [] (V, GA n L 35 R s) = bx (d + 4) 1000 is nx [xR 1, xI v, xI n] [] ((vA V 35 (vU zF 0 n)), GA n L 212 (rA (rwR (rwR (rA R 35 (uR (uR (uR (uR (uR noR 2 36) 3 37) 4 38) 5 39) 6 40)) 41 37 51) 194 39 6) 1 (uR G 5 35)) (s + cO 5 + 100 + 51 + 51 + 6 + 6 + 23 * 51 + 23 * 6)) := by
  subst h1
  simp (disch := first | omega | assumption | (with_unfolding_all exact (id rfl)) | (simp only [rA_ap, uR_ap, eq_self, if_true, if_false, Int.reduceEq, Nat.reduceEqDiff]; done) | (with_unfolding_all exact Or.inl rfl) | exact hz _ (by omega) | exact hr _ (by omega) | (simp only [rA_ap, Nat.reduceEqDiff, if_false]; exact hr _ (by omega)) | (simp only [vA_ap, Nat.reduceEqDiff, if_false]; exact hz _ (by omega)) | ((repeat (first | exact zV_up hz (by omega) | refine zV_w ?_ (by omega))); done) | ((repeat (first | exact zR_up hr (by omega) | refine zR_w ?_ (by omega))); done) | (refine zRa ?_; (repeat (first | exact zR_up hr (by omega) | refine zR_w ?_ (by omega) | refine zR_rw ?_ (by omega) (by omega))); done) | ((repeat (first | exact zR_up hr (by omega) | refine zR_w ?_ (by omega) | refine zR_rw ?_ (by omega) (by omega))); done) | exact Nat.le_of_ble_eq_true rfl) only [bx_aload_0, bx_iload_2, bx_dupR, c_new (n := n) (L := L) (a := 35) (c := 5) h6 (by omega) rfl rfl, cl500, pfR' 1 1005 5 rfl h6 rfl rfl rfl, c_reader h6, bind_some, tl_none, rA_ap, rA_s2, rA2_eq, Nat.reduceEqDiff, if_false, if_true,  rwR_ne]
set_option maxRecDepth 20000 in
theorem sg_6 {n L d s nx : Nat} {is : List Instr} {v : Int} {V : Nat → Int → Int} {R : Nat → Int → Option Nat} {G : Int → Option Nat} (h6 : n ≤ 6) (hz : zV 212 V) (hr : zR 212 R) (h1 : R 1 = G) : bx (d + 4) 1000 (.aload_n 0 :: .new 2 :: .dup :: .invokespecial 200 :: .putfield 1006 :: is) nx [xR 1, xI v, xI n] [] (V, GA n L 212 R s) = bx (d + 4) 1000 is nx [xR 1, xI v, xI n] [] (V, GA n L 217 (rA (rA R 1 (uR G 6 212)) 212 (uR (uR (uR (uR noR 2 213) 3 214) 4 215) 5 216)) (s + cO 2 + 60 + 60 + 60 + 36)) := by
  subst h1
  simp (disch := first | omega | assumption | (with_unfolding_all exact (id rfl)) | (simp only [rA_ap, uR_ap, eq_self, if_true, if_false, Int.reduceEq, Nat.reduceEqDiff]; done) | (with_unfolding_all exact Or.inl rfl) | exact hz _ (by omega) | exact hr _ (by omega) | (simp only [rA_ap, Nat.reduceEqDiff, if_false]; exact hr _ (by omega)) | (simp only [vA_ap, Nat.reduceEqDiff, if_false]; exact hz _ (by omega)) | ((repeat (first | exact zV_up hz (by omega) | refine zV_w ?_ (by omega))); done) | ((repeat (first | exact zR_up hr (by omega) | refine zR_w ?_ (by omega))); done) | (refine zRa ?_; (repeat (first | exact zR_up hr (by omega) | refine zR_w ?_ (by omega) | refine zR_rw ?_ (by omega) (by omega))); done) | ((repeat (first | exact zR_up hr (by omega) | refine zR_w ?_ (by omega) | refine zR_rw ?_ (by omega) (by omega))); done) | exact Nat.le_of_ble_eq_true rfl) only [bx_aload_0, bx_iload_2, bx_dupR, c_new (n := n) (L := L) (a := 212) (c := 2) h6 (by omega) rfl rfl, cl200, pfR' 1 1006 6 rfl h6 rfl rfl rfl, c_log h6, bind_some, tl_none, rA_ap, rA_s2, rA2_eq, Nat.reduceEqDiff, if_false, if_true,  rwR_ne]
set_option maxRecDepth 20000 in
theorem sg_7 {n L d s nx : Nat} {is : List Instr} {v : Int} {V : Nat → Int → Int} {R : Nat → Int → Option Nat} {G : Int → Option Nat} (h6 : n ≤ 6) (hz : zV 217 V) (hr : zR 217 R) (h1 : R 1 = G) (x1 : G 1 = some 5) (x6 : G 6 = some 212) (hn : V 5 0 = n) : bx (d + 4) 1000 (.aload_n 0 :: .new 7 :: .dup :: .aload_n 0 :: .getfield 1001 :: .aload_n 0 :: .getfield 1006 :: .invokespecial 700 :: .putfield 1007 :: is) nx [xR 1, xI v, xI n] [] (V, GA n L 217 R s) = bx (d + 4) 1000 is nx [xR 1, xI v, xI n] [] ((vA V 217 (vU zF 2 (97 ^ n))), GA n L 344 (rA (rA (rA (rA (rA R 1 (uR G 7 217)) 217 (uR (uR (uR (uR (uR (uR (uR (uR noR 4 218) 5 259) 6 300) 7 341) 8 342) 9 343) 0 5) 1 212)) 218 (gM 218 40)) 259 (gM 259 40)) 300 (gM 300 40)) (s + cO 7 + 40 + 240 + 40 + 240 + 40 + 1440 + 36 + 36 + 6)) := by
  subst h1
  simp (disch := first | omega | assumption | (with_unfolding_all exact (id rfl)) | (simp only [rA_ap, uR_ap, eq_self, if_true, if_false, Int.reduceEq, Nat.reduceEqDiff]; done) | (with_unfolding_all exact Or.inl rfl) | exact hz _ (by omega) | exact hr _ (by omega) | (simp only [rA_ap, Nat.reduceEqDiff, if_false]; exact hr _ (by omega)) | (simp only [vA_ap, Nat.reduceEqDiff, if_false]; exact hz _ (by omega)) | ((repeat (first | exact zV_up hz (by omega) | refine zV_w ?_ (by omega))); done) | ((repeat (first | exact zR_up hr (by omega) | refine zR_w ?_ (by omega))); done) | (refine zRa ?_; (repeat (first | exact zR_up hr (by omega) | refine zR_w ?_ (by omega) | refine zR_rw ?_ (by omega) (by omega))); done) | ((repeat (first | exact zR_up hr (by omega) | refine zR_w ?_ (by omega) | refine zR_rw ?_ (by omega) (by omega))); done) | exact Nat.le_of_ble_eq_true rfl) only [bx_aload_0, bx_iload_2, bx_dupR, c_new (n := n) (L := L) (a := 217) (c := 7) h6 (by omega) rfl rfl, cl700, pfR' 1 1007 7 rfl h6 rfl rfl rfl, c_runs h6 (hn := hn), bind_some, tl_none, rA_ap, rA_s2, rA2_eq, Nat.reduceEqDiff, if_false, if_true, gfR' 1 1001 1 5 rfl h6 rfl rfl rfl, gfR' 1 1006 6 212 rfl h6 rfl rfl rfl, x1, x6, rwR_ne]
set_option maxRecDepth 20000 in
theorem sg_8 {n L d s nx : Nat} {is : List Instr} {v : Int} {V : Nat → Int → Int} {R : Nat → Int → Option Nat} {G : Int → Option Nat} (h6 : n ≤ 6) (hz : zV 344 V) (hr : zR 344 R) (h1 : R 1 = G) (x1 : G 1 = some 5) (x6 : G 6 = some 212) : bx (d + 4) 1000 (.aload_n 0 :: .new 4 :: .dup :: .aload_n 0 :: .getfield 1001 :: .aload_n 0 :: .getfield 1006 :: .invokespecial 400 :: .putfield 1008 :: is) nx [xR 1, xI v, xI n] [] (V, GA n L 344 R s) = bx (d + 4) 1000 is nx [xR 1, xI v, xI n] [] (V, GA n L 373 (rA (rA (rA (rA R 1 (uR G 8 344)) 344 (uR (uR (uR (uR (uR (uR (uR (uR (uR (uR (uR noR 6 345) 7 346) 8 347) 9 348) 10 349) 11 350) 12 364) 13 365) 14 372) 0 5) 1 212)) 350 (gM 350 13)) 365 (gM 365 6)) (s + cO 4 + 145 + 145 + 145 + 36 + 36 + 13 + 78 + 6 + 6 + 582 + 6)) := by
  subst h1
  simp (disch := first | omega | assumption | (with_unfolding_all exact (id rfl)) | (simp only [rA_ap, uR_ap, eq_self, if_true, if_false, Int.reduceEq, Nat.reduceEqDiff]; done) | (with_unfolding_all exact Or.inl rfl) | exact hz _ (by omega) | exact hr _ (by omega) | (simp only [rA_ap, Nat.reduceEqDiff, if_false]; exact hr _ (by omega)) | (simp only [vA_ap, Nat.reduceEqDiff, if_false]; exact hz _ (by omega)) | ((repeat (first | exact zV_up hz (by omega) | refine zV_w ?_ (by omega))); done) | ((repeat (first | exact zR_up hr (by omega) | refine zR_w ?_ (by omega))); done) | (refine zRa ?_; (repeat (first | exact zR_up hr (by omega) | refine zR_w ?_ (by omega) | refine zR_rw ?_ (by omega) (by omega))); done) | ((repeat (first | exact zR_up hr (by omega) | refine zR_w ?_ (by omega) | refine zR_rw ?_ (by omega) (by omega))); done) | exact Nat.le_of_ble_eq_true rfl) only [bx_aload_0, bx_iload_2, bx_dupR, c_new (n := n) (L := L) (a := 344) (c := 4) h6 (by omega) rfl rfl, cl400, pfR' 1 1008 8 rfl h6 rfl rfl rfl, c_search h6, bind_some, tl_none, rA_ap, rA_s2, rA2_eq, Nat.reduceEqDiff, if_false, if_true, gfR' 1 1001 1 5 rfl h6 rfl rfl rfl, gfR' 1 1006 6 212 rfl h6 rfl rfl rfl, x1, x6, rwR_ne]
set_option maxRecDepth 20000 in
theorem sg_9 {n L d s nx : Nat} {is : List Instr} {v : Int} {V : Nat → Int → Int} {R : Nat → Int → Option Nat} {G : Int → Option Nat} (h6 : n ≤ 6) (hz : zV 373 V) (hr : zR 373 R) (h1 : R 1 = G) (x1 : G 1 = some 5) : bx (d + 4) 1000 (.aload_n 0 :: .new 9 :: .dup :: .aload_n 0 :: .getfield 1001 :: .invokespecial 900 :: .putfield 1009 :: is) nx [xR 1, xI v, xI n] [] (V, GA n L 373 R s) = bx (d + 4) 1000 is nx [xR 1, xI v, xI n] [] ((vA V 374 (mF 36)), GA n L 376 (rA (rA R 1 (uR G 9 373)) 373 (uR (uR (uR noR 1 374) 2 375) 0 5)) (s + cO 9 + 36 + 6)) := by
  subst h1
  simp (disch := first | omega | assumption | (with_unfolding_all exact (id rfl)) | (simp only [rA_ap, uR_ap, eq_self, if_true, if_false, Int.reduceEq, Nat.reduceEqDiff]; done) | (with_unfolding_all exact Or.inl rfl) | exact hz _ (by omega) | exact hr _ (by omega) | (simp only [rA_ap, Nat.reduceEqDiff, if_false]; exact hr _ (by omega)) | (simp only [vA_ap, Nat.reduceEqDiff, if_false]; exact hz _ (by omega)) | ((repeat (first | exact zV_up hz (by omega) | refine zV_w ?_ (by omega))); done) | ((repeat (first | exact zR_up hr (by omega) | refine zR_w ?_ (by omega))); done) | (refine zRa ?_; (repeat (first | exact zR_up hr (by omega) | refine zR_w ?_ (by omega) | refine zR_rw ?_ (by omega) (by omega))); done) | ((repeat (first | exact zR_up hr (by omega) | refine zR_w ?_ (by omega) | refine zR_rw ?_ (by omega) (by omega))); done) | exact Nat.le_of_ble_eq_true rfl) only [bx_aload_0, bx_iload_2, bx_dupR, c_new (n := n) (L := L) (a := 373) (c := 9) h6 (by omega) rfl rfl, cl900, pfR' 1 1009 9 rfl h6 rfl rfl rfl, c_users h6, bind_some, tl_none, rA_ap, rA_s2, rA2_eq, Nat.reduceEqDiff, if_false, if_true, gfR' 1 1001 1 5 rfl h6 rfl rfl rfl, x1, rwR_ne]
def XR1 (n : Nat) (R : Nat → Int → Option Nat) : Nat → Int → Option Nat := (rA (rA R 1 (uR noR 0 2)) 2 (uR (uR noR 0 3) 1 4))
def XV1 (n : Nat) (V : Nat → Int → Int) : Nat → Int → Int := (vA (vA V 3 cF) 4 sF)
def XR2 (n : Nat) (R : Nat → Int → Option Nat) : Nat → Int → Option Nat := (rA (rA (XR1 n R) 1 (uR (uR noR 0 2) 1 5)) 5 (uR (uR (uR (uR (uR (uR (uR noR 2 6) 3 7) 4 8) 5 9) 7 10) 8 11) 1 2))
def XV2 (n : Nat) (V : Nat → Int → Int) : Nat → Int → Int := (vA (vA (vA (XV1 n V) 5 (vU (vU zF 6 99) 0 n)) 6 (fl zF (lnF n) 0 36)) 8 (mF 36))
def XR3 (n : Nat) (R : Nat → Int → Option Nat) : Nat → Int → Option Nat := (rA (rA (rA (rA (XR2 n R) 1 (uR (uR (uR noR 0 2) 1 5) 2 12)) 12 (uR (uR (uR (uR (uR noR 4 13) 5 14) 1 2) 2 15) 3 22)) 15 (gM 15 n)) 22 (gM 22 n))
def XV3 (n : Nat) (V : Nat → Int → Int) : Nat → Int → Int := (vA (XV2 n V) 12 (vU zF 0 n))
def XR4 (n : Nat) (R : Nat → Int → Option Nat) : Nat → Int → Option Nat := (rA (rA (XR3 n R) 1 (uR (uR (uR (uR noR 0 2) 1 5) 2 12) 3 29)) 29 (uR (uR noR 0 30) 1 31))
def XV4 (n : Nat) (V : Nat → Int → Int) : Nat → Int → Int := (XV3 n V)
def XR5 (n : Nat) (R : Nat → Int → Option Nat) : Nat → Int → Option Nat := (rA (rA (XR4 n R) 1 (uR (uR (uR (uR (uR noR 0 2) 1 5) 2 12) 3 29) 4 32)) 32 (uR (uR (uR (uR noR 2 33) 3 34) 0 5) 1 29))
def XV5 (n : Nat) (V : Nat → Int → Int) : Nat → Int → Int := (XV4 n V)
def XR6 (n : Nat) (R : Nat → Int → Option Nat) : Nat → Int → Option Nat := (rA (rwR (rwR (rA (XR5 n R) 35 (uR (uR (uR (uR (uR noR 2 36) 3 37) 4 38) 5 39) 6 40)) 41 37 51) 194 39 6) 1 (uR (uR (uR (uR (uR (uR noR 0 2) 1 5) 2 12) 3 29) 4 32) 5 35))
def XV6 (n : Nat) (V : Nat → Int → Int) : Nat → Int → Int := (vA (XV5 n V) 35 (vU zF 0 n))
def XR7 (n : Nat) (R : Nat → Int → Option Nat) : Nat → Int → Option Nat := (rA (rA (XR6 n R) 1 (uR (uR (uR (uR (uR (uR (uR noR 0 2) 1 5) 2 12) 3 29) 4 32) 5 35) 6 212)) 212 (uR (uR (uR (uR noR 2 213) 3 214) 4 215) 5 216))
def XV7 (n : Nat) (V : Nat → Int → Int) : Nat → Int → Int := (XV6 n V)
def XR8 (n : Nat) (R : Nat → Int → Option Nat) : Nat → Int → Option Nat := (rA (rA (rA (rA (rA (XR7 n R) 1 (uR (uR (uR (uR (uR (uR (uR (uR noR 0 2) 1 5) 2 12) 3 29) 4 32) 5 35) 6 212) 7 217)) 217 (uR (uR (uR (uR (uR (uR (uR (uR noR 4 218) 5 259) 6 300) 7 341) 8 342) 9 343) 0 5) 1 212)) 218 (gM 218 40)) 259 (gM 259 40)) 300 (gM 300 40))
def XV8 (n : Nat) (V : Nat → Int → Int) : Nat → Int → Int := (vA (XV7 n V) 217 (vU zF 2 (97 ^ n)))
def XR9 (n : Nat) (R : Nat → Int → Option Nat) : Nat → Int → Option Nat := (rA (rA (rA (rA (XR8 n R) 1 (uR (uR (uR (uR (uR (uR (uR (uR (uR noR 0 2) 1 5) 2 12) 3 29) 4 32) 5 35) 6 212) 7 217) 8 344)) 344 (uR (uR (uR (uR (uR (uR (uR (uR (uR (uR (uR noR 6 345) 7 346) 8 347) 9 348) 10 349) 11 350) 12 364) 13 365) 14 372) 0 5) 1 212)) 350 (gM 350 13)) 365 (gM 365 6))
def XV9 (n : Nat) (V : Nat → Int → Int) : Nat → Int → Int := (XV8 n V)
def XR10 (n : Nat) (R : Nat → Int → Option Nat) : Nat → Int → Option Nat := (rA (rA (XR9 n R) 1 (uR (uR (uR (uR (uR (uR (uR (uR (uR (uR noR 0 2) 1 5) 2 12) 3 29) 4 32) 5 35) 6 212) 7 217) 8 344) 9 373)) 373 (uR (uR (uR noR 1 374) 2 375) 0 5))
def XV10 (n : Nat) (V : Nat → Int → Int) : Nat → Int → Int := (vA (XV9 n V) 374 (mF 36))
set_option maxRecDepth 20000 in
theorem c_x {n L d s : Nat} {v : Int} {V : Nat → Int → Int} {R : Nat → Int → Option Nat} (h6 : n ≤ 6) (hv : i32 v) (hn : v % 5 + 2 = n) (hz : zV 1 V) (hr : zR 1 R) : run (d + 4) 1000 0 [xR 1, xI v, xU] [] (V, GA n L 2 R s) = some (none, (XV10 n V, GA n L 376 (XR10 n R) (s + cO 0 + 96 + 96 + cO 3 + 36 + 36 + 36 + 36 + 36 + 6 + cO 8 + 15 + 15 + n + n * n + n + n * n + cO 6 + 10 + 10 + cO 1 + 1024 + 10 + cO 5 + 100 + 51 + 51 + 6 + 6 + 23 * 51 + 23 * 6 + cO 2 + 60 + 60 + 60 + 36 + cO 7 + 40 + 240 + 40 + 240 + 40 + 1440 + 36 + 36 + 6 + cO 4 + 145 + 145 + 145 + 36 + 36 + 13 + 78 + 6 + 6 + 582 + 6 + cO 9 + 36 + 6))) := by
  have hr1 : R 1 = noR := hr 1 (by omega)
  rw [bk1000_0, bx_aload_0]
  simp (disch := first | omega | assumption | (with_unfolding_all exact (id rfl)) | (simp only [rA_ap, uR_ap, eq_self, if_true, if_false, Int.reduceEq, Nat.reduceEqDiff]; done) | (with_unfolding_all exact Or.inl rfl) | exact hz _ (by omega) | exact hr _ (by omega) | (simp only [rA_ap, Nat.reduceEqDiff, if_false]; exact hr _ (by omega)) | (simp only [vA_ap, Nat.reduceEqDiff, if_false]; exact hz _ (by omega)) | ((repeat (first | exact zV_up hz (by omega) | refine zV_w ?_ (by omega))); done) | ((repeat (first | exact zR_up hr (by omega) | refine zR_w ?_ (by omega))); done) | (refine zRa ?_; (repeat (first | exact zR_up hr (by omega) | refine zR_w ?_ (by omega) | refine zR_rw ?_ (by omega) (by omega))); done) | ((repeat (first | exact zR_up hr (by omega) | refine zR_w ?_ (by omega) | refine zR_rw ?_ (by omega) (by omega))); done) | exact Nat.le_of_ble_eq_true rfl) only [bx_obj, bx_iload_1, bx_iconst, cl1300, j_floorMod hv, bind_some, tl_some, bx_iadd, bx_istore_2, hn, isL_I, isL_R, if_ff]

  have z0 : zV 2 V := zV_up hz (by omega)
  have y0 : zR 2 R := zR_up hr (by omega)
  refine (sg_0 (G := noR) (R := R) (V := V) h6 z0 y0 hr1).trans ?_
  have z1 : zV 5 (XV1 n V) := by
    unfold XV1
    repeat (first | exact zV_up z0 (by omega) | refine zV_w ?_ (by omega))
  have y1 : zR 5 (XR1 n R) := by
    unfold XR1
    repeat (first | exact zR_up y0 (by omega) | refine zR_w ?_ (by omega) | refine zR_rw ?_ (by omega) (by omega))
  refine (sg_1 (G := (uR noR 0 2)) (R := XR1 n R) (V := XV1 n V) h6 z1 y1 rfl rfl).trans ?_
  have z2 : zV 12 (XV2 n V) := by
    unfold XV2
    repeat (first | exact zV_up z1 (by omega) | refine zV_w ?_ (by omega))
  have y2 : zR 12 (XR2 n R) := by
    unfold XR2
    repeat (first | exact zR_up y1 (by omega) | refine zR_w ?_ (by omega) | refine zR_rw ?_ (by omega) (by omega))
  refine (sg_2 (G := (uR (uR noR 0 2) 1 5)) (R := XR2 n R) (V := XV2 n V) h6 z2 y2 rfl rfl).trans ?_
  have z3 : zV 29 (XV3 n V) := by
    unfold XV3
    repeat (first | exact zV_up z2 (by omega) | refine zV_w ?_ (by omega))
  have y3 : zR 29 (XR3 n R) := by
    unfold XR3
    repeat (first | exact zR_up y2 (by omega) | refine zR_w ?_ (by omega) | refine zR_rw ?_ (by omega) (by omega))
  refine (sg_3 (G := (uR (uR (uR noR 0 2) 1 5) 2 12)) (R := XR3 n R) (V := XV3 n V) h6 z3 y3 rfl).trans ?_
  have z4 : zV 32 (XV4 n V) := by
    unfold XV4
    repeat (first | exact zV_up z3 (by omega) | refine zV_w ?_ (by omega))
  have y4 : zR 32 (XR4 n R) := by
    unfold XR4
    repeat (first | exact zR_up y3 (by omega) | refine zR_w ?_ (by omega) | refine zR_rw ?_ (by omega) (by omega))
  refine (sg_4 (G := (uR (uR (uR (uR noR 0 2) 1 5) 2 12) 3 29)) (R := XR4 n R) (V := XV4 n V) h6 z4 y4 rfl rfl rfl).trans ?_
  have z5 : zV 35 (XV5 n V) := by
    unfold XV5
    repeat (first | exact zV_up z4 (by omega) | refine zV_w ?_ (by omega))
  have y5 : zR 35 (XR5 n R) := by
    unfold XR5
    repeat (first | exact zR_up y4 (by omega) | refine zR_w ?_ (by omega) | refine zR_rw ?_ (by omega) (by omega))
  refine (sg_5 (G := (uR (uR (uR (uR (uR noR 0 2) 1 5) 2 12) 3 29) 4 32)) (R := XR5 n R) (V := XV5 n V) h6 z5 y5 rfl).trans ?_
  have z6 : zV 212 (XV6 n V) := by
    unfold XV6
    repeat (first | exact zV_up z5 (by omega) | refine zV_w ?_ (by omega))
  have y6 : zR 212 (XR6 n R) := by
    unfold XR6
    repeat (first | exact zR_up y5 (by omega) | refine zR_w ?_ (by omega) | refine zR_rw ?_ (by omega) (by omega))
  refine (sg_6 (G := (uR (uR (uR (uR (uR (uR noR 0 2) 1 5) 2 12) 3 29) 4 32) 5 35)) (R := XR6 n R) (V := XV6 n V) h6 z6 y6 rfl).trans ?_
  have z7 : zV 217 (XV7 n V) := by
    unfold XV7
    repeat (first | exact zV_up z6 (by omega) | refine zV_w ?_ (by omega))
  have y7 : zR 217 (XR7 n R) := by
    unfold XR7
    repeat (first | exact zR_up y6 (by omega) | refine zR_w ?_ (by omega) | refine zR_rw ?_ (by omega) (by omega))
  refine (sg_7 (G := (uR (uR (uR (uR (uR (uR (uR noR 0 2) 1 5) 2 12) 3 29) 4 32) 5 35) 6 212)) (R := XR7 n R) (V := XV7 n V) h6 z7 y7 rfl rfl rfl rfl).trans ?_
  have z8 : zV 344 (XV8 n V) := by
    unfold XV8
    repeat (first | exact zV_up z7 (by omega) | refine zV_w ?_ (by omega))
  have y8 : zR 344 (XR8 n R) := by
    unfold XR8
    repeat (first | exact zR_up y7 (by omega) | refine zR_w ?_ (by omega) | refine zR_rw ?_ (by omega) (by omega))
  refine (sg_8 (G := (uR (uR (uR (uR (uR (uR (uR (uR noR 0 2) 1 5) 2 12) 3 29) 4 32) 5 35) 6 212) 7 217)) (R := XR8 n R) (V := XV8 n V) h6 z8 y8 rfl rfl rfl).trans ?_
  have z9 : zV 373 (XV9 n V) := by
    unfold XV9
    repeat (first | exact zV_up z8 (by omega) | refine zV_w ?_ (by omega))
  have y9 : zR 373 (XR9 n R) := by
    unfold XR9
    repeat (first | exact zR_up y8 (by omega) | refine zR_w ?_ (by omega) | refine zR_rw ?_ (by omega) (by omega))
  refine (sg_9 (G := (uR (uR (uR (uR (uR (uR (uR (uR (uR noR 0 2) 1 5) 2 12) 3 29) 4 32) 5 35) 6 212) 7 217) 8 344)) (R := XR9 n R) (V := XV9 n V) h6 z9 y9 rfl rfl).trans ?_
  simp only [bx_vret]
  rfl
