/-! REWORKED and SINCE -/
section RW
variable {n L d : Nat} {G : XG} {V : Nat → Int → Int}
/-- the class reworks a run: cells 216, 341, 342, 343 are others -/
theorem x_rework {r : Int} (hG : Good n L G) (hx : xB n V) (hf : fndP n V) (he : V 212 0 ≤ 60) (hr : 0 ≤ r ∧ r < 40) (hB : rg (V (301 + r.toNat)) 36 0 95) (hin : rg (V (260 + r.toNat)) 6 0 96) : ∃ W, run (d + 5) 703 0 [xR 217, xI r] [] (V, G) = some (some (xR 343), (W, G)) ∧ (∀ b, b ≠ 216 → b ≠ 341 → b ≠ 342 → b ≠ 343 → W b = V b) ∧ ∃ t f, (∀ c, 0 ≤ c → c < 36 → t c = ttX (V 8) (V (301 + r.toNat)) (knX V 342 r).2 (V 5 6) c) ∧ (∀ l, 0 ≤ l → l < 6 → f l = V (260 + r.toNat) l) ∧ W 343 = sendX (V 3) (V 4) (V 6) t 36 0 f := by
  obtain ⟨x1, x2, x3, x4, x5, x6, x7, x8, x9⟩ := hx
  obtain ⟨k, rfl⟩ : ∃ k : Nat, r = k := ⟨r.toNat, by omega⟩
  rw [Int.toNat_natCast] at hB hin ⊢
  have s260 := sf260 hG (show k < 40 by omega)
  have s301 := sf301 hG (show k < 40 by omega)
  have hfk := x_fillKnown (d := d + 3) (V := V) (a := 342) (tick := k) hG (gsh hG 342 rfl rfl) (by omega) (by have := hf.2.1; omega) (fun e e0 e1 => (hf.2.2 e e0 e1).1)
  obtain ⟨A, hA⟩ : ∃ A, A = vA (vA V 342 (knX V 342 k).2) 216 (knX V 342 k).1 := ⟨_, rfl⟩
  rw [← hA] at hfk
  have A1 : ∀ b, b ≠ 342 → b ≠ 216 → A b = V b := fun b b1 b2 => by rw [hA, vA_ne b2, vA_ne b1]
  have A2 : A 342 = (knX V 342 k).2 := by rw [hA, vA_ne (by omega), vA_same]
  have hkr : rg (knX V 342 k).2 36 (-100) 100 := fun c c0 c1 => by
    rw [kn_eq (W := V) hf ⟨rfl, rfl, rfl, rfl⟩ ⟨c0, c1⟩]
    have := knM_bd (V := V) (k := ix c) (tick := k) hf
    omega
  have hft := x_fillTT (d := d) (V := A) (a := 301 + k) (b := 342) (t := 341) hG s301 (gsh hG 342 rfl rfl) (gsh hG 341 rfl rfl) (by omega) (by omega) (by omega) (by omega) (by rw [A1 _ (by omega) (by omega)]; exact x3) (by rw [A1 _ (by omega) (by omega)]; exact hB) (by rw [A2]; exact hkr) (by rw [A1 _ (by omega) (by omega)]; exact x6)
  rw [A1 5 (by omega) (by omega), A1 8 (by omega) (by omega), A1 (301 + k) (by omega) (by omega), A2] at hft
  obtain ⟨B, hBB⟩ : ∃ B, B = vA A 341 (fun j => if 0 ≤ j ∧ j < 36 then ttX (V 8) (V (301 + k)) (knX V 342 k).2 (V 5 6) j else A 341 j) := ⟨_, rfl⟩
  rw [← hBB] at hft
  have B1 : ∀ b, b ≠ 342 → b ≠ 216 → b ≠ 341 → B b = V b := fun b b1 b2 b3 => by rw [hBB, vA_ne b3]; exact A1 b b1 b2
  have B2 : ∀ c, 0 ≤ c → c < 36 → B 341 c = ttX (V 8) (V (301 + k)) (knX V 342 k).2 (V 5 6) c := fun c c0 c1 => by rw [hBB, vA_same, if_pos ⟨c0, c1⟩]
  obtain ⟨E, hE⟩ : ∃ E, E = vA B 343 (fun j => if 0 ≤ j ∧ j < 0 + 6 then B (260 + k) (0 + (j - 0)) else B 343 j) := ⟨_, rfl⟩
  have E1 : ∀ b, b ≠ 343 → E b = B b := fun b b1 => by rw [hE, vA_ne b1]
  have E2 : ∀ l, 0 ≤ l → l < 6 → E 343 l = V (260 + k) l := fun l l0 l1 => by rw [hE, vA_same, if_pos (by omega), B1 _ (by omega) (by omega) (by omega), show 0 + (l - 0) = l by omega]
  have hsd := x_send (d := d + 2) (V := E) (a := 343) (t := 341) (fr := 0) (to := 12) (m := 36) hG (gsh hG 343 rfl rfl) (gsh hG 341 rfl rfl) (by omega) (by omega) (by omega) (by omega) (by omega) (by omega) (by rw [E1 3 (by omega), B1 3 (by omega) (by omega) (by omega)]; exact x7) (by rw [E1 4 (by omega), B1 4 (by omega) (by omega) (by omega)]; exact x8) (by rw [E1 6 (by omega), B1 6 (by omega) (by omega) (by omega)]; exact lanOK_ln (by omega) x9) (fun c c0 c1 => by rw [E1 _ (by omega), B2 c c0 c1]; exact ttX_bd (x3 c c0 c1)) (fun l l0 l1 => by rw [E2 l l0 l1]; exact hin l l0 l1)
  rw [E1 3 (by omega), B1 3 (by omega) (by omega) (by omega), E1 4 (by omega), B1 4 (by omega) (by omega) (by omega), E1 6 (by omega), B1 6 (by omega) (by omega) (by omega)] at hsd
  refine ⟨vA E 343 (sendX (V 3) (V 4) (V 6) (E 341) 36 (3 * 0) (E 343)), ?_, fun b b1 b2 b3 b4 => ?_, E 341, E 343, fun c c0 c1 => ?_, E2, ?_⟩
  · simp (disch := first | omega | exact Nat.le_of_ble_eq_true rfl) only [bk703_0, Int.reduceToNat, vA_ap, Nat.reduceEqDiff, if_true, if_false, bx_nil, isL_I, isL_R, isL_U, if_ff, bind_some, tl_some, tl_none, bx_aload_0, gf217_1 hG, bx_iload_1, gf217_8 hG, ia342 hG, is342 hG, cl203 hG, gf217_0 hG, gf217_6 hG, aa300 hG, gf217_7 hG, ia341 hG, is341 hG, cl309 hG, gf217_5 hG, aa259 hG, bx_iconst, gf217_9 hG, ia343 hG, is343 hG, bx_bipush, cl307 hG, bx_aret, Int.toNat_natCast, hfk, hft, bx_copy (gsh hG 343 rfl rfl : G.1 343 = (1, 6)) s260 (show 343 ≠ 260 + k by omega) (show (0 : Int) ≤ 6 ∧ (0 : Int) ≤ 0 ∧ (0 : Int) ≤ 0 by omega), ← hE, hsd]
  · rw [vA_ne b4, E1 b b4]; exact B1 b b3 b1 b2
  · rw [E1 _ (by omega)]; exact B2 c c0 c1
  · rw [vA_same, show (3 : Int) * 0 = 0 by omega]
/-- the reference reworks a run: by, offsets, light are others -/
theorem m_reworks {r : Int} (hG : Good n L G) (hB : mB n V) (hf : fndP n V) (he : V 212 0 ≤ 60) (hr : 0 ≤ r ∧ r < 40) (hS : rg (fun k => V 403 (72 * r + k)) 72 0 95) (hin : ∀ l, 0 ≤ l → l < (n : Int) → 0 ≤ V 401 (6 * r + l) ∧ V 401 (6 * r + l) ≤ 96) : ∃ U T, run (d + 5) 1150 0 [xR 376, xI r, xU] [] (V, G) = some (none, (U, G)) ∧ (∀ b, b ≠ 383 → b ≠ 384 → b ≠ 385 → U b = V b) ∧ (∀ j, (n : Int) ≤ j → j < 6 → U 385 j = 0) ∧ U 385 = plt (V 377) (V 378) (gT n T 1) n 12 0 (fl (V 385) (fun l => V 401 (6 * r + l)) 0 n) ∧ T 376 7 = V 376 7 ∧ T 380 = V 380 ∧ (∀ k, 0 ≤ k → k < 72 → T 383 k = V 403 (72 * r + k) ∧ T 384 k = knM V k r) := by
  obtain ⟨a1, a2, a3, a4, a5, a6, a7, a8, a9⟩ := id hB
  have hfb : 0 ≤ V 376 43 ∧ V 376 43 ≤ 60 := by
    obtain ⟨f1, f2, f3⟩ := hf
    rw [f1]; omega
  have l1 := it_up (D := d + 5) (q := 1150) (pc := 2) (loc := fun k => [xR 376, xI r, xI k]) (F := fun k => (vA (vA V 383 (fl (V 383) (fun k => V 403 (72 * r + k)) 0 k)) 384 (fl (V 384) (fun k => knM V k r) 0 k), G)) (hi := 72) 72 0 (by omega) (fun k h1 h2 => by
    rw [bk1150_2, ← fl_up h1, ← fl_up h1]
    have hk := m_known (d := d + 4) (V := vA (vA V 383 (vU (fl (V 383) (fun k => V 403 (72 * r + k)) 0 k) k (V 403 (72 * r + k)))) 384 (fl (V 384) (fun k => knM V k r) 0 k)) (k := k) (tick := r) hG hfb
    have ek : knM (vA (vA V 383 (vU (fl (V 383) (fun k => V 403 (72 * r + k)) 0 k) k (V 403 (72 * r + k)))) 384 (fl (V 384) (fun k => knM V k r) 0 k)) k r = knM V k r := rfl
    rw [ek] at hk
    have e5 : vA (vA (vA V 383 (fl (V 383) (fun k => V 403 (72 * r + k)) 0 k)) 384 (fl (V 384) (fun k => knM V k r) 0 k)) 383 (vU (fl (V 383) (fun k => V 403 (72 * r + k)) 0 k) k (V 403 (72 * r + k))) = vA (vA V 383 (vU (fl (V 383) (fun k => V 403 (72 * r + k)) 0 k) k (V 403 (72 * r + k)))) 384 (fl (V 384) (fun k => knM V k r) 0 k) := by
      rw [vA_cm (by decide), vA_vA]
    simp (disch := first | omega | exact Nat.le_of_ble_eq_true rfl) only [bk1150_0, bk1150_43, bk1150_76, Int.reduceToNat, vA_ap, Nat.reduceEqDiff, if_true, if_false, bx_nil, isL_I, isL_R, isL_U, if_ff, bind_some, tl_some, tl_none, bx_iconst, bx_istore_2, bx_iload_2, bx_bipush, bx_ic_ge, bx_aload_0, gf376_8 hG, ia383 hG, is383 hG, gf376_37 hG, ia403 hG, is403 hG, bx_iload_1, bx_imul, bx_iadd, gf376_9 hG, ia384 hG, is384 hG, cl1151 hG, bx_iinc2, bx_goto, gf376_0 hG, gf376_10 hG, ia385 hG, is385 hG, gf376_35 hG, ia401 hG, is401 hG, cl1117 hG, bx_vret, if_neg (show ¬ 72 ≤ k by omega), e5, hk, vA_vA])
  rw [fl_nil, fl_nil, vA_self, vA_self] at l1
  obtain ⟨A, hA⟩ : ∃ A, A = vA (vA V 383 (fl (V 383) (fun k => V 403 (72 * r + k)) 0 72)) 384 (fl (V 384) (fun k => knM V k r) 0 72) := ⟨_, rfl⟩
  rw [← hA] at l1
  have A1 : ∀ b, b ≠ 383 → b ≠ 384 → A b = V b := fun b b1 b2 => by rw [hA, vA_ne b2, vA_ne b1]
  have A2 : A 383 = fl (V 383) (fun k => V 403 (72 * r + k)) 0 72 := by rw [hA, vA_ne (by decide), vA_same]
  have A3 : A 384 = fl (V 384) (fun k => knM V k r) 0 72 := by rw [hA, vA_same]
  have l2 := it_up (D := d + 5) (q := 1150) (pc := 45) (loc := fun k => [xR 376, xI r, xI k]) (F := fun k => (vA A 385 (fl (V 385) (fun l => V 401 (6 * r + l)) 0 k), G)) (hi := n) n 0 (by omega) (fun k h1 h2 => by
    have e0 : A 376 0 = n := by rw [A1 _ (by decide) (by decide)]; exact a1
    have e1 : A 401 = V 401 := A1 _ (by decide) (by decide)
    rw [bk1150_45, ← fl_up h1]
    simp (disch := first | omega | exact Nat.le_of_ble_eq_true rfl) only [bk1150_0, bk1150_43, bk1150_76, Int.reduceToNat, vA_ap, Nat.reduceEqDiff, if_true, if_false, bx_nil, isL_I, isL_R, isL_U, if_ff, bind_some, tl_some, tl_none, bx_iconst, bx_istore_2, bx_iload_2, bx_bipush, bx_ic_ge, bx_aload_0, gf376_8 hG, ia383 hG, is383 hG, gf376_37 hG, ia403 hG, is403 hG, bx_iload_1, bx_imul, bx_iadd, gf376_9 hG, ia384 hG, is384 hG, cl1151 hG, bx_iinc2, bx_goto, gf376_0 hG, gf376_10 hG, ia385 hG, is385 hG, gf376_35 hG, ia401 hG, is401 hG, cl1117 hG, bx_vret, e0, e1, if_neg (show ¬ (n : Int) ≤ k by omega), vA_vA])
  rw [fl_nil, show vA A 385 (V 385) = A by rw [← A1 385 (by decide) (by decide), vA_self]] at l2
  obtain ⟨B, hBB⟩ : ∃ B, B = vA A 385 (fl (V 385) (fun l => V 401 (6 * r + l)) 0 n) := ⟨_, rfl⟩
  rw [← hBB] at l2
  have B1 : ∀ b, b ≠ 383 → b ≠ 384 → b ≠ 385 → B b = V b := fun b b1 b2 b3 => by rw [hBB, vA_ne b3]; exact A1 b b1 b2
  have B2 : B 383 = fl (V 383) (fun k => V 403 (72 * r + k)) 0 72 := by rw [hBB, vA_ne (by decide), A2]
  have B3 : B 384 = fl (V 384) (fun k => knM V k r) 0 72 := by rw [hBB, vA_ne (by decide), A3]
  have B4 : B 385 = fl (V 385) (fun l => V 401 (6 * r + l)) 0 n := by rw [hBB, vA_same]
  have hOK : mOK n B := by
    refine ⟨?_, a2, ?_, ?_, ?_, ?_, ?_, ?_, ?_⟩
    · rw [B1 _ (by decide) (by decide) (by decide)]; exact a1
    · rw [B1 _ (by decide) (by decide) (by decide)]; exact a3
    · rw [B2]
      intro k k0 k1
      rw [fl_in k0 k1]
      exact hS k k0 k1
    · rw [B3]
      intro k k0 k1
      rw [fl_in k0 k1]
      have := knM_bd (k := k) (tick := r) hf
      omega
    · rw [B1 _ (by decide) (by decide) (by decide)]; exact a6
    · rw [B1 _ (by decide) (by decide) (by decide)]; exact a7
    · rw [B1 _ (by decide) (by decide) (by decide)]; exact a8
    · rw [B4]
      intro l l0 l1
      by_cases q : l < (n : Int)
      · rw [fl_in l0 q]; exact hin l l0 q
      · rw [fl_out (by omega), a9 l (by omega) l1]; omega
  have hgo : run (d + 4) 1117 0 [xR 376, xI 1, xU, xU] [] (B, G) = some (none, (goM n B 1, G)) := m_goes hG (Or.inr rfl) hOK
  refine ⟨goM n B 1, B, ?_, fun b b1 b2 b3 => ?_, fun j j0 j1 => ?_, ?_, ?_, ?_, fun k k0 k1 => ?_⟩
  · have e0 : A 376 0 = n := by rw [A1 _ (by decide) (by decide)]; exact a1
    have e1 : B 376 0 = n := by rw [B1 _ (by decide) (by decide) (by decide)]; exact a1
    simp (disch := first | omega | exact Nat.le_of_ble_eq_true rfl) only [bk1150_0, bk1150_43, bk1150_76, Int.reduceToNat, vA_ap, Nat.reduceEqDiff, if_true, if_false, bx_nil, isL_I, isL_R, isL_U, if_ff, bind_some, tl_some, tl_none, bx_iconst, bx_istore_2, bx_iload_2, bx_bipush, bx_ic_ge, bx_aload_0, gf376_8 hG, ia383 hG, is383 hG, gf376_37 hG, ia403 hG, is403 hG, bx_iload_1, bx_imul, bx_iadd, gf376_9 hG, ia384 hG, is384 hG, cl1151 hG, bx_iinc2, bx_goto, gf376_0 hG, gf376_10 hG, ia385 hG, is385 hG, gf376_35 hG, ia401 hG, is401 hG, cl1117 hG, bx_vret]
    rw [l1, bk1150_2]
    simp (disch := first | omega | exact Nat.le_of_ble_eq_true rfl) only [bk1150_0, bk1150_43, bk1150_76, Int.reduceToNat, vA_ap, Nat.reduceEqDiff, if_true, if_false, bx_nil, isL_I, isL_R, isL_U, if_ff, bind_some, tl_some, tl_none, bx_iconst, bx_istore_2, bx_iload_2, bx_bipush, bx_ic_ge, bx_aload_0, gf376_8 hG, ia383 hG, is383 hG, gf376_37 hG, ia403 hG, is403 hG, bx_iload_1, bx_imul, bx_iadd, gf376_9 hG, ia384 hG, is384 hG, cl1151 hG, bx_iinc2, bx_goto, gf376_0 hG, gf376_10 hG, ia385 hG, is385 hG, gf376_35 hG, ia401 hG, is401 hG, cl1117 hG, bx_vret, if_pos (show (72 : Int) ≤ 72 by omega)]
    rw [l2, bk1150_45]
    simp (disch := first | omega | exact Nat.le_of_ble_eq_true rfl) only [bk1150_0, bk1150_43, bk1150_76, Int.reduceToNat, vA_ap, Nat.reduceEqDiff, if_true, if_false, bx_nil, isL_I, isL_R, isL_U, if_ff, bind_some, tl_some, tl_none, bx_iconst, bx_istore_2, bx_iload_2, bx_bipush, bx_ic_ge, bx_aload_0, gf376_8 hG, ia383 hG, is383 hG, gf376_37 hG, ia403 hG, is403 hG, bx_iload_1, bx_imul, bx_iadd, gf376_9 hG, ia384 hG, is384 hG, cl1151 hG, bx_iinc2, bx_goto, gf376_0 hG, gf376_10 hG, ia385 hG, is385 hG, gf376_35 hG, ia401 hG, is401 hG, cl1117 hG, bx_vret, e1, if_pos (show (n : Int) ≤ n by omega), hgo]
  · unfold goM; rw [vA_ne b3]; exact B1 b b1 b2 b3
  · unfold goM
    rw [vA_same, plt_z j0, B4, fl_out (by omega)]
    exact a9 j j0 j1
  · unfold goM
    rw [vA_same, B4, B1 _ (by decide) (by decide) (by decide), B1 _ (by decide) (by decide) (by decide)]
  · rw [B1 _ (by decide) (by decide) (by decide)]
  · rw [B1 _ (by decide) (by decide) (by decide)]
  · rw [B2, B3, fl_in k0 k1, fl_in k0 k1]
    exact ⟨rfl, rfl⟩
/-- cells that reworking changes -/
theorem Inv.rwk {U : Nat → Int → Int} (h : Inv n V) (fr : ∀ b, b ≠ 216 → b ≠ 341 → b ≠ 342 → b ≠ 343 → b ≠ 383 → b ≠ 384 → b ≠ 385 → U b = V b) (hl : ∀ j, (n : Int) ≤ j → j < 6 → U 385 j = 0) : Inv n U := by
  have hn := h.nn
  obtain ⟨g, hV⟩ : ∃ g : Nat → Int → Int, U = fun b => if b = 216 then g b else if b = 341 then g b else if b = 342 then g b else if b = 343 then g b else if b = 383 then g b else if b = 384 then g b else if b = 385 then g b else V b := by
    refine ⟨U, funext fun b => ?_⟩
    repeat' split
    all_goals first | rfl | (apply fr <;> assumption)
  subst hV
  exact ⟨h.nn, h.l5, h.l12, h.l35, h.lm, h.lim, h.cc, h.ss, h.rC, h.rS, h.lan, h.set, h.stk, h.off, h.own, h.cre, hl, tldP_tr hn.2 h.tld (fun c hc => fr _ (by omega) (by omega) (by omega) (by omega) (by omega) (by omega) (by omega)) rfl, h.stp, h.spl, sgnP_tr hn.2 h.sgn (fun c hc => fr _ (by omega) (by omega) (by omega) (by omega) (by omega) (by omega) (by omega)) rfl rfl, h.wrk, h.tap, h.ent, h.fnd, runP_tr h.rns (fun c hc => ⟨fr _ (by omega) (by omega) (by omega) (by omega) (by omega) (by omega) (by omega), fr _ (by omega) (by omega) (by omega) (by omega) (by omega) (by omega) (by omega), fr _ (by omega) (by omega) (by omega) (by omega) (by omega) (by omega) (by omega)⟩) ⟨rfl, rfl, rfl⟩ rfl, h.prb⟩
/-- what a run comes to when reworked -/
theorem rew_eq {r : Int} {U : Nat → Int → Int} {g0 t f : Int → Int} {T : Nat → Int → Int} (h : Inv n V) (hr : 0 ≤ r ∧ r < V 217 3) (ht : ∀ c, 0 ≤ c → c < 36 → t c = ttX (V 8) (V (301 + r.toNat)) (knX V 342 r).2 (V 5 6) c) (hf : ∀ l, 0 ≤ l → l < 6 → f l = V (260 + r.toNat) l) (t1 : T 376 7 = V 376 7) (t2 : T 380 = V 380) (t3 : ∀ k, 0 ≤ k → k < 72 → T 383 k = V 403 (72 * r + k) ∧ T 384 k = knM V k r) : eqn n (sendX (V 3) (V 4) (V 6) t 36 0 f) (plt (V 377) (V 378) (gT n T 1) n 12 0 (fl g0 (fun l => V 401 (6 * r + l)) 0 n)) := by
  have hn := h.nn
  obtain ⟨p1, p2, p3, p4, p5⟩ := h.rns.2.2.1 r hr.1 hr.2
  rw [h.cc, h.ss]
  refine go_eq hn h.lan (by rw [t2]; exact h.stk) (BX := V (301 + r.toNat)) (plcP_cong (M := fun k => V 403 (72 * r + k)) ⟨p3, p4, p5⟩ (fun k k0 k1 => (t3 k k0 k1).1)) (OX := (knX V 342 r).2) (fun c c0 c1 => ?_) (t1.trans h.cre.1) ht (fun l l0 l1 => ?_)
  · rw [(t3 (ix c) (ix_bd ⟨c0, c1⟩).1 (ix_bd ⟨c0, c1⟩).2).2]
    exact kn_eq h.fnd ⟨rfl, rfl, rfl, rfl⟩ ⟨c0, c1⟩
  · rw [hf l l0 (by omega), fl_in l0 l1]
    exact (p1 l l0 l1).2.1
theorem run_in {r : Int} (h : Inv n V) (hr : 0 ≤ r ∧ r < V 217 3) : rg (V (301 + r.toNat)) 36 0 95 ∧ rg (V (260 + r.toNat)) 6 0 96 := by
  obtain ⟨p1, p2, p3, p4, p5⟩ := h.rns.2.2.1 r hr.1 hr.2
  refine ⟨plcP_rg (n := n) ⟨p3, p4, p5⟩, fun l l0 l1 => ?_⟩
  by_cases q : l < (n : Int)
  · rw [(p1 l l0 q).2.1]; exact (p1 l l0 q).2.2
  · rw [p2 l (by omega) l1]; omega
theorem pr_reworked {r l : Int} (hG : Good n L G) (h : Inv n V) : pair n G V 1024 1149 [xR 1, xI r, xI l] [xR 376, xI r, xI l] := by
  have hn := h.nn
  have q1 := h.rns.1
  have q2 := h.rns.2.1
  by_cases a : 0 ≤ r ∧ r < V 217 3
  · have a' : 0 ≤ r ∧ r < V 376 41 := by rw [q1]; exact a
    by_cases b : 0 ≤ l ∧ l < (n : Int)
    · obtain ⟨i1, i2⟩ := run_in h a
      obtain ⟨W, w0, w1, t, f, w2, w3, w4⟩ := x_rework (d := 793) (r := r) hG h.xb h.fnd h.ent.2.2 (by omega) i1 i2
      have fm : ∀ b, 376 ≤ b → W b = V b := fun b hb => w1 b (by omega) (by omega) (by omega) (by omega)
      have hW : Inv n W := h.rwk (fun b b1 b2 b3 b4 _ _ _ => w1 b b1 b2 b3 b4) (by rw [fm _ (by decide)]; exact h.lig)
      have w0' : run 798 703 0 [xR 217, xI r] [] (V, G) = some (some (xR 343), (W, G)) := w0
      have hx : run 799 1024 0 [xR 1, xI r, xI l] [] (V, G) = some (some (xI (W 343 l)), (W, G)) := by
        simp (disch := first | omega | exact Nat.le_of_ble_eq_true rfl) only [bk1024_0, bk1024_19, bk1024_21, Int.reduceToNat, vA_ap, Nat.reduceEqDiff, if_true, if_false, bx_nil, isL_I, isL_R, isL_U, if_ff, bind_some, tl_some, tl_none, bx_aload_0, gf1_7 hG, bx_iload_1, cl702 hG, bx_if_eq, bx_iload_2, cl1008 hG, bx_if_ne, bx_iconst, bx_iret, cl703 hG, x_has hG, x_isLane hG, h.l5, b1_t a, b1_t b, one_ne, w0', ia343 hG]
      obtain ⟨U, T, u0, u1, u2, u3, u4, u5, u6⟩ := m_reworks (d := 793) (V := W) (r := r) hG hW.mb hW.fnd hW.ent.2.2 (by omega) (by rw [fm _ (by decide)]; exact (h.rns.2.2.1 r a.1 a.2).2.2.2.2) (fun l l0 l1 => by rw [fm _ (by decide)]; exact ((h.rns.2.2.1 r a.1 a.2).1 l l0 l1).2.2)
      have u0' : run 798 1150 0 [xR 376, xI r, xU] [] (W, G) = some (none, (U, G)) := u0
      have e376 : W 376 = V 376 := fm 376 (by omega)
      have hm : run 799 1149 0 [xR 376, xI r, xI l] [] (W, G) = some (some (xI (U 385 l)), (U, G)) := by
        simp (disch := first | omega | exact Nat.le_of_ble_eq_true rfl) only [bk1149_0, bk1149_16, bk1149_18, Int.reduceToNat, vA_ap, Nat.reduceEqDiff, if_true, if_false, bx_nil, isL_I, isL_R, isL_U, if_ff, bind_some, tl_some, tl_none, bx_aload_0, bx_iload_1, cl1148 hG, bx_if_eq, bx_iload_2, cl1115 hG, bx_if_ne, bx_iconst, bx_iret, cl1150 hG, gf376_10 hG, ia385 hG, is385 hG, m_isRun hG, m_isLane hG, e376, h.lm, b1_t a', b1_t b, one_ne, u0']
      rw [e376] at u4
      have ek : ∀ k, knM W k r = knM V k r := fun k => by
        unfold knM
        rw [e376, fm 404 (by decide), fm 406 (by decide), fm 405 (by decide)]
      have hq := rew_eq (U := U) (g0 := V 385) h a w2 w3 u4 (u5.trans (fm _ (by decide))) (fun k k0 k1 => by
        rw [(u6 k k0 k1).1, (u6 k k0 k1).2, ek k, fm _ (by decide)]
        exact ⟨rfl, rfl⟩) l b.1 b.2
      have e5 : W 343 l = U 385 l := by
        rw [w4, u3, hq, fm 377 (by decide), fm 378 (by decide), fm 385 (by decide), fm 401 (by decide)]
      rw [e5] at hx
      exact mkpair hx hm (hW.rwk (fun b _ _ _ _ b5 b6 b7 => u1 b b5 b6 b7) u2)
    · refine mkpair (r := -1) (V' := V) ?_ ?_ h
      · simp (disch := first | omega | exact Nat.le_of_ble_eq_true rfl) only [bk1024_0, bk1024_19, bk1024_21, Int.reduceToNat, vA_ap, Nat.reduceEqDiff, if_true, if_false, bx_nil, isL_I, isL_R, isL_U, if_ff, bind_some, tl_some, tl_none, bx_aload_0, gf1_7 hG, bx_iload_1, cl702 hG, bx_if_eq, bx_iload_2, cl1008 hG, bx_if_ne, bx_iconst, bx_iret, cl703 hG, x_has hG, x_isLane hG, h.l5, b1_t a, b1_f b, one_ne]
      · simp (disch := first | omega | exact Nat.le_of_ble_eq_true rfl) only [bk1149_0, bk1149_16, bk1149_18, Int.reduceToNat, vA_ap, Nat.reduceEqDiff, if_true, if_false, bx_nil, isL_I, isL_R, isL_U, if_ff, bind_some, tl_some, tl_none, bx_aload_0, bx_iload_1, cl1148 hG, bx_if_eq, bx_iload_2, cl1115 hG, bx_if_ne, bx_iconst, bx_iret, cl1150 hG, gf376_10 hG, ia385 hG, is385 hG, m_isRun hG, m_isLane hG, h.lm, b1_t a', b1_f b, one_ne]
  · have a' : ¬ (0 ≤ r ∧ r < V 376 41) := by rw [q1]; exact a
    refine mkpair (r := -1) (V' := V) ?_ ?_ h
    · simp (disch := first | omega | exact Nat.le_of_ble_eq_true rfl) only [bk1024_0, bk1024_19, bk1024_21, Int.reduceToNat, vA_ap, Nat.reduceEqDiff, if_true, if_false, bx_nil, isL_I, isL_R, isL_U, if_ff, bind_some, tl_some, tl_none, bx_aload_0, gf1_7 hG, bx_iload_1, cl702 hG, bx_if_eq, bx_iload_2, cl1008 hG, bx_if_ne, bx_iconst, bx_iret, cl703 hG, x_has hG, b1_f a]
    · simp (disch := first | omega | exact Nat.le_of_ble_eq_true rfl) only [bk1149_0, bk1149_16, bk1149_18, Int.reduceToNat, vA_ap, Nat.reduceEqDiff, if_true, if_false, bx_nil, isL_I, isL_R, isL_U, if_ff, bind_some, tl_some, tl_none, bx_aload_0, bx_iload_1, cl1148 hG, bx_if_eq, bx_iload_2, cl1115 hG, bx_if_ne, bx_iconst, bx_iret, cl1150 hG, gf376_10 hG, ia385 hG, is385 hG, m_isRun hG, b1_f a']
end RW
