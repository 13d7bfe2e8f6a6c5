/-! PROBE: the reference, and the pair -/
section PR3
variable {n L d : Nat} {G : XG} {V : Nat → Int → Int}
/-- what the reference comes to by a hypothesis: by, offsets, light are others -/
theorem m_comesTo {h j m : Int} (hG : Good n L G) (hB : mB n V) (hf : fndP n V) (he : V 212 0 ≤ 60) (hr : 0 ≤ V 376 41 ∧ V 376 41 ≤ 40) (hh : h = 0 ∨ (1 ≤ h ∧ h ≤ 144) ∧ (0 ≤ V 407 ((h - 1) / 4) ∧ V 407 ((h - 1) / 4) < 72)) (hj : 0 ≤ j ∧ j < (n : Int)) (hm : 0 ≤ m ∧ m < (n : Int)) : ∃ U T, run (d + 5) 1156 0 [xR 376, xI h, xI j, xI m, xU] [] (V, G) = some (some (xI (U 385 m)), (U, G)) ∧ (∀ b, b ≠ 383 → b ≠ 384 → b ≠ 385 → U b = V b) ∧ (∀ l, (n : Int) ≤ l → l < 6 → U 385 l = 0) ∧ U 385 = plt (V 377) (V 378) (gT n T 1) n 12 0 (entM n V j 385) ∧ T 376 7 = V 376 7 ∧ T 380 = V 380 ∧ (∀ k, 0 ≤ k → k < 72 → T 383 k = V 379 k ∧ T 384 k = knM V k (V 376 41) + (if 0 < h ∧ k = V 407 ((h - 1) / 4) then mrF ((h - 1) % 4) else 0)) := by
  obtain ⟨a1, a2, a3, a4, a5, a6, a7, a8, a9⟩ := id hB
  have hfb : 0 ≤ V 376 43 ∧ V 376 43 ≤ 60 := by
    obtain ⟨f1, f2, f3⟩ := hf
    rw [f1]; omega
  have hkb : ∀ k, -8 ≤ knM V k (V 376 41) ∧ knM V k (V 376 41) ≤ 8 := fun k => knM_bd hf
  generalize hrr : V 376 41 = r at *
  have l1 := it_up (D := d + 5) (q := 1156) (pc := 3) (loc := fun k => [xR 376, xI h, xI j, xI m, xI k]) (F := fun k => (vA (vA V 383 (fl (V 383) (V 379) 0 k)) 384 (fl (V 384) (fun k => knM V k r) 0 k), G)) (hi := 72) 72 0 (by omega) (fun k h1 h2 => by
    rw [bk1156_3, ← fl_up h1, ← fl_up h1]
    have hk := m_known (d := d + 4) (V := vA (vA V 383 (vU (fl (V 383) (V 379) 0 k) k (V 379 k))) 384 (fl (V 384) (fun k => knM V k r) 0 k)) (k := k) (tick := r) hG hfb
    have ek : knM (vA (vA V 383 (vU (fl (V 383) (V 379) 0 k) k (V 379 k))) 384 (fl (V 384) (fun k => knM V k r) 0 k)) k r = knM V k r := rfl
    rw [ek] at hk
    have e5 : vA (vA (vA V 383 (fl (V 383) (V 379) 0 k)) 384 (fl (V 384) (fun k => knM V k r) 0 k)) 383 (vU (fl (V 383) (V 379) 0 k) k (V 379 k)) = vA (vA V 383 (vU (fl (V 383) (V 379) 0 k) k (V 379 k))) 384 (fl (V 384) (fun k => knM V k r) 0 k) := by
      rw [vA_cm (by decide), vA_vA]
    simp (disch := first | omega | exact Nat.le_of_ble_eq_true rfl) only [bk1156_0, bk1156_47, bk1156_77, Int.reduceToNat, vA_ap, Nat.reduceEqDiff, if_true, if_false, bx_nil, isL_I, isL_R, isL_U, if_ff, bind_some, tl_some, tl_none, bx_iconst, bx_istore4, bx_iload4, bx_bipush, bx_ic_ge, bx_aload_0, gf376_8 hG, ia383 hG, is383 hG, gf376_3 hG, ia379 hG, is379 hG, gf376_9 hG, ia384 hG, is384 hG, gf376_41 hG, cl1151 hG, bx_iinc4, bx_goto, bx_iload_1, bx_if_le, gf376_44 hG, ia407 hG, is407 hG, bx_isub, bx_idiv, bx_dup2, bx_irem, cl1157, bx_iadd, bx_iload_2, cl1116 hG, cl1117 hG, gf376_10 hG, ia385 hG, is385 hG, bx_iload_3, bx_iret, if_neg (show ¬ 72 ≤ k by omega), e5, hrr, hk, vA_vA])
  rw [fl_nil, fl_nil, vA_self, vA_self] at l1
  obtain ⟨A, hA⟩ : ∃ A, A = vA (vA V 383 (fl (V 383) (V 379) 0 72)) 384 (fl (V 384) (fun k => knM V k r) 0 72) := ⟨_, rfl⟩
  rw [← hA] at l1
  have A1 : ∀ b, b ≠ 383 → b ≠ 384 → A b = V b := fun b b1 b2 => by rw [hA, vA_ne b2, vA_ne b1]
  have A2 : A 383 = fl (V 383) (V 379) 0 72 := by rw [hA, vA_ne (by decide), vA_same]
  have A3 : A 384 = fl (V 384) (fun k => knM V k r) 0 72 := by rw [hA, vA_same]
  -- one more
  obtain ⟨B, hst, B1, B2, B3⟩ : ∃ B, run (d + 5) 1156 0 [xR 376, xI h, xI j, xI m, xU] [] (V, G) = run (d + 5) 1156 77 [xR 376, xI h, xI j, xI m, xI 72] [] (B, G) ∧ (∀ b, b ≠ 383 → b ≠ 384 → B b = V b) ∧ B 383 = A 383 ∧ ∀ k, 0 ≤ k → k < 72 → B 384 k = knM V k r + (if 0 < h ∧ k = V 407 ((h - 1) / 4) then mrF ((h - 1) % 4) else 0) := by
    by_cases q : h = 0
    · refine ⟨A, ?_, A1, rfl, fun k k0 k1 => ?_⟩
      · have e0 : run (d + 5) 1156 0 [xR 376, xI h, xI j, xI m, xU] [] (V, G) = run (d + 5) 1156 3 [xR 376, xI h, xI j, xI m, xI 0] [] (V, G) := by
          simp (disch := first | omega | exact Nat.le_of_ble_eq_true rfl) only [bk1156_0, bx_iconst, bx_istore4, isL_I, if_ff, bx_nil]
        rw [e0, l1, bk1156_3]
        simp (disch := first | omega | exact Nat.le_of_ble_eq_true rfl) only [bx_iload4, bx_bipush, bx_ic_ge, if_pos (show (72 : Int) ≤ 72 by omega), Int.reduceToNat, bk1156_47, bx_iload_1, bx_if_le, if_pos (show h ≤ 0 by omega)]
      · rw [A3, fl_in k0 k1, if_neg (by omega), Int.add_zero]
    · obtain ⟨q1, q2⟩ := hh.resolve_left q
      generalize hmy : V 407 ((h - 1) / 4) = my at *
      have eA : A 407 ((h - 1) / 4) = my := by rw [A1 _ (by decide) (by decide)]; exact hmy
      have eo : A 384 my = knM V my r := by rw [A3, fl_in q2.1 q2.2]
      have hb2 := hkb my
      have emr : (if (h - 1) % 4 < 2 then (h - 1) % 4 - 2 else (h - 1) % 4 - 1) = mrF ((h - 1) % 4) := rfl
      have hmb : -2 ≤ mrF ((h - 1) % 4) ∧ mrF ((h - 1) % 4) ≤ 2 := by unfold mrF; split <;> omega
      refine ⟨vA A 384 (vU (A 384) my (knM V my r + mrF ((h - 1) % 4))), ?_, fun b b1 b2 => by rw [vA_ne b2]; exact A1 b b1 b2, by rw [vA_ne (by decide)], fun k k0 k1 => ?_⟩
      · have e0 : run (d + 5) 1156 0 [xR 376, xI h, xI j, xI m, xU] [] (V, G) = run (d + 5) 1156 3 [xR 376, xI h, xI j, xI m, xI 0] [] (V, G) := by
          simp (disch := first | omega | exact Nat.le_of_ble_eq_true rfl) only [bk1156_0, bx_iconst, bx_istore4, isL_I, if_ff, bx_nil]
        rw [e0, l1, bk1156_3]
        simp (disch := first | omega | exact Nat.le_of_ble_eq_true rfl) only [bx_iload4, bx_bipush, bx_ic_ge, if_pos (show (72 : Int) ≤ 72 by omega), Int.reduceToNat, bk1156_47, bx_iload_1, bx_if_le, if_neg (show ¬ h ≤ 0 by omega), bx_aload_0, gf376_9 hG, gf376_44 hG, bx_iconst, bx_isub, bx_idiv, td_pos (show 0 ≤ h - 1 by omega), ia407 hG, eA, bx_dup2, ia384 hG, eo, bx_irem, tm_pos (show 0 ≤ h - 1 by omega) (show (0 : Int) < 4 by omega), cl1157, m_more (show -100000 ≤ (h - 1) % 4 ∧ (h - 1) % 4 ≤ 100000 by omega), emr, bind_some, tl_some, bx_iadd, is384 hG, bx_nil]
        rw [bk1156_77, bx_aload_0]
      · rw [vA_same]
        by_cases e : k = my
        · rw [e, vU_at, if_pos ⟨by omega, rfl⟩]
        · rw [vU_ne e, if_neg (fun y => e y.2), A3, fl_in k0 k1, Int.add_zero]
  have hoff : rg (B 384) 72 (-100) 100 := fun k k0 k1 => by
    rw [B3 k k0 k1]
    have := hkb k
    have hmb : -2 ≤ mrF ((h - 1) % 4) ∧ mrF ((h - 1) % 4) ≤ 2 ∨ True := Or.inr trivial
    split
    · unfold mrF; split <;> omega
    · omega
  have e376 : B 376 = V 376 := B1 _ (by decide) (by decide)
  have hent : run (d + 4) 1116 0 [xR 376, xI j, xU] [] (B, G) = some (none, (entM n B j, G)) := m_enters hG (by rw [e376]; exact a1) a2.2
  have eL : entM n B j 385 = entM n V j 385 := by
    show (fun l => if 0 ≤ l ∧ l < (n : Int) then (if l = j then (1 : Int) else 0) else B 385 l) = (fun l => if 0 ≤ l ∧ l < (n : Int) then (if l = j then (1 : Int) else 0) else V 385 l)
    rw [B1 _ (by decide) (by decide)]
  have C1 : ∀ b, b ≠ 385 → entM n B j b = B b := fun b b1 => vA_ne b1
  have hOK : mOK n (entM n B j) := by
    refine ⟨?_, a2, ?_, ?_, ?_, ?_, ?_, ?_, ?_⟩
    · rw [C1 _ (by decide), e376]; exact a1
    · rw [C1 _ (by decide), B1 _ (by decide) (by decide)]; exact a3
    · rw [C1 _ (by decide), B2, A2]
      intro k k0 k1
      rw [fl_in k0 k1]
      exact a4 k k0 k1
    · rw [C1 _ (by decide)]; exact hoff
    · rw [C1 _ (by decide), e376]; exact a6
    · rw [C1 _ (by decide), B1 _ (by decide) (by decide)]; exact a7
    · rw [C1 _ (by decide), B1 _ (by decide) (by decide)]; exact a8
    · rw [eL]; exact entM_rg a9
  have hgo : run (d + 4) 1117 0 [xR 376, xI 1, xU, xU] [] (entM n B j, G) = some (none, (goM n (entM n B j) 1, G)) := m_goes hG (Or.inr rfl) hOK
  refine ⟨goM n (entM n B j) 1, entM n B j, ?_, fun b b1 b2 b3 => ?_, fun l l0 l1 => ?_, ?_, ?_, ?_, fun k k0 k1 => ?_⟩
  · rw [hst]
    simp (disch := first | omega | exact Nat.le_of_ble_eq_true rfl) only [bk1156_77, bx_aload_0, bx_iload_2, cl1116 hG, hent, bind_some, tl_none, bx_iconst, cl1117 hG, hgo, gf376_10 hG, bx_iload_3, ia385 hG, bx_iret]
  · unfold goM; rw [vA_ne b3, C1 _ b3]; exact B1 b b1 b2
  · unfold goM
    rw [vA_same, plt_z l0, eL]
    show (if 0 ≤ l ∧ l < (n : Int) then (if l = j then (1 : Int) else 0) else V 385 l) = 0
    rw [if_neg (by omega)]
    exact a9 l l0 l1
  · unfold goM
    rw [vA_same, eL, C1 _ (by decide), C1 _ (by decide), B1 _ (by decide) (by decide), B1 _ (by decide) (by decide)]
  · rw [C1 _ (by decide), e376]
  · rw [C1 _ (by decide), B1 _ (by decide) (by decide)]
  · rw [C1 _ (by decide), C1 _ (by decide), B2, A2, fl_in k0 k1, B3 k k0 k1]
    exact ⟨rfl, rfl⟩
/-- both sides come to the same -/
theorem ct_eq {h j : Int} {U T : Nat → Int → Int} {g : Int → Int} (hg : ∀ l, 0 ≤ l → l < (n : Int) → g l = eF j l) (hI : Inv n V) (hb : ¬ V 344 2 = 0) (hh : 0 ≤ h ∧ h < V 344 3) (u1 : U 385 = plt (V 377) (V 378) (gT n T 1) n 12 0 g) (t1 : T 376 7 = V 376 7) (t2 : T 380 = V 380) (t3 : ∀ k, 0 ≤ k → k < 72 → T 383 k = V 379 k ∧ T 384 k = knM V k (V 376 41) + (if 0 < h ∧ k = V 407 ((h - 1) / 4) then mrF ((h - 1) % 4) else 0)) : eqn n (lgF V (hoC V h) j) (U 385) := by
  have hn := hI.nn
  obtain ⟨y1, y2⟩ := hyp_bd hI.prb hb hh
  rw [u1]
  unfold lgF
  rw [← hI.cc, ← hI.ss]
  refine go_eq hn hI.lan (SX := V 8) (by rw [t2]; exact hI.stk) (BX := V 7) (plcP_cong hI.set (fun k k0 k1 => (t3 k k0 k1).1)) (OX := hoC V h) (fun c c0 c1 => ?_) (t1.trans hI.cre.1) (fun c c0 c1 => rfl) (fun l l0 l1 => ?_)
  · rw [(t3 (ix c) (ix_bd ⟨c0, c1⟩).1 (ix_bd ⟨c0, c1⟩).2).2]
    unfold hoC
    rcases y2 with ⟨z1, z2⟩ | ⟨z1, _, _, z2, z3, z4⟩
    · rw [if_pos z2, if_neg (by omega), Int.add_zero, hI.rns.1]
      rfl
    · rw [if_neg (by omega), z3]
      by_cases e : c = V 345 h
      · rw [e, vU_at, if_pos ⟨by omega, rfl⟩, z4, hI.rns.1]
        rfl
      · rw [vU_ne e, if_neg (fun y => e (ix_inj ⟨c0, c1⟩ z2 y.2)), Int.add_zero, hI.rns.1]
        rfl
  · exact (hg l l0 l1).symm
/-- memory W is V but for what probes change -/
def frP (V W : Nat → Int → Int) : Prop := ∀ b, b ≠ 216 → ¬ (344 ≤ b ∧ b < 373) → b ≠ 376 → b ≠ 383 → b ≠ 384 → b ≠ 385 → b ≠ 409 → b ≠ 410 → W b = V b
theorem Inv.prx {U : Nat → Int → Int} (h : Inv n V) (fr : frP V U) (h376 : ∃ y, U 376 = vU (V 376) 49 y) (hl : ∀ j, (n : Int) ≤ j → j < 6 → U 385 j = 0) (hp : prbP n U) : Inv n U := by
  have hn := h.nn
  obtain ⟨y, hy⟩ := h376
  obtain ⟨g, hV⟩ : ∃ g : Nat → Int → Int, U = fun b => if b = 216 then g b else if 344 ≤ b ∧ b < 373 then g b else if b = 376 then vU (V 376) 49 y else if b = 383 then g b else if b = 384 then g b else if b = 385 then g b else if b = 409 then g b else if b = 410 then g b else V b := by
    refine ⟨U, funext fun b => ?_⟩
    by_cases c1 : b = 216
    · rw [if_pos c1]
    rw [if_neg c1]
    by_cases c2 : 344 ≤ b ∧ b < 373
    · rw [if_pos c2]
    rw [if_neg c2]
    by_cases c3 : b = 376
    · rw [if_pos c3, c3]; exact hy
    rw [if_neg c3]
    by_cases c4 : b = 383
    · rw [if_pos c4]
    rw [if_neg c4]
    by_cases c5 : b = 384
    · rw [if_pos c5]
    rw [if_neg c5]
    by_cases c6 : b = 385
    · rw [if_pos c6]
    rw [if_neg c6]
    by_cases c7 : b = 409
    · rw [if_pos c7]
    rw [if_neg c7]
    by_cases c8 : b = 410
    · rw [if_pos c8]
    rw [if_neg c8]
    exact fr b c1 c2 c3 c4 c5 c6 c7 c8
  have ftld : tldP n U := tldP_tr hn.2 h.tld (fun c hc => fr _ (by omega) (by omega) (by omega) (by omega) (by omega) (by omega) (by omega) (by omega)) (fr _ (by decide) (by decide) (by decide) (by decide) (by decide) (by decide) (by decide) (by decide))
  have fsgn : sgnP n U := sgnP_tr hn.2 h.sgn (fun c hc => fr _ (by omega) (by omega) (by omega) (by omega) (by omega) (by omega) (by omega) (by omega)) (fr _ (by decide) (by decide) (by decide) (by decide) (by decide) (by decide) (by decide) (by decide)) (fr _ (by decide) (by decide) (by decide) (by decide) (by decide) (by decide) (by decide) (by decide))
  have frns : runP n U := runP_tr h.rns (fun c hc => ⟨fr _ (by omega) (by omega) (by omega) (by omega) (by omega) (by omega) (by omega) (by omega), fr _ (by omega) (by omega) (by omega) (by omega) (by omega) (by omega) (by omega) (by omega), fr _ (by omega) (by omega) (by omega) (by omega) (by omega) (by omega) (by omega) (by omega)⟩) ⟨fr _ (by decide) (by decide) (by decide) (by decide) (by decide) (by decide) (by decide) (by decide), fr _ (by decide) (by decide) (by decide) (by decide) (by decide) (by decide) (by decide) (by decide), fr _ (by decide) (by decide) (by decide) (by decide) (by decide) (by decide) (by decide) (by decide)⟩ (by rw [hV]; rfl)
  subst hV
  exact ⟨h.nn, h.l5, h.l12, h.l35, h.lm, h.lim, h.cc, h.ss, h.rC, h.rS, h.lan, h.set, h.stk, h.off, h.own, h.cre, hl, ftld, h.stp, h.spl, fsgn, h.wrk, h.tap, h.ent, h.fnd, frns, hp⟩
end PR3
