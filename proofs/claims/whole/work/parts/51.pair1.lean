/-! PAIRS: the plain methods -/
/-- the same plate on both sides: V the class's, W the reference's -/
def plR (n : Nat) (V W : Nat → Int → Int) : Prop := (2 ≤ n ∧ n ≤ 6) ∧ W 377 = V 3 ∧ W 378 = V 4 ∧ lanOK n (V 6) ∧ plcP n (V 7) (W 379) 0 0 95 ∧ plcP n (V 8) (W 380) (-1) (-1) 95 ∧ plcP n (V 9) (W 382) 0 (-8) 8 ∧ W 376 7 = V 5 6
theorem Inv.pl {n : Nat} {V : Nat → Int → Int} (h : Inv n V) : plR n V V := ⟨h.nn, h.cc, h.ss, h.lan, h.set, h.stk, h.off, h.cre.1⟩
theorem Inv.xb {n : Nat} {V : Nat → Int → Int} (h : Inv n V) : xB n V := ⟨h.l5, h.nn, plcP_rg h.stk, plcP_rg h.set, plcP_rg h.off, h.cre.2, h.rC, h.rS, h.lan⟩
theorem Inv.mb {n : Nat} {V : Nat → Int → Int} (h : Inv n V) : mB n V := ⟨h.lm, h.nn, h.stk.2.2, h.set.2.2, h.off.2.2, by rw [h.cre.1]; exact h.cre.2, by rw [h.cc]; exact h.rC, by rw [h.ss]; exact h.rS, h.lig⟩
theorem now_by {V : Nat → Int → Int} {k : Int} (h0 : 0 ≤ k) (h1 : k < 72) : nowM V 383 k = V 379 k := if_pos ⟨h0, h1⟩
theorem now_of {V : Nat → Int → Int} {k : Int} (h0 : 0 ≤ k) (h1 : k < 72) : nowM V 384 k = V 382 k := if_pos ⟨h0, h1⟩
theorem tab_eq {n : Nat} {V W : Nat → Int → Int} {c : Int} (h : plR n V W) (hc : 0 ≤ c ∧ c < (n : Int)) : eqn n (colX V c) (tabM n W c 385) := by
  obtain ⟨hn, e1, e2, e3, e4, e5, _, _⟩ := h
  have e4' := plcP_cong (M' := nowM W 383) e4 (fun k a b => now_by a b)
  show eqn n _ (plt (W 377) (W 378) (gT n (entM n (nowM W) c) 0) n 12 0 (entM n (nowM W) c 385))
  rw [e1, e2, plt_send (tx := kX (V 8) (V 7)) (by omega) (by omega) e3 (fun l i hi => ?_) 12 0 _ (by omega) (by omega)]
  · unfold colX
    refine sendX_cong 36 0 _ _ (fun j h0 h1 => ?_) (fun j h0 h1 => ⟨rfl, fun h2 => ⟨?_, ?_⟩⟩)
    · show _ = (if 0 ≤ j ∧ j < (n : Int) then (if j = c then (1 : Int) else 0) else _)
      rw [if_pos ⟨h0, h1⟩]
      by_cases e : j = c
      · rw [if_pos e, e, vU_at]
      · rw [if_neg e, vU_ne e, if_pos (by omega)]
    · rw [e3 j h0 (by omega)] at h2 ⊢
      exact ln_bd ⟨h0, by omega⟩ h2
    · rw [if_pos ⟨h0, by omega⟩]
  · show tO (W 380) (nowM W 383) (6 * l + i) = _
    rw [← ix_xi (by omega) hi, tO_kX (xi_in (by omega) hi) e5.1 e4'.1 e5.2.2]
section PA
variable {n L : Nat} {G : XG} {V : Nat → Int → Int}
theorem pr_set {l i k : Int} (hG : Good n L G) (h : Inv n V) : pair n G V 1002 1104 [xR 1, xI l, xI i, xI k, xU, xU] [xR 376, xI l, xI i, xI k, xU] := by
  have hn := h.nn
  have he := h.ent
  have hx := xp_set (d := 798) (l := l) (i := i) (k := k) hG h.l5 hn.1 hn.2 he.2
  have hm0 := mp_set (d := 797) (V := V) (l := l) (i := i) (k := k) hG h.lm hn.1 hn.2 (by omega)
  unfold setXa at hx
  by_cases a : isC n l i
  · rw [if_neg (not_not_intro a)] at hx
    by_cases b : 0 ≤ k ∧ k ≤ 95
    · rw [if_neg (not_not_intro b)] at hx
      by_cases f : 60 ≤ V 212 0
      · rw [if_pos f] at hx
        unfold setM at hm0
        rw [if_neg (not_not_intro a), if_neg (not_not_intro b), if_pos (by omega)] at hm0
        exact mkpair hx hm0 h
      · rw [if_neg f] at hx
        generalize hV : vA (vA V 7 (vU (V 7) (xi l i) k)) 212 (vU (V 212) 0 (V 212 0 + 1)) = V' at hx
        have f1 : V' 376 = V 376 := by rw [← hV]; rfl
        have f2 : V' 379 = V 379 := by rw [← hV]; rfl
        have hm := mp_set (d := 797) (V := V') (l := l) (i := i) (k := k) hG (by rw [f1]; exact h.lm) hn.1 hn.2 (by rw [f1]; omega)
        unfold setM at hm
        rw [if_neg (not_not_intro a), if_neg (not_not_intro b), f1, if_neg (show ¬ V 376 42 = 60 by omega), f2] at hm
        refine mkpair (hx.trans (by rw [(h.xy a h.set).1])) hm ?_
        rw [← hV]
        dsimp only
        refine ⟨h.nn, h.l5, h.l12, h.l35, h.lm, h.lim, h.cc, h.ss, h.rC, h.rS, h.lan, plcP_up hn.2 h.set a b, h.stk, h.off, h.own, h.cre, h.lig, tldP_tr hn.2 h.tld (fun c hc => by repeat rw [vA_ne (by omega)]) rfl, h.stp, h.spl, sgnP_tr hn.2 h.sgn (fun c hc => by repeat rw [vA_ne (by omega)]) rfl rfl, h.wrk, h.tap, ?_, ?_, runP_tr h.rns (fun c hc => ⟨by repeat rw [vA_ne (by omega)], by repeat rw [vA_ne (by omega)], by repeat rw [vA_ne (by omega)]⟩) ⟨rfl, rfl, rfl⟩ rfl, h.prb⟩
        · show V 376 42 + 1 = V 212 0 + 1 ∧ 0 ≤ V 212 0 + 1 ∧ V 212 0 + 1 ≤ 60
          omega
        · refine ⟨h.fnd.1, ⟨h.fnd.2.1.1, ?_⟩, h.fnd.2.2⟩
          show V 212 1 ≤ V 212 0 + 1
          have := h.fnd.2.1.2
          omega
    · rw [if_pos b] at hx
      unfold setM at hm0
      rw [if_neg (not_not_intro a), if_pos b] at hm0
      exact mkpair hx hm0 h
  · rw [if_pos a] at hx
    unfold setM at hm0
    rw [if_pos a] at hm0
    exact mkpair hx hm0 h
theorem pr_dies {l i k : Int} (hG : Good n L G) (h : Inv n V) : pair n G V 1004 1107 [xR 1, xI l, xI i, xI k, xU, xU] [xR 376, xI l, xI i, xI k, xU] := by
  have hn := h.nn
  have hx := xp_dies (d := 798) (l := l) (i := i) (k := k) hG h.l5 hn.1 hn.2
  have hm0 := mp_dies (d := 797) (V := V) (l := l) (i := i) (k := k) hG h.lm hn.1 hn.2
  unfold diesXa at hx
  by_cases a : isC n l i
  · rw [if_neg (not_not_intro a)] at hx
    by_cases b : 0 ≤ k ∧ k ≤ 95
    · rw [if_neg (not_not_intro b)] at hx
      have hm := mp_dies (d := 797) (V := vA V 8 (vU (V 8) (xi l i) k)) (l := l) (i := i) (k := k) hG h.lm hn.1 hn.2
      unfold diesM at hm
      rw [if_neg (not_not_intro a), if_neg (not_not_intro b)] at hm
      obtain ⟨e1, e2, e3⟩ := h.xy a h.stk
      have e4 : (if V 8 (xi l i) = -1 then (1 : Int) else 0) = if 0 ≤ V 380 (6 * l + i) then 0 else 1 := by
        rw [e1]
        by_cases f : V 380 (6 * l + i) = -1
        · rw [if_pos f, if_neg (by omega)]
        · rw [if_neg f, if_pos (by omega)]
      refine mkpair (hx.trans (by rw [e4]; rfl)) hm ?_
      dsimp only
      exact ⟨h.nn, h.l5, h.l12, h.l35, h.lm, h.lim, h.cc, h.ss, h.rC, h.rS, h.lan, h.set, plcP_up hn.2 h.stk a (by omega), h.off, h.own, h.cre, h.lig, tldP_tr hn.2 h.tld (fun c hc => by repeat rw [vA_ne (by omega)]) rfl, h.stp, h.spl, sgnP_tr hn.2 h.sgn (fun c hc => by repeat rw [vA_ne (by omega)]) rfl rfl, h.wrk, h.tap, h.ent, h.fnd, runP_tr h.rns (fun c hc => ⟨by repeat rw [vA_ne (by omega)], by repeat rw [vA_ne (by omega)], by repeat rw [vA_ne (by omega)]⟩) ⟨rfl, rfl, rfl⟩ rfl, h.prb⟩
    · rw [if_pos b] at hx
      unfold diesM at hm0
      rw [if_neg (not_not_intro a), if_pos b] at hm0
      exact mkpair hx hm0 h
  · rw [if_pos a] at hx
    unfold diesM at hm0
    rw [if_pos a] at hm0
    exact mkpair hx hm0 h
theorem pr_mend {l i : Int} (hG : Good n L G) (h : Inv n V) : pair n G V 1005 1108 [xR 1, xI l, xI i, xU, xU] [xR 376, xI l, xI i, xU] := by
  have hn := h.nn
  have hx := xp_mend (d := 798) (l := l) (i := i) hG h.l5 hn.1 hn.2
  have hm0 := mp_mend (d := 797) (V := V) (l := l) (i := i) hG h.lm hn.1 hn.2
  unfold mendXa at hx
  by_cases a : isC n l i
  · rw [if_neg (not_not_intro a)] at hx
    obtain ⟨e1, e2, e3⟩ := h.xy a h.stk
    by_cases b : V 8 (xi l i) = -1
    · rw [if_pos b] at hx
      unfold mendM at hm0
      rw [if_neg (not_not_intro a), if_pos (by omega)] at hm0
      exact mkpair hx hm0 h
    · rw [if_neg b] at hx
      generalize hV : vA V 8 (vU (V 8) (xi l i) (-1)) = V' at hx
      have f1 : V' 376 = V 376 := by rw [← hV]; rfl
      have f2 : V' 380 = V 380 := by rw [← hV]; rfl
      have hm := mp_mend (d := 797) (V := V') (l := l) (i := i) hG (by rw [f1]; exact h.lm) hn.1 hn.2
      unfold mendM at hm
      rw [if_neg (not_not_intro a), f2, if_neg (show ¬ V 380 (6 * l + i) < 0 by omega)] at hm
      refine mkpair (hx.trans (by rw [e1])) hm ?_
      rw [← hV]
      dsimp only
      exact ⟨h.nn, h.l5, h.l12, h.l35, h.lm, h.lim, h.cc, h.ss, h.rC, h.rS, h.lan, h.set, plcP_up hn.2 h.stk a (by omega), h.off, h.own, h.cre, h.lig, tldP_tr hn.2 h.tld (fun c hc => by repeat rw [vA_ne (by omega)]) rfl, h.stp, h.spl, sgnP_tr hn.2 h.sgn (fun c hc => by repeat rw [vA_ne (by omega)]) rfl rfl, h.wrk, h.tap, h.ent, h.fnd, runP_tr h.rns (fun c hc => ⟨by repeat rw [vA_ne (by omega)], by repeat rw [vA_ne (by omega)], by repeat rw [vA_ne (by omega)]⟩) ⟨rfl, rfl, rfl⟩ rfl, h.prb⟩
  · rw [if_pos a] at hx
    unfold mendM at hm0
    rw [if_pos a] at hm0
    exact mkpair hx hm0 h
theorem Inv.now (h : Inv n V) : Inv n (nowM V) := by
  have hn := h.nn
  unfold nowM
  exact ⟨h.nn, h.l5, h.l12, h.l35, h.lm, h.lim, h.cc, h.ss, h.rC, h.rS, h.lan, h.set, h.stk, h.off, h.own, h.cre, h.lig, tldP_tr hn.2 h.tld (fun c hc => by repeat rw [vA_ne (by omega)]) rfl, h.stp, h.spl, sgnP_tr hn.2 h.sgn (fun c hc => by repeat rw [vA_ne (by omega)]) rfl rfl, h.wrk, h.tap, h.ent, h.fnd, runP_tr h.rns (fun c hc => ⟨by repeat rw [vA_ne (by omega)], by repeat rw [vA_ne (by omega)], by repeat rw [vA_ne (by omega)]⟩) ⟨rfl, rfl, rfl⟩ rfl, h.prb⟩
theorem Inv.li {f : Int → Int} (h : Inv n V) (hf : ∀ j, (n : Int) ≤ j → j < 6 → f j = 0) : Inv n (vA V 385 f) := by
  have hn := h.nn
  exact ⟨h.nn, h.l5, h.l12, h.l35, h.lm, h.lim, h.cc, h.ss, h.rC, h.rS, h.lan, h.set, h.stk, h.off, h.own, h.cre, hf, tldP_tr hn.2 h.tld (fun c hc => by repeat rw [vA_ne (by omega)]) rfl, h.stp, h.spl, sgnP_tr hn.2 h.sgn (fun c hc => by repeat rw [vA_ne (by omega)]) rfl rfl, h.wrk, h.tap, h.ent, h.fnd, runP_tr h.rns (fun c hc => ⟨by repeat rw [vA_ne (by omega)], by repeat rw [vA_ne (by omega)], by repeat rw [vA_ne (by omega)]⟩) ⟨rfl, rfl, rfl⟩ rfl, h.prb⟩
theorem pr_cell {l i w : Int} (hG : Good n L G) (h : Inv n V) : pair n G V 1006 1109 [xR 1, xI l, xI i, xI w, xU] [xR 376, xI l, xI i, xI w, xU] := by
  have hn := h.nn
  have hx := xp_cell (d := 795) (l := l) (i := i) (w := w) hG h.l5 hn.1 hn.2 (plcP_rg h.stk) (plcP_rg h.set) (rg_wide (plcP_rg h.off) (by omega) (by omega)) h.cre.2
  have hm := mp_cell (d := 795) (V := V) (l := l) (i := i) (w := w) hG h.lm hn.1 hn.2 h.stk.2.2 h.set.2.2 h.off.2.2 (by rw [h.cre.1]; exact h.cre.2)
  have e : cellM n V l i w = cellXa n V l i w := by
    unfold cellM cellXa
    by_cases a : isC n l i
    · have g1 := plcP_cong (M' := nowM V 383) h.set (fun k a b => now_by a b)
      have g2 := plcP_cong (M' := nowM V 384) h.off (fun k a b => now_of a b)
      have e1 : hM n (V 380) (nowM V 383) l i = htX (kX (V 8) (V 7) (xi l i)) := by
        unfold hM
        rw [if_pos a, ht_eq, ← ix_xi (by omega) a, tO_kX (xi_in (by omega) a) h.stk.1 g1.1 h.stk.2.2]
      rw [(h.xy a h.set).1, (h.xy a h.stk).1, (h.xy a h.own).1, e1, tt_eq (by omega) a h.stk.1 g1.1 g2.1 h.stk.2.2 h.stk.2.1 g1.2.1, h.cre.1]
    · rw [if_pos a, if_pos a]
  rw [e] at hm
  refine mkpair hx hm ?_
  split
  · exact h.now
  · exact h
theorem Inv.col {c : Int} (h : Inv n V) : Inv n (colV V c) := by
  have hn := h.nn
  unfold colV
  exact ⟨h.nn, h.l5, h.l12, h.l35, h.lm, h.lim, h.cc, h.ss, h.rC, h.rS, h.lan, h.set, h.stk, h.off, h.own, h.cre, h.lig, tldP_tr hn.2 h.tld (fun c hc => by repeat rw [vA_ne (by omega)]) rfl, h.stp, h.spl, sgnP_tr hn.2 h.sgn (fun c hc => by repeat rw [vA_ne (by omega)]) rfl rfl, h.wrk, h.tap, h.ent, h.fnd, runP_tr h.rns (fun c hc => ⟨by repeat rw [vA_ne (by omega)], by repeat rw [vA_ne (by omega)], by repeat rw [vA_ne (by omega)]⟩) ⟨rfl, rfl, rfl⟩ rfl, h.prb⟩
theorem lyr_z {C S : Int → Int} {t : Int → Int → Int} {N l j : Int} (hj : N ≤ j) : ∀ (m : Nat) (i : Int) (f : Int → Int), lyr C S t N l m i f j = f j
  | 0, _, _ => rfl
  | m + 1, i, f => by
    unfold lyr
    by_cases h : i < N - 1
    · rw [if_pos h, lyr_z hj m (i + 2)]
      unfold turnL
      rw [if_neg (by omega), if_neg (by omega)]
    · rw [if_neg h]
theorem plt_z {C S : Int → Int} {t : Int → Int → Int} {N j : Int} (hj : N ≤ j) : ∀ (m : Nat) (l : Int) (f : Int → Int), plt C S t N m l f j = f j
  | 0, _, _ => rfl
  | m + 1, l, f => by
    unfold plt
    rw [plt_z hj m (l + 1), lyr_z hj]
theorem Inv.ent' {c : Int} (h : Inv n V) : Inv n (entM n V c) := h.li (fun j a b => by rw [if_neg (by omega)]; exact h.lig j a b)
theorem Inv.go {b : Int} (h : Inv n V) : Inv n (goM n V b) := h.li (fun j a c => by rw [plt_z a]; exact h.lig j a c)
theorem pr_table {r c : Int} (hG : Good n L G) (h : Inv n V) : pair n G V 1007 1114 [xR 1, xI r, xI c] [xR 376, xI r, xI c] := by
  have hx := xp_table (d := 795) (r := r) (c := c) hG h.xb
  by_cases a : (0 ≤ r ∧ r < (n : Int)) ∧ (0 ≤ c ∧ c < (n : Int))
  · rw [if_pos a, if_pos a] at hx
    have h' := h.col (c := c)
    have hm := mp_table (d := 794) (V := colV V c) (r := r) (c := c) hG h'.mb
    rw [if_pos a, if_pos a] at hm
    have e : tabM n (colV V c) c 385 r = colX V c r := (tab_eq (W := colV V c) (V := V) (by have := h.pl; exact this) a.2 r a.1.1 a.1.2).symm
    rw [e] at hm
    refine mkpair hx hm ?_
    unfold tabM
    exact h'.now.ent'.go
  · rw [if_neg a, if_neg a] at hx
    have hm := mp_table (d := 794) (V := V) (r := r) (c := c) hG h.mb
    rw [if_neg a, if_neg a] at hm
    exact mkpair hx hm h
/-- only the told table is another -/
theorem Inv.fr16 {V' : Nat → Int → Int} (h : Inv n V) (h6 : n ≤ 6) (fr : ∀ b, ¬ (16 ≤ b ∧ b < 22) → b ≠ 386 → V' b = V b) (ft : tldP n V') : Inv n V' := by
  obtain ⟨f, hV⟩ : ∃ f : Nat → Int → Int, V' = fun b => if 16 ≤ b ∧ b < 22 then f b else if b = 386 then f b else V b := by
    refine ⟨V', funext fun b => ?_⟩
    by_cases h1 : 16 ≤ b ∧ b < 22
    · rw [if_pos h1]
    · rw [if_neg h1]
      by_cases h2 : b = 386
      · rw [if_pos h2]
      · rw [if_neg h2]; exact fr b h1 h2
  subst hV
  exact ⟨h.nn, h.l5, h.l12, h.l35, h.lm, h.lim, h.cc, h.ss, h.rC, h.rS, h.lan, h.set, h.stk, h.off, h.own, h.cre, h.lig, ft, h.stp, h.spl, sgnP_tr h6 h.sgn (fun c hc => fr _ (by omega) (by omega)) rfl rfl, h.wrk, h.tap, h.ent, h.fnd, runP_tr h.rns (fun c hc => ⟨fr _ (by omega) (by omega), fr _ (by omega) (by omega), fr _ (by omega) (by omega)⟩) ⟨rfl, rfl, rfl⟩ rfl, h.prb⟩
theorem pr_entry {r c v : Int} (hG : Good n L G) (h : Inv n V) : pair n G V 1009 1119 [xR 1, xI r, xI c, xI v, xU] [xR 376, xI r, xI c, xI v, xU] := by
  have hn := h.nn
  have hx := xp_entry (d := 798) (r := r) (c := c) (v := v) hG h.l5 hn.2
  have hm0 := mp_entry (d := 798) (V := V) (r := r) (c := c) (v := v) hG h.lm hn.2
  unfold entryXa at hx
  by_cases a : (0 ≤ r ∧ r < (n : Int)) ∧ (0 ≤ c ∧ c < (n : Int))
  · rw [if_neg (not_not_intro a)] at hx
    by_cases b : 0 ≤ v ∧ v ≤ 96
    · rw [if_neg (not_not_intro b)] at hx
      obtain ⟨cN, rfl⟩ : ∃ k : Nat, c = k := ⟨c.toNat, by omega⟩
      rw [Int.toNat_natCast] at hx
      have f1 : vA V (16 + cN) (vU (V (16 + cN)) r v) 376 = V 376 := vA_ne (by omega)
      have f2 : vA V (16 + cN) (vU (V (16 + cN)) r v) 386 = V 386 := vA_ne (by omega)
      have hm := mp_entry (d := 798) (V := vA V (16 + cN) (vU (V (16 + cN)) r v)) (r := r) (c := cN) (v := v) hG (by rw [f1]; exact h.lm) hn.2
      unfold entryM at hm
      rw [if_neg (not_not_intro a), if_neg (not_not_intro b), f2] at hm
      have e := (h.tld r cN a.1.1 a.1.2 a.2.1 a.2.2).1
      rw [Int.toNat_natCast] at e
      refine mkpair (hx.trans (by rw [e])) hm ?_
      have fr : ∀ b, ¬ (16 ≤ b ∧ b < 22) → b ≠ 386 → vA (vA V (16 + cN) (vU (V (16 + cN)) r v)) 386 (vU (V 386) (6 * r + cN) v) b = V b := fun b h1 h2 => by rw [vA_ne h2, vA_ne (by omega)]
      have ft : tldP n (vA (vA V (16 + cN) (vU (V (16 + cN)) r v)) 386 (vU (V 386) (6 * r + cN) v)) := by
        intro r' c' q1 q2 q3 q4
        rw [vA_same, vA_ne (show 16 + c'.toNat ≠ 386 by omega)]
        have h3 := h.tld r' c' q1 q2 q3 q4
        by_cases e1 : c' = cN
        · subst e1
          rw [Int.toNat_natCast, vA_same]
          by_cases e2 : r' = r
          · subst e2
            rw [vU_at, vU_at]; omega
          · rw [vU_ne e2, vU_ne (by omega)]
            rw [Int.toNat_natCast] at h3
            exact h3
        · rw [vA_ne (by omega), vU_ne (by omega)]
          exact h3
      dsimp only
      exact h.fr16 hn.2 fr ft
    · rw [if_pos b] at hx
      unfold entryM at hm0
      rw [if_neg (not_not_intro a), if_pos b] at hm0
      exact mkpair hx hm0 h
  · rw [if_pos a] at hx
    unfold entryM at hm0
    rw [if_pos a] at hm0
    exact mkpair hx hm0 h
end PA
