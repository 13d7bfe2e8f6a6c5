/-! PAIRS: the other plain methods -/
section PB
variable {n L : Nat} {G : XG} {V : Nat → Int → Int}
theorem pr_step {i w : Int} (hG : Good n L G) (h : Inv n V) : pair n G V 1013 1124 [xR 1, xI i, xI w] [xR 376, xI i, xI w] := by
  have hn := h.nn
  have hs := h.stp
  have hp := h.spl
  have hx := xp_step (d := 798) (i := i) (w := w) hG h.l5 hn.2 hs.2.1.2
  have hm := mp_step (d := 798) (V := V) (i := i) (w := w) hG h.lm hn.2 (by rw [hs.1]; exact hs.2.1)
  have e : stepM n V i w = stepXa n V i w := by
    unfold stepM stepXa
    rw [hs.1]
    obtain ⟨p1, p2, p3, p4, p5⟩ := hp
    by_cases a : V 376 17 = 0
    · rw [if_pos (Or.inl a)]
      have e1 : ¬ (0 ≤ i ∧ i < V 12 6) := by have := p5 a; omega
      have e2 : ¬ (¬ V 12 7 = 0 ∧ (0 ≤ i ∧ i < (n : Int))) := by
        intro z
        have := p4.mp (by omega)
        omega
      rw [if_neg e1, if_neg e1, if_neg e2]
      simp
    · by_cases b : 0 ≤ w ∧ w ≤ 2
      · rw [if_neg (fun z => z.elim a (fun y => y b))]
        by_cases c : w = 2
        · subst c
          rw [if_pos rfl, if_neg (show ¬ (2 : Int) = 0 by omega), if_neg (show ¬ (2 : Int) = 1 by omega), if_pos rfl]
          by_cases e1 : ¬ V 12 7 = 0 ∧ (0 ≤ i ∧ i < (n : Int))
          · have e2 := p4.mp (by omega)
            rw [if_pos e1, if_pos ⟨e2.2, e1.2⟩]
            exact (h.sgn (by omega) i e1.2.1 e1.2.2).symm
          · rw [if_neg e1, if_neg]
            intro z
            have := p4.mpr ⟨by omega, z.1⟩
            exact e1 ⟨by omega, z.2⟩
        · rw [if_neg c]
          by_cases e1 : 0 ≤ i ∧ i < V 12 6
          · obtain ⟨g1, g2, g3, g4⟩ := hs.2.2 i e1.1 e1.2
            rw [if_neg (show ¬ ¬ (0 ≤ i ∧ i ≤ V 12 6 - 1) from not_not_intro (by omega)), if_pos e1, if_pos e1, g1, g2]
            by_cases e2 : w = 0
            · rw [if_pos e2, if_pos e2]
            · rw [if_neg e2, if_neg e2, if_pos (by omega)]
          · rw [if_pos (show ¬ (0 ≤ i ∧ i ≤ V 12 6 - 1) by omega), if_neg e1, if_neg e1, if_neg c]
            simp
      · rw [if_pos (Or.inr b), if_neg (show ¬ w = 0 by omega), if_neg (show ¬ w = 1 by omega), if_neg (show ¬ w = 2 by omega)]
  rw [e] at hm
  exact mkpair hx hm h
theorem pr_work {i w : Int} (hG : Good n L G) (h : Inv n V) : pair n G V 1015 1126 [xR 1, xI i, xI w] [xR 376, xI i, xI w] := by
  have hs := h.wrk
  have hx := xp_work (d := 799) (i := i) (w := w) hG hs.2.1
  have hm := mp_work (d := 798) (V := V) (i := i) (w := w) hG (by rw [hs.1]; exact hs.2.1)
  have e : workM V i w = workXa V i w := by
    unfold workM workXa
    rw [hs.1]
    by_cases a : 0 ≤ i ∧ i < V 29 2
    · obtain ⟨g1, g2, g3, g4⟩ := hs.2.2 i a.1 a.2
      rw [if_neg (not_not_intro a), if_neg (show ¬ ¬ (0 ≤ i ∧ i ≤ V 29 2 - 1) from not_not_intro (by omega)), g1, g2]
    · rw [if_pos a, if_pos (show ¬ (0 ≤ i ∧ i ≤ V 29 2 - 1) by omega)]
  rw [e] at hm
  exact mkpair hx hm h
theorem pr_creep {k : Int} (hG : Good n L G) (h : Inv n V) : pair n G V 1019 1144 [xR 1, xI k, xU] [xR 376, xI k, xU] := by
  have hn := h.nn
  have hx := xp_creep (d := 799) (k := k) (V := V) hG
  have hm0 := mp_creep (d := 798) (V := V) (k := k) hG
  unfold creepXa at hx
  by_cases a : 1 ≤ k ∧ k ≤ 99
  · rw [if_neg (not_not_intro a)] at hx
    generalize hV : vA V 5 (vU (V 5) 6 k) = V' at hx
    have f1 : V' 376 = V 376 := by rw [← hV]; rfl
    have hm := mp_creep (d := 798) (V := V') (k := k) hG
    unfold creepM at hm
    rw [if_neg (not_not_intro a), f1] at hm
    refine mkpair (hx.trans (by rw [← h.cre.1])) hm ?_
    rw [← hV]
    dsimp only
    exact ⟨h.nn, h.l5, h.l12, h.l35, h.lm, h.lim, h.cc, h.ss, h.rC, h.rS, h.lan, h.set, h.stk, h.off, h.own, ⟨rfl, a⟩, h.lig, tldP_tr hn.2 h.tld (fun c hc => by repeat rw [vA_ne (by omega)]) rfl, h.stp, h.spl, sgnP_tr hn.2 h.sgn (fun c hc => by repeat rw [vA_ne (by omega)]) rfl rfl, h.wrk, h.tap, h.ent, h.fnd, runP_tr h.rns (fun c hc => ⟨by repeat rw [vA_ne (by omega)], by repeat rw [vA_ne (by omega)], by repeat rw [vA_ne (by omega)]⟩) ⟨rfl, rfl, rfl⟩ rfl, h.prb⟩
  · rw [if_pos a] at hx
    unfold creepM at hm0
    rw [if_pos a] at hm0
    exact mkpair hx hm0 h
theorem pr_offset {l i k : Int} (hG : Good n L G) (h : Inv n V) : pair n G V 1020 1145 [xR 1, xI l, xI i, xI k, xU, xU] [xR 376, xI l, xI i, xI k, xU] := by
  have hn := h.nn
  have hx := xp_offset (d := 798) (l := l) (i := i) (k := k) hG h.l5 hn.1 hn.2
  have hm0 := mp_offset (d := 797) (V := V) (l := l) (i := i) (k := k) hG h.lm hn.1 hn.2
  unfold offsetXa at hx
  by_cases a : isC n l i
  · rw [if_neg (not_not_intro a)] at hx
    by_cases b : -8 ≤ k ∧ k ≤ 8
    · rw [if_neg (not_not_intro b)] at hx
      generalize hV : vA V 9 (vU (V 9) (xi l i) k) = V' at hx
      have f1 : V' 376 = V 376 := by rw [← hV]; rfl
      have f2 : V' 382 = V 382 := by rw [← hV]; rfl
      have hm := mp_offset (d := 797) (V := V') (l := l) (i := i) (k := k) hG (by rw [f1]; exact h.lm) hn.1 hn.2
      unfold offsetM at hm
      rw [if_neg (not_not_intro a), if_neg (not_not_intro b), f2] at hm
      refine mkpair (hx.trans (by rw [(h.xy a h.off).1])) hm ?_
      rw [← hV]
      dsimp only
      exact ⟨h.nn, h.l5, h.l12, h.l35, h.lm, h.lim, h.cc, h.ss, h.rC, h.rS, h.lan, h.set, h.stk, plcP_up hn.2 h.off a b, h.own, h.cre, h.lig, tldP_tr hn.2 h.tld (fun c hc => by repeat rw [vA_ne (by omega)]) rfl, h.stp, h.spl, sgnP_tr hn.2 h.sgn (fun c hc => by repeat rw [vA_ne (by omega)]) rfl rfl, h.wrk, h.tap, h.ent, h.fnd, runP_tr h.rns (fun c hc => ⟨by repeat rw [vA_ne (by omega)], by repeat rw [vA_ne (by omega)], by repeat rw [vA_ne (by omega)]⟩) ⟨rfl, rfl, rfl⟩ rfl, h.prb⟩
    · rw [if_pos b] at hx
      unfold offsetM at hm0
      rw [if_neg (not_not_intro a), if_pos b] at hm0
      exact mkpair hx hm0 h
  · rw [if_pos a] at hx
    unfold offsetM at hm0
    rw [if_pos a] at hm0
    exact mkpair hx hm0 h
theorem pr_out {r l : Int} (hG : Good n L G) (h : Inv n V) : pair n G V 1023 1147 [xR 1, xI r, xI l] [xR 376, xI r, xI l] := by
  have hn := h.nn
  have hr := h.rns
  have hx := xp_out (d := 798) (r := r) (l := l) hG h.l5 hn.2 hr.2.1.2
  have hm := mp_out (d := 798) (V := V) (r := r) (l := l) hG h.lm hn.2 (by rw [hr.1]; exact hr.2.1.2)
  have e : outM n V r l = outXa n V r l := by
    unfold outM outXa
    rw [hr.1]
    by_cases a : (0 ≤ r ∧ r < V 217 3) ∧ (0 ≤ l ∧ l < (n : Int))
    · rw [if_pos a, if_pos a]
      exact ((hr.2.2.1 r a.1.1 a.1.2).1 l a.2.1 a.2.2).1.symm
    · rw [if_neg a, if_neg a]
  rw [e] at hm
  exact mkpair hx hm h
theorem pr_found {l i k t : Int} (hG : Good n L G) (h : Inv n V) : pair n G V 1026 1153 [xR 1, xI l, xI i, xI k, xI t, xU] [xR 376, xI l, xI i, xI k, xI t] := by
  have hn := h.nn
  have he := h.ent
  have hr := h.rns
  obtain ⟨hf1, hf2, hf3⟩ := h.fnd
  have hx := xp_found (d := 798) (l := l) (i := i) (k := k) (t := t) hG h.l5 hn.1 hn.2 he.2 hf2
  have hm0 := mp_found (d := 797) (V := V) (l := l) (i := i) (k := k) (t := t) hG h.lm hn.1 hn.2 (by omega) (by rw [hf1]; omega) (by rw [hr.1]; exact hr.2.1)
  unfold foundXa at hx
  by_cases a : isC n l i
  · rw [if_neg (not_not_intro a)] at hx
    by_cases b : (-8 ≤ k ∧ k ≤ 8) ∧ (0 ≤ t ∧ t ≤ V 217 3)
    · rw [if_neg (not_not_intro b)] at hx
      have b' : (-8 ≤ k ∧ k ≤ 8) ∧ (0 ≤ t ∧ t ≤ V 376 41) := by rw [hr.1]; exact b
      by_cases f : 60 ≤ V 212 0
      · rw [if_pos f] at hx
        unfold foundM at hm0
        rw [if_neg (not_not_intro a), if_neg (not_not_intro b'), if_pos (by omega)] at hm0
        exact mkpair hx hm0 h
      · rw [if_neg f] at hx
        generalize hV : vA (vA (vA (vA V 213 (vU (V 213) (V 212 1) (xi l i))) 214 (vU (V 214) (V 212 1) k)) 215 (vU (V 215) (V 212 1) t)) 212 (vU (vU (V 212) 1 (V 212 1 + 1)) 0 (V 212 0 + 1)) = V' at hx
        have f1 : V' 376 = V 376 := by rw [← hV]; rfl
        have f2 : V' 404 = V 404 := by rw [← hV]; rfl
        have f3 : V' 405 = V 405 := by rw [← hV]; rfl
        have f4 : V' 406 = V 406 := by rw [← hV]; rfl
        have hm := mp_found (d := 797) (V := V') (l := l) (i := i) (k := k) (t := t) hG (by rw [f1]; exact h.lm) hn.1 hn.2 (by rw [f1]; omega) (by rw [f1, hf1]; omega) (by rw [f1, hr.1]; exact hr.2.1)
        unfold foundM at hm
        rw [f1, f2, f3, f4, if_neg (not_not_intro a), if_neg (not_not_intro b'), if_neg (show ¬ V 376 42 = 60 by omega)] at hm
        refine mkpair (hx.trans (by rw [← he.1])) hm ?_
        rw [← hV]
        dsimp only
        refine ⟨h.nn, h.l5, h.l12, h.l35, h.lm, h.lim, h.cc, h.ss, h.rC, h.rS, h.lan, h.set, h.stk, h.off, h.own, h.cre, h.lig, tldP_tr hn.2 h.tld (fun c hc => by repeat rw [vA_ne (by omega)]) rfl, h.stp, h.spl, sgnP_tr hn.2 h.sgn (fun c hc => by repeat rw [vA_ne (by omega)]) rfl rfl, h.wrk, h.tap, ?_, ?_, runP_tr h.rns (fun c hc => ⟨by repeat rw [vA_ne (by omega)], by repeat rw [vA_ne (by omega)], by repeat rw [vA_ne (by omega)]⟩) ⟨rfl, rfl, rfl⟩ rfl, h.prb⟩
        · show V 376 42 + 1 = V 212 0 + 1 ∧ 0 ≤ V 212 0 + 1 ∧ V 212 0 + 1 ≤ 60
          omega
        · show V 376 43 + 1 = V 212 1 + 1 ∧ (0 ≤ V 212 1 + 1 ∧ V 212 1 + 1 ≤ V 212 0 + 1) ∧ _
          refine ⟨by rw [hf1], by omega, fun e e0 e1 => ?_⟩
          have e1' : e < V 212 1 + 1 := e1
          show (0 ≤ vU (V 213) (V 212 1) (xi l i) e ∧ vU (V 213) (V 212 1) (xi l i) e < 36) ∧ lnF n (vU (V 213) (V 212 1) (xi l i) e) ≠ -1 ∧ vU (V 404) (V 376 43) (6 * l + i) e = ix (vU (V 213) (V 212 1) (xi l i) e) ∧ vU (V 405) (V 376 43) k e = vU (V 214) (V 212 1) k e ∧ (-8 ≤ vU (V 214) (V 212 1) k e ∧ vU (V 214) (V 212 1) k e ≤ 8) ∧ vU (V 406) (V 376 43) t e = vU (V 215) (V 212 1) t e ∧ 0 ≤ vU (V 215) (V 212 1) t e
          rw [hf1]
          by_cases g : e = V 212 1
          · rw [g]
            simp only [vU_at]
            refine ⟨xi_in (by omega) a, ?_, (ix_xi (by omega) a).symm, trivial, b.1, trivial, b.2.1⟩
            rw [ln_xi a (by omega)]
            unfold isC at a
            omega
          · simp only [vU_ne g]
            exact hf3 e e0 (by omega)
    · rw [if_pos b] at hx
      unfold foundM at hm0
      rw [if_neg (not_not_intro a), if_pos (by rw [hr.1]; exact b)] at hm0
      exact mkpair hx hm0 h
  · rw [if_pos a] at hx
    unfold foundM at hm0
    rw [if_pos a] at hm0
    exact mkpair hx hm0 h
theorem pr_claim {u l i : Int} (hG : Good n L G) (h : Inv n V) : pair n G V 1031 1160 [xR 1, xI u, xI l, xI i, xU, xU] [xR 376, xI u, xI l, xI i, xU] := by
  have hn := h.nn
  have hx := xp_claim (d := 798) (u := u) (l := l) (i := i) hG h.l5 hn.1 hn.2
  have hm0 := mp_claim (d := 797) (V := V) (u := u) (l := l) (i := i) hG h.lm hn.1 hn.2
  unfold claimXa at hx
  by_cases a : isC n l i ∧ (-1 ≤ u ∧ u ≤ 1)
  · rw [if_neg (not_not_intro a)] at hx
    obtain ⟨e1, e2, e3⟩ := h.xy a.1 h.own
    by_cases b : ¬ u = -1 ∧ ¬ V 374 (xi l i) = -1 ∧ ¬ V 374 (xi l i) = u
    · rw [if_pos b] at hx
      unfold claimM at hm0
      rw [if_neg (not_not_intro a), if_pos (by omega)] at hm0
      exact mkpair hx hm0 h
    · rw [if_neg b] at hx
      generalize hV : vA V 374 (vU (V 374) (xi l i) u) = V' at hx
      have f1 : V' 376 = V 376 := by rw [← hV]; rfl
      have f2 : V' 381 = V 381 := by rw [← hV]; rfl
      have hm := mp_claim (d := 797) (V := V') (u := u) (l := l) (i := i) hG (by rw [f1]; exact h.lm) hn.1 hn.2
      unfold claimM at hm
      rw [f2, if_neg (not_not_intro a), if_neg (by omega)] at hm
      refine mkpair (hx.trans (by rw [e1])) hm ?_
      rw [← hV]
      dsimp only
      exact ⟨h.nn, h.l5, h.l12, h.l35, h.lm, h.lim, h.cc, h.ss, h.rC, h.rS, h.lan, h.set, h.stk, h.off, plcP_up hn.2 h.own a.1 a.2, h.cre, h.lig, tldP_tr hn.2 h.tld (fun c hc => by repeat rw [vA_ne (by omega)]) rfl, h.stp, h.spl, sgnP_tr hn.2 h.sgn (fun c hc => by repeat rw [vA_ne (by omega)]) rfl rfl, h.wrk, h.tap, h.ent, h.fnd, runP_tr h.rns (fun c hc => ⟨by repeat rw [vA_ne (by omega)], by repeat rw [vA_ne (by omega)], by repeat rw [vA_ne (by omega)]⟩) ⟨rfl, rfl, rfl⟩ rfl, h.prb⟩
  · rw [if_pos a] at hx
    unfold claimM at hm0
    rw [if_pos a] at hm0
    exact mkpair hx hm0 h
theorem pr_count {w : Int} (hG : Good n L G) (h : Inv n V) : pair n G V 1033 1163 [xR 1, xI w] [xR 376, xI w, xU, xU] := by
  have hx := xp_count (d := 796) (V := V) (w := w) hG
  have hm := mp_count (d := 798) (V := V) (w := w) hG
  have e1 : cn (fun k => decide (0 ≤ V 380 k)) 72 = cntF (fun c => decide (¬ V 8 c = -1)) 36 0 := by
    refine all_cnt (fun c c0 c1 => ?_) (fun l i h0 h1 h2 h3 h4 => ?_) 12 0 (by omega) (by omega)
    · have g1 := h.stk.1 c c0 c1
      have g2 := h.stk.2.2 (ix c) (ix_bd ⟨c0, c1⟩).1 (ix_bd ⟨c0, c1⟩).2
      rw [g1]
      by_cases g : V 380 (ix c) = -1
      · simp [g]
      · simp [g]; omega
    · rw [h.stk.2.1 l i h0 h1 h2 h3 (by unfold isC; omega)]
      rfl
  have e2 : cn (fun l => an (useM V) (6 * l) (6 * l + 6)) 12 = cntF (fun l => anyF (useX V) 3 (3 * l)) 12 0 := by
    refine cntF_cong 12 0 (fun l h0 h1 => ?_)
    unfold an
    rw [show (6 * l + 6 - 6 * l).toNat = 6 by omega]
    refine (lay_cnt h0 (fun c c0 c1 => ?_) (fun i h2 h3 h4 => ?_)).2
    · have c2 : 0 ≤ c ∧ c < 36 := by omega
      have g1 := h.stk.1 c c2.1 c2.2
      have g2 := h.stk.2.2 (ix c) (ix_bd c2).1 (ix_bd c2).2
      have g3 := h.set.1 c c2.1 c2.2
      unfold useX useM
      rw [g1, g3, Bool.or_comm]
      by_cases g : V 380 (ix c) = -1
      · simp [g]
      · have g4 : 0 ≤ V 380 (ix c) := by omega
        simp [g, g4]
    · unfold useM
      rw [h.stk.2.1 l i h0 (by omega) h2 h3 (by unfold isC; omega), h.set.2.1 l i h0 (by omega) h2 h3 (by unfold isC; omega)]
      rfl
  rw [e1, e2, h.lm, h.wrk.1, h.rns.1, h.ent.1, h.tap.1, h.cre.1] at hm
  rw [h.l5] at hx
  exact mkpair hx hm h
end PB
