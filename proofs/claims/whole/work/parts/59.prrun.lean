/-! PAIR: run -/
section RP
variable {n L d : Nat} {G : XG} {V : Nat → Int → Int}
theorem pr_run {w : Int} (hG : Good n L G) (h : Inv n V) : pair n G V 1022 1146 [xR 1, xL w, xU] [xR 376, xL w, xU, xU, xU, xU] := by
  have hn := h.nn
  obtain ⟨q1, q2, q3, q4⟩ := h.rns
  have hx := xp_run (d := 798) (w := w) (V := V) hG h.lim q2
  by_cases a : w < 0 ∨ ¬ w < 97 ^ n
  · rw [if_pos a] at hx
    obtain ⟨U, r, hm, hU⟩ := mp_run (d := 794) (w := w) hG h.mb (by rw [q1]; exact q2) (fun _ _ _ => trivial)
    rcases hU with ⟨_, e1, e2⟩ | ⟨u0, _⟩ | ⟨u0, _⟩
    · rw [e1, e2] at hm
      exact mkpair hx hm (h.li (fun j j0 j1 => by rw [fl_out (by omega)]; exact h.lig j j0 j1))
    · exact absurd a (fun z => z.elim (fun y => by omega) (fun y => y u0.2))
    · exact absurd a (fun z => z.elim (fun y => by omega) (fun y => y u0.2))
  · rw [if_neg a] at hx
    have a0 : 0 ≤ w := Classical.byContradiction (fun z => a (Or.inl (by omega)))
    have a1 : w < 97 ^ n := Classical.byContradiction (fun z => a (Or.inr z))
    by_cases b : 40 ≤ V 217 3
    · rw [if_pos b] at hx
      obtain ⟨U, r, hm, hU⟩ := mp_run (d := 794) (w := w) hG h.mb (by rw [q1]; exact q2) (fun _ _ _ => trivial)
      rcases hU with ⟨u0, _⟩ | ⟨_, u1, e1, e2⟩ | ⟨_, u1, _⟩
      · exact absurd u0 a
      · rw [e1, e2] at hm
        exact mkpair hx hm (h.li (fun j j0 j1 => by rw [fl_out (by omega)]; exact h.lig j j0 j1))
      · omega
    · rw [if_neg b] at hx
      obtain ⟨W, w0, w1, w2, w3, w4, t, f, w5, w6, w7⟩ := x_sendR (d := 793) hG h.xb (by omega) a0 q4
      have w0' : run 798 701 0 [xR 217, xL w, xU, xU, xU, xU, xU] [] (V, G) = some (some (xI (V 217 3)), (W, G)) := w0
      rw [w0'] at hx
      simp only [bind_some, tl_some, bx_iret] at hx
      obtain ⟨s, hs⟩ : ∃ s : Nat, V 217 3 = s := ⟨(V 217 3).toNat, by omega⟩
      rw [hs] at hx q1 q2 q3 w2 w1 w3 w4 w7 b
      rw [Int.toNat_natCast] at w1 w3 w4 w7
      have fm : ∀ b, 376 ≤ b → W b = V b := fun b hb => w1 b (by omega) (by omega) (by omega) (by omega) (by omega)
      have hmW : mB n W := by
        unfold mB
        rw [fm 376 (by omega), fm 380 (by omega), fm 379 (by omega), fm 382 (by omega), fm 377 (by omega), fm 378 (by omega), fm 385 (by omega)]
        exact h.mb
      obtain ⟨U, r, hm, hU⟩ := mp_run (d := 794) (V := W) (w := w) hG hmW (by rw [fm 376 (by omega), q1]; exact q2) (fun _ _ _ => trivial)
      rcases hU with ⟨u0, _⟩ | ⟨_, u1, _⟩ | ⟨_, u1, u2, u3, u4, u5, u6, u7, T, u8, t1, t2, t3, t4⟩
      · exact absurd u0 a
      · rw [fm 376 (by omega), q1] at u1
        omega
      · rw [fm 376 (by omega), q1] at u1 u2 u4 u6 u7 u8
        rw [fm 376 (by omega)] at t1
        rw [fm _ (by decide)] at t2
        rw [fm 401 (by decide)] at u6
        rw [fm 403 (by decide), fm 379 (by decide)] at u7
        rw [fm 402 (by decide), fm 377 (by decide), fm 378 (by decide), fm 385 (by decide), h.cc, h.ss] at u8
        rw [u2] at hm
        refine mkpair hx hm ?_
        have fr : ∀ b, b ≠ 217 → b ≠ 341 → b ≠ 219 + s → b ≠ 260 + s → b ≠ 301 + s → b ≠ 376 → b ≠ 385 → b ≠ 383 → b ≠ 384 → b ≠ 401 → b ≠ 402 → b ≠ 403 → U b = V b := fun b b1 b2 b3 b4 b5 b6 b7 b8 b9 b10 b11 b12 => (u3 b b6 b7 b8 b9 b10 b11 b12).trans (w1 b b1 b2 b3 b4 b5)
        have g217 : U 217 = vU (V 217) 3 (s + 1) := (u3 217 (by decide) (by decide) (by decide) (by decide) (by decide) (by decide) (by decide)).trans w2
        have gx : ∀ b, b < 376 → U b = W b := fun b hb => u3 b (by omega) (by omega) (by omega) (by omega) (by omega) (by omega) (by omega)
        have hby : plcP n (V 7) (T 383) 0 0 95 := by
          rw [t3]
          refine plcP_cong h.set (fun k k0 k1 => ?_)
          rw [now_by k0 k1, fm _ (by decide)]
        have hof : plcP n (V 9) (T 384) 0 (-8) 8 := by
          rw [t4]
          refine plcP_cong h.off (fun k k0 k1 => ?_)
          rw [now_of k0 k1, fm _ (by decide)]
        have hgo := go_eq (C := V 3) (S := V 4) (g := fl (V 385) (dig w) 0 n) (f := f) (t := t) hn h.lan (by rw [t2]; exact h.stk) hby hof.1 (t1.trans h.cre.1) w5 (fun l l0 l1 => by rw [w6 l l0 l1, fl_in l0 l1])
        have frns : runP n U := by
          refine ⟨?_, ?_, fun r r0 r1 => ?_, fun r hr l l0 l1 => ?_⟩
          · rw [u4, g217]; rfl
          · rw [g217]
            show 0 ≤ (s : Int) + 1 ∧ (s : Int) + 1 ≤ 40
            omega
          · rw [g217] at r1
            have r2 : r < (s : Int) + 1 := r1
            by_cases e : r = s
            · subst e
              unfold runP1
              rw [Int.toNat_natCast, gx (219 + s) (by omega), gx (260 + s) (by omega), gx (301 + s) (by omega), u6, u7, u8]
              refine ⟨fun l l0 l1 => ?_, fun l l0 l1 => ?_, fun c c0 c1 => ?_, fun a b g1 g2 g3 g4 g5 => ?_, fun k k0 k1 => ?_⟩
              · rw [fl_in (by omega) (by omega), fl_in (by omega) (by omega), show 6 * (s : Int) + l - 6 * s = l by omega, w3 l l0 (by omega), if_pos l1, w7]
                exact ⟨hgo l l0 l1, rfl, dig_bd a0⟩
              · rw [w3 l (by omega) l1, if_neg (by omega)]
              · have := ix_bd ⟨c0, c1⟩
                dsimp only
                rw [fl_in (by omega) (by omega), show 72 * (s : Int) + ix c - 72 * s = ix c by omega, w4 c c0 c1]
                exact h.set.1 c c0 c1
              · dsimp only
                rw [fl_in (by omega) (by omega), show 72 * (s : Int) + (6 * a + b) - 72 * s = 6 * a + b by omega]
                exact h.set.2.1 a b g1 g2 g3 g4 g5
              · have := h.set.2.2 k k0 k1
                show 0 ≤ fl (V 403) (fun j => V 379 (j - 72 * s)) (72 * s) (72 * s + 72) (72 * s + k) ∧ fl (V 403) (fun j => V 379 (j - 72 * s)) (72 * s) (72 * s + 72) (72 * s + k) ≤ 95
                rw [fl_in (by omega) (by omega), show 72 * (s : Int) + k - 72 * s = k by omega]
                exact this
            · obtain ⟨p1, p2, p3, p4, p5⟩ := q3 r r0 (by omega)
              have f1 : U (219 + r.toNat) = V (219 + r.toNat) := fr _ (by omega) (by omega) (by omega) (by omega) (by omega) (by omega) (by omega) (by omega) (by omega) (by omega) (by omega) (by omega)
              have f2 : U (260 + r.toNat) = V (260 + r.toNat) := fr _ (by omega) (by omega) (by omega) (by omega) (by omega) (by omega) (by omega) (by omega) (by omega) (by omega) (by omega) (by omega)
              have f3 : U (301 + r.toNat) = V (301 + r.toNat) := fr _ (by omega) (by omega) (by omega) (by omega) (by omega) (by omega) (by omega) (by omega) (by omega) (by omega) (by omega) (by omega)
              unfold runP1
              rw [f1, f2, f3, u6, u7, u8]
              refine ⟨fun l l0 l1 => ?_, p2, fun c c0 c1 => ?_, fun a b g1 g2 g3 g4 g5 => ?_, fun k k0 k1 => ?_⟩
              · rw [fl_out (by omega), fl_out (by omega)]
                exact p1 l l0 l1
              · have := ix_bd ⟨c0, c1⟩
                dsimp only
                rw [fl_out (by omega)]
                exact p3 c c0 c1
              · dsimp only
                rw [fl_out (by omega)]
                exact p4 a b g1 g2 g3 g4 g5
              · show 0 ≤ fl (V 403) (fun j => V 379 (j - 72 * s)) (72 * s) (72 * s + 72) (72 * r + k) ∧ fl (V 403) (fun j => V 379 (j - 72 * s)) (72 * s) (72 * s + 72) (72 * r + k) ≤ 95
                rw [fl_out (by omega)]
                exact p5 k k0 k1
          · by_cases e : r = s
            · rw [e, gx _ (by omega), w3 l (by omega) l1, if_neg (by omega)]
            · rw [fr _ (by omega) (by omega) (by omega) (by omega) (by omega) (by omega) (by omega) (by omega) (by omega) (by omega) (by omega) (by omega)]
              exact q4 r hr l l0 l1
        have ftld : tldP n U := tldP_tr hn.2 h.tld (fun c hc => fr _ (by omega) (by omega) (by omega) (by omega) (by omega) (by omega) (by omega) (by omega) (by omega) (by omega) (by omega) (by omega)) (fr _ (by omega) (by omega) (by omega) (by omega) (by omega) (by omega) (by omega) (by omega) (by omega) (by omega) (by omega) (by omega))
        have fsgn : sgnP n U := sgnP_tr hn.2 h.sgn (fun c hc => fr _ (by omega) (by omega) (by omega) (by omega) (by omega) (by omega) (by omega) (by omega) (by omega) (by omega) (by omega) (by omega)) (fr _ (by omega) (by omega) (by omega) (by omega) (by omega) (by omega) (by omega) (by omega) (by omega) (by omega) (by omega) (by omega)) (fr _ (by omega) (by omega) (by omega) (by omega) (by omega) (by omega) (by omega) (by omega) (by omega) (by omega) (by omega) (by omega))
        obtain ⟨g, hV⟩ : ∃ g : Nat → Int → Int, U = fun b => if b = 217 then vU (V 217) 3 (s + 1) else if b = 341 then g b else if 219 ≤ b ∧ b < 341 then g b else if b = 376 then vU (V 376) 41 (s + 1) else if b = 385 then g b else if b = 383 then g b else if b = 384 then g b else if b = 401 then g b else if b = 402 then g b else if b = 403 then g b else V b := by
          refine ⟨U, ?_⟩
          funext b
          by_cases c1 : b = 217
          · rw [if_pos c1, c1]; exact g217
          rw [if_neg c1]
          by_cases c2 : b = 341
          · rw [if_pos c2]
          rw [if_neg c2]
          by_cases c3 : 219 ≤ b ∧ b < 341
          · rw [if_pos c3]
          rw [if_neg c3]
          by_cases c4 : b = 376
          · rw [if_pos c4, c4, u4]
          rw [if_neg c4]
          by_cases c5 : b = 385
          · rw [if_pos c5]
          rw [if_neg c5]
          by_cases c6 : b = 383
          · rw [if_pos c6]
          rw [if_neg c6]
          by_cases c7 : b = 384
          · rw [if_pos c7]
          rw [if_neg c7]
          by_cases c8 : b = 401
          · rw [if_pos c8]
          rw [if_neg c8]
          by_cases c9 : b = 402
          · rw [if_pos c9]
          rw [if_neg c9]
          by_cases c10 : b = 403
          · rw [if_pos c10]
          rw [if_neg c10]
          exact fr b c1 c2 (by omega) (by omega) (by omega) c4 c5 c6 c7 c8 c9 c10
        subst hV
        exact ⟨h.nn, h.l5, h.l12, h.l35, h.lm, h.lim, h.cc, h.ss, h.rC, h.rS, h.lan, h.set, h.stk, h.off, h.own, h.cre, u5, ftld, h.stp, h.spl, fsgn, h.wrk, h.tap, h.ent, h.fnd, frns, h.prb⟩
end RP
