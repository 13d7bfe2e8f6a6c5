/-! JUMPS, RETURNS, CALLS: what a step that doesn't just go on says -/
section XGo
variable {p : Program} {l : Launch} {ev : Env} {R : Room} {s : State} {m : MethodId} {args : Array Value} {below : List Frame} {meth : Method} {c : Code} {Q : State → Prop} {ad : Nat → Nat} {dC : Nat → ClassId} {dI : Nat → Nat → Nat} {B n0 s0 : Nat} {q : Nat} {r : MR} {pc : Nat} {ls st : List XV} {μ : XM}
theorem xw_go {i : Instr} {len t : Nat} {ls' st' : List XV} {μ' : XM} (C : XC p s m args meth c dC dI q r) (hc : cd q pc = some (i, len)) (hx : xs i ls st μ = some (.inr (.inl (t, ls', st', μ')))) (k : XW p l ev R s m args below meth c Q ad dC dI B n0 s0 t ls' st' μ') : XW p l ev R s m args below meth c Q ad dC dI B n0 s0 pc ls st μ := by
  obtain ⟨idx, hd, hlen, hs⟩ := cd_row C.1 hc
  cases i
  case ifCond cnd t0 =>
    have hl9 : len = 3 := hlen
    subst hl9
    have ht0 := of_decide_eq_true hs
    obtain ⟨x, s1, e1, h⟩ := tI_inv hx
    rcases br_spec h with ⟨hn, h⟩ | ⟨-, h⟩
    · cases h
      subst e1
      exact xw_if (t := t0.toNat) C hd (by omega) (fun _ => k) (fun z => absurd hn z)
    · cases h
  case if_icmp cnd t0 =>
    have hl9 : len = 3 := hlen
    subst hl9
    have ht0 := of_decide_eq_true hs
    obtain ⟨x, y, s1, e1, h⟩ := bI_inv hx
    rcases br_spec h with ⟨hn, h⟩ | ⟨-, h⟩
    · cases h
      subst e1
      exact xw_icmp (t := t0.toNat) C hd (by omega) (fun _ => k) (fun z => absurd hn z)
    · cases h
  case goto t0 =>
    have hl9 : len = 3 := hlen
    subst hl9
    have ht0 := of_decide_eq_true hs
    cases hx
    exact xw_goto (t := t0.toNat) C hd (by omega) k
  case tableswitch d lo hi offs =>
    simp only [side, Bool.and_eq_true, decide_eq_true_eq] at hs
    obtain ⟨x, s1, e1, h⟩ := tI_inv hx
    subst e1
    by_cases hcnd : x < lo ∨ hi < x
    · rw [if_pos hcnd] at h
      cases h
      exact xw_tabO (t := d.toNat) C hd hcnd (by omega) k
    · rw [if_neg hcnd] at h
      cases ho : offs[(x - lo).toNat]? with
      | none => rw [ho] at h; cases h
      | some t0 =>
        rw [ho] at h
        cases h
        have hm : t0 ∈ offs.toList := by
          rw [← Array.getElem?_toList] at ho
          exact List.mem_of_getElem? ho
        have h0 : 0 ≤ t0 := of_decide_eq_true (List.all_eq_true.mp hs.2 t0 hm)
        exact xw_tabI (t := t0.toNat) (off := t0 - (pc : Int)) C hd hcnd (by simp [ho]) (by omega) k
  case lookupswitch d ps =>
    simp only [side, Bool.and_eq_true, decide_eq_true_eq] at hs
    obtain ⟨x, s1, e1, h⟩ := tI_inv hx
    subst e1
    cases h
    have h0 := lkp_pos ps.toList d x hs.1 hs.2.1
    refine xw_look (t := (lkp ps.toList d x).toNat) C hd ?_ ?_ k
    · have h2 := hs.2.2
      simp only [Array.toList_map, ← List.map_drop, List.zip_map, List.all_map]
      exact h2
    · rw [Array.toList_map, lkp_off]
      omega
  all_goals
    first
    | exact (no_some hx).elim
    | (revert hx
       simp only [xs, bI, bL, tI, tL, tA, ldI, ldL, ldA, st1, st2, br]
       repeat' split
       all_goals (intro hx; cases hx))
end XGo
