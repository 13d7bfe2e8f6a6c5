/-! RETURNS, CALLS, and that cells and slots only grow -/
def retOK (b : ByteArray) (ret : Option FieldType) (pc : Nat) (v : Option XV) : Prop :=
  (decode b pc = .ok (.ireturn, 1) ∧ ∃ x, v = some (xI x) ∧ (ret = some .int ∨ (ret = some .boolean ∧ (x = 0 ∨ x = 1)))) ∨ (decode b pc = .ok (.areturn, 1) ∧ (∃ a, v = some (xR a)) ∧ (ret = some (.array .int) ∨ ret = some (.object "LightPlate$Row"))) ∨ (decode b pc = .ok (.return_, 1) ∧ v = none ∧ ret = none)
section XRet
variable {q : Nat} {r : MR} {pc : Nat} {ls st : List XV} {μ : XM}
theorem xs_ret {i : Instr} {len : Nat} {v : Option XV} {μ' : XM} (hm : mT q = some r) (hc : cd q pc = some (i, len)) (hx : xs i ls st μ = some (.inr (.inr (.inl (v, μ'))))) : μ' = μ ∧ st = v.toList ∧ retOK r.1.2.1 r.1.2.2.2 pc v := by
  obtain ⟨idx, hd, hlen, hs⟩ := cd_row hm hc
  cases i
  case ireturn =>
    have hl9 : len = 1 := hlen
    subst hl9
    have hr := of_decide_eq_true hs
    revert hx
    simp only [xs]
    split
    · intro h
      cases h
      exact ⟨rfl, rfl, Or.inl ⟨hd, _, rfl, Or.inl hr⟩⟩
    · intro h; cases h
  case freturn =>
    have hl9 : len = 1 := hlen
    subst hl9
    have hr := of_decide_eq_true hs
    revert hx
    simp only [xs]
    split
    · intro h
      obtain ⟨h1, h⟩ := if_inv h
      cases h
      exact ⟨rfl, rfl, Or.inl ⟨hd, _, rfl, Or.inr ⟨hr, h1⟩⟩⟩
    · intro h; cases h
  case areturn =>
    have hl9 : len = 1 := hlen
    subst hl9
    have hr := of_decide_eq_true hs
    revert hx
    simp only [xs]
    split
    · intro h
      cases h
      exact ⟨rfl, rfl, Or.inr (Or.inl ⟨hd, ⟨_, rfl⟩, hr⟩)⟩
    · intro h; cases h
  case return_ =>
    have hl9 : len = 1 := hlen
    subst hl9
    have hr := of_decide_eq_true hs
    revert hx
    simp only [xs]
    split
    · intro h
      cases h
      exact ⟨rfl, rfl, Or.inr (Or.inr ⟨hd, rfl, hr⟩)⟩
    · intro h; cases h
  all_goals
    first
    | exact (no_some hx).elim
    | (revert hx
       simp only [xs, bI, bL, tI, tL, tA, ldI, ldL, ldA, st1, st2, br]
       repeat' split
       all_goals (intro hx; cases hx))
def zm (z : XR) : XM := match z with
  | .inl w => w.2.2
  | .inr (.inl w) => w.2.2.2
  | .inr (.inr (.inl w)) => w.2
  | .inr (.inr (.inr w)) => w.2.2.2.2
theorem xs_mono {i : Instr} {z : XR} (hx : xs i ls st μ = some z) : μ.2.2.2.1 ≤ (zm z).2.2.2.1 ∧ μ.2.2.2.2.1 ≤ (zm z).2.2.2.2.1 := by
  cases i
  all_goals
    first
    | exact (no_some hx).elim
    | (revert hx
       simp only [xs, bI, bL, tI, tL, tA, ldI, ldL, ldA, st1, st2, br]
       repeat' split
       all_goals (intro hx; first | (cases hx; done) | (cases hx; exact ⟨Nat.le_refl _, Nat.le_refl _⟩) | (cases hx; simp only [zm, gN]; omega)))
theorem ex_mono : ∀ (f : Nat) {d q pc : Nat} {ls st : List XV} {μ : XM} {o : Option XV × XM}, ex f d q pc ls st μ = some o → μ.2.2.2.1 ≤ o.2.2.2.2.1 ∧ μ.2.2.2.2.1 ≤ o.2.2.2.2.2.1 := by
  intro f
  induction f with
  | zero => intro d q pc ls st μ o h; cases h
  | succ f ih =>
    intro d q pc ls st μ o h
    have h : xst (ex f) d q pc ls st μ = some o := h
    unfold xst at h
    cases hc : cd q pc with
    | none => rw [hc] at h; cases h
    | some w =>
      rw [hc] at h
      simp only at h
      cases hx : xs w.1 ls st μ with
      | none => rw [hx] at h; cases h
      | some z =>
        have hm := xs_mono hx
        rw [hx] at h
        rcases z with z | z | z | z
        · have h2 := ih h
          simp only [zm] at hm
          omega
        · have h2 := ih h
          simp only [zm] at hm
          omega
        · cases h
          exact hm
        · simp only at h
          cases d with
          | zero => cases h
          | succ d =>
            simp only at h
            cases hk : ex f d z.1 0 (en z.1 z.2.1) [] z.2.2.2.2 with
            | none => rw [hk] at h; cases h
            | some o1 =>
              rw [hk] at h
              have h2 := ih hk
              have h3 := ih h
              simp only [zm] at hm
              omega
theorem xs_call {i : Instr} {len w : Nat} {as ls' rest : List XV} {μ' : XM} (hm : mT q = some r) (hc : cd q pc = some (i, len)) (hx : xs i ls st μ = some (.inr (.inr (.inr (w, as, ls', rest, μ'))))) :
    ls' = ls ∧ μ' = μ ∧ st = as.reverse ++ rest ∧ rest.length ≤ 4 ∧ (as.flatMap xw).length ≤ mL w ∧ len = 3 ∧ ∃ idx,
      (decode r.1.2.1 pc = .ok (.invokevirtual idx, 3) ∧ side (q / 100) r.1.1 r.1.2.2.2 (.invokevirtual w) idx = true ∧ ∃ a as', as = xR a :: as' ∧ (μ.2.1 a).1 = 10 + w / 100) ∨
      (decode r.1.2.1 pc = .ok (.invokespecial idx, 3) ∧ side (q / 100) r.1.1 r.1.2.2.2 (.invokespecial w) idx = true ∧ ∃ a as', as = xR a :: as') ∨
      (decode r.1.2.1 pc = .ok (.invokestatic idx, 3) ∧ side (q / 100) r.1.1 r.1.2.2.2 (.invokestatic w) idx = true) := by
  obtain ⟨idx, hd, hlen, hs⟩ := cd_row hm hc
  cases i
  case invokevirtual w0 =>
    have hl9 : len = 3 := hlen
    obtain ⟨h0, h⟩ := if_inv hx
    revert h
    split
    · next a as' he =>
      intro h
      obtain ⟨hk, h⟩ := if_inv h
      cases h
      refine ⟨rfl, rfl, ?_, h0.2.1, by rw [← he]; exact h0.2.2, hl9, idx, Or.inl ⟨hl9 ▸ hd, hs, a, as', rfl, hk⟩⟩
      rw [← he, List.reverse_reverse, List.take_append_drop]
    · intro h; cases h
  case invokespecial w0 =>
    have hl9 : len = 3 := hlen
    obtain ⟨h0, h⟩ := if_inv hx
    revert h
    split
    · next a as' he =>
      intro h
      cases h
      refine ⟨rfl, rfl, ?_, h0.2.1, by rw [← he]; exact h0.2.2, hl9, idx, Or.inr (Or.inl ⟨hl9 ▸ hd, hs, a, as', rfl⟩)⟩
      rw [← he, List.reverse_reverse, List.take_append_drop]
    · intro h; cases h
  case invokestatic w0 =>
    have hl9 : len = 3 := hlen
    obtain ⟨h0, h⟩ := if_inv hx
    cases h
    refine ⟨rfl, rfl, ?_, h0.2.1, h0.2.2, hl9, idx, Or.inr (Or.inr ⟨hl9 ▸ hd, hs⟩)⟩
    rw [List.reverse_reverse, List.take_append_drop]
  all_goals
    first
    | exact (no_some hx).elim
    | (revert hx
       simp only [xs, bI, bL, tI, tL, tA, ldI, ldL, ldA, st1, st2, br]
       repeat' split
       all_goals (intro hx; cases hx))
end XRet
