/-! RUNS of the plain machine: by steps (ex), to their end (run), and by blocks (bx). -/
/-- the locals with which method q begins -/
def en (q : Nat) (as : List XV) : List XV := as.flatMap xw ++ List.replicate (mL q - (as.flatMap xw).length) xU
def xst (K : Nat → Nat → Nat → List XV → List XV → XM → XO) (d q pc : Nat) (ls st : List XV) (μ : XM) : XO := match cd q pc with
  | none => none
  | some w => match xs w.1 ls st μ with
    | none => none
    | some (.inl r) => K d q (pc + w.2) r.1 r.2.1 r.2.2
    | some (.inr (.inl r)) => K d q r.1 r.2.1 r.2.2.1 r.2.2.2
    | some (.inr (.inr (.inl r))) => some r
    | some (.inr (.inr (.inr r))) => match d with
      | 0 => none
      | d' + 1 => match K d' r.1 0 (en r.1 r.2.1) [] r.2.2.2.2 with
        | none => none
        | some o => K (d' + 1) q (pc + w.2) r.2.2.1 (o.1.toList ++ r.2.2.2.1) o.2
def ex : Nat → Nat → Nat → Nat → List XV → List XV → XM → XO
  | 0 => fun _ _ _ _ _ _ => none
  | f + 1 => xst (ex f)
theorem xst_mono {K K' : Nat → Nat → Nat → List XV → List XV → XM → XO} (h : ∀ d q pc ls st μ r, K d q pc ls st μ = some r → K' d q pc ls st μ = some r) {d q pc : Nat} {ls st : List XV} {μ : XM} {r : Option XV × XM} (hr : xst K d q pc ls st μ = some r) : xst K' d q pc ls st μ = some r := by
  unfold xst at hr ⊢
  cases hc : cd q pc with
  | none => rw [hc] at hr; cases hr
  | some w =>
    rw [hc] at hr
    simp only at hr ⊢
    cases hx : xs w.1 ls st μ with
    | none => rw [hx] at hr; cases hr
    | some z =>
      rw [hx] at hr
      rcases z with z | z | z | z
      · exact h _ _ _ _ _ _ _ hr
      · exact h _ _ _ _ _ _ _ hr
      · exact hr
      · simp only at hr ⊢
        cases d with
        | zero => cases hr
        | succ d =>
          simp only at hr ⊢
          cases hk : K d z.1 0 (en z.1 z.2.1) [] z.2.2.2.2 with
          | none => rw [hk] at hr; cases hr
          | some o =>
            rw [hk] at hr
            rw [h _ _ _ _ _ _ _ hk]
            exact h _ _ _ _ _ _ _ hr
theorem ex_step (f : Nat) : ∀ d q pc ls st μ r, ex f d q pc ls st μ = some r → ex (f + 1) d q pc ls st μ = some r := by
  induction f with
  | zero => intro d q pc ls st μ r h; cases h
  | succ f ih => intro d q pc ls st μ r h; exact xst_mono ih h
theorem ex_le {f g : Nat} (h : f ≤ g) {d q pc : Nat} {ls st : List XV} {μ : XM} {r : Option XV × XM} (hr : ex f d q pc ls st μ = some r) : ex g d q pc ls st μ = some r := by
  induction h with
  | refl => exact hr
  | step _ ih => exact ex_step _ _ _ _ _ _ _ _ ih
theorem ex_one {f g d q pc : Nat} {ls st : List XV} {μ : XM} {r r' : Option XV × XM} (h : ex f d q pc ls st μ = some r) (h' : ex g d q pc ls st μ = some r') : r = r' := by
  have h1 := ex_le (Nat.le_max_left f g) h
  have h2 := ex_le (Nat.le_max_right f g) h'
  exact Option.some.inj (h1.symm.trans h2)
noncomputable def run (d q pc : Nat) (ls st : List XV) (μ : XM) : XO := @dite _ (∃ r, ∃ f, ex f d q pc ls st μ = some r) (Classical.propDecidable _) (fun h => some h.choose) (fun _ => none)
theorem run_iff {d q pc : Nat} {ls st : List XV} {μ : XM} {r : Option XV × XM} : run d q pc ls st μ = some r ↔ ∃ f, ex f d q pc ls st μ = some r := by
  unfold run
  by_cases h : ∃ r, ∃ f, ex f d q pc ls st μ = some r
  · rw [dif_pos h]
    constructor
    · intro e
      have e' := Option.some.inj e
      exact e' ▸ h.choose_spec
    · rintro ⟨f, hf⟩
      obtain ⟨g, hg⟩ := h.choose_spec
      exact congrArg some (ex_one hg hf)
  · rw [dif_neg h]
    constructor
    · intro e; cases e
    · rintro ⟨f, hf⟩; exact absurd ⟨r, f, hf⟩ h
theorem xst_run {d q pc : Nat} {ls st : List XV} {μ : XM} {r : Option XV × XM} (hr : xst run d q pc ls st μ = some r) : ∃ f, xst (ex f) d q pc ls st μ = some r := by
  unfold xst at hr ⊢
  cases hc : cd q pc with
  | none => rw [hc] at hr; cases hr
  | some w =>
    rw [hc] at hr
    simp only at hr ⊢
    cases hx : xs w.1 ls st μ with
    | none => rw [hx] at hr; cases hr
    | some z =>
      rw [hx] at hr
      rcases z with z | z | z | z
      · exact run_iff.mp hr
      · exact run_iff.mp hr
      · exact ⟨0, hr⟩
      · simp only at hr ⊢
        cases d with
        | zero => cases hr
        | succ d =>
          simp only at hr ⊢
          cases hk : run d z.1 0 (en z.1 z.2.1) [] z.2.2.2.2 with
          | none => rw [hk] at hr; cases hr
          | some o =>
            rw [hk] at hr
            obtain ⟨f1, h1⟩ := run_iff.mp hk
            obtain ⟨f2, h2⟩ := run_iff.mp hr
            refine ⟨max f1 f2, ?_⟩
            rw [ex_le (Nat.le_max_left f1 f2) h1]
            exact ex_le (Nat.le_max_right f1 f2) h2
theorem run_eq (d q pc : Nat) (ls st : List XV) (μ : XM) : run d q pc ls st μ = xst run d q pc ls st μ := by
  apply Option.ext
  intro r
  constructor
  · intro h
    obtain ⟨f, hf⟩ := run_iff.mp h
    cases f with
    | zero => cases hf
    | succ f => exact xst_mono (fun d q pc ls st μ r h => run_iff.mpr ⟨f, h⟩) hf
  · intro h
    obtain ⟨f, hf⟩ := xst_run h
    exact run_iff.mpr ⟨f + 1, hf⟩
/-- a row of instructions, then on at nx -/
noncomputable def bx (d q : Nat) : List Instr → Nat → List XV → List XV → XM → XO
  | [], nx, ls, st, μ => run d q nx ls st μ
  | i :: is, nx, ls, st, μ => match xs i ls st μ with
    | none => none
    | some (.inl r) => bx d q is nx r.1 r.2.1 r.2.2
    | some (.inr (.inl r)) => run d q r.1 r.2.1 r.2.2.1 r.2.2.2
    | some (.inr (.inr (.inl r))) => some r
    | some (.inr (.inr (.inr r))) => match d with
      | 0 => none
      | d' + 1 => match run d' r.1 0 (en r.1 r.2.1) [] r.2.2.2.2 with
        | none => none
        | some o => bx (d' + 1) q is nx r.2.2.1 (o.1.toList ++ r.2.2.2.1) o.2
def isB (q : Nat) : Nat → List Instr → Nat → Bool
  | pc, [], nx => pc == nx
  | pc, i :: is, nx => match cd q pc with
    | some w => decide (w.1 = i) && isB q (pc + w.2) is nx
    | none => false
theorem run_blk {q : Nat} : ∀ {is : List Instr} {pc nx : Nat}, isB q pc is nx = true → ∀ (d : Nat) (ls st : List XV) (μ : XM), run d q pc ls st μ = bx d q is nx ls st μ := by
  intro is
  induction is with
  | nil =>
    intro pc nx h d ls st μ
    have e : pc = nx := by simpa [isB] using h
    subst e
    rw [bx]
  | cons i is ih =>
    intro pc nx h d ls st μ
    rw [run_eq, bx, xst]
    unfold isB at h
    cases hc : cd q pc with
    | none => rw [hc] at h; cases h
    | some w =>
      rw [hc] at h
      simp only [Bool.and_eq_true, decide_eq_true_eq] at h
      obtain ⟨e, h⟩ := h
      simp only
      rw [e]
      cases hx : xs i ls st μ with
      | none => rfl
      | some z =>
        rcases z with z | z | z | z
        · exact ih h _ _ _ _
        · rfl
        · rfl
        · simp only
          cases d with
          | zero => rfl
          | succ d =>
            simp only
            cases hk : run d z.1 0 (en z.1 z.2.1) [] z.2.2.2.2 with
            | none => rfl
            | some o => exact ih h _ _ _ _
