/-! THE SCRIPT is never written -/
/-- the script's cell and the numbering are as they were -/
def kpG (μ μ' : XM) : Prop := μ'.1 0 = μ.1 0 ∧ μ'.2.1 0 = μ.2.1 0 ∧ μ'.2.2.2.2.2 = μ.2.2.2.2.2
theorem kpG_rf {μ : XM} : kpG μ μ := ⟨rfl, rfl, rfl⟩
theorem kpG_tr {a b c : XM} (h : kpG a b) (g : kpG b c) : kpG a c := ⟨g.1.trans h.1, g.2.1.trans h.2.1, g.2.2.trans h.2.2⟩
def kpO (μ : XM) (o : Option XR) : Prop := match o with
  | none => True
  | some (.inl r) => kpG μ r.2.2
  | some (.inr (.inl r)) => kpG μ r.2.2.2
  | some (.inr (.inr (.inl r))) => kpG μ r.2
  | some (.inr (.inr (.inr r))) => kpG μ r.2.2.2.2
section KP
variable {μ μ' : XM} {ls st : List XV} {a b : Option XR}
theorem kp_none : kpO μ none := trivial
theorem kp_N (h : kpG μ μ') : kpO μ (rN ls st μ') := h
theorem kp_G {t : Nat} (h : kpG μ μ') : kpO μ (rG t ls st μ') := h
theorem kp_T {v : Option XV} (h : kpG μ μ') : kpO μ (rT v μ') := h
theorem kp_C {q : Nat} {as : List XV} (h : kpG μ μ') : kpO μ (rC q as ls st μ') := h
theorem kp_if {c : Prop} [Decidable c] (h1 : c → kpO μ a) (h2 : ¬ c → kpO μ b) : kpO μ (if c then a else b) := by
  by_cases q : c
  · rw [if_pos q]; exact h1 q
  · rw [if_neg q]; exact h2 q
theorem kp_tI {k : Int → List XV → Option XR} (h : ∀ x st, kpO μ (k x st)) : kpO μ (tI st k) := by
  unfold tI; split
  · exact h _ _
  · trivial
theorem kp_tL {k : Int → List XV → Option XR} (h : ∀ x st, kpO μ (k x st)) : kpO μ (tL st k) := by
  unfold tL; split
  · exact h _ _
  · trivial
theorem kp_tA {k : Nat → List XV → Option XR} (h : ∀ x st, kpO μ (k x st)) : kpO μ (tA st k) := by
  unfold tA; split
  · exact h _ _
  · trivial
theorem kp_bI {k : Int → Int → List XV → Option XR} (h : ∀ x y st, kpO μ (k x y st)) : kpO μ (bI st k) := by
  unfold bI; exact kp_tI fun _ _ => kp_tI fun _ _ => h _ _ _
theorem kp_bL {k : Int → Int → List XV → Option XR} (h : ∀ x y st, kpO μ (k x y st)) : kpO μ (bL st k) := by
  unfold bL; exact kp_tL fun _ _ => kp_tL fun _ _ => h _ _ _
theorem kp_ldI {i : Nat} {k : Int → Option XR} (h : ∀ x, kpO μ (k x)) : kpO μ (ldI ls i k) := by
  unfold ldI; split
  · exact h _
  · trivial
theorem kp_ldL {i : Nat} {k : Int → Option XR} (h : ∀ x, kpO μ (k x)) : kpO μ (ldL ls i k) := by
  unfold ldL; split
  · exact h _
  · trivial
theorem kp_ldA {i : Nat} {k : Nat → Option XR} (h : ∀ x, kpO μ (k x)) : kpO μ (ldA ls i k) := by
  unfold ldA; split
  · exact h _
  · trivial
theorem kp_st1 {i : Nat} {v : XV} {k : List XV → Option XR} (h : ∀ ls, kpO μ (k ls)) : kpO μ (st1 ls i v k) := by
  unfold st1; exact kp_if (fun _ => h _) (fun _ => trivial)
theorem kp_st2 {i : Nat} {v : XV} {k : List XV → Option XR} (h : ∀ ls, kpO μ (k ls)) : kpO μ (st2 ls i v k) := by
  unfold st2; exact kp_if (fun _ => h _) (fun _ => trivial)
theorem kp_br {c : ClassFile.Cond} {x y : Int} (ha : kpO μ a) (hb : kpO μ b) : kpO μ (br c x y a b) := by
  cases c <;> unfold br <;> exact kp_if (fun _ => by assumption) (fun _ => by assumption)
/-- a cell that is not the script is written -/
theorem kp_w {a : Nat} {f : Int → Int} (h : a ≠ 0) : kpG μ (vA μ.1 a f, μ.2) := ⟨vA_ne (fun e => h e.symm), rfl, rfl⟩
theorem kp_r {a b : Nat} {i : Int} : kpG μ (μ.1, gR μ.2 a i b) := ⟨rfl, rfl, rfl⟩
theorem kp_n {a n : Nat} {f : Int → Int} {sh : Nat × Nat} (h : a ≠ 0) : kpG μ (vA μ.1 a f, gN μ.2 a sh n) := ⟨vA_ne (fun e => h e.symm), if_neg (fun e => h e.symm), rfl⟩
theorem kp_k {a k L : Nat} {n : Nat} (h9 : μ.2.1 0 = (9, L)) (h : (μ.2.1 a).1 = k) (hk : k ≠ 9) : a ≠ 0 := fun e => by
  rw [e, h9] at h
  exact hk h.symm
theorem kp_any {c : Nat} {n : Nat} {iv : Nat → Nat} (h : ∀ j, iv j ≠ 0) : (List.range n).any (fun j => 0 == iv (c + j)) = false := by
  rw [List.any_eq_false]
  intro j _
  have := h (c + j)
  simp only [beq_iff_eq]
  exact fun e => this e.symm
set_option maxHeartbeats 4000000 in
theorem kp_xs {L : Nat} (i : Instr) (h9 : μ.2.1 0 = (9, L)) (hiv : ∀ j, μ.2.2.2.2.2 j ≠ 0) : kpO μ (xs i ls st μ) := by
  unfold xs
  split
  all_goals
    repeat' first
      | exact trivial
      | exact kp_N kpG_rf
      | exact kp_G kpG_rf
      | exact kp_T kpG_rf
      | exact kp_C kpG_rf
      | exact kp_N kp_r
      | exact kp_N (kp_n (hiv _))
      | exact kp_br (kp_G kpG_rf) (kp_N kpG_rf)
      | exact kp_N (kp_w (kp_k (n := 0) h9 hc (by omega)))
      | exact kp_N (kp_w (kp_k (n := 0) h9 hc.1 (by decide)))
      | exact kp_N (kp_w (kp_k (n := 0) h9 hc.1 (by omega)))
      | exact kp_N (kp_w (kp_k (n := 0) h9 hc.1.1 (by decide)))
      | refine kp_tI (fun _ _ => ?_)
      | refine kp_tL (fun _ _ => ?_)
      | refine kp_tA (fun _ _ => ?_)
      | refine kp_bI (fun _ _ _ => ?_)
      | refine kp_bL (fun _ _ _ => ?_)
      | refine kp_ldI (fun _ => ?_)
      | refine kp_ldL (fun _ => ?_)
      | refine kp_ldA (fun _ => ?_)
      | refine kp_st1 (fun _ => ?_)
      | refine kp_st2 (fun _ => ?_)
      | refine kp_if (fun hc => ?_) (fun _ => ?_)
      | split
  all_goals
    refine kp_N ⟨?_, ?_, rfl⟩
    · show (if (List.range _).any (fun j => 0 == μ.2.2.2.2.2 (μ.2.2.2.1 + j)) = true then _ else μ.1 0) = μ.1 0
      rw [kp_any hiv]
      rfl
    · show (if 0 = μ.2.2.2.2.2 μ.2.2.2.1 then _ else if (List.range _).any (fun j => 0 == μ.2.2.2.2.2 (μ.2.2.2.1 + 1 + j)) = true then _ else μ.2.1 0) = μ.2.1 0
      rw [if_neg (fun e => hiv _ e.symm), kp_any hiv]
      rfl
end KP
theorem kp_ex (f : Nat) : ∀ (d q pc : Nat) (ls st : List XV) (μ : XM) (L : Nat) (r : Option XV × XM), μ.2.1 0 = (9, L) → (∀ j, μ.2.2.2.2.2 j ≠ 0) → ex f d q pc ls st μ = some r → kpG μ r.2 := by
  induction f with
  | zero => intro d q pc ls st μ L r _ _ h; cases h
  | succ f ih =>
    intro d q pc ls st μ L r h9 hiv h
    have h' : xst (ex f) d q pc ls st μ = some r := h
    unfold xst at h'
    cases hc : cd q pc with
    | none => rw [hc] at h'; cases h'
    | some w =>
      rw [hc] at h'
      simp only at h'
      have hk := kp_xs (ls := ls) (st := st) w.1 h9 hiv
      cases hx : xs w.1 ls st μ with
      | none => rw [hx] at h'; cases h'
      | some z =>
        rw [hx] at h' hk
        rcases z with z | z | z | z
        · have hz : kpG μ z.2.2 := hk
          exact kpG_tr hz (ih _ _ _ _ _ _ L _ (hz.2.1.trans h9) (by rw [hz.2.2]; exact hiv) h')
        · have hz : kpG μ z.2.2.2 := hk
          exact kpG_tr hz (ih _ _ _ _ _ _ L _ (hz.2.1.trans h9) (by rw [hz.2.2]; exact hiv) h')
        · have hz : kpG μ z.2 := hk
          have := Option.some.inj h'
          rw [← this]; exact hz
        · have hz : kpG μ z.2.2.2.2 := hk
          simp only at h'
          cases d with
          | zero => cases h'
          | succ d =>
            simp only at h'
            cases hr : ex f d z.1 0 (en z.1 z.2.1) [] z.2.2.2.2 with
            | none => rw [hr] at h'; cases h'
            | some o =>
              rw [hr] at h'
              have h1 := ih _ _ _ _ _ _ L _ (hz.2.1.trans h9) (by rw [hz.2.2]; exact hiv) hr
              have h2 := kpG_tr hz h1
              exact kpG_tr h2 (ih _ _ _ _ _ _ L _ (h2.2.1.trans h9) (by rw [h2.2.2]; exact hiv) h')
theorem kp_run {d q pc : Nat} {ls st : List XV} {μ : XM} {L : Nat} {r : Option XV × XM} (h9 : μ.2.1 0 = (9, L)) (hiv : ∀ j, μ.2.2.2.2.2 j ≠ 0) (h : run d q pc ls st μ = some r) : kpG μ r.2 := by
  obtain ⟨f, hf⟩ := run_iff.mp h
  exact kp_ex f d q pc ls st μ L r h9 hiv hf
