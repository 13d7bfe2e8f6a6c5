/-! ONE STEP of the plain machine is one of the real machine's -/
/-- a method of the table, at work -/
def XC (p : Program) (s : State) (m : MethodId) (args : Array Value) (meth : Method) (c : Code) (dC : Nat → ClassId) (dI : Nat → Nat → Nat) (q : Nat) (r : MR) : Prop :=
  mT q = some r ∧ p.tables.exec = Jvm.exec ∧ c.code = r.1.2.1 ∧ meth.sig.returnType = r.1.2.2.2 ∧ c.maxLocals = r.1.2.2.1 ∧ s.vm.findClass (cN (q / 100)) = some m.cls ∧ (∀ w ∈ gW, w.before args s = true) ∧ meth.locks = false ∧ (r.1.1.name = "<init>" → meth.name = "<init>") ∧ va_K (dC, dI) clX [] s ∧ xE s
def XW (p : Program) (l : Launch) (e : Env) (R : Room) (s : State) (m : MethodId) (args : Array Value) (below : List Frame) (meth : Method) (c : Code) (Q : State → Prop) (ad : Nat → Nat) (dC : Nat → ClassId) (dI : Nat → Nat → Nat) (B n0 s0 : Nat) (pc : Nat) (ls st : List XV) (μ : XM) : Prop :=
  ∀ (H : Heap) (locs : List Loc) (lsA : Array Slot), lv_has lsA c.maxLocals (lvl ad ls 0) → ls.length = c.maxLocals → (∀ v ∈ ls, okV v) → (∀ v ∈ st, okV v) → xP ad dC dI B s H μ → va_S (fun q => B ≤ q) s.heap H locs → n0 ≤ μ.2.2.2.1 → s0 ≤ μ.2.2.2.2.1 →
    W p l e R s m args below meth c H locs (μ.2.2.2.1 - n0) (μ.2.2.2.2.1 - s0) Q (F0 m pc lsA (st.map (tv ad)))
theorem mT_in {q : Nat} {r : MR} (h : mT q = some r) : r ∈ kT.getD (q / 100) [] := List.mem_of_getElem? h
theorem okl : ∀ c : Nat, ∀ r ∈ kT.getD c [], rowOK c r = true
  | 0 => okl0
  | 1 => okl1
  | 2 => okl2
  | 3 => okl3
  | 4 => okl4
  | 5 => okl5
  | 6 => okl6
  | 7 => okl7
  | 8 => okl8
  | 9 => okl9
  | 10 => okl10
  | 11 => okl11
  | 12 => okl12
  | 13 => okl13
  | 14 => okl14
  | n + 15 => fun r h => absurd h (by simp [kT])
theorem wol : ∀ c : Nat, c ≠ 12 → ∀ r ∈ kT.getD c [], wrdOK c r = true
  | 0 => fun _ => wol0
  | 1 => fun _ => wol1
  | 2 => fun _ => wol2
  | 3 => fun _ => wol3
  | 4 => fun _ => wol4
  | 5 => fun _ => wol5
  | 6 => fun _ => wol6
  | 7 => fun _ => wol7
  | 8 => fun _ => wol8
  | 9 => fun _ => wol9
  | 10 => fun _ => wol10
  | 11 => fun _ => wol11
  | 12 => fun h => absurd rfl h
  | 13 => fun _ => wol13
  | 14 => fun _ => wol14
  | n + 15 => fun _ r h => absurd h (by simp [kT])
theorem cd_row {q pc : Nat} {r : MR} {i : Instr} {len : Nat} (hm : mT q = some r) (h : cd q pc = some (i, len)) : ∃ idx, decode r.1.2.1 pc = .ok (unres pc i idx, len) ∧ len = iln i len ∧ side (q / 100) r.1.1 r.1.2.2.2 i idx = true := by
  unfold cd at h
  rw [hm] at h
  simp only at h
  obtain ⟨w, hw, e⟩ := Option.map_eq_some_iff.mp h
  have hp : w.1 = pc := by simpa using List.find?_some hw
  have hmem := List.mem_of_find?_eq_some hw
  have hr := okl (q / 100) r (mT_in hm)
  unfold rowOK at hr
  rw [Bool.and_eq_true] at hr
  have h1 := List.all_eq_true.mp hr.1 w hmem
  unfold rwOK at h1
  simp only [Bool.and_eq_true, decide_eq_true_eq] at h1
  cases e
  rw [← hp]
  exact ⟨w.2.2.1, h1.1, h1.2.1, h1.2.2⟩
theorem lF_at {own idx q : Nat} {args : Array Value} {s : State} (hts : ∀ w ∈ gW, w.before args s = true) (h : lF.any (fun w => w.1 == own && (w.2.1 == idx && w.2.2.1 == q)) = true) : (Cond.fieldLink (cN own) idx (TF (q / 100) (q % 100)).1 (TF (q / 100) (q % 100)).2.1 (TF (q / 100) (q % 100)).2.2.1).before args s = true := by
  obtain ⟨w, hw, h1⟩ := List.any_eq_true.mp h
  simp only [Bool.and_eq_true, beq_iff_eq] at h1
  obtain ⟨rfl, rfl, rfl⟩ := h1
  have h2 := List.all_eq_true.mp lF_ok w hw
  exact hts _ (gW_at (of_decide_eq_true h2) rfl)
theorem TF_at {c k : Nat} {q : vw_C} (h : clX[c]? = some q) : TF c = q.2.1 := by
  unfold TF
  rw [h]
theorem u_in : ∀ c : Nat, ∀ q : vw_C, clX[c]? = some q → ∀ w ∈ u_ws q.1 q.2.1 q.2.2, w ∈ gW
  | 0 => fun q h => by cases h; decide +kernel
  | 1 => fun q h => by cases h; decide +kernel
  | 2 => fun q h => by cases h; decide +kernel
  | 3 => fun q h => by cases h; decide +kernel
  | 4 => fun q h => by cases h; decide +kernel
  | 5 => fun q h => by cases h; decide +kernel
  | 6 => fun q h => by cases h; decide +kernel
  | 7 => fun q h => by cases h; decide +kernel
  | 8 => fun q h => by cases h; decide +kernel
  | 9 => fun q h => by cases h; decide +kernel
  | 10 => fun q h => by cases h; decide +kernel
  | 11 => fun q h => by cases h; decide +kernel
  | n + 12 => fun q h => by simp [clX] at h
theorem u_nm : ∀ c : Nat, ∀ q : vw_C, clX[c]? = some q → ∀ a, a < q.2.2 → ∀ b, b < q.2.2 → a ≠ b → (q.2.1 a).2.1 ≠ (q.2.1 b).2.1
  | 0 => fun q h => by cases h; decide +kernel
  | 1 => fun q h => by cases h; decide +kernel
  | 2 => fun q h => by cases h; decide +kernel
  | 3 => fun q h => by cases h; decide +kernel
  | 4 => fun q h => by cases h; decide +kernel
  | 5 => fun q h => by cases h; decide +kernel
  | 6 => fun q h => by cases h; decide +kernel
  | 7 => fun q h => by cases h; decide +kernel
  | 8 => fun q h => by cases h; decide +kernel
  | 9 => fun q h => by cases h; decide +kernel
  | 10 => fun q h => by cases h; decide +kernel
  | 11 => fun q h => by cases h; decide +kernel
  | n + 12 => fun q h => by simp [clX] at h
theorem u_ty : ∀ c : Nat, ∀ q : vw_C, clX[c]? = some q → ∀ k, k < q.2.2 → parseFieldDescriptor (q.2.1 k).2.2.1 = some (fY c k) ∧ (q.2.1 k).1 = q.1 ∧ q.1 = cN c ∧ q.2.2 = cO c
  | 0 => fun q h => by cases h; decide +kernel
  | 1 => fun q h => by cases h; decide +kernel
  | 2 => fun q h => by cases h; decide +kernel
  | 3 => fun q h => by cases h; decide +kernel
  | 4 => fun q h => by cases h; decide +kernel
  | 5 => fun q h => by cases h; decide +kernel
  | 6 => fun q h => by cases h; decide +kernel
  | 7 => fun q h => by cases h; decide +kernel
  | 8 => fun q h => by cases h; decide +kernel
  | 9 => fun q h => by cases h; decide +kernel
  | 10 => fun q h => by cases h; decide +kernel
  | 11 => fun q h => by cases h; decide +kernel
  | n + 12 => fun q h => by simp [clX] at h
theorem u_ft : ∀ c : Nat, ∀ q : vw_C, clX[c]? = some q → ∀ k, k < q.2.2 → (fT c k = 0 ∧ fY c k = .int) ∨ (fT c k = 1 ∧ fY c k = .boolean) ∨ (fT c k = 2 ∧ fY c k = .long) ∨ (fT c k = 3 ∧ (fY c k).isReference = true)
  | 0 => fun q h => by cases h; decide +kernel
  | 1 => fun q h => by cases h; decide +kernel
  | 2 => fun q h => by cases h; decide +kernel
  | 3 => fun q h => by cases h; decide +kernel
  | 4 => fun q h => by cases h; decide +kernel
  | 5 => fun q h => by cases h; decide +kernel
  | 6 => fun q h => by cases h; decide +kernel
  | 7 => fun q h => by cases h; decide +kernel
  | 8 => fun q h => by cases h; decide +kernel
  | 9 => fun q h => by cases h; decide +kernel
  | 10 => fun q h => by cases h; decide +kernel
  | 11 => fun q h => by cases h; decide +kernel
  | n + 12 => fun q h => by simp [clX] at h
theorem cl_at : ∀ c : Nat, c < 12 → ∃ q : vw_C, clX[c]? = some q := fun c h => ⟨clX[c]'(by simpa [clX] using h), List.getElem?_eq_getElem _⟩
