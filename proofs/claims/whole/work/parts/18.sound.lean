/-! THE PLAIN MACHINE'S RUNS ARE THE REAL MACHINE'S -/
theorem metF {l : Launch} {y : MethodName} {ws ws' : List Cond} {rm : Room} {Pc : Array Value → State → Prop} {Qc : Array Value → State → Outcome → State → Prop} {mc ms : Nat} {free : Addr → Prop} {cc : ByteArray} {maxL : Nat} {ret : Option FieldType}
    (hy : plainFor y = true) (hw : ws = Cond.code y cc maxL ret :: ws')
    (body : ∀ p e s m args below meth c s₁, BodyLoose p l y (headSpec ws rm) cc maxL ret e s m args below meth c s₁ → c.maxLocals = maxL → Pc args s →
      W p l e (headSpec ws rm).room s m args below meth c s.heap [] 0 0 (MQ below Qc args s mc ms free) (entryFrame m args maxL)) : Met l y ws rm Pc Qc mc ms free := by
  refine MetFree.of_bodySF (code := cc) (maxLocals := maxL) (ret := ret) hy ?_ ?_
  · intro args s m h hn
    obtain ⟨meth, c, h1, h2, h3, h4, h5, h6, -, -⟩ := Cond.code_spec hn (atoms_spec (ws := ws) h _ (by rw [hw]; exact List.mem_cons_self))
    exact ⟨meth, c, h1, h2, h3, h4, h5, h6⟩
  · intro p e s m args below meth c s₁ B hml hP _
    have hh0 : s₁.heap = s.heap := by rw [B.state]; rfl
    obtain ⟨t, a1, o, b1, b2, b3⟩ := body p e s m args below meth c s₁ B hml hP s₁ hh0 (Stand.of_body B)
    exact ⟨t, o, a1, b1, b2, ⟨b3.1, b3.2⟩⟩
theorem sl_len {ad : Nat → Nat} : ∀ as : List XV, (lg_sl (as.map (tv ad))).length = (as.flatMap xw).length
  | [] => rfl
  | v :: as => by
    have h := sl_len (ad := ad) as
    unfold lg_sl at h ⊢
    rw [List.map_cons, List.flatMap_cons, List.flatMap_cons, List.length_append, List.length_append, h]
    congr 1
    rcases v with x | x | x | x <;> rfl
theorem en_len {w : Nat} {as : List XV} (h : (as.flatMap xw).length ≤ mL w) : (en w as).length = mL w := by
  unfold en
  rw [List.length_append, List.length_replicate]
  omega
theorem ent_mem {ad : Nat → Nat} (k : Nat) : ∀ (as : List XV) (i : Nat), ∀ z ∈ lvl ad (as.flatMap xw ++ List.replicate k xU) i, z ∈ lv_args i (as.map (tv ad))
  | [], i, z, h => by
    obtain ⟨j, v, h1, h2, -⟩ := lvl_mem.mp h
    have h3 : v ∈ List.replicate k xU := by simpa using List.mem_of_getElem? h1
    exact absurd (List.eq_of_mem_replicate h3) h2
  | v :: as, i, z, h => by
    rcases v with x | x | x | x
    · have h : z ∈ (i, tv ad (xI x)) :: lvl ad (as.flatMap xw ++ List.replicate k xU) (i + 1) := h
      rcases List.mem_cons.mp h with rfl | h
      · exact List.mem_cons_self
      · exact List.mem_cons_of_mem _ (ent_mem k as (i + 1) z h)
    · have h : z ∈ (i, tv ad (xL x)) :: lvl ad (as.flatMap xw ++ List.replicate k xU) (i + 1 + 1) := h
      rcases List.mem_cons.mp h with rfl | h
      · exact List.mem_cons_self
      · exact List.mem_cons_of_mem _ (ent_mem k as (i + 2) z h)
    · have h : z ∈ (i, tv ad (xR x)) :: lvl ad (as.flatMap xw ++ List.replicate k xU) (i + 1) := h
      rcases List.mem_cons.mp h with rfl | h
      · exact List.mem_cons_self
      · exact List.mem_cons_of_mem _ (ent_mem k as (i + 1) z h)
    · have h : z ∈ lvl ad (as.flatMap xw ++ List.replicate k xU) (i + 1) := h
      exact List.mem_cons_of_mem _ (ent_mem k as (i + 1) z h)
theorem ok_en {w : Nat} {as : List XV} (h : ∀ v ∈ as, okV v) : ∀ v ∈ en w as, okV v := by
  intro v hv
  unfold en at hv
  rcases List.mem_append.mp hv with h1 | h1
  · obtain ⟨u, hu, h2⟩ := List.mem_flatMap.mp h1
    have h3 := h u hu
    rcases u with x | x | x | x
    · have : v = xI x := by simpa [xw] using h2
      rw [this]; exact h3
    · have : v = xL x ∨ v = xU := by simpa [xw] using h2
      rcases this with rfl | rfl
      · exact h3
      · trivial
    · have : v = xR x := by simpa [xw] using h2
      rw [this]; trivial
    · have : v = xU := by simpa [xw] using h2
      rw [this]; trivial
  · rw [List.eq_of_mem_replicate h1]; trivial
theorem lM_no : lM.all (fun w => !(w.2.2.1 == 1201)) = true := by decide +kernel
theorem lV_no : lV.all (fun w => !(w.2.2.1 == 1201)) = true := by decide +kernel
theorem wrd_at {q : Nat} {r : MR} (h : mT q = some r) (hq : q ≠ 1201) : wrdOK (q / 100) r = true := by
  by_cases h12 : q / 100 = 12
  · have hr := h
    unfold mT at hr
    rw [h12] at hr
    have hl : (kT.getD 12 []) = [kr1200, kr1201] := rfl
    rw [hl] at hr
    have h2 : q % 100 < 2 := (List.getElem?_eq_some_iff.mp hr).1
    have h0 : q % 100 = 0 := by omega
    rw [h0] at hr
    cases hr
    rw [h12]
    exact wo1200
  · exact wol (q / 100) h12 r (mT_in h)
def KRt (p : Program) (l : Launch) (ev : Env) (R : Room) (s : State) (m : MethodId) (args : Array Value) (below : List Frame) (meth : Method) (c : Code) (Q : State → Prop) (ad : Nat → Nat) (dC : Nat → ClassId) (dI : Nat → Nat → Nat) (B n0 s0 : Nat) (r : MR) (v : Option XV) (μ : XM) : Prop :=
  ∀ (pc : Nat) (lsA : Array Slot) (H : Heap) (locs : List Loc), retOK r.1.2.1 r.1.2.2.2 pc v → (∀ w, v = some w → okV w) → xP ad dC dI B s H μ → va_S (fun q => B ≤ q) s.heap H locs → n0 ≤ μ.2.2.2.1 → s0 ≤ μ.2.2.2.2.1 →
    W p l ev R s m args below meth c H locs (μ.2.2.2.1 - n0) (μ.2.2.2.2.1 - s0) Q (F0 m pc lsA (v.toList.map (tv ad)))
def SD (f : Nat) : Prop := ∀ (d q pc : Nat) (ls st : List XV) (μ : XM) (v : Option XV) (μ' : XM), ex f d q pc ls st μ = some (v, μ') → ∀ (p : Program) (l : Launch) (ev : Env) (R : Room) (s : State) (m : MethodId) (args : Array Value) (below : List Frame) (meth : Method) (c : Code) (Q : State → Prop) (ad : Nat → Nat) (dC : Nat → ClassId) (dI : Nat → Nat → Nat) (B n0 s0 : Nat) (r : MR),
  XC p s m args meth c dC dI q r → d + 1 ≤ R.frames → 100 * (d + 1) ≤ R.locals → μ'.2.2.2.1 - n0 ≤ R.cells → μ'.2.2.2.2.1 - s0 ≤ R.slots → KRt p l ev R s m args below meth c Q ad dC dI B n0 s0 r v μ' → XW p l ev R s m args below meth c Q ad dC dI B n0 s0 pc ls st μ
theorem xE.alike {u U : State} (h : u.vm = U.vm) (hE : xE u) : xE U := by
  intro w hw
  have h1 := hE w hw
  simp only [oW, List.mem_cons, List.not_mem_nil, or_false] at hw
  rcases hw with rfl | rfl | rfl | rfl | rfl
  · exact over_moved (by rw [h]; exact Vm.Alike.refl _) h1
  · exact va_AO.moved (by rw [h]; exact Vm.Alike.refl _) h1
  · exact va_Nw.same rfl h h1
  · exact va_Nw.same rfl h h1
  · exact va_Nw.same rfl h h1
def cPc (ad : Nat → Nat) (dC : Nat → ClassId) (dI : Nat → Nat → Nat) (B : Nat) (as : List XV) (μ : XM) : Array Value → State → Prop := fun A U => A = (as.map (tv ad)).toArray ∧ xP ad dC dI B U U.heap μ ∧ va_K (dC, dI) clX [] U ∧ xE U
def cQc (ad : Nat → Nat) (dC : Nat → ClassId) (dI : Nat → Nat → Nat) (B : Nat) (v : Option XV) (μ : XM) : Array Value → State → Outcome → State → Prop := fun _ st oc t => oc = .returned (v.map (tv ad)) ∧ (∀ w, v = some w → okV w) ∧ xP ad dC dI B t t.heap μ ∧ va_F (fun q => B ≤ q) st t
def cRm (d : Nat) (mc ms : Nat) : Room := { frames := d + 1, cells := mc, slots := ms, locals := 100 * (d + 1) }
def cWs (r : MR) : List Cond := Cond.code r.1.1 r.1.2.1 r.1.2.2.1 r.1.2.2.2 :: gW
theorem hd_at {q : Nat} {r : MR} (h : mT q = some r) : (r.1.1.cls = cN (q / 100) ∧ plainFor r.1.1 = true ∧ r.1.2.2.1 ≤ 20) ∧ r.1.1.cls ≠ "java/lang/invoke/MethodHandle" ∧ r.1.1.cls ≠ "java/lang/invoke/VarHandle" := by
  have hr := okl (q / 100) r (mT_in h)
  unfold rowOK hdOK at hr
  simp only [Bool.and_eq_true, decide_eq_true_eq] at hr
  exact hr.2
theorem mL_at {q : Nat} {r : MR} (h : mT q = some r) : mL q = r.1.2.2.1 := by
  unfold mL
  rw [h]
/-- a method's contract out of its run -/
theorem met_of {f d w : Nat} {as : List XV} {μ μ1 : XM} {v : Option XV} {r : MR} (IH : SD f) (hex : ex f d w 0 (en w as) [] μ = some (v, μ1)) (hm : mT w = some r) (hl : (as.flatMap xw).length ≤ mL w) (hok : ∀ v ∈ as, okV v) (l : Launch) (ad : Nat → Nat) (dC : Nat → ClassId) (dI : Nat → Nat → Nat) (B : Nat) :
    Met l r.1.1 (cWs r) (cRm d (μ1.2.2.2.1 - μ.2.2.2.1) (μ1.2.2.2.2.1 - μ.2.2.2.2.1)) (cPc ad dC dI B as μ) (cQc ad dC dI B v μ1) (μ1.2.2.2.1 - μ.2.2.2.1) (μ1.2.2.2.2.1 - μ.2.2.2.2.1) (fun q => B ≤ q) := by
  obtain ⟨⟨hcl, hpl, h20⟩, -⟩ := hd_at hm
  refine metF (cc := r.1.2.1) (maxL := r.1.2.2.1) (ret := r.1.2.2.2) hpl rfl ?_
  intro p e s m args below meth c s₁ Bd hml hv
  obtain ⟨rfl, hP, hK, hE⟩ := hv
  have hts := atoms_spec (ws := cWs r) Bd.pre
  have hlocks := Bd.notSynchronized
  have hown : s.vm.findClass (cN (w / 100)) = some m.cls := by rw [← hcl]; exact findClass_of_methodNamed Bd.named
  have hC : XC p s m (as.map (tv ad)).toArray meth c dC dI w r := ⟨hm, Bd.exec, Bd.bytes, Bd.returns, hml, hown, fun w hw => hts w (List.mem_cons_of_mem _ hw), hlocks, fun h => (name_of_methodNamed Bd.named Bd.method).1.trans h, hK, hE⟩
  have hmono := ex_mono f hex
  have hlen : (lg_sl (as.map (tv ad))).length ≤ r.1.2.2.1 := by rw [sl_len, ← mL_at hm]; exact hl
  have hent := lv_entry (as.map (tv ad)) hlen
  rw [lg_entry_eq]
  generalize (lg_sl (as.map (tv ad)) ++ List.replicate (r.1.2.2.1 - (lg_sl (as.map (tv ad))).length) Slot.unset).toArray = lsA at hent ⊢
  have K := IH d w 0 (en w as) [] μ v μ1 hex p l e (headSpec (cWs r) (cRm d (μ1.2.2.2.1 - μ.2.2.2.1) (μ1.2.2.2.2.1 - μ.2.2.2.2.1))).room s m (as.map (tv ad)).toArray below meth c
    (MQ below (cQc ad dC dI B v μ1) (as.map (tv ad)).toArray s (μ1.2.2.2.1 - μ.2.2.2.1) (μ1.2.2.2.2.1 - μ.2.2.2.2.1) (fun q => B ≤ q)) ad dC dI B μ.2.2.2.1 μ.2.2.2.2.1 r hC (Nat.le_refl _) (Nat.le_refl _) (Nat.le_refl _) (Nat.le_refl _) ?_
  · have K2 := K s.heap [] lsA (by rw [hml]; exact has_sub hent (ent_mem _ as 0)) (by rw [en_len hl, hml, mL_at hm]) (ok_en hok) (fun _ h => by cases h) hP va_S.rf (Nat.le_refl _) (Nat.le_refl _)
    rw [Nat.sub_self, Nat.sub_self] at K2
    exact K2
  · intro pc lsA H locs hret hvok hP2 hS h7 h8
    have hq : ∀ t : State, t.heap = H → s.WarmedH t.vm → cQc ad dC dI B v μ1 (as.map (tv ad)).toArray s (.returned (v.map (tv ad))) t := fun t ht hW => ⟨rfl, hvok, by rw [ht]; exact hP2.moved hW.alike, hS.F ht⟩
    rcases hret with ⟨hdg, x, rfl, hr⟩ | ⟨hdg, ⟨a, rfl⟩, hr⟩ | ⟨hdg, rfl, hr⟩
    · rcases hr with hr | ⟨hr, h01⟩
      · exact W.iret (v := Int32.ofInt x) Bd.exec Bd.bytes (by rw [Bd.returns]; exact hr) hq hS.2.2 hdg hlocks
      · exact W.zret (v := Int32.ofInt x) (ty := .boolean) Bd.exec Bd.bytes (by rw [Bd.returns]; exact hr) (nb01 h01) hq hS.2.2 hdg hlocks
    · rcases hr with hr | hr
      · exact W.aret (v := .ref (ad a)) (rt := .array .int) Bd.exec Bd.bytes (by rw [Bd.returns]; exact hr) (Or.inr ⟨_, rfl⟩) (Or.inr ⟨_, rfl⟩) hq hS.2.2 hdg hlocks
      · exact W.aret (v := .ref (ad a)) (rt := .object "LightPlate$Row") Bd.exec Bd.bytes (by rw [Bd.returns]; exact hr) (Or.inl ⟨_, rfl⟩) (Or.inr ⟨_, rfl⟩) hq hS.2.2 hdg hlocks
    · exact W.vret Bd.exec Bd.bytes (by rw [Bd.returns]; exact hr) hq hS.2.2 hdg hlocks
