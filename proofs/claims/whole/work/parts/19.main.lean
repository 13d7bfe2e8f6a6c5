/-! CALLS, and the theorem -/
theorem lV_o : lV.all (fun z => decide ((mT z.2.2.1).bind (fun r => if Cond.methodLinkNest (cN z.1) z.2.1 r.1.1 "LightPlate" ∈ oW then some true else none) = some true)) = true := by decide +kernel
section XCall
variable {p : Program} {l : Launch} {ev : Env} {R : Room} {s : State} {m : MethodId} {args : Array Value} {below : List Frame} {meth : Method} {c : Code} {Q : State → Prop} {ad : Nat → Nat} {dC : Nat → ClassId} {dI : Nat → Nat → Nat} {B n0 s0 : Nat} {q : Nat} {r : MR} {pc : Nat} {ls : List XV} {μ : XM}
theorem ok_app {as bs : List XV} : (∀ v ∈ as ++ bs, okV v) ↔ (∀ v ∈ as, okV v) ∧ ∀ v ∈ bs, okV v := by
  constructor
  · intro h
    exact ⟨fun v hv => h v (List.mem_append_left _ hv), fun v hv => h v (List.mem_append_right _ hv)⟩
  · rintro ⟨h1, h2⟩ v hv
    rcases List.mem_append.mp hv with h | h
    · exact h1 v h
    · exact h2 v h
/-- behind a call -/
theorem call_go {H : Heap} {locs : List Loc} {lsA : Array Slot} {st0 : List Value} {a : Array Value} {rest : List XV} {v1 : Option XV} {μ1 : XM} (hm1 : μ.2.2.2.1 ≤ μ1.2.2.2.1) (hm2 : μ.2.2.2.2.1 ≤ μ1.2.2.2.2.1)
    (hr : va_Run p l ev R s m args below meth c H locs (μ.2.2.2.1 - n0) (μ.2.2.2.2.1 - s0) (μ1.2.2.2.1 - μ.2.2.2.1) (μ1.2.2.2.2.1 - μ.2.2.2.2.1) (F0 m pc lsA st0) (rest.map (tv ad)) (cQc ad dC dI B v1 μ1 a) (fun q => B ≤ q))
    (h1 : lv_has lsA c.maxLocals (lvl ad ls 0)) (h2 : ls.length = c.maxLocals) (h3 : ∀ v ∈ ls, okV v) (h4 : ∀ v ∈ rest, okV v) (h6 : va_S (fun q => B ≤ q) s.heap H locs) (h7 : n0 ≤ μ.2.2.2.1) (h8 : s0 ≤ μ.2.2.2.2.1)
    (k : XW p l ev R s m args below meth c Q ad dC dI B n0 s0 (pc + 3) ls (v1.toList ++ rest) μ1) : W p l ev R s m args below meth c H locs (μ.2.2.2.1 - n0) (μ.2.2.2.2.1 - s0) Q (F0 m pc lsA st0) := by
  intro T hT X
  obtain ⟨v, st₀, t, T', L, h0, X', hL, e1, e2, ⟨hv, hvok, hP, hz, hk⟩, st⟩ := hr T hT X
  cases hv
  rw [h0] at hz hk
  have X2 : Stand p l ev R s m args below meth c T' (locs ++ L) (μ1.2.2.2.1 - n0) (μ1.2.2.2.2.1 - s0) := by
    rw [show μ1.2.2.2.1 - n0 = μ.2.2.2.1 - n0 + (μ1.2.2.2.1 - μ.2.2.2.1) by omega, show μ1.2.2.2.2.1 - s0 = μ.2.2.2.2.1 - s0 + (μ1.2.2.2.2.1 - μ.2.2.2.2.1) by omega]
    exact X'
  have hP2 : xP ad dC dI B s T'.heap μ1 := by
    rw [e1]
    exact hP.moved (by rw [← e2]; exact X'.warmed.alike.symm)
  obtain ⟨t2, a1, b1⟩ := k T'.heap (locs ++ L) lsA h1 h2 h3 (ok_app.mpr ⟨fun w hw => hvok w (by cases v1 with | none => cases hw | some z => rw [List.mem_singleton.mp hw]), h4⟩) hP2
    ⟨Nat.le_trans h6.1 (by rw [e1]; exact hz), fun q g1 g2 => by rw [e1, hk q (Nat.lt_of_lt_of_le g1 h6.1) g2]; exact h6.2.1 q g1 g2, fun q hq => by
      rcases List.mem_append.mp hq with h | h
      · exact h6.2.2 q h
      · exact hL q h⟩ (by omega) (by omega) T' rfl X2
  refine ⟨t2, st t2 ?_, b1⟩
  have e3 : (v1.toList ++ rest).map (tv ad) = (v1.map (tv ad)).toList ++ rest.map (tv ad) := by cases v1 <;> rfl
  rw [e3] at a1
  exact a1
theorem good_ws {w : Nat} {r1 : MR} (hm : mT w = some r1) (hw : w ≠ 1201) : GoodIn gW (cWs r1) := by
  have hwd := wrd_at hm hw
  unfold wrdOK at hwd
  simp only [Bool.and_eq_true, decide_eq_true_eq] at hwd
  intro z hz
  rcases List.mem_cons.mp hz with rfl | h
  · exact ⟨gW_at hwd.1 rfl, good_of_word rfl⟩
  · exact ⟨h, good_of_word (List.mem_filter.mp h).2⟩
theorem xw_call {d f w idx : Nat} {as rest : List XV} {v1 : Option XV} {μ1 : XM} (IH : SD f) (C : XC p s m args meth c dC dI q r) (hR1 : d + 1 + 1 ≤ R.frames) (hR2 : 100 * (d + 1 + 1) ≤ R.locals) (hR3 : μ1.2.2.2.1 - n0 ≤ R.cells) (hR4 : μ1.2.2.2.2.1 - s0 ≤ R.slots)
    (hrest : rest.length ≤ 4) (hl : (as.flatMap xw).length ≤ mL w)
    (hi : (decode r.1.2.1 pc = .ok (.invokevirtual idx, 3) ∧ side (q / 100) r.1.1 r.1.2.2.2 (.invokevirtual w) idx = true ∧ ∃ a as', as = xR a :: as' ∧ (μ.2.1 a).1 = 10 + w / 100) ∨
      (decode r.1.2.1 pc = .ok (.invokespecial idx, 3) ∧ side (q / 100) r.1.1 r.1.2.2.2 (.invokespecial w) idx = true ∧ ∃ a as', as = xR a :: as') ∨
      (decode r.1.2.1 pc = .ok (.invokestatic idx, 3) ∧ side (q / 100) r.1.1 r.1.2.2.2 (.invokestatic w) idx = true))
    (hnp : as.length = nP w)
    (hex : ex f d w 0 (en w as) [] μ = some (v1, μ1)) (k : XW p l ev R s m args below meth c Q ad dC dI B n0 s0 (pc + 3) ls (v1.toList ++ rest) μ1) : XW p l ev R s m args below meth c Q ad dC dI B n0 s0 pc ls (as.reverse ++ rest) μ := by
  intro H locs lsA h1 h2 h3 h4 h5 h6 h7 h8
  obtain ⟨ha, h4r⟩ := ok_app.mp h4
  have hok : ∀ v ∈ as, okV v := fun v hv => ha v (List.mem_reverse.mpr hv)
  have hmono := ex_mono f hex
  have hm1 : μ.2.2.2.1 ≤ μ1.2.2.2.1 := hmono.1
  have hm2 : μ.2.2.2.2.1 ≤ μ1.2.2.2.2.1 := hmono.2
  have hts := C.2.2.2.2.2.2.1
  have hK := C.2.2.2.2.2.2.2.2.2.1
  have hS : CallFix p m c r.1.2.1 c.maxLocals s args gW (cN (q / 100)) := ⟨C.2.1, C.2.2.1, rfl, C.2.2.2.2.2.1, hts⟩
  have hcat : 2 * (F0 m pc lsA ((as.reverse ++ rest).map (tv ad))).monitorRoom + ((rest.map (tv ad)).map fun v => v.category).sum ≤ 8 := lv_room (by have := cat_le (ad := ad) rest; omega)
  have hpre : FrameBlind (cPc ad dC dI B as μ) := fun a U g mk hq => ⟨hq.1, hq.2.1.moved (Vm.Alike.refl U.vm), va_K.moved (u := U) (U := U.calling g mk a) (Vm.Alike.refl U.vm) hq.2.2.1, xE.alike (u := U) (U := U.calling g mk a) rfl hq.2.2.2⟩
  have hpc : ∀ U : State, U.heap = H → s.WarmedH U.vm → cPc ad dC dI B as μ (as.map (tv ad)).toArray U := fun U hU hW => ⟨rfl, by rw [hU]; exact h5.moved hW.alike, va_K.moved hW.alike hK, xE.warm hW C.2.2.2.2.2.2.2.2.2.2⟩
  have hfit : (μ.2.2.2.1 - n0) + (μ1.2.2.2.1 - μ.2.2.2.1) ≤ R.cells ∧ (μ.2.2.2.2.1 - s0) + (μ1.2.2.2.2.1 - μ.2.2.2.2.1) ≤ R.slots := ⟨by omega, by omega⟩
  have mt : ∀ {b : Bool}, b = true → (match mT w with | some _ => b | none => false) = true → ∃ r1, mT w = some r1 := fun hb h => by
    cases hw : mT w with
    | none => rw [hw] at h; cases h
    | some r1 => exact ⟨r1, rfl⟩
  have roomOK : ∀ r1 : MR, mT w = some r1 → (cRm d (μ1.2.2.2.1 - μ.2.2.2.1) (μ1.2.2.2.2.1 - μ.2.2.2.2.1)).frames + 1 ≤ R.frames ∧ 8 + (r1.1.2.2.1 + 11) + (cRm d (μ1.2.2.2.1 - μ.2.2.2.1) (μ1.2.2.2.2.1 - μ.2.2.2.2.1)).locals ≤ R.locals := fun r1 h => by
    have h20 := (hd_at h).1.2.2
    exact ⟨hR1, by show 8 + (r1.1.2.2.1 + 11) + 100 * (d + 1) ≤ R.locals; omega⟩
  have npw : ∀ r1 : MR, mT w = some r1 → nP w = r1.2.1 := fun r1 h => by unfold nP; rw [h]
  have lMat : ∀ r1 : MR, mT w = some r1 → lM.any (fun z => z.1 == q / 100 && (z.2.1 == idx && z.2.2.1 == w)) = true → w ≠ 1201 ∧ (Cond.methodLink (cN (q / 100)) idx r1.1.1).before args s = true := by
    intro r1 hr1 h
    obtain ⟨z, hz, hz2⟩ := List.any_eq_true.mp h
    simp only [Bool.and_eq_true, beq_iff_eq] at hz2
    obtain ⟨z1, z2, z3⟩ := hz2
    have h2 := List.all_eq_true.mp lM_ok z hz
    have h3 := of_decide_eq_true h2
    have h5 := List.all_eq_true.mp lM_no z hz
    rw [z3, hr1] at h3
    have h4 : lw_tbl[z.2.2.2]? = some (.methodLink (cN (q / 100)) idx r1.1.1) := by
      rw [z1, z2] at h3
      cases hq : lw_tbl[z.2.2.2]? with
      | none => rw [hq] at h3; simp at h3
      | some u =>
        rw [hq] at h3
        simp only [Option.bind_some] at h3
        by_cases hu : u = .methodLink (cN (q / 100)) idx r1.1.1
        · rw [hu]
        · rw [if_neg hu] at h3; cases h3
    refine ⟨fun e => ?_, hts _ (gW_at h4 rfl)⟩
    rw [z3, e] at h5
    simp at h5
  rcases hi with ⟨hd, hs, a, as', rfl, hka⟩ | ⟨hd, hs, a, as', rfl⟩ | ⟨hd, hs⟩
  · simp only [side, Bool.and_eq_true] at hs
    obtain ⟨hs1, hs2, hs3⟩ := hs
    cases hw : mT w with
    | none => unfold insQ at hs2; rw [hw] at hs2; cases hs2
    | some r1 =>
      obtain ⟨hn, hlink⟩ := lMat r1 hw hs1
      have hwd := wrd_at hw hn
      unfold wrdOK at hwd
      simp only [Bool.and_eq_true, decide_eq_true_eq] at hwd
      unfold insQ at hs2
      rw [hw] at hs2
      simp only [Bool.and_eq_true, decide_eq_true_eq] at hs2
      unfold selQ at hs3
      rw [hw] at hs3
      have hsel := of_decide_eq_true hs3
      obtain ⟨⟨hcl, hpl, h20⟩, hne1, hne2⟩ := hd_at hw
      have hst : sta r1 = false := by
        unfold sta
        rw [decide_eq_false_iff_not, hs2.1]
        intro e
        have := Option.some.inj e
        omega
      rw [hst] at hwd
      have hn1 : as'.length = r1.2.1 - 1 := by
        have : (xR a :: as').length = r1.2.1 := by rw [hnp, npw r1 hw]
        simp only [List.length_cons] at this
        omega
      have hM := met_of (l := l) (ad := ad) (dC := dC) (dI := dI) (B := B) IH hex hw hl hok
      have hini : (Cond.initialized r1.1.1.cls).before args s = true := by rw [hcl]; exact hts _ (gW_at hwd.2.2 rfl)
      have hcb := callB_of (R := R) (rm := cRm d (μ1.2.2.2.1 - μ.2.2.2.1) (μ1.2.2.2.2.1 - μ.2.2.2.2.1)) (r1.2.1 - 1) hts (good_ws hw hn) rfl rfl rfl hini hlink ⟨hne1, hne2, hs2.1⟩ (roomOK r1 hw)
      have hcw : CallW R s args (cN (q / 100)) r1.1.1.cls idx r1.1.1 r1.1.2.1 r1.1.2.2.1 r1.1.2.2.2 (cWs r1) (cRm d (μ1.2.2.2.1 - μ.2.2.2.1) (μ1.2.2.2.2.1 - μ.2.2.2.2.1)) (μ1.2.2.2.1 - μ.2.2.2.1) (μ1.2.2.2.2.1 - μ.2.2.2.2.1) (r1.2.1 - 1) := ⟨hcb, hts _ (gW_at hwd.2.1 rfl), hts _ (gW_at hsel rfl)⟩
      obtain ⟨qq, g1, cell, z1, z2, z3, -⟩ := (cR_o hka).mp (h5.1 a)
      have hcls := (hK.1 (w / 100) qq g1).2
      have hcn := (u_ins (w / 100) qq g1).2.2
      have hrun := va_runV (e := ev) (As := as'.map (tv ad)) (rest := rest.map (tv ad)) (g := F0 m pc lsA (((xR a :: as').reverse ++ rest).map (tv ad))) (locs := locs) (below := below) (meth := meth) (b := ad a) (H := H) (cells := μ.2.2.2.1 - n0) (slots := μ.2.2.2.2.1 - s0) hS hM hcw ⟨hpre, ⟨cell, z1, by rw [z3]; rfl, by rw [hcl, ← hcn, z2]; exact hcls.1⟩, hpc⟩ rfl (by rw [List.length_map]; exact hn1) h1.1 (by simp [tv]) hcat hd hfit
      exact call_go hm1 hm2 hrun h1 h2 h3 h4r h6 h7 h8 k
  · simp only [side, Bool.and_eq_true, Bool.or_eq_true] at hs
    obtain ⟨hs1, hs2, hs3⟩ := hs
    cases hw : mT w with
    | none => unfold insQ at hs2; rw [hw] at hs2; cases hs2
    | some r1 =>
      unfold insQ at hs2
      rw [hw] at hs2
      simp only [Bool.and_eq_true, decide_eq_true_eq] at hs2
      unfold iniQ at hs3
      rw [hw] at hs3
      simp only [Bool.and_eq_true, decide_eq_true_eq] at hs3
      obtain ⟨hnm, hret⟩ := hs3
      obtain ⟨⟨hcl, hpl, h20⟩, hne1, hne2⟩ := hd_at hw
      have hst : sta r1 = false := by
        unfold sta
        rw [decide_eq_false_iff_not, hs2.1]
        intro e
        have := Option.some.inj e
        omega
      have hn1 : as'.length = r1.2.1 - 1 := by
        have : (xR a :: as').length = r1.2.1 := by rw [hnp, npw r1 hw]
        simp only [List.length_cons] at this
        omega
      have hM := met_of (l := l) (ad := ad) (dC := dC) (dI := dI) (B := B) IH hex hw hl hok
      have hws : cWs r1 = Cond.code r1.1.1 r1.1.2.1 r1.1.2.2.1 none :: gW := by unfold cWs; rw [hret]
      by_cases hA : lM.any (fun z => z.1 == q / 100 && (z.2.1 == idx && z.2.2.1 == w)) = true
      · obtain ⟨hn, hlink⟩ := lMat r1 hw hA
        have hwd := wrd_at hw hn
        unfold wrdOK at hwd
        simp only [Bool.and_eq_true, decide_eq_true_eq] at hwd
        rw [hst] at hwd
        have hini : (Cond.initialized r1.1.1.cls).before args s = true := by rw [hcl]; exact hts _ (gW_at hwd.2.2 rfl)
        have hcb := callB_of (R := R) (rm := cRm d (μ1.2.2.2.1 - μ.2.2.2.1) (μ1.2.2.2.2.1 - μ.2.2.2.2.1)) (r1.2.1 - 1) hts (good_ws hw hn) hws rfl rfl hini hlink ⟨hne1, hne2, hs2.1⟩ (roomOK r1 hw)
        have hrun := va_runI (e := ev) (As := as'.map (tv ad)) (rest := rest.map (tv ad)) (g := F0 m pc lsA (((xR a :: as').reverse ++ rest).map (tv ad))) (locs := locs) (below := below) (meth := meth) (b := ad a) (H := H) (cells := μ.2.2.2.1 - n0) (slots := μ.2.2.2.2.1 - s0) hS hM ⟨hcb, hnm, hts _ (gW_at hwd.2.1 rfl)⟩ ⟨hpre, hpc⟩ rfl (by rw [List.length_map]; exact hn1) h1.1 (by simp [tv]) hcat hd hfit
        exact call_go hm1 hm2 hrun h1 h2 h3 h4r h6 h7 h8 k
      · have hB : lV.any (fun z => z.1 == q / 100 && (z.2.1 == idx && z.2.2.1 == w)) = true := by
          rcases hs1 with h | h
          · exact absurd h hA
          · exact h
        obtain ⟨z, hz, hz2⟩ := List.any_eq_true.mp hB
        simp only [Bool.and_eq_true, beq_iff_eq] at hz2
        obtain ⟨z1, z2, z3⟩ := hz2
        have h9 := of_decide_eq_true (List.all_eq_true.mp lV_o z hz)
        have hn9 := List.all_eq_true.mp lV_no z hz
        have hn : w ≠ 1201 := fun e => by
          rw [z3, e] at hn9
          simp at hn9
        rw [z1, z2, z3, hw] at h9
        simp only [Option.bind_some] at h9
        have hin : Cond.methodLinkNest (cN (q / 100)) idx r1.1.1 "LightPlate" ∈ oW := by
          by_cases h : Cond.methodLinkNest (cN (q / 100)) idx r1.1.1 "LightPlate" ∈ oW
          · exact h
          · rw [if_neg h] at h9; cases h9
        have hlink : va_Nw (.methodLinkNest (cN (q / 100)) idx r1.1.1 "LightPlate") s := C.2.2.2.2.2.2.2.2.2.2 _ hin
        have hwd := wrd_at hw hn
        unfold wrdOK at hwd
        simp only [Bool.and_eq_true, decide_eq_true_eq] at hwd
        rw [hst] at hwd
        have hini : (Cond.initialized r1.1.1.cls).before args s = true := by rw [hcl]; exact hts _ (gW_at hwd.2.2 rfl)
        have hcb := va_cnB (R := R) (rm := cRm d (μ1.2.2.2.1 - μ.2.2.2.1) (μ1.2.2.2.2.1 - μ.2.2.2.2.1)) (r1.2.1 - 1) hts (good_ws hw hn) hws rfl rfl hlink hini ⟨hne1, hne2, hs2.1⟩ (roomOK r1 hw)
        have hrun := va_runIN (e := ev) (As := as'.map (tv ad)) (rest := rest.map (tv ad)) (g := F0 m pc lsA (((xR a :: as').reverse ++ rest).map (tv ad))) (locs := locs) (below := below) (meth := meth) (b := ad a) (H := H) (cells := μ.2.2.2.1 - n0) (slots := μ.2.2.2.2.1 - s0) hS hM ⟨hcb, hnm, hts _ (gW_at hwd.2.1 rfl)⟩ ⟨hpre, hpc⟩ rfl (by rw [List.length_map]; exact hn1) h1.1 (by simp [tv]) hcat hd hfit
        exact call_go hm1 hm2 hrun h1 h2 h3 h4r h6 h7 h8 k
  · simp only [side, Bool.and_eq_true] at hs
    obtain ⟨hs1, hs2⟩ := hs
    cases hw : mT w with
    | none => unfold staQ at hs2; rw [hw] at hs2; cases hs2
    | some r1 =>
      obtain ⟨hn, hlink⟩ := lMat r1 hw hs1
      have hwd := wrd_at hw hn
      unfold wrdOK at hwd
      simp only [Bool.and_eq_true, decide_eq_true_eq] at hwd
      unfold staQ at hs2
      rw [hw] at hs2
      have hst : sta r1 = true := hs2
      have hpar := of_decide_eq_true (show decide _ = true from hst)
      rw [hst] at hwd
      obtain ⟨⟨hcl, hpl, h20⟩, hne1, hne2⟩ := hd_at hw
      have hM := met_of (l := l) (ad := ad) (dC := dC) (dI := dI) (B := B) IH hex hw hl hok
      have hini : (Cond.initialized r1.1.1.cls).before args s = true := by rw [hcl]; exact hts _ (gW_at hwd.2.2 rfl)
      have hcb := callB_of (R := R) (rm := cRm d (μ1.2.2.2.1 - μ.2.2.2.1) (μ1.2.2.2.2.1 - μ.2.2.2.2.1)) r1.2.1 hts (good_ws hw hn) rfl rfl rfl hini hlink ⟨hne1, hne2, hpar⟩ (roomOK r1 hw)
      have hrun := va_runS (e := ev) (As := as.map (tv ad)) (rest := rest.map (tv ad)) (g := F0 m pc lsA ((as.reverse ++ rest).map (tv ad))) (locs := locs) (below := below) (meth := meth) (H := H) (cells := μ.2.2.2.1 - n0) (slots := μ.2.2.2.2.1 - s0) hS hM ⟨hcb, hts _ (gW_at hwd.2.1 rfl)⟩ ⟨hpre, hpc⟩ rfl (by rw [List.length_map, hnp, npw r1 hw]) h1.1 (by simp) hcat hd hfit
      exact call_go hm1 hm2 hrun h1 h2 h3 h4r h6 h7 h8 k
end XCall
theorem xs_np {i : Instr} {w : Nat} {as ls ls' st rest : List XV} {μ μ' : XM} (hx : xs i ls st μ = some (.inr (.inr (.inr (w, as, ls', rest, μ'))))) : as.length = nP w := by
  cases i
  case invokevirtual w0 =>
    obtain ⟨h0, h⟩ := if_inv hx
    revert h
    split
    · next a as' he =>
      intro h
      obtain ⟨hk, h⟩ := if_inv h
      cases h
      rw [← he, List.length_reverse, List.length_take]
      omega
    · intro h; cases h
  case invokespecial w0 =>
    obtain ⟨h0, h⟩ := if_inv hx
    revert h
    split
    · next a as' he =>
      intro h
      cases h
      rw [← he, List.length_reverse, List.length_take]
      omega
    · intro h; cases h
  case invokestatic w0 =>
    obtain ⟨h0, h⟩ := if_inv hx
    cases h
    rw [List.length_reverse, List.length_take]
    omega
  all_goals
    first
    | exact (no_some hx).elim
    | (revert hx
       simp only [xs, bI, bL, tI, tL, tA, ldI, ldL, ldA, st1, st2, br]
       repeat' split
       all_goals (intro hx; cases hx))
/-- SOUNDNESS -/
theorem sound : ∀ f, SD f := by
  intro f
  induction f with
  | zero => intro d q pc ls st μ v μ' h; cases h
  | succ f IH =>
    intro d q pc ls st μ v μ' hh p l ev R s m args below meth c Q ad dC dI B n0 s0 r C hR1 hR2 hR3 hR4 hK
    have h : xst (ex f) d q pc ls st μ = some (v, μ') := hh
    clear hh
    unfold xst at h
    cases hc : cd q pc with
    | none => rw [hc] at h; cases h
    | some w =>
      rw [hc] at h
      obtain ⟨i, len⟩ := w
      simp only at h
      cases hx : xs i ls st μ with
      | none => rw [hx] at h; cases h
      | some z =>
        rw [hx] at h
        rcases z with ⟨ls', st', μ2⟩ | ⟨t, ls', st', μ2⟩ | ⟨v2, μ2⟩ | ⟨w, as, ls', rest, μ2⟩
        · have hm := ex_mono f h
          simp only at hm
          exact xw_next C hc hx (by omega) (by omega) (by omega) (by omega) (IH d q (pc + len) ls' st' μ2 v μ' h p l ev R s m args below meth c Q ad dC dI B n0 s0 r C hR1 hR2 hR3 hR4 hK)
        · exact xw_go C hc hx (IH d q t ls' st' μ2 v μ' h p l ev R s m args below meth c Q ad dC dI B n0 s0 r C hR1 hR2 hR3 hR4 hK)
        · cases h
          obtain ⟨rfl, rfl, hret⟩ := xs_ret C.1 hc hx
          intro H locs lsA h1 h2 h3 h4 h5 h6 h7 h8
          exact hK pc lsA H locs hret (fun w hw => h4 w (by rw [hw]; exact List.mem_cons_self)) h5 h6 h7 h8
        · have hnp := xs_np hx
          obtain ⟨rfl, rfl, rfl, hrest, hl, hlen, idx, hi⟩ := xs_call C.1 hc hx
          try simp only at h
          cases d with
          | zero => cases h
          | succ d =>
            try simp only at h
            cases hk : ex f d w 0 (en w as) [] μ2 with
            | none => rw [hk] at h; cases h
            | some o =>
              rw [hk] at h
              obtain ⟨v1, μ1⟩ := o
              have hm := ex_mono f h
              simp only at hm
              subst hlen
              exact xw_call IH C hR1 hR2 (by omega) (by omega) hrest hl hi hnp hk (IH (d + 1) q (pc + 3) ls' (v1.toList ++ rest) μ1 v μ' h p l ev R s m args below meth c Q ad dC dI B n0 s0 r C hR1 hR2 hR3 hR4 hK)
