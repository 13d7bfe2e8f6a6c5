/-! 'multianewarray' of two dimensions over the machine itself: an array of rows of ints -/
def mu_out (cA : ClassId) (N h i : Nat) : Cell := arrV cA N (fun j => va_rf (if j < i then some (h + 1 + j) else none))
def mu_row (comp : ClassId) (K : Nat) : Cell := arrV comp K (fun _ => .int 0)
/-- the state behind i rounds of the machine's loop -/
def mu_st (T : State) (cA comp : ClassId) (N K : Nat) : Nat → State
  | 0 => T.pushCell (mu_out cA N T.heap.size 0)
  | i + 1 => ((mu_st T cA comp N K i).pushCell (mu_row comp K)).setCell T.heap.size (mu_out cA N T.heap.size (i + 1))
theorem mu_out_size (cA : ClassId) (N h i : Nat) : (mu_out cA N h i).slots.size = N := arrV_size _ _ _
theorem mu_row_size (comp : ClassId) (K : Nat) : (mu_row comp K).slots.size = K := arrV_size _ _ _
theorem mu_out_next (cA : ClassId) (N h i : Nat) : (mu_out cA N h i).setSlot i (.ref (h + 1 + i)) = mu_out cA N h (i + 1) := by
  unfold mu_out
  rw [arrV_store]
  refine congrArg (arrV cA N) (funext fun j => ?_)
  unfold updV
  by_cases e : j = i
  · subst e
    rw [if_pos rfl, if_pos (Nat.lt_succ_self j)]
    rfl
  · rw [if_neg e]
    show va_rf (if j < i then some (h + 1 + j) else none) = va_rf (if j < i + 1 then some (h + 1 + j) else none)
    by_cases h2 : j < i
    · rw [if_pos h2, if_pos (Nat.lt_succ_of_lt h2)]
    · rw [if_neg h2, if_neg (by omega)]
theorem mu_out_0 (cA : ClassId) (N h : Nat) : ({ cls := cA, slots := Array.replicate N .null, vm := .none } : Cell) = mu_out cA N h 0 := by
  rw [arrV_new]
  refine congrArg (arrV cA N) (funext fun j => ?_)
  rw [if_neg (Nat.not_lt_zero j)]
  rfl
section MuSt
variable (T : State) (cA comp : ClassId) (N K : Nat)
theorem mu_vm : ∀ i : Nat, (mu_st T cA comp N K i).vm = T.vm
  | 0 => rfl
  | i + 1 => mu_vm i
theorem mu_topJ : ∀ i : Nat, (mu_st T cA comp N K i).topJava? = T.topJava?
  | 0 => rfl
  | i + 1 => mu_topJ i
theorem mu_size : ∀ i : Nat, (mu_st T cA comp N K i).heap.size = T.heap.size + 1 + i
  | 0 => by
    show (T.heap.push _).size = _
    rw [Array.size_push]
  | i + 1 => by
    show (((mu_st T cA comp N K i).heap.push _).setIfInBounds _ _).size = _
    rw [Array.size_setIfInBounds, Array.size_push, mu_size i]
    rfl
theorem mu_used : ∀ i : Nat, (mu_st T cA comp N K i).slotsUsed = T.slotsUsed + N + i * K
  | 0 => by
    show T.slotsUsed + (mu_out cA N T.heap.size 0).slots.size = _
    rw [mu_out_size, Nat.zero_mul]
    rfl
  | i + 1 => by
    show (mu_st T cA comp N K i).slotsUsed + (mu_row comp K).slots.size = _
    rw [mu_row_size, mu_used i, Nat.succ_mul]
    omega
theorem mu_old {q : Nat} (hq : q < T.heap.size) : ∀ i : Nat, (mu_st T cA comp N K i).heap[q]? = T.heap[q]?
  | 0 => by
    show (T.heap.push _)[q]? = _
    rw [Array.getElem?_push, if_neg (Nat.ne_of_lt hq)]
  | i + 1 => by
    show (((mu_st T cA comp N K i).heap.push _).setIfInBounds T.heap.size _)[q]? = _
    rw [Array.getElem?_setIfInBounds, if_neg (by omega), Array.getElem?_push, if_neg (by rw [mu_size]; omega), mu_old hq i]
theorem mu_head : ∀ i : Nat, (mu_st T cA comp N K i).heap[T.heap.size]? = some (mu_out cA N T.heap.size i)
  | 0 => by
    show (T.heap.push _)[T.heap.size]? = _
    rw [Array.getElem?_push, if_pos rfl]
  | i + 1 => by
    show (((mu_st T cA comp N K i).heap.push _).setIfInBounds T.heap.size _)[T.heap.size]? = _
    rw [Array.getElem?_setIfInBounds, if_pos rfl, if_pos (by rw [Array.size_push, mu_size]; omega)]
theorem mu_rows {j : Nat} : ∀ i : Nat, j < i → (mu_st T cA comp N K i).heap[T.heap.size + 1 + j]? = some (mu_row comp K)
  | 0 => fun h => absurd h (Nat.not_lt_zero j)
  | i + 1 => fun h => by
    show (((mu_st T cA comp N K i).heap.push _).setIfInBounds T.heap.size _)[T.heap.size + 1 + j]? = _
    rw [Array.getElem?_setIfInBounds, if_neg (by omega), Array.getElem?_push]
    by_cases e : j = i
    · rw [if_pos (by rw [mu_size, e])]
    · rw [if_neg (by rw [mu_size]; omega)]
      exact mu_rows i (by omega)
theorem mu_setTop (f : JFrame) : ∀ i : Nat, mu_st (T.setTop f) cA comp N K i = (mu_st T cA comp N K i).setTop f
  | 0 => rfl
  | i + 1 => by
    show ((mu_st (T.setTop f) cA comp N K i).pushCell _).setCell T.heap.size (mu_out cA N T.heap.size (i + 1)) = _
    rw [mu_setTop f i]
    rfl
end MuSt
section MuWp
variable {E : CtlPost} {e : Env} {d : Bool} {acts : List Action} {S : State} {Q : Addr → Pre}
theorem mu_new {cl comp : ClassId} {n : Nat} {v : Value} {k : Class} {ty : FieldType} (hk : S.vm.classes[cl]? = some k) (hkind : k.kind = .array comp ty) (hv : fits ty v = true) (hl : n ≤ e.platform.arrayLengthLimit) (hh : n * componentBytes ty ≤ e.platform.maxHeapBytes) (h1 : S.heap.size < e.platform.maxCells) (h2 : S.slotsUsed + n ≤ e.platform.maxSlots) (hq : ∀ acts' : List Action, Q S.heap.size d acts' (S.pushCell { cls := cl, slots := Array.replicate n v, vm := .none })) : wp (Jvm.newArray cl n v) Q E e d acts S := by
  have h3 : ∀ (i : Nat) (x : Value), (Array.replicate n v)[i]? = some x → S.fitsSlot cl .none i x = true := by
    intro i x hx
    rw [Array.getElem?_replicate] at hx
    split at hx
    · cases hx
      simp [State.fitsSlot, State.slotType?, hk, hkind, hv]
    · cases hx
  have hl' : ¬ n > e.platform.arrayLengthLimit := by omega
  have hh' : ¬ n * componentBytes ty > e.platform.maxHeapBytes := by omega
  have hs' : ¬ n > e.platform.maxSlots := by omega
  simp only [Jvm.newArray, Jvm.arrayFits, wp_bind', W.ask, W.ite, hl', hh', hs', if_false, W.theClass, hk, Option.some.injEq, exists_eq_left', hkind, wp_pure', W.alloc, Array.size_replicate]
  exact ⟨h1, h2, h3, hq _⟩
theorem mu_make1 {comp c0 : ClassId} {k : Class} {kk : Int32} (hk : S.vm.classes[comp]? = some k) (hkind : k.kind = .array c0 .int) (hn : ¬ kk < 0) (hl : kk.toNatClampNeg ≤ e.platform.arrayLengthLimit) (hh : kk.toNatClampNeg * 4 ≤ e.platform.maxHeapBytes) (h1 : S.heap.size < e.platform.maxCells) (h2 : S.slotsUsed + kk.toNatClampNeg ≤ e.platform.maxSlots) (hq : ∀ acts' : List Action, Q S.heap.size d acts' (S.pushCell (mu_row comp kk.toNatClampNeg))) : wp (multianewarray.make comp [kk]) Q E e d acts S := by
  rw [multianewarray.make]
  simp only [wp_bind', W.ite, hn, if_false, wp_pure', W.theClass, hk, Option.some.injEq, exists_eq_left', hkind]
  refine mu_new hk hkind rfl hl hh h1 h2 (fun acts' => ?_)
  rw [arrV_new]
  exact hq acts'
theorem mu_make {cA comp c0 : ClassId} {kA k : Class} {nn kk : Int32} (hkA : S.vm.classes[cA]? = some kA) (hkindA : kA.kind = .array comp (.array .int)) (hk : S.vm.classes[comp]? = some k) (hkind : k.kind = .array c0 .int) (hn : ¬ nn < 0) (hkk : ¬ kk < 0) (hl : nn.toNatClampNeg ≤ e.platform.arrayLengthLimit) (hh : nn.toNatClampNeg * 4 ≤ e.platform.maxHeapBytes) (hl2 : kk.toNatClampNeg ≤ e.platform.arrayLengthLimit) (hh2 : kk.toNatClampNeg * 4 ≤ e.platform.maxHeapBytes) (h1 : S.heap.size + (1 + nn.toNatClampNeg) ≤ e.platform.maxCells) (h2 : S.slotsUsed + (nn.toNatClampNeg + nn.toNatClampNeg * kk.toNatClampNeg) ≤ e.platform.maxSlots) (hq : ∀ (d' : Bool) (acts' : List Action), Q S.heap.size d' acts' (mu_st S cA comp nn.toNatClampNeg kk.toNatClampNeg nn.toNatClampNeg)) : wp (multianewarray.make cA [nn, kk]) Q E e d acts S := by
  rw [multianewarray.make]
  simp only [wp_bind', W.ite, hn, if_false, wp_pure', W.theClass, hkA, Option.some.injEq, exists_eq_left', hkindA]
  refine mu_new hkA hkindA rfl hl hh (by omega) (by omega) (fun acts' => ?_)
  rw [mu_out_0 cA nn.toNatClampNeg S.heap.size]
  have hf : List.find? (fun x => decide (x < 0)) [kk] = none := by simp [hkk]
  simp only [hf, ite_self, wp_bind', Std.Legacy.Range.forIn_eq_forIn_range']
  generalize hN : nn.toNatClampNeg = N at *
  generalize hK : kk.toNatClampNeg = K at *
  refine wp_forIn_inv (fun rest S' => ∃ i : Nat, rest = List.range' i (N - i) ∧ i ≤ N ∧ S' = mu_st S cA comp N K i) _ _ ⟨0, by simp [Std.Legacy.Range.size], Nat.zero_le _, rfl⟩ (fun x rest S' d' acts'' Q' hI hQ' => ?_) (fun S' d' acts'' hI => ?_)
  · obtain ⟨i, hr, hi, hS⟩ := hI
    subst hS
    have hlt : i < N := by
      rcases Nat.lt_or_ge i N with h | h
      · exact h
      · rw [Nat.sub_eq_zero_of_le h] at hr
        cases hr
    rw [show N - i = (N - (i + 1)) + 1 by omega, List.range'_succ] at hr
    obtain ⟨rfl, rfl⟩ := List.cons.inj hr
    have hmul : x * K + K ≤ N * K := by
      have := Nat.mul_le_mul_right K (Nat.succ_le_of_lt hlt)
      rwa [Nat.succ_mul] at this
    have hsz := mu_size S cA comp N K x
    have hus := mu_used S cA comp N K x
    have hvm := mu_vm S cA comp N K x
    simp only [wp_bind', wp_pure']
    refine mu_make1 (by rw [hvm]; exact hk) hkind hkk (by rw [hK]; exact hl2) (by rw [hK]; exact hh2) (by rw [hsz]; omega) (by rw [hus, hK]; omega) (fun acts3 => ?_)
    rw [hK, wp_bind', W.writeLoc]
    refine ⟨mu_out cA N S.heap.size x, ?_, (fun h => by cases h), by rw [mu_out_size]; exact hlt, ?_, ?_⟩
    · show ((mu_st S cA comp N K x).heap.push _)[S.heap.size]? = _
      rw [Array.getElem?_push, if_neg (by rw [hsz]; omega)]
      exact mu_head S cA comp N K x
    · simp [State.fitsSlot, State.slotType?, hvm, hkA, hkindA, mu_out, arrV, fits]
    · refine hQ' _ _ _ ⟨x + 1, rfl, hlt, ?_⟩
      rw [hsz, mu_out_next]
      rfl
  · obtain ⟨i, hr, hi, hS⟩ := hI
    have he : i = N := by
      rcases Nat.lt_or_ge i N with h | h
      · rw [show N - i = (N - (i + 1)) + 1 by omega, List.range'_succ] at hr
        cases hr
      · omega
    rw [hS, he]
    exact hq d' acts''
end MuWp
theorem mu_over {args : Array Value} {s : State} (h : (Cond.arrayOver (.array .int)).before args s = true) : ∃ (comp cA : ClassId) (kA : Class), s.vm.findClass "[I" = some comp ∧ s.vm.findClass "[[I" = some cA ∧ s.vm.classes[cA]? = some kA ∧ kA.kind = .array comp (.array .int) := by
  simp only [Cond.before, Cond.holds, Cond.value, beq_iff_eq] at h
  obtain ⟨comp, h1, h⟩ := Option.bind_eq_some_iff.mp h
  obtain ⟨cA, h2, h⟩ := Option.bind_eq_some_iff.mp h
  obtain ⟨kA, h3, h⟩ := Option.map_eq_some_iff.mp h
  obtain ⟨hlt, hp, -⟩ := Array.findIdx?_eq_some_iff_getElem.mp h2
  have hkA : s.vm.classes[cA] = kA := (Array.getElem?_eq_some_iff.mp h3).2
  rw [hkA] at hp
  cases hkind : kA.kind with
  | array c1 ty =>
    rw [hkind] at h hp
    simp only [Bool.and_eq_true, decide_eq_true_eq, beq_iff_eq] at h hp
    obtain ⟨rfl, h5⟩ := h
    subst hp
    exact ⟨_, cA, kA, h1, h5, h3, hkind⟩
  | _ =>
    rw [hkind] at h
    exact absurd h (by simp)
section MuLaw
variable {p : Program} {l : Launch} {e : Env} {R : Room} {s : State} {m : MethodId} {args : Array Value} {below : List Frame} {meth : Method} {c : Code} {T : State} {locs : List Loc} {cells slots : Nat}
theorem mu_stand {cA comp : ClassId} {N K : Nat} (X : Stand p l e R s m args below meth c T locs cells slots) : ∀ i : Nat, Stand p l e R s m args below meth c (mu_st T cA comp N K i) locs (cells + 1 + i) (slots + N + i * K)
  | 0 => by
    have h := X.pushed (mu_out cA N T.heap.size 0)
    rw [mu_out_size] at h
    rw [Nat.zero_mul]
    exact h
  | i + 1 => by
    have Y := (mu_stand (cA := cA) (comp := comp) (N := N) (K := K) X i).pushed (mu_row comp K)
    rw [mu_row_size] at Y
    have hsz := mu_size T cA comp N K i
    have hc : ((mu_st T cA comp N K i).pushCell (mu_row comp K)).heap[T.heap.size]? = some (mu_out cA N T.heap.size i) := by
      show ((mu_st T cA comp N K i).heap.push _)[T.heap.size]? = _
      rw [Array.getElem?_push, if_neg (by rw [hsz]; omega)]
      exact mu_head T cA comp N K i
    have Z := Y.stored hc i (.ref (T.heap.size + 1 + i))
    rw [mu_out_next] at Z
    have hz : s.heap.size ≤ T.heap.size := X.same.2.1
    have V := Z.same.weaken (l' := locs) (fun x hx hb => by
      rcases List.mem_append.mp hx with h | h
      · exact h
      · rw [List.mem_singleton.mp h] at hb
        exact absurd hb (Nat.not_lt.mpr hz)) (Nat.le_refl _) (Nat.le_refl _)
    rw [show slots + N + (i + 1) * K = slots + N + i * K + K by rw [Nat.succ_mul]; omega]
    exact ⟨Z.admits, Z.cas, Z.clock, Z.frames, Z.room, Z.hears, Z.method, Z.code, Z.here, Z.tail, Z.warmed, Z.limits, Z.bytes, V⟩
theorem mu_sem {E : CtlPost} {d : Bool} {acts : List Action} {Q : Unit → Pre} {vm₁ : Vm} {index : Nat} {g : JFrame} {cA comp c0 : ClassId} {kA k : Class} {nn kk : Int32} {rest : List Value} (hs : T.topJava?.isSome) (hg : (Jvm.resolveClass g.method.cls index).Gives e.toSetting T.vm (.ok cA) vm₁) (hsz : vm₁.classes.size ≤ T.vm.classes.size) (hst : g.stack = .int kk :: .int nn :: rest) (hkA : vm₁.classes[cA]? = some kA) (hkindA : kA.kind = .array comp (.array .int)) (hk : vm₁.classes[comp]? = some k) (hkind : k.kind = .array c0 .int) (hn : ¬ nn < 0) (hkk : ¬ kk < 0) (hl : nn.toNatClampNeg ≤ e.platform.arrayLengthLimit) (hh : nn.toNatClampNeg * 4 ≤ e.platform.maxHeapBytes) (hl2 : kk.toNatClampNeg ≤ e.platform.arrayLengthLimit) (hh2 : kk.toNatClampNeg * 4 ≤ e.platform.maxHeapBytes) (h1 : T.heap.size + (1 + nn.toNatClampNeg) ≤ e.platform.maxCells) (h2 : T.slotsUsed + (nn.toNatClampNeg + nn.toNatClampNeg * kk.toNatClampNeg) ≤ e.platform.maxSlots)
    (hq : ∀ acts' : List Action, Q () true acts' ((mu_st (T.setVm vm₁) cA comp nn.toNatClampNeg kk.toNatClampNeg nn.toNatClampNeg).setTop { g with stack := .ref T.heap.size :: rest })) : wp (multianewarray.sem index 2) Q E e d acts (T.setTop g) := by
  simp only [multianewarray.sem, wp_bind']
  rw [W.resolveClassAt_links (t := T.setTop g) (State.method?_setTop g hs) hg hsz]
  simp only [popN, wp_bind', W.pop, wp_pure', State.setVm_setTop]
  have hs1 : (T.setVm vm₁).topJava?.isSome := hs
  refine ⟨g, State.topJava?_setTop' _ hs1, .int kk, .int nn :: rest, hst, { g with stack := .int nn :: rest }, by rw [State.setTop_setTop]; exact State.topJava?_setTop' _ hs1, .int nn, rest, rfl, ?_⟩
  simp only [List.nil_append, List.cons_append, List.mapM_cons, List.mapM_nil, wp_bind', wp_pure', State.setTop_setTop]
  refine mu_make (S := (T.setVm vm₁).setTop { g with stack := rest }) hkA hkindA hk hkind hn hkk hl hh hl2 hh2 h1 h2 (fun d' acts' => ?_)
  have ht : (mu_st (T.setVm vm₁) cA comp nn.toNatClampNeg kk.toNatClampNeg nn.toNatClampNeg).topJava?.isSome := by rw [mu_topJ]; exact hs
  simp only [W.mark, W.pushRef, mu_setTop]
  refine ⟨{ g with stack := rest }, State.topJava?_setTop' _ ht, ?_⟩
  rw [State.setTop_setTop]
  exact hq acts'
theorem mu_law {own : String} {index : Nat} {g : JFrame} {nn kk : Int32} {rest : List Value} (X : Stand p l e R s m args below meth c T locs cells slots) (hexec : p.tables.exec = Jvm.exec) (hown : s.vm.findClass own = some m.cls) (hlink : (Cond.classLink own index "[[I").before args s = true) (hover : (Cond.arrayOver (.array .int)).before args s = true) (harr : (Cond.arrayClass .int).before args s = true) (hg : g.method = m) (hd : decode c.code g.pc = .ok (.multianewarray index 2, 4)) (hst : g.stack = .int kk :: .int nn :: rest) (hn : ¬ nn < 0) (hkk : ¬ kk < 0) (b1 : nn.toNatClampNeg * 4 ≤ 536870912) (b2 : kk.toNatClampNeg * 4 ≤ 536870912) (hc : cells + (1 + nn.toNatClampNeg) ≤ R.cells) (hs : slots + (nn.toNatClampNeg + nn.toNatClampNeg * kk.toNatClampNeg) ≤ R.slots) :
    ∃ (vm₁ : Vm) (cA comp : ClassId), ArrOfT s cA (.array .int) ∧ ArrOfT s comp .int ∧ Stand p l e R s m args below meth c (mu_st (T.setVm vm₁) cA comp nn.toNatClampNeg kk.toNatClampNeg nn.toNatClampNeg) locs (cells + 1 + nn.toNatClampNeg) (slots + nn.toNatClampNeg + nn.toNatClampNeg * kk.toNatClampNeg) ∧
      ∀ target, Steps p.tables e below ((mu_st (T.setVm vm₁) cA comp nn.toNatClampNeg kk.toNatClampNeg nn.toNatClampNeg).setTop { g with pc := g.pc + 4, stack := .ref T.heap.size :: rest }) target → Steps p.tables e below (T.setTop g) target := by
  subst hg
  have hpl : e.platform.magicAccessors = ({} : Platform).magicAccessors := by rw [X.admits.platform]
  obtain ⟨comp, cA, kA, f1, f2, hkA, hkindA⟩ := mu_over hover
  obtain ⟨comp2, k, c0, f3, hk, hkind⟩ := Cond.arrayClass_spec harr
  obtain rfl : comp = comp2 := Option.some.inj (f1.symm.trans f3)
  obtain ⟨cc, f4, hcl⟩ := Cond.classLink_spec hown hlink e.platform hpl
  obtain rfl : cA = cc := Option.some.inj (f2.symm.trans f4)
  obtain ⟨hgv, hwarm, -⟩ := State.classEntry (e := e) X.warmed hcl
  have hsz : (T.vm.noted g.method.cls index (.cls cA)).classes.size ≤ T.vm.classes.size := by no_record
  generalize T.vm.noted g.method.cls index (.cls cA) = vm₁ at hgv hwarm hsz
  have hal : s.vm.Alike vm₁ := hwarm.alike
  obtain ⟨kA₁, hkA₁, eA⟩ := hal.2.2 _ _ hkA
  obtain ⟨k₁, hk₁, ek⟩ := hal.2.2 _ _ hk
  have hkindA₁ : kA₁.kind = .array comp (.array .int) := by rw [eA]; exact hkindA
  have hkind₁ : k₁.kind = .array c0 .int := by rw [ek]; exact hkind
  have hlim := Launch.admits_arrayLengthLimit X.admits
  have hmax := Launch.admits_maxHeapBytes X.admits
  obtain ⟨hr1, hr2⟩ := X.roomAbove hc hs
  refine ⟨vm₁, cA, comp, (fun N9 z9 => ⟨(fun q hq => by cases hq), kA, hkA, comp, hkindA⟩), (fun N9 z9 => ⟨(fun q hq => by cases hq), k, hk, c0, hkind⟩), mu_stand (X.noted hwarm) _, fun target hrest => ?_⟩
  jvm_step X.here [hexec, hd]
  refine mu_sem X.here.top hgv hsz hst hkA₁ hkindA₁ hk₁ hkind₁ hn hkk (by omega) (by omega) (by omega) (by omega) hr1 hr2 (fun acts' acts2 => ?_)
  rw [afterInstr_ok]
  exact hrest
end MuLaw
