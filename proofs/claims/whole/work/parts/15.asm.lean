/-! ALL STEPS together -/
theorem no_some {z : XR} (h : (none : Option XR) = some z) : False := by cases h
theorem lC_at {own idx : Nat} {ci : Nat} {args : Array Value} {s : State} (hts : ∀ w ∈ gW, w.before args s = true) (h : lC.any (fun w => w.1 == own && (w.2.1 == idx && w.2.2.1 == ci)) = true) : (Cond.classLink (cN own) idx (cN ci)).before args s = true := by
  obtain ⟨w, hw, h1⟩ := List.any_eq_true.mp h
  simp only [Bool.and_eq_true, beq_iff_eq] at h1
  obtain ⟨rfl, rfl, rfl⟩ := h1
  have h2 := List.all_eq_true.mp lC_ok w hw
  exact hts _ (gW_at (of_decide_eq_true h2) rfl)
theorem lL_at {own idx : Nat} {v : Int} {args : Array Value} {s : State} (hts : ∀ w ∈ gW, w.before args s = true) (h : lL.any (fun w => w.1 == own && (w.2.1 == idx && w.2.2.1 == v)) = true) : (Cond.constantLong (cN own) idx (Int64.ofInt v)).before args s = true := by
  obtain ⟨w, hw, h1⟩ := List.any_eq_true.mp h
  simp only [Bool.and_eq_true, beq_iff_eq] at h1
  obtain ⟨rfl, rfl, rfl⟩ := h1
  have h2 := List.all_eq_true.mp lL_ok w hw
  exact hts _ (gW_at (of_decide_eq_true h2) rfl)
theorem lO_at {own idx : Nat} {args : Array Value} {s : State} (hts : ∀ w ∈ gW, w.before args s = true) (h : lO.any (fun w => w.1 == own && w.2.1 == idx) = true) : (Cond.methodLink (cN own) idx Lib.objectInit).before args s = true := by
  obtain ⟨w, hw, h1⟩ := List.any_eq_true.mp h
  simp only [Bool.and_eq_true, beq_iff_eq] at h1
  obtain ⟨rfl, rfl⟩ := h1
  have h2 := List.all_eq_true.mp lO_ok w hw
  exact hts _ (gW_at (of_decide_eq_true h2) rfl)
theorem lY_at {own idx : Nat} {args : Array Value} {s : State} (hts : ∀ w ∈ gW, w.before args s = true) (h : lY.any (fun w => w.1 == own && w.2.1 == idx) = true) : (Cond.methodLink (cN own) idx arraycopyName).before args s = true := by
  obtain ⟨w, hw, h1⟩ := List.any_eq_true.mp h
  simp only [Bool.and_eq_true, beq_iff_eq] at h1
  obtain ⟨rfl, rfl⟩ := h1
  have h2 := List.all_eq_true.mp lY_ok w hw
  exact hts _ (gW_at (of_decide_eq_true h2) rfl)
theorem lW_at {own idx : Nat} {args : Array Value} {s : State} (hts : ∀ w ∈ gW, w.before args s = true) (h : lW.any (fun w => w.1 == own && w.2.1 == idx) = true) : (Cond.classLink (cN own) idx "[[I").before args s = true := by
  obtain ⟨w, hw, h1⟩ := List.any_eq_true.mp h
  simp only [Bool.and_eq_true, beq_iff_eq] at h1
  obtain ⟨rfl, rfl⟩ := h1
  have h2 := List.all_eq_true.mp lW_ok w hw
  exact hts _ (gW_at (of_decide_eq_true h2) rfl)
theorem lkp_off (pc : Int) : ∀ (ps : List (Int × Int)) (d x : Int), Op.lookupswitch.offset (ps.map fun q => (q.1, q.2 - pc)) (d - pc) x = lkp ps d x - pc
  | [], d, x => rfl
  | q :: ps, d, x => by
    show (if q.1 = x then q.2 - pc else Op.lookupswitch.offset (ps.map fun q => (q.1, q.2 - pc)) (d - pc) x) = (if x = q.1 then q.2 else lkp ps d x) - pc
    rw [lkp_off pc ps d x]
    by_cases h : q.1 = x
    · rw [if_pos h, if_pos h.symm]
    · rw [if_neg h, if_neg (fun z => h z.symm)]
theorem lkp_pos : ∀ (ps : List (Int × Int)) (d x : Int), 0 ≤ d → (ps.all fun q => decide (0 ≤ q.2)) = true → 0 ≤ lkp ps d x
  | [], d, x, h, _ => h
  | q :: ps, d, x, h, ha => by
    simp only [List.all_cons, Bool.and_eq_true, decide_eq_true_eq] at ha
    unfold lkp
    split
    · exact ha.1
    · exact lkp_pos ps d x h ha.2
section XAsm
variable {p : Program} {l : Launch} {e : Env} {R : Room} {s : State} {m : MethodId} {args : Array Value} {below : List Frame} {meth : Method} {c : Code} {Q : State → Prop} {ad : Nat → Nat} {dC : Nat → ClassId} {dI : Nat → Nat → Nat} {B n0 s0 : Nat} {q : Nat} {r : MR} {pc : Nat} {ls st : List XV} {μ : XM}
theorem xw_next {i : Instr} {len : Nat} {ls' st' : List XV} {μ' : XM} (C : XC p s m args meth c dC dI q r) (hc : cd q pc = some (i, len)) (hx : xs i ls st μ = some (.inl (ls', st', μ'))) (hf : 1 ≤ R.frames) (hlo : 100 ≤ R.locals) (hcell : μ'.2.2.2.1 - n0 ≤ R.cells) (hslot : μ'.2.2.2.2.1 - s0 ≤ R.slots) (k : XW p l e R s m args below meth c Q ad dC dI B n0 s0 (pc + len) ls' st' μ') : XW p l e R s m args below meth c Q ad dC dI B n0 s0 pc ls st μ := by
  obtain ⟨idx, hd, hlen, hs⟩ := cd_row C.1 hc
  cases i
  case iconst n =>
    have hl9 : len = 1 := hlen
    subst hl9
    have hn := of_decide_eq_true hs
    obtain ⟨rfl, rfl, rfl⟩ := rN_inj hx
    exact xw_iconst C hd hn k
  case bipush n =>
    have hl9 : len = 2 := hlen
    subst hl9
    have hn := of_decide_eq_true hs
    obtain ⟨rfl, rfl, rfl⟩ := rN_inj hx
    exact xw_bipush C hd hn k
  case sipush n =>
    have hl9 : len = 3 := hlen
    subst hl9
    have hn := of_decide_eq_true hs
    obtain ⟨rfl, rfl, rfl⟩ := rN_inj hx
    exact xw_sipush C hd hn k
  case lconst n =>
    have hl9 : len = 1 := hlen
    subst hl9
    obtain ⟨rfl, rfl, rfl⟩ := rN_inj hx
    exact xw_lconst C hd k
  case jsr_w v =>
    have hl9 : len = 3 := hlen
    subst hl9
    simp only [side, Bool.and_eq_true, decide_eq_true_eq] at hs
    obtain ⟨rfl, rfl, rfl⟩ := rN_inj hx
    exact xw_ldc2 C hd hs.2 (lL_at C.2.2.2.2.2.2.1 hs.1) k
  case iload_n k0 =>
    have hl9 : len = 1 := hlen
    subst hl9
    obtain ⟨x, h0, h⟩ := ldI_inv hx
    obtain ⟨rfl, rfl, rfl⟩ := rN_inj h
    exact xw_iload_n C hd h0 k
  case iload k0 =>
    have hl9 : len = 2 := hlen
    subst hl9
    obtain ⟨x, h0, h⟩ := ldI_inv hx
    obtain ⟨rfl, rfl, rfl⟩ := rN_inj h
    exact xw_iload C hd h0 k
  case lload_n k0 =>
    have hl9 : len = 1 := hlen
    subst hl9
    obtain ⟨x, h0, h⟩ := ldL_inv hx
    obtain ⟨rfl, rfl, rfl⟩ := rN_inj h
    exact xw_lload_n C hd h0 k
  case lload k0 =>
    have hl9 : len = 2 := hlen
    subst hl9
    obtain ⟨x, h0, h⟩ := ldL_inv hx
    obtain ⟨rfl, rfl, rfl⟩ := rN_inj h
    exact xw_lload C hd h0 k
  case aload_n k0 =>
    have hl9 : len = 1 := hlen
    subst hl9
    obtain ⟨x, h0, h⟩ := ldA_inv hx
    obtain ⟨rfl, rfl, rfl⟩ := rN_inj h
    exact xw_aload_n C hd h0 k
  case aload k0 =>
    have hl9 : len = 2 := hlen
    subst hl9
    obtain ⟨x, h0, h⟩ := ldA_inv hx
    obtain ⟨rfl, rfl, rfl⟩ := rN_inj h
    exact xw_aload C hd h0 k
  case istore_n k0 =>
    have hl9 : len = 1 := hlen
    subst hl9
    obtain ⟨x, s1, e1, h⟩ := tI_inv hx
    obtain ⟨g1, g2, h⟩ := st1_inv h
    obtain ⟨rfl, rfl, rfl⟩ := rN_inj h
    subst e1
    exact xw_istore_n C hd g1 g2 k
  case istore k0 =>
    have hl9 : len = 2 := hlen
    subst hl9
    obtain ⟨x, s1, e1, h⟩ := tI_inv hx
    obtain ⟨g1, g2, h⟩ := st1_inv h
    obtain ⟨rfl, rfl, rfl⟩ := rN_inj h
    subst e1
    exact xw_istore C hd g1 g2 k
  case astore_n k0 =>
    have hl9 : len = 1 := hlen
    subst hl9
    obtain ⟨x, s1, e1, h⟩ := tA_inv hx
    obtain ⟨g1, g2, h⟩ := st1_inv h
    obtain ⟨rfl, rfl, rfl⟩ := rN_inj h
    subst e1
    exact xw_astore_n C hd g1 g2 k
  case astore k0 =>
    have hl9 : len = 2 := hlen
    subst hl9
    obtain ⟨x, s1, e1, h⟩ := tA_inv hx
    obtain ⟨g1, g2, h⟩ := st1_inv h
    obtain ⟨rfl, rfl, rfl⟩ := rN_inj h
    subst e1
    exact xw_astore C hd g1 g2 k
  case lstore_n k0 =>
    have hl9 : len = 1 := hlen
    subst hl9
    obtain ⟨x, s1, e1, h⟩ := tL_inv hx
    obtain ⟨g1, g2, h⟩ := st2_inv h
    obtain ⟨rfl, rfl, rfl⟩ := rN_inj h
    subst e1
    exact xw_lstore_n C hd g1 g2 k
  case lstore k0 =>
    have hl9 : len = 2 := hlen
    subst hl9
    obtain ⟨x, s1, e1, h⟩ := tL_inv hx
    obtain ⟨g1, g2, h⟩ := st2_inv h
    obtain ⟨rfl, rfl, rfl⟩ := rN_inj h
    subst e1
    exact xw_lstore C hd g1 g2 k
  case iinc k0 n =>
    have hl9 : len = 3 := hlen
    subst hl9
    obtain ⟨x, h0, h⟩ := ldI_inv hx
    obtain ⟨hr, h⟩ := if_inv h
    obtain ⟨g1, g2, h⟩ := st1_inv h
    obtain ⟨rfl, rfl, rfl⟩ := rN_inj h
    exact xw_iinc C hd h0 hr g1 g2 k
  case iadd =>
    have hl9 : len = 1 := hlen
    subst hl9
    obtain ⟨x, y, s1, e1, h⟩ := bI_inv hx
    obtain ⟨hr, h⟩ := if_inv h
    obtain ⟨rfl, rfl, rfl⟩ := rN_inj h
    subst e1
    exact xw_iadd C hd hr k
  case isub =>
    have hl9 : len = 1 := hlen
    subst hl9
    obtain ⟨x, y, s1, e1, h⟩ := bI_inv hx
    obtain ⟨hr, h⟩ := if_inv h
    obtain ⟨rfl, rfl, rfl⟩ := rN_inj h
    subst e1
    exact xw_isub C hd hr k
  case imul =>
    have hl9 : len = 1 := hlen
    subst hl9
    obtain ⟨x, y, s1, e1, h⟩ := bI_inv hx
    obtain ⟨hr, h⟩ := if_inv h
    obtain ⟨rfl, rfl, rfl⟩ := rN_inj h
    subst e1
    exact xw_imul C hd hr k
  case idiv =>
    have hl9 : len = 1 := hlen
    subst hl9
    obtain ⟨x, y, s1, e1, h⟩ := bI_inv hx
    obtain ⟨hr, h⟩ := if_inv h
    obtain ⟨rfl, rfl, rfl⟩ := rN_inj h
    subst e1
    exact xw_idiv C hd hr k
  case irem =>
    have hl9 : len = 1 := hlen
    subst hl9
    obtain ⟨x, y, s1, e1, h⟩ := bI_inv hx
    obtain ⟨hr, h⟩ := if_inv h
    obtain ⟨rfl, rfl, rfl⟩ := rN_inj h
    subst e1
    exact xw_irem C hd hr k
  case iand =>
    have hl9 : len = 1 := hlen
    subst hl9
    obtain ⟨x, y, s1, e1, h⟩ := bI_inv hx
    obtain ⟨rfl, rfl, rfl⟩ := rN_inj h
    subst e1
    exact xw_iand C hd k
  case ior =>
    have hl9 : len = 1 := hlen
    subst hl9
    obtain ⟨x, y, s1, e1, h⟩ := bI_inv hx
    obtain ⟨rfl, rfl, rfl⟩ := rN_inj h
    subst e1
    exact xw_ior C hd k
  case ixor =>
    have hl9 : len = 1 := hlen
    subst hl9
    obtain ⟨x, y, s1, e1, h⟩ := bI_inv hx
    obtain ⟨rfl, rfl, rfl⟩ := rN_inj h
    subst e1
    exact xw_ixor C hd k
  case ishl =>
    have hl9 : len = 1 := hlen
    subst hl9
    obtain ⟨x, y, s1, e1, h⟩ := bI_inv hx
    obtain ⟨rfl, rfl, rfl⟩ := rN_inj h
    subst e1
    exact xw_ishl C hd k
  case ishr =>
    have hl9 : len = 1 := hlen
    subst hl9
    obtain ⟨x, y, s1, e1, h⟩ := bI_inv hx
    obtain ⟨rfl, rfl, rfl⟩ := rN_inj h
    subst e1
    exact xw_ishr C hd k
  case lmul =>
    have hl9 : len = 1 := hlen
    subst hl9
    obtain ⟨x, y, s1, e1, h⟩ := bL_inv hx
    obtain ⟨hr, h⟩ := if_inv h
    obtain ⟨rfl, rfl, rfl⟩ := rN_inj h
    subst e1
    exact xw_lmul C hd hr k
  case ldiv =>
    have hl9 : len = 1 := hlen
    subst hl9
    obtain ⟨x, y, s1, e1, h⟩ := bL_inv hx
    obtain ⟨hr, h⟩ := if_inv h
    obtain ⟨rfl, rfl, rfl⟩ := rN_inj h
    subst e1
    exact xw_ldiv C hd hr k
  case lrem =>
    have hl9 : len = 1 := hlen
    subst hl9
    obtain ⟨x, y, s1, e1, h⟩ := bL_inv hx
    obtain ⟨hr, h⟩ := if_inv h
    obtain ⟨rfl, rfl, rfl⟩ := rN_inj h
    subst e1
    exact xw_lrem C hd hr k
  case land =>
    have hl9 : len = 1 := hlen
    subst hl9
    obtain ⟨x, y, s1, e1, h⟩ := bL_inv hx
    obtain ⟨rfl, rfl, rfl⟩ := rN_inj h
    subst e1
    exact xw_land C hd k
  case lor =>
    have hl9 : len = 1 := hlen
    subst hl9
    obtain ⟨x, y, s1, e1, h⟩ := bL_inv hx
    obtain ⟨rfl, rfl, rfl⟩ := rN_inj h
    subst e1
    exact xw_lor C hd k
  case lcmp =>
    have hl9 : len = 1 := hlen
    subst hl9
    obtain ⟨x, y, s1, e1, h⟩ := bL_inv hx
    obtain ⟨rfl, rfl, rfl⟩ := rN_inj h
    subst e1
    exact xw_lcmp C hd k
  case lshl =>
    have hl9 : len = 1 := hlen
    subst hl9
    obtain ⟨y, s1, e1, h⟩ := tI_inv hx
    obtain ⟨x, s2, e2, h⟩ := tL_inv h
    obtain ⟨rfl, rfl, rfl⟩ := rN_inj h
    subst e2
    subst e1
    exact xw_lshl C hd k
  case lshr =>
    have hl9 : len = 1 := hlen
    subst hl9
    obtain ⟨y, s1, e1, h⟩ := tI_inv hx
    obtain ⟨x, s2, e2, h⟩ := tL_inv h
    obtain ⟨rfl, rfl, rfl⟩ := rN_inj h
    subst e2
    subst e1
    exact xw_lshr C hd k
  case lushr =>
    have hl9 : len = 1 := hlen
    subst hl9
    obtain ⟨y, s1, e1, h⟩ := tI_inv hx
    obtain ⟨x, s2, e2, h⟩ := tL_inv h
    obtain ⟨rfl, rfl, rfl⟩ := rN_inj h
    subst e2
    subst e1
    exact xw_lushr C hd k
  case ineg =>
    have hl9 : len = 1 := hlen
    subst hl9
    obtain ⟨x, s1, e1, h⟩ := tI_inv hx
    obtain ⟨hr, h⟩ := if_inv h
    obtain ⟨rfl, rfl, rfl⟩ := rN_inj h
    subst e1
    exact xw_ineg C hd hr k
  case i2l =>
    have hl9 : len = 1 := hlen
    subst hl9
    obtain ⟨x, s1, e1, h⟩ := tI_inv hx
    obtain ⟨rfl, rfl, rfl⟩ := rN_inj h
    subst e1
    exact xw_i2l C hd k
  case l2i =>
    have hl9 : len = 1 := hlen
    subst hl9
    obtain ⟨x, s1, e1, h⟩ := tL_inv hx
    obtain ⟨rfl, rfl, rfl⟩ := rN_inj h
    subst e1
    exact xw_l2i C hd k
  case dup =>
    have hl9 : len = 1 := hlen
    subst hl9
    match st, hx with
    | v :: s1, hx =>
      obtain ⟨hv, h⟩ := if_inv hx
      obtain ⟨rfl, rfl, rfl⟩ := rN_inj h
      exact xw_dup C hd hv k
  case dup_x1 =>
    have hl9 : len = 1 := hlen
    subst hl9
    match st, hx with
    | v :: u :: s1, hx =>
      obtain ⟨hv, h⟩ := if_inv hx
      rw [Bool.and_eq_true] at hv
      obtain ⟨rfl, rfl, rfl⟩ := rN_inj h
      exact xw_dup_x1 C hd hv.1 hv.2 k
  case dup2 =>
    have hl9 : len = 1 := hlen
    subst hl9
    match st, hx with
    | v :: u :: s1, hx =>
      obtain ⟨hv, h⟩ := if_inv hx
      rw [Bool.and_eq_true] at hv
      obtain ⟨rfl, rfl, rfl⟩ := rN_inj h
      exact xw_dup2 C hd hv.1 hv.2 k
  case ifCond cnd t =>
    have hl9 : len = 3 := hlen
    subst hl9
    have ht0 := of_decide_eq_true hs
    obtain ⟨x, s1, e1, h⟩ := tI_inv hx
    rcases br_spec h with ⟨-, h⟩ | ⟨hn, h⟩
    · cases h
    · obtain ⟨rfl, rfl, rfl⟩ := rN_inj h
      subst e1
      exact xw_if (t := t.toNat) C hd (by omega) (fun z => absurd z hn) (fun _ => k)
  case if_icmp cnd t =>
    have hl9 : len = 3 := hlen
    subst hl9
    have ht0 := of_decide_eq_true hs
    obtain ⟨x, y, s1, e1, h⟩ := bI_inv hx
    rcases br_spec h with ⟨-, h⟩ | ⟨hn, h⟩
    · cases h
    · obtain ⟨rfl, rfl, rfl⟩ := rN_inj h
      subst e1
      exact xw_icmp (t := t.toNat) C hd (by omega) (fun z => absurd z hn) (fun _ => k)
  case arraylength =>
    have hl9 : len = 1 := hlen
    subst hl9
    obtain ⟨a, s1, e1, h⟩ := tA_inv hx
    obtain ⟨hk, h⟩ := if_inv h
    obtain ⟨rfl, rfl, rfl⟩ := rN_inj h
    subst e1
    exact xw_alen C hd hk.1 hk.2 k
  case iaload =>
    have hl9 : len = 1 := hlen
    subst hl9
    obtain ⟨j, s1, e1, h⟩ := tI_inv hx
    obtain ⟨a, s2, e2, h⟩ := tA_inv h
    obtain ⟨hk, h⟩ := if_inv h
    obtain ⟨rfl, rfl, rfl⟩ := rN_inj h
    subst e2
    subst e1
    rcases hk.1 with e9 | e9
    · exact xw_iald C hd e9 hk.2.1 hk.2.2 k
    · exact xw_sald C hd e9 hk.2.1 hk.2.2 k
  case baload =>
    have hl9 : len = 1 := hlen
    subst hl9
    obtain ⟨j, s1, e1, h⟩ := tI_inv hx
    obtain ⟨a, s2, e2, h⟩ := tA_inv h
    obtain ⟨hk, h⟩ := if_inv h
    obtain ⟨rfl, rfl, rfl⟩ := rN_inj h
    subst e2
    subst e1
    exact xw_zald C hd hk.1 hk.2.1 hk.2.2 k
  case laload =>
    have hl9 : len = 1 := hlen
    subst hl9
    obtain ⟨j, s1, e1, h⟩ := tI_inv hx
    obtain ⟨a, s2, e2, h⟩ := tA_inv h
    obtain ⟨hk, h⟩ := if_inv h
    obtain ⟨rfl, rfl, rfl⟩ := rN_inj h
    subst e2
    subst e1
    exact xw_lald C hd hk.1 hk.2.1 hk.2.2 k
  case aaload =>
    have hl9 : len = 1 := hlen
    subst hl9
    obtain ⟨j, s1, e1, h⟩ := tI_inv hx
    obtain ⟨a, s2, e2, h⟩ := tA_inv h
    obtain ⟨hk, h⟩ := if_inv h
    cases hb : μ.2.2.1 a j with
    | none => rw [hb] at h; cases h
    | some b =>
      rw [hb] at h
      obtain ⟨rfl, rfl, rfl⟩ := rN_inj h
      subst e2
      subst e1
      rcases hk.1 with e9 | e9
      · exact xw_aald4 C hd e9 hk.2.1 hk.2.2 hb k
      · exact xw_aald5 C hd e9 hk.2.1 hk.2.2 hb k
  case iastore =>
    have hl9 : len = 1 := hlen
    subst hl9
    obtain ⟨x, s1, e1, h⟩ := tI_inv hx
    obtain ⟨j, s2, e2, h⟩ := tI_inv h
    obtain ⟨a, s3, e3, h⟩ := tA_inv h
    obtain ⟨hk, h⟩ := if_inv h
    obtain ⟨rfl, rfl, rfl⟩ := rN_inj h
    subst e3
    subst e2
    subst e1
    exact xw_iast C hd hk.1 hk.2.1 hk.2.2 k
  case bastore =>
    have hl9 : len = 1 := hlen
    subst hl9
    obtain ⟨x, s1, e1, h⟩ := tI_inv hx
    obtain ⟨j, s2, e2, h⟩ := tI_inv h
    obtain ⟨a, s3, e3, h⟩ := tA_inv h
    obtain ⟨hk, h⟩ := if_inv h
    obtain ⟨rfl, rfl, rfl⟩ := rN_inj h
    subst e3
    subst e2
    subst e1
    exact xw_zast C hd hk.1.1 hk.1.2 hk.2.1 hk.2.2 k
  case lastore =>
    have hl9 : len = 1 := hlen
    subst hl9
    obtain ⟨x, s1, e1, h⟩ := tL_inv hx
    obtain ⟨j, s2, e2, h⟩ := tI_inv h
    obtain ⟨a, s3, e3, h⟩ := tA_inv h
    obtain ⟨hk, h⟩ := if_inv h
    obtain ⟨rfl, rfl, rfl⟩ := rN_inj h
    subst e3
    subst e2
    subst e1
    exact xw_last C hd hk.1 hk.2.1 hk.2.2 k
  case aastore =>
    have hl9 : len = 1 := hlen
    subst hl9
    obtain ⟨x, s1, e1, h⟩ := tA_inv hx
    obtain ⟨j, s2, e2, h⟩ := tI_inv h
    obtain ⟨a, s3, e3, h⟩ := tA_inv h
    obtain ⟨hk, h⟩ := if_inv h
    obtain ⟨rfl, rfl, rfl⟩ := rN_inj h
    subst e3
    subst e2
    subst e1
    exact xw_aast C hd hk.1.1 hk.1.2 hk.2.1 hk.2.2 k
  case getfield w =>
    have hl9 : len = 3 := hlen
    subst hl9
    simp only [side, Bool.and_eq_true, decide_eq_true_eq] at hs
    obtain ⟨a, s1, e1, h⟩ := tA_inv hx
    obtain ⟨hk, h⟩ := if_inv h
    subst e1
    have hlk := lF_at C.2.2.2.2.2.2.1 hs.1
    by_cases t0 : fT (w / 100) (w % 100) = 0 ∨ fT (w / 100) (w % 100) = 1
    · rw [if_pos t0] at h
      obtain ⟨rfl, rfl, rfl⟩ := rN_inj h
      rcases t0 with t0 | t0
      · exact xw_getI C hd hk hs.2.1 hlk t0 k
      · exact xw_getZ C hd hk hs.2.1 hlk t0 k
    · rw [if_neg t0] at h
      by_cases t2 : fT (w / 100) (w % 100) = 2
      · rw [if_pos t2] at h
        obtain ⟨rfl, rfl, rfl⟩ := rN_inj h
        exact xw_getL C hd hk hs.2.1 hlk t2 k
      · rw [if_neg t2] at h
        obtain ⟨t3, h⟩ := if_inv h
        cases hb : μ.2.2.1 a ((w % 100 : Nat) : Int) with
        | none => rw [hb] at h; cases h
        | some b =>
          rw [hb] at h
          obtain ⟨rfl, rfl, rfl⟩ := rN_inj h
          exact xw_getR C hd hk hs.2.1 hlk t3 hb k
  case putfield w =>
    have hl9 : len = 3 := hlen
    subst hl9
    simp only [side, Bool.and_eq_true, Bool.or_eq_true, Bool.not_eq_true', decide_eq_true_eq] at hs
    have hlk := lF_at C.2.2.2.2.2.2.1 hs.1
    have hfin : (TF (w / 100) (w % 100)).2.2.2 = true → r.1.1.name = "<init>" ∧ w / 100 = q / 100 := fun z => by
      rcases hs.2.2 with z2 | z2
      · rw [z] at z2; cases z2
      · exact z2
    by_cases t0 : fT (w / 100) (w % 100) = 0
    · have hx : (if fT (w / 100) (w % 100) = 0 then _ else _) = _ := hx
      rw [if_pos t0] at hx
      obtain ⟨x, s1, e1, h⟩ := tI_inv hx
      obtain ⟨a, s2, e2, h⟩ := tA_inv h
      obtain ⟨hk, h⟩ := if_inv h
      obtain ⟨rfl, rfl, rfl⟩ := rN_inj h
      subst e2
      subst e1
      exact xw_putI C hd hk hs.2.1.1 hlk hfin t0 k
    · have hx : (if fT (w / 100) (w % 100) = 0 then _ else _) = _ := hx
      rw [if_neg t0] at hx
      by_cases t1 : fT (w / 100) (w % 100) = 1
      · rw [if_pos t1] at hx
        obtain ⟨x, s1, e1, h⟩ := tI_inv hx
        obtain ⟨a, s2, e2, h⟩ := tA_inv h
        obtain ⟨hk, h⟩ := if_inv h
        obtain ⟨rfl, rfl, rfl⟩ := rN_inj h
        subst e2
        subst e1
        exact xw_putZ C hd hk.1 hs.2.1.1 hlk hfin t1 hk.2 k
      · rw [if_neg t1] at hx
        by_cases t2 : fT (w / 100) (w % 100) = 2
        · rw [if_pos t2] at hx
          obtain ⟨x, s1, e1, h⟩ := tL_inv hx
          obtain ⟨a, s2, e2, h⟩ := tA_inv h
          obtain ⟨hk, h⟩ := if_inv h
          obtain ⟨rfl, rfl, rfl⟩ := rN_inj h
          subst e2
          subst e1
          exact xw_putL C hd hk hs.2.1.1 hlk hfin t2 k
        · rw [if_neg t2] at hx
          obtain ⟨t3, hx⟩ := if_inv hx
          obtain ⟨x, s1, e1, h⟩ := tA_inv hx
          obtain ⟨a, s2, e2, h⟩ := tA_inv h
          obtain ⟨hk, h⟩ := if_inv h
          obtain ⟨rfl, rfl, rfl⟩ := rN_inj h
          subst e2
          subst e1
          exact xw_putR C hd hk hs.2.1.1 hlk hfin t3 k
  case new w =>
    have hl9 : len = 3 := hlen
    subst hl9
    simp only [side, Bool.and_eq_true, decide_eq_true_eq] at hs
    obtain ⟨rfl, rfl, rfl⟩ := rN_inj hx
    exact xw_new C hd hs.2 (lC_at C.2.2.2.2.2.2.1 hs.1) hcell hslot k
  case newarray ty =>
    have hl9 : len = 2 := hlen
    subst hl9
    simp only [side, decide_eq_true_eq] at hs
    obtain ⟨n, s1, e1, h⟩ := tI_inv hx
    obtain ⟨hk, h⟩ := if_inv h
    subst e1
    rcases hs with rfl | rfl | rfl
    · obtain ⟨rfl, rfl, rfl⟩ := rN_inj h
      exact xw_na_int C hd hk.1 hk.2 hcell hslot k
    · obtain ⟨rfl, rfl, rfl⟩ := rN_inj h
      exact xw_na_bool C hd hk.1 hk.2 hcell hslot k
    · obtain ⟨rfl, rfl, rfl⟩ := rN_inj h
      exact xw_na_long C hd hk.1 hk.2 hcell hslot k
  case anewarray w =>
    have hl9 : len = 3 := hlen
    subst hl9
    simp only [side] at hs
    obtain ⟨n, s1, e1, h⟩ := tI_inv hx
    obtain ⟨hk, h⟩ := if_inv h
    obtain ⟨rfl, rfl, rfl⟩ := rN_inj h
    subst e1
    exact xw_anew C hd (lC_at (ci := 6) C.2.2.2.2.2.2.1 hs) hk.1 hk.2 hcell hslot k
  case multianewarray w1 w2 =>
    have hl9 : len = 4 := hlen
    subst hl9
    simp only [side] at hs
    obtain ⟨n, k0, s1, e1, h⟩ := bI_inv hx
    obtain ⟨hk, h⟩ := if_inv h
    obtain ⟨rfl, rfl, rfl⟩ := rN_inj h
    subst e1
    exact xw_mna C hd (lW_at C.2.2.2.2.2.2.1 hs) hk.1 hk.2 hcell hslot k
  case monitorexit =>
    have hl9 : len = 3 := hlen
    subst hl9
    simp only [side] at hs
    obtain ⟨a, s1, e1, h⟩ := tA_inv hx
    obtain ⟨hk, h⟩ := if_inv h
    obtain ⟨rfl, rfl, rfl⟩ := rN_inj h
    subst e1
    exact xw_obj C hd (lO_at C.2.2.2.2.2.2.1 hs) hk hf hlo k
  case monitorenter =>
    have hl9 : len = 3 := hlen
    subst hl9
    simp only [side] at hs
    obtain ⟨n, s1, e1, h⟩ := tI_inv hx
    obtain ⟨dp, s2, e2, h⟩ := tI_inv h
    obtain ⟨a, s3, e3, h⟩ := tA_inv h
    obtain ⟨sp, s4, e4, h⟩ := tI_inv h
    obtain ⟨b, s5, e5, h⟩ := tA_inv h
    obtain ⟨hk, h⟩ := if_inv h
    obtain ⟨rfl, rfl, rfl⟩ := rN_inj h
    subst e5
    subst e4
    subst e3
    subst e2
    subst e1
    exact xw_copy C hd (lY_at C.2.2.2.2.2.2.1 hs) hk.1.1 hk.1.2.1 hk.2.1 hk.2.2.1 hk.2.2.2.1 hk.2.2.2.2 hf hlo k
  case goto t => cases hx
  case tableswitch d lo hi offs =>
    obtain ⟨x, s1, e1, h⟩ := tI_inv hx
    revert h
    split
    · intro h; cases h
    · split
      · intro h; cases h
      · intro h; cases h
  case lookupswitch d ps =>
    obtain ⟨x, s1, e1, h⟩ := tI_inv hx
    cases h
  case ireturn =>
    revert hx
    simp only [xs]
    split <;> intro h <;> cases h
  case areturn =>
    revert hx
    simp only [xs]
    split <;> intro h <;> cases h
  case return_ =>
    revert hx
    simp only [xs]
    split <;> intro h <;> cases h
  case freturn =>
    revert hx
    simp only [xs]
    split
    · split <;> intro h <;> cases h
    · intro h; cases h
  case invokevirtual w =>
    obtain ⟨-, h⟩ := if_inv hx
    revert h
    split
    · first | (split <;> intro h <;> cases h) | (intro h; cases h)
    · intro h; cases h
  case invokespecial w =>
    obtain ⟨-, h⟩ := if_inv hx
    revert h
    split
    · first | (split <;> intro h <;> cases h) | (intro h; cases h)
    · intro h; cases h
  case invokestatic w =>
    obtain ⟨-, h⟩ := if_inv hx
    cases h
  all_goals exact (no_some hx).elim
end XAsm
