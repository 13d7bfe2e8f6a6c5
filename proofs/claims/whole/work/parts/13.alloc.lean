/-! THE STEPS that make cells; Object's constructor; System.arraycopy -/
theorem u_ins : ∀ c : Nat, ∀ q : vw_C, clX[c]? = some q → Cond.instantiable q.1 q.2.2 ∈ gW ∧ Cond.initialized q.1 ∈ gW ∧ q.1 = cN c
  | 0 => fun q h => by cases h; exact ⟨by decide +kernel, by decide +kernel, rfl⟩
  | 1 => fun q h => by cases h; exact ⟨by decide +kernel, by decide +kernel, rfl⟩
  | 2 => fun q h => by cases h; exact ⟨by decide +kernel, by decide +kernel, rfl⟩
  | 3 => fun q h => by cases h; exact ⟨by decide +kernel, by decide +kernel, rfl⟩
  | 4 => fun q h => by cases h; exact ⟨by decide +kernel, by decide +kernel, rfl⟩
  | 5 => fun q h => by cases h; exact ⟨by decide +kernel, by decide +kernel, rfl⟩
  | 6 => fun q h => by cases h; exact ⟨by decide +kernel, by decide +kernel, rfl⟩
  | 7 => fun q h => by cases h; exact ⟨by decide +kernel, by decide +kernel, rfl⟩
  | 8 => fun q h => by cases h; exact ⟨by decide +kernel, by decide +kernel, rfl⟩
  | 9 => fun q h => by cases h; exact ⟨by decide +kernel, by decide +kernel, rfl⟩
  | 10 => fun q h => by cases h; exact ⟨by decide +kernel, by decide +kernel, rfl⟩
  | 11 => fun q h => by cases h; exact ⟨by decide +kernel, by decide +kernel, rfl⟩
  | n + 12 => fun q h => by simp [clX] at h
theorem ac_int : Cond.arrayClass .int ∈ gW := by decide +kernel
theorem ac_bool : Cond.arrayClass .boolean ∈ gW := by decide +kernel
theorem ac_long : Cond.arrayClass .long ∈ gW := by decide +kernel
theorem oi_1 : Cond.instanceMethod Lib.objectInit ∈ gW := by decide +kernel
theorem oi_2 : Cond.code Lib.objectInit ⟨#[0xb1]⟩ 1 none ∈ gW := by decide +kernel
theorem cp_1 : Cond.native arraycopyName ∈ gW := by decide +kernel
theorem cp_2 : Cond.static arraycopyName ∈ gW := by decide +kernel
theorem cp_3 : Cond.initialized "java/lang/System" ∈ gW := by decide +kernel
theorem cat_le {ad : Nat → Nat} : ∀ st : List XV, ((st.map (tv ad)).map fun v => v.category).sum ≤ 2 * st.length
  | [] => Nat.le_refl _
  | v :: st => by
    have h := cat_le (ad := ad) st
    have h2 : (tv ad v).category ≤ 2 := by rcases lv_cat (tv ad v) with h | h <;> rw [h] <;> decide
    simp only [List.map_cons, List.sum_cons, List.length_cons]
    omega
section XAl
variable {p : Program} {l : Launch} {ev : Env} {R : Room} {s : State} {m : MethodId} {args : Array Value} {below : List Frame} {meth : Method} {c : Code} {Q : State → Prop} {ad : Nat → Nat} {dC : Nat → ClassId} {dI : Nat → Nat → Nat} {B n0 s0 : Nat} {q : Nat} {r : MR} {pc : Nat} {ls st : List XV} {μ : XM}
theorem xS_new {A : Nat → Prop} {H0 H H' : Heap} {locs : List Loc} (h : va_S A H0 H locs) (z : H.size ≤ H'.size) (o : ∀ q, q < H.size → H'[q]? = H[q]?) : va_S A H0 H' locs := ⟨Nat.le_trans h.1 z, fun x h1 h2 => (o x (Nat.lt_of_lt_of_le h1 h.1)).trans (h.2.1 x h1 h2), h.2.2⟩
theorem xw_new {ci idx : Nat} (C : XC p s m args meth c dC dI q r) (hd : decode r.1.2.1 pc = .ok (.new idx, 3)) (hci : ci < 12) (hl : (Cond.classLink (cN (q / 100)) idx (cN ci)).before args s = true) (hc : μ.2.2.2.1 + 1 - n0 ≤ R.cells) (hs : μ.2.2.2.2.1 + cO ci - s0 ≤ R.slots)
    (k : XW p l ev R s m args below meth c Q ad dC dI B n0 s0 (pc + 3) ls (xR (μ.2.2.2.2.2 μ.2.2.2.1) :: st) (vA μ.1 (μ.2.2.2.2.2 μ.2.2.2.1) (fun _ => 0), gN μ.2 (μ.2.2.2.2.2 μ.2.2.2.1) (10 + ci, 0) (cO ci))) : XW p l ev R s m args below meth c Q ad dC dI B n0 s0 pc ls st μ := by
  intro H locs lsA h1 h2 h3 h4 h5 h6 h7 h8
  obtain ⟨qq, g1⟩ := cl_at ci hci
  obtain ⟨w1, w2, w3⟩ := u_ins ci qq g1
  have hKn := C.2.2.2.2.2.2.2.2.2.1.1 ci qq g1
  have hsz := u_sz ci qq g1
  have hh : H.size = ad (μ.2.2.2.2.2 μ.2.2.2.1) := by rw [h5.2.2.1, h5.2.2.2.1]
  rw [← w3] at hl
  refine W.newcK (h := ad (μ.2.2.2.2.2 μ.2.2.2.1)) C.2.1 C.2.2.1 C.2.2.2.2.2.1 hl (C.2.2.2.2.2.2.1 _ w1) (C.2.2.2.2.2.2.1 _ w2) rfl hd (by omega) (by rw [hsz]; omega) hKn.2.1 hh (fun H' kC hkC e1 z1 o1 => ?_)
  rw [← hh] at z1 o1
  have hb := u_born (fY ci) C.2.2.2.2.2.2.1 (u_in ci qq g1) hKn hkC e1 (fun k hk => (u_ty ci qq g1 k hk).1)
  have e0 : (gN μ.2 (μ.2.2.2.2.2 μ.2.2.2.1) (10 + ci, 0) (cO ci)).1 (μ.2.2.2.2.2 μ.2.2.2.1) = (10 + ci, 0) := by simp [gN]
  have hP := h5.new (sh := (10 + ci, 0)) (n := cO ci) (by simp) (by simp; omega) z1 o1 ((cR_o (k := ci) (by rw [e0])).mpr ⟨qq, g1, hb.to (fun j hj => by
    have ht := u_ft ci qq g1 j hj
    simp only [fV, vA, gN, if_pos]
    rcases ht with ⟨t1, t2⟩ | ⟨t1, t2⟩ | ⟨t1, t2⟩ | ⟨t1, t2⟩
    · rw [t1, t2]; rfl
    · rw [t1, t2]; rfl
    · rw [t1, t2]; rfl
    · rw [t1]; revert t2; generalize fY ci j = z; intro t2; cases z <;> first | rfl | cases t2)⟩)
  have K := k H' locs lsA h1 h2 h3 (okc.mpr ⟨trivial, h4⟩) hP (xS_new h6 (by omega) o1) (by simp only [gN]; omega) (by simp only [gN]; omega)
  simp only [gN] at K
  rw [show μ.2.2.2.1 + 1 - n0 = μ.2.2.2.1 - n0 + 1 by omega, show μ.2.2.2.2.1 + cO ci - s0 = μ.2.2.2.2.1 - s0 + cO ci by omega] at K
  rw [hsz]
  exact K
theorem xw_na_int {n : Int} (C : XC p s m args meth c dC dI q r) (hd : decode r.1.2.1 pc = .ok (.newarray .int, 2)) (hn0 : 0 ≤ n) (hn1 : n ≤ 100000) (hc : μ.2.2.2.1 + 1 - n0 ≤ R.cells) (hs : μ.2.2.2.2.1 + n.toNat - s0 ≤ R.slots)
    (k : XW p l ev R s m args below meth c Q ad dC dI B n0 s0 (pc + 2) ls (xR (μ.2.2.2.2.2 μ.2.2.2.1) :: st) (vA μ.1 (μ.2.2.2.2.2 μ.2.2.2.1) (fun _ => 0), gN μ.2 (μ.2.2.2.2.2 μ.2.2.2.1) (1, n.toNat) n.toNat)) : XW p l ev R s m args below meth c Q ad dC dI B n0 s0 pc ls (xI n :: st) μ := by
  intro H locs lsA h1 h2 h3 h4 h5 h6 h7 h8
  have hn32 : i32 n := (okc.mp h4).1
  have h4 := (okc.mp h4).2
  have hh : H.size = ad (μ.2.2.2.2.2 μ.2.2.2.1) := by rw [h5.2.2.1, h5.2.2.2.1]
  refine va_newaK (atype := .int) (h := ad (μ.2.2.2.2.2 μ.2.2.2.1)) (N := n.toNat) C.2.1 C.2.2.1 (C.2.2.2.2.2.2.1 _ ac_int) rfl hd rfl (by rw [← o32, lt32 hn32 z32]; omega) (cl32 hn32) (by show n.toNat * 4 ≤ 536870912; omega) (by omega) (by omega) hh (fun H' cA e1 z1 o1 hAr hNm => ?_)
  rw [← hh] at z1 o1
  have e0 : (gN μ.2 (μ.2.2.2.2.2 μ.2.2.2.1) (1, n.toNat) n.toNat).1 (μ.2.2.2.2.2 μ.2.2.2.1) = (1, n.toNat) := by simp [gN]
  have hP := h5.new (sh := (1, n.toNat)) (n := n.toNat) (by simp) (by simp) z1 o1 ((cR_1 (by rw [e0])).mpr ⟨cA, by rw [e1, e0]; simp only [vA, if_pos]; rfl, hAr⟩)
  have K := k H' locs lsA h1 h2 h3 (okc.mpr ⟨trivial, h4⟩) hP (xS_new h6 (by omega) o1) (by simp only [gN]; omega) (by simp only [gN]; omega)
  simp only [gN] at K
  rw [show μ.2.2.2.1 + 1 - n0 = μ.2.2.2.1 - n0 + 1 by omega, show μ.2.2.2.2.1 + n.toNat - s0 = μ.2.2.2.2.1 - s0 + n.toNat by omega] at K
  exact K
theorem xw_na_bool {n : Int} (C : XC p s m args meth c dC dI q r) (hd : decode r.1.2.1 pc = .ok (.newarray .boolean, 2)) (hn0 : 0 ≤ n) (hn1 : n ≤ 100000) (hc : μ.2.2.2.1 + 1 - n0 ≤ R.cells) (hs : μ.2.2.2.2.1 + n.toNat - s0 ≤ R.slots)
    (k : XW p l ev R s m args below meth c Q ad dC dI B n0 s0 (pc + 2) ls (xR (μ.2.2.2.2.2 μ.2.2.2.1) :: st) (vA μ.1 (μ.2.2.2.2.2 μ.2.2.2.1) (fun _ => 0), gN μ.2 (μ.2.2.2.2.2 μ.2.2.2.1) (2, n.toNat) n.toNat)) : XW p l ev R s m args below meth c Q ad dC dI B n0 s0 pc ls (xI n :: st) μ := by
  intro H locs lsA h1 h2 h3 h4 h5 h6 h7 h8
  have hn32 : i32 n := (okc.mp h4).1
  have h4 := (okc.mp h4).2
  have hh : H.size = ad (μ.2.2.2.2.2 μ.2.2.2.1) := by rw [h5.2.2.1, h5.2.2.2.1]
  refine va_newaK (atype := .boolean) (h := ad (μ.2.2.2.2.2 μ.2.2.2.1)) (N := n.toNat) C.2.1 C.2.2.1 (C.2.2.2.2.2.2.1 _ ac_bool) rfl hd rfl (by rw [← o32, lt32 hn32 z32]; omega) (cl32 hn32) (by show n.toNat * 1 ≤ 536870912; omega) (by omega) (by omega) hh (fun H' cA e1 z1 o1 hAr hNm => ?_)
  rw [← hh] at z1 o1
  have e0 : (gN μ.2 (μ.2.2.2.2.2 μ.2.2.2.1) (2, n.toNat) n.toNat).1 (μ.2.2.2.2.2 μ.2.2.2.1) = (2, n.toNat) := by simp [gN]
  have hP := h5.new (sh := (2, n.toNat)) (n := n.toNat) (by simp) (by simp) z1 o1 ((cR_2 (by rw [e0])).mpr ⟨cA, by rw [e1, e0]; simp only [vA, if_pos]; rfl, hAr⟩)
  have K := k H' locs lsA h1 h2 h3 (okc.mpr ⟨trivial, h4⟩) hP (xS_new h6 (by omega) o1) (by simp only [gN]; omega) (by simp only [gN]; omega)
  simp only [gN] at K
  rw [show μ.2.2.2.1 + 1 - n0 = μ.2.2.2.1 - n0 + 1 by omega, show μ.2.2.2.2.1 + n.toNat - s0 = μ.2.2.2.2.1 - s0 + n.toNat by omega] at K
  exact K
theorem xw_na_long {n : Int} (C : XC p s m args meth c dC dI q r) (hd : decode r.1.2.1 pc = .ok (.newarray .long, 2)) (hn0 : 0 ≤ n) (hn1 : n ≤ 100000) (hc : μ.2.2.2.1 + 1 - n0 ≤ R.cells) (hs : μ.2.2.2.2.1 + n.toNat - s0 ≤ R.slots)
    (k : XW p l ev R s m args below meth c Q ad dC dI B n0 s0 (pc + 2) ls (xR (μ.2.2.2.2.2 μ.2.2.2.1) :: st) (vA μ.1 (μ.2.2.2.2.2 μ.2.2.2.1) (fun _ => 0), gN μ.2 (μ.2.2.2.2.2 μ.2.2.2.1) (3, n.toNat) n.toNat)) : XW p l ev R s m args below meth c Q ad dC dI B n0 s0 pc ls (xI n :: st) μ := by
  intro H locs lsA h1 h2 h3 h4 h5 h6 h7 h8
  have hn32 : i32 n := (okc.mp h4).1
  have h4 := (okc.mp h4).2
  have hh : H.size = ad (μ.2.2.2.2.2 μ.2.2.2.1) := by rw [h5.2.2.1, h5.2.2.2.1]
  refine va_newaK (atype := .long) (h := ad (μ.2.2.2.2.2 μ.2.2.2.1)) (N := n.toNat) C.2.1 C.2.2.1 (C.2.2.2.2.2.2.1 _ ac_long) rfl hd rfl (by rw [← o32, lt32 hn32 z32]; omega) (cl32 hn32) (by show n.toNat * 8 ≤ 536870912; omega) (by omega) (by omega) hh (fun H' cA e1 z1 o1 hAr hNm => ?_)
  rw [← hh] at z1 o1
  have e0 : (gN μ.2 (μ.2.2.2.2.2 μ.2.2.2.1) (3, n.toNat) n.toNat).1 (μ.2.2.2.2.2 μ.2.2.2.1) = (3, n.toNat) := by simp [gN]
  have hP := h5.new (sh := (3, n.toNat)) (n := n.toNat) (by simp) (by simp) z1 o1 ((cR_3 (by rw [e0])).mpr ⟨cA, by rw [e1, e0]; simp only [vA, if_pos]; rfl, hAr⟩)
  have K := k H' locs lsA h1 h2 h3 (okc.mpr ⟨trivial, h4⟩) hP (xS_new h6 (by omega) o1) (by simp only [gN]; omega) (by simp only [gN]; omega)
  simp only [gN] at K
  rw [show μ.2.2.2.1 + 1 - n0 = μ.2.2.2.1 - n0 + 1 by omega, show μ.2.2.2.2.1 + n.toNat - s0 = μ.2.2.2.2.1 - s0 + n.toNat by omega] at K
  exact K
theorem xw_anew {n : Int} {idx : Nat} (C : XC p s m args meth c dC dI q r) (hd : decode r.1.2.1 pc = .ok (.anewarray idx, 3)) (hl : (Cond.classLink (cN (q / 100)) idx "LightPlate$Row").before args s = true) (hn0 : 0 ≤ n) (hn1 : n ≤ 100000) (hc : μ.2.2.2.1 + 1 - n0 ≤ R.cells) (hs : μ.2.2.2.2.1 + n.toNat - s0 ≤ R.slots)
    (k : XW p l ev R s m args below meth c Q ad dC dI B n0 s0 (pc + 3) ls (xR (μ.2.2.2.2.2 μ.2.2.2.1) :: st) (vA μ.1 (μ.2.2.2.2.2 μ.2.2.2.1) (fun _ => 0), gN μ.2 (μ.2.2.2.2.2 μ.2.2.2.1) (5, n.toNat) n.toNat)) : XW p l ev R s m args below meth c Q ad dC dI B n0 s0 pc ls (xI n :: st) μ := by
  intro H locs lsA h1 h2 h3 h4 h5 h6 h7 h8
  have hn32 : i32 n := (okc.mp h4).1
  have h4 := (okc.mp h4).2
  have hh : H.size = ad (μ.2.2.2.2.2 μ.2.2.2.1) := by rw [h5.2.2.1, h5.2.2.2.1]
  have hov : va_AO "LightPlate$Row" s := C.2.2.2.2.2.2.2.2.2.2 _ (by simp [oW])
  have hcl := cl32 hn32
  refine W.anew C.2.1 C.2.2.1 C.2.2.2.2.2.1 hl (va_AO.use hov) rfl hd rfl (by rw [← o32, lt32 hn32 z32]; omega) (by rw [hcl]; omega) (by omega) (by rw [hcl]; omega) (fun cA kA comp f1 f2 f3 f4 => ?_)
  rw [hcl]
  generalize hH1 : H.push ({ cls := cA, slots := Array.replicate n.toNat .null, vm := .none } : Cell) = H'
  have z1 : H'.size = H.size + 1 := by rw [← hH1, Array.size_push]
  have e1 : H'[H.size]? = some (arrV cA n.toNat (fun _ => .null)) := by rw [← hH1, Array.getElem?_push_size, ← arrV_new]
  have o1 : ∀ q : Nat, q < H.size → H'[q]? = H[q]? := fun q hq => by rw [← hH1, Array.getElem?_push, if_neg (Nat.ne_of_lt hq)]
  have hAr : ArrOfT s cA (.object "LightPlate$Row") := fun N z => ⟨(fun k h => by cases h), kA, f2, comp, f3⟩
  rw [hh] at e1
  have e0 : (gN μ.2 (μ.2.2.2.2.2 μ.2.2.2.1) (5, n.toNat) n.toNat).1 (μ.2.2.2.2.2 μ.2.2.2.1) = (5, n.toNat) := by simp [gN]
  have hP := h5.new (sh := (5, n.toNat)) (n := n.toNat) (by simp) (by simp) z1 o1 ((cR_5 (by rw [e0])).mpr ⟨cA, by rw [e1, e0]; simp only [gN, if_pos]; rfl, hAr, kA, comp, f2, f3, f4, f1⟩)
  have K := k H' locs lsA h1 h2 h3 (okc.mpr ⟨trivial, h4⟩) hP (xS_new h6 (by omega) o1) (by simp only [gN]; omega) (by simp only [gN]; omega)
  simp only [gN] at K
  rw [show μ.2.2.2.1 + 1 - n0 = μ.2.2.2.1 - n0 + 1 by omega, show μ.2.2.2.2.1 + n.toNat - s0 = μ.2.2.2.2.1 - s0 + n.toNat by omega] at K
  rw [hh]
  exact K
theorem xw_obj {a idx : Nat} (C : XC p s m args meth c dC dI q r) (hd : decode r.1.2.1 pc = .ok (.invokespecial idx, 3)) (hl : (Cond.methodLink (cN (q / 100)) idx Lib.objectInit).before args s = true) (hst : st.length ≤ 4) (hf : 1 ≤ R.frames) (hlo : 100 ≤ R.locals) (k : XW p l ev R s m args below meth c Q ad dC dI B n0 s0 (pc + 3) ls st μ) : XW p l ev R s m args below meth c Q ad dC dI B n0 s0 pc ls (xR a :: st) μ := by
  intro H locs lsA h1 h2 h3 h4 h5 h6 h7 h8
  exact W.objInit (g := F0 m pc lsA (.ref (ad a) :: st.map (tv ad))) C.2.1 C.2.2.1 C.2.2.2.2.2.1 hl (C.2.2.2.2.2.2.1 _ oi_1) (C.2.2.2.2.2.2.1 _ oi_2) rfl h1.1 rfl hd hf (by have := cat_le (ad := ad) st; show 2 * 0 + _ + 12 ≤ _; omega) (k H locs lsA h1 h2 h3 (okc.mp h4).2 h5 h6 h7 h8)
theorem xw_copy {a b idx : Nat} {n dp sp : Int} (C : XC p s m args meth c dC dI q r) (hd : decode r.1.2.1 pc = .ok (.invokestatic idx, 3)) (hl : (Cond.methodLink (cN (q / 100)) idx arraycopyName).before args s = true) (ea : (μ.2.1 a).1 = 1) (eb : (μ.2.1 b).1 = 1) (h0 : 0 ≤ n ∧ 0 ≤ sp ∧ 0 ≤ dp) (hb : sp + n ≤ ((μ.2.1 b).2 : Nat)) (ha : dp + n ≤ ((μ.2.1 a).2 : Nat)) (hst : st.length ≤ 4) (hf : 1 ≤ R.frames) (hlo : 100 ≤ R.locals)
    (k : XW p l ev R s m args below meth c Q ad dC dI B n0 s0 (pc + 3) ls st (vA μ.1 a (fun j => if dp ≤ j ∧ j < dp + n then μ.1 b (sp + (j - dp)) else μ.1 a j), μ.2)) : XW p l ev R s m args below meth c Q ad dC dI B n0 s0 pc ls (xI n :: xI dp :: xR a :: xI sp :: xR b :: st) μ := by
  intro H locs lsA h1 h2 h3 h4 h5 h6 h7 h8
  have hn : i32 n := (okc.mp h4).1
  have h4 := (okc.mp h4).2
  have hdp : i32 dp := (okc.mp h4).1
  have h4 := (okc.mp (okc.mp h4).2).2
  have hsp : i32 sp := (okc.mp h4).1
  have h4 := (okc.mp (okc.mp h4).2).2
  have hka0 : (μ.2.1 a).1 ≠ 0 := by omega
  have hka9 : (μ.2.1 a).1 ≠ 9 := by omega
  obtain ⟨c1', g1, g2⟩ := (cR_1 ea).mp (h5.1 a)
  obtain ⟨c0', f1, f2⟩ := (cR_1 eb).mp (h5.1 b)
  intro T hT Xs
  obtain ⟨-, k0, hk0, cm0, hkk0⟩ := f2 (μ.2.1 b).2 (fun j => .int (Int32.ofInt (μ.1 b j)))
  obtain ⟨-, k1, hk1, cm1, hkk1⟩ := g2 (μ.2.1 a).2 (fun j => .int (Int32.ofInt (μ.1 a j)))
  have e8 : nativeFrameWords "java/lang/System" "arraycopy" 5 = 7 := by decide +kernel
  have en : ∀ z : Int, i32 z → 0 ≤ z → ¬ Int32.ofInt z < 0 := fun z hz h => by rw [← o32, lt32 hz z32]; omega
  obtain ⟨vm', X', step⟩ := Xs.arraycopy C.2.1 C.2.2.2.2.2.1 hl (C.2.2.2.2.2.2.1 _ cp_1) (C.2.2.2.2.2.2.1 _ cp_2) (C.2.2.2.2.2.2.1 _ cp_3) (src := ad b) (dst := ad a) (cs := arrV c0' (μ.2.1 b).2 (fun j => .int (Int32.ofInt (μ.1 b j)))) (cd := arrV c1' (μ.2.1 a).2 (fun j => .int (Int32.ofInt (μ.1 a j)))) (srcPos := Int32.ofInt sp) (destPos := Int32.ofInt dp) (n := Int32.ofInt n) (by rw [hT]; exact f1) (by rw [hT]; exact g1)
    (fun _ h => by cases h) (fun _ h => by cases h) (fun h => by cases h) (fun h => by cases h) hk0 hk1 hkk0 hkk1 (by simp [refKind]) (en sp hsp h0.2.1) (en dp hdp h0.2.2) (en n hn h0.1)
    (by rw [n32 hsp, n32 hn, arrV_size]; omega)
    (by rw [n32 hdp, n32 hn, arrV_size]; omega)
    (fun vm₁ _ i hi => by
      rw [cl32 hn] at hi
      have e9 : (arrV c0' (μ.2.1 b).2 (fun j => .int (Int32.ofInt (μ.1 b j)))).slots.getD ((Int32.ofInt sp).toNatClampNeg + i) .null = .int (Int32.ofInt (μ.1 b ((sp.toNat + i : Nat) : Int))) := by
        rw [cl32 hsp, Array.getD_eq_getD_getElem?, arrV_read _ _ (by omega)]
        rfl
      rw [e9]
      exact ⟨rfl, trivial⟩)
    (g := F0 m pc lsA (.int (Int32.ofInt n) :: .int (Int32.ofInt dp) :: .ref (ad a) :: .int (Int32.ofInt sp) :: .ref (ad b) :: st.map (tv ad))) rfl h1.1 (rest := st.map (tv ad)) rfl (by rw [C.2.2.1]; exact hd) hf (by have := cat_le (ad := ad) st; show 2 * 0 + _ + _ ≤ _; rw [e8]; omega)
  have e1 : copied (arrV c0' (μ.2.1 b).2 (fun j => .int (Int32.ofInt (μ.1 b j)))) (arrV c1' (μ.2.1 a).2 (fun j => .int (Int32.ofInt (μ.1 a j)))) (Int32.ofInt sp) (Int32.ofInt dp) (Int32.ofInt n) = arrV c1' (μ.2.1 a).2 (fun j : Nat => .int (Int32.ofInt (if dp ≤ (j : Int) ∧ (j : Int) < dp + n then μ.1 b (sp + ((j : Int) - dp)) else μ.1 a j))) := by
    have e2 := va_copied (fun z : Int => Value.int (Int32.ofInt z)) c0' c1' (n0 := (μ.2.1 b).2) (n1 := (μ.2.1 a).2) (sp := sp.toNat) (dp := dp.toNat) (n := n.toNat) (fun j : Nat => μ.1 b j) (fun j : Nat => μ.1 a j) (by omega)
    unfold va_cpy at e2
    unfold copied
    rw [cl32 hsp, cl32 hdp, cl32 hn]
    rw [e2]
    congr 1
    funext j
    by_cases hj : dp.toNat ≤ j ∧ j < dp.toNat + n.toNat
    · have hj2 : dp ≤ (j : Int) ∧ (j : Int) < dp + n := by omega
      rw [if_pos hj, if_pos hj2]
      show Value.int (Int32.ofInt (μ.1 b ((sp.toNat + (j - dp.toNat) : Nat) : Int))) = _
      rw [show ((sp.toNat + (j - dp.toNat) : Nat) : Int) = sp + ((j : Int) - dp) by omega]
    · have hj2 : ¬ (dp ≤ (j : Int) ∧ (j : Int) < dp + n) := by omega
      rw [if_neg hj, if_neg hj2]
  rw [e1] at X' step
  have hl2 : ad a < H.size := (Array.getElem?_eq_some_iff.mp g1).1
  generalize hcell : arrV c1' (μ.2.1 a).2 (fun j : Nat => Value.int (Int32.ofInt (if dp ≤ (j : Int) ∧ (j : Int) < dp + n then μ.1 b (sp + ((j : Int) - dp)) else μ.1 a j))) = cell at X' step
  have hheap : ((T.setVm vm').setCell (ad a) cell).heap = H.setIfInBounds (ad a) cell := by rw [← hT]; rfl
  have oq : ∀ q : Nat, q ≠ ad a → (H.setIfInBounds (ad a) cell)[q]? = H[q]? := fun q hq => by simp [Array.getElem?_setIfInBounds, Ne.symm hq]
  have hP := h5.put (a := a) (μ' := (vA μ.1 a (fun j => if dp ≤ j ∧ j < dp + n then μ.1 b (sp + (j - dp)) else μ.1 a j), μ.2)) hka0 rfl rfl (fun b hb => by simp [vA, hb]) (fun _ _ => rfl) (by simp) oq ((cR_1 (μ := (vA μ.1 a _, μ.2)) ea).mpr ⟨c1', by
      show (H.setIfInBounds (ad a) cell)[ad a]? = _
      rw [show (H.setIfInBounds (ad a) cell)[ad a]? = some cell by simp [Array.getElem?_setIfInBounds, hl2], ← hcell]
      simp only [vA_at], g2⟩) (fun i => by
      rw [okC_1 (μ := (vA μ.1 a _, μ.2)) ea]
      simp only [vA_at]
      have hb1 := (okC_1 eb).mp (h5.2.1 b (sp + (i - dp)))
      have ha1 := (okC_1 ea).mp (h5.2.1 a i)
      split
      · exact hb1
      · exact ha1)
  obtain ⟨t, a1, b1⟩ := k _ _ lsA h1 h2 h3 h4 hP ⟨by simp; exact h6.1, fun q g1 g2 => by
      rw [oq q (fun e => g2 (by rw [e]; exact h5.low hka0 hka9))]
      exact h6.2.1 q g1 g2, fun q hq => by
      rcases List.mem_append.mp hq with h | h
      · exact h6.2.2 q h
      · obtain ⟨z, -, hz⟩ := List.mem_map.mp h
        rw [← hz]
        exact h5.low hka0 hka9⟩ h7 h8 _ hheap X'
  exact ⟨t, step t a1, b1⟩
end XAl
