/-! THE STEPS, a lemma each -/
section XStep
variable {p : Program} {l : Launch} {e : Env} {R : Room} {s : State} {m : MethodId} {args : Array Value} {below : List Frame} {meth : Method} {c : Code} {Q : State → Prop} {ad : Nat → Nat} {dC : Nat → ClassId} {dI : Nat → Nat → Nat} {B n0 s0 : Nat} {q : Nat} {r : MR} {pc : Nat} {ls st : List XV} {μ : XM}
theorem XW.pure {pc' : Nat} {st' : List XV} (hs : ∀ (H : Heap) (locs : List Loc) (lsA : Array Slot) (cells slots : Nat), lv_has lsA c.maxLocals (lvl ad ls 0) → (∀ v ∈ ls, okV v) → (∀ v ∈ st, okV v) → (W p l e R s m args below meth c H locs cells slots Q (F0 m pc' lsA (st'.map (tv ad))) → W p l e R s m args below meth c H locs cells slots Q (F0 m pc lsA (st.map (tv ad)))) ∧ ∀ v ∈ st', okV v)
    (k : XW p l e R s m args below meth c Q ad dC dI B n0 s0 pc' ls st' μ) : XW p l e R s m args below meth c Q ad dC dI B n0 s0 pc ls st μ := by
  intro H locs lsA h1 h2 h3 h4 h5 h6 h7 h8
  obtain ⟨g, g2⟩ := hs H locs lsA (μ.2.2.2.1 - n0) (μ.2.2.2.2.1 - s0) h1 h3 h4
  exact g (k H locs lsA h1 h2 h3 g2 h5 h6 h7 h8)
theorem xw_iconst {n : Int} (C : XC p s m args meth c dC dI q r) (hd : decode r.1.2.1 pc = .ok (.iconst n, 1)) (hn : -1 ≤ n ∧ n ≤ 5) (k : XW p l e R s m args below meth c Q ad dC dI B n0 s0 (pc + 1) ls (xI n :: st) μ) : XW p l e R s m args below meth c Q ad dC dI B n0 s0 pc ls (st) μ :=
  XW.pure (st' := xI n :: st) (fun H locs lsA cells slots hl ho hs => ⟨fun w => lv_iconst (v := Int32.ofInt n) C.2.1 C.2.2.1 hd rfl w, okc.mpr ⟨⟨by have := hn.1; omega, by have := hn.2; omega⟩, hs⟩⟩) k
theorem xw_bipush {n : Int} (C : XC p s m args meth c dC dI q r) (hd : decode r.1.2.1 pc = .ok (.bipush n, 2)) (hn : -128 ≤ n ∧ n ≤ 127) (k : XW p l e R s m args below meth c Q ad dC dI B n0 s0 (pc + 2) ls (xI n :: st) μ) : XW p l e R s m args below meth c Q ad dC dI B n0 s0 pc ls (st) μ :=
  XW.pure (st' := xI n :: st) (fun H locs lsA cells slots hl ho hs => ⟨fun w => lv_bipush (v := Int32.ofInt n) C.2.1 C.2.2.1 hd (by rw [← Int32.ofInt_int8ToInt, Int8.toInt_ofInt_of_le (by have := hn.1; omega) (by have := hn.2; omega)]) w, okc.mpr ⟨⟨by have := hn.1; omega, by have := hn.2; omega⟩, hs⟩⟩) k
theorem xw_sipush {n : Int} (C : XC p s m args meth c dC dI q r) (hd : decode r.1.2.1 pc = .ok (.sipush n, 3)) (hn : -32768 ≤ n ∧ n ≤ 32767) (k : XW p l e R s m args below meth c Q ad dC dI B n0 s0 (pc + 3) ls (xI n :: st) μ) : XW p l e R s m args below meth c Q ad dC dI B n0 s0 pc ls (st) μ :=
  XW.pure (st' := xI n :: st) (fun H locs lsA cells slots hl ho hs => ⟨fun w => lv_sipush (v := Int32.ofInt n) C.2.1 C.2.2.1 hd (by rw [← Int32.ofInt_int16ToInt, Int16.toInt_ofInt_of_le (by have := hn.1; omega) (by have := hn.2; omega)]) w, okc.mpr ⟨⟨by have := hn.1; omega, by have := hn.2; omega⟩, hs⟩⟩) k
theorem xw_lconst {n : Fin 2} (C : XC p s m args meth c dC dI q r) (hd : decode r.1.2.1 pc = .ok (.lconst n, 1)) (k : XW p l e R s m args below meth c Q ad dC dI B n0 s0 (pc + 1) ls (xL (n.val : Nat) :: st) μ) : XW p l e R s m args below meth c Q ad dC dI B n0 s0 pc ls (st) μ :=
  XW.pure (st' := xL (n.val : Nat) :: st) (fun H locs lsA cells slots hl ho hs => ⟨fun w => lv_lconst (v := Int64.ofInt (n.val : Nat)) C.2.1 C.2.2.1 hd (Int64.ofInt_eq_ofNat).symm w, okc.mpr ⟨⟨by omega, by have := n.isLt; omega⟩, hs⟩⟩) k
theorem xw_ldc2 {v : Int} {idx : Nat} (C : XC p s m args meth c dC dI q r) (hd : decode r.1.2.1 pc = .ok (.ldc2_w idx, 3)) (hv : i64 v) (hk : (Cond.constantLong (cN (q / 100)) idx (Int64.ofInt v)).before args s = true) (k : XW p l e R s m args below meth c Q ad dC dI B n0 s0 (pc + 3) ls (xL v :: st) μ) : XW p l e R s m args below meth c Q ad dC dI B n0 s0 pc ls (st) μ :=
  XW.pure (st' := xL v :: st) (fun H locs lsA cells slots hl ho hs => ⟨fun w => lv_ldc2 C.2.1 C.2.2.1 C.2.2.2.2.2.1 hk hd w, okc.mpr ⟨hv, hs⟩⟩) k
theorem xw_iload_n {k0 : Fin 4} {x : Int} (C : XC p s m args meth c dC dI q r) (hd : decode r.1.2.1 pc = .ok (.iload_n k0, 1)) (hx : ls[k0.val]? = some (xI x)) (k : XW p l e R s m args below meth c Q ad dC dI B n0 s0 (pc + 1) ls (xI x :: st) μ) : XW p l e R s m args below meth c Q ad dC dI B n0 s0 pc ls (st) μ :=
  XW.pure (st' := xI x :: st) (fun H locs lsA cells slots hl ho hs => ⟨fun w => lv_iload_n C.2.1 C.2.2.1 hd rfl (has_at hl hx (fun h => by cases h)) w, okc.mpr ⟨ok_at ho hx, hs⟩⟩) k
theorem xw_iload {k0 : Nat} {x : Int} (C : XC p s m args meth c dC dI q r) (hd : decode r.1.2.1 pc = .ok (.iload k0, 2)) (hx : ls[k0]? = some (xI x)) (k : XW p l e R s m args below meth c Q ad dC dI B n0 s0 (pc + 2) ls (xI x :: st) μ) : XW p l e R s m args below meth c Q ad dC dI B n0 s0 pc ls (st) μ :=
  XW.pure (st' := xI x :: st) (fun H locs lsA cells slots hl ho hs => ⟨fun w => lv_iload C.2.1 C.2.2.1 hd (has_at hl hx (fun h => by cases h)) w, okc.mpr ⟨ok_at ho hx, hs⟩⟩) k
theorem xw_lload_n {k0 : Fin 4} {x : Int} (C : XC p s m args meth c dC dI q r) (hd : decode r.1.2.1 pc = .ok (.lload_n k0, 1)) (hx : ls[k0.val]? = some (xL x)) (k : XW p l e R s m args below meth c Q ad dC dI B n0 s0 (pc + 1) ls (xL x :: st) μ) : XW p l e R s m args below meth c Q ad dC dI B n0 s0 pc ls (st) μ :=
  XW.pure (st' := xL x :: st) (fun H locs lsA cells slots hl ho hs => ⟨fun w => lv_lload_n C.2.1 C.2.2.1 hd rfl (has_at hl hx (fun h => by cases h)) w, okc.mpr ⟨ok_at ho hx, hs⟩⟩) k
theorem xw_lload {k0 : Nat} {x : Int} (C : XC p s m args meth c dC dI q r) (hd : decode r.1.2.1 pc = .ok (.lload k0, 2)) (hx : ls[k0]? = some (xL x)) (k : XW p l e R s m args below meth c Q ad dC dI B n0 s0 (pc + 2) ls (xL x :: st) μ) : XW p l e R s m args below meth c Q ad dC dI B n0 s0 pc ls (st) μ :=
  XW.pure (st' := xL x :: st) (fun H locs lsA cells slots hl ho hs => ⟨fun w => lv_lload C.2.1 C.2.2.1 hd (has_at hl hx (fun h => by cases h)) w, okc.mpr ⟨ok_at ho hx, hs⟩⟩) k
theorem xw_aload_n {k0 : Fin 4} {x : Nat} (C : XC p s m args meth c dC dI q r) (hd : decode r.1.2.1 pc = .ok (.aload_n k0, 1)) (hx : ls[k0.val]? = some (xR x)) (k : XW p l e R s m args below meth c Q ad dC dI B n0 s0 (pc + 1) ls (xR x :: st) μ) : XW p l e R s m args below meth c Q ad dC dI B n0 s0 pc ls (st) μ :=
  XW.pure (st' := xR x :: st) (fun H locs lsA cells slots hl ho hs => ⟨fun w => lv_aload_n C.2.1 C.2.2.1 hd rfl (has_at hl hx (fun h => by cases h)) w, okc.mpr ⟨ok_at ho hx, hs⟩⟩) k
theorem xw_aload {k0 : Nat} {x : Nat} (C : XC p s m args meth c dC dI q r) (hd : decode r.1.2.1 pc = .ok (.aload k0, 2)) (hx : ls[k0]? = some (xR x)) (k : XW p l e R s m args below meth c Q ad dC dI B n0 s0 (pc + 2) ls (xR x :: st) μ) : XW p l e R s m args below meth c Q ad dC dI B n0 s0 pc ls (st) μ :=
  XW.pure (st' := xR x :: st) (fun H locs lsA cells slots hl ho hs => ⟨fun w => lv_aload C.2.1 C.2.2.1 hd (has_at hl hx (fun h => by cases h)) w, okc.mpr ⟨ok_at ho hx, hs⟩⟩) k
theorem xw_iadd {x y : Int} (C : XC p s m args meth c dC dI q r) (hd : decode r.1.2.1 pc = .ok (.iadd, 1)) (hr : i32 (x + y)) (k : XW p l e R s m args below meth c Q ad dC dI B n0 s0 (pc + 1) ls (xI (x + y) :: st) μ) : XW p l e R s m args below meth c Q ad dC dI B n0 s0 pc ls (xI y :: xI x :: st) μ :=
  XW.pure (st' := xI (x + y) :: st) (fun H locs lsA cells slots hl ho hs => ⟨fun w => lv_iadd C.2.1 C.2.2.1 hd (by rw [show Value.int (Int32.ofInt x + Int32.ofInt y) = tv ad (xI (x + y)) from by simp [tv]]; exact w), okc.mpr ⟨hr, (okc.mp (okc.mp hs).2).2⟩⟩) k
theorem xw_isub {x y : Int} (C : XC p s m args meth c dC dI q r) (hd : decode r.1.2.1 pc = .ok (.isub, 1)) (hr : i32 (x - y)) (k : XW p l e R s m args below meth c Q ad dC dI B n0 s0 (pc + 1) ls (xI (x - y) :: st) μ) : XW p l e R s m args below meth c Q ad dC dI B n0 s0 pc ls (xI y :: xI x :: st) μ :=
  XW.pure (st' := xI (x - y) :: st) (fun H locs lsA cells slots hl ho hs => ⟨fun w => lv_isub C.2.1 C.2.2.1 hd (by rw [show Value.int (Int32.ofInt x - Int32.ofInt y) = tv ad (xI (x - y)) from by simp [tv]]; exact w), okc.mpr ⟨hr, (okc.mp (okc.mp hs).2).2⟩⟩) k
theorem xw_imul {x y : Int} (C : XC p s m args meth c dC dI q r) (hd : decode r.1.2.1 pc = .ok (.imul, 1)) (hr : i32 (x * y)) (k : XW p l e R s m args below meth c Q ad dC dI B n0 s0 (pc + 1) ls (xI (x * y) :: st) μ) : XW p l e R s m args below meth c Q ad dC dI B n0 s0 pc ls (xI y :: xI x :: st) μ :=
  XW.pure (st' := xI (x * y) :: st) (fun H locs lsA cells slots hl ho hs => ⟨fun w => lv_imul C.2.1 C.2.2.1 hd (by rw [show Value.int (Int32.ofInt x * Int32.ofInt y) = tv ad (xI (x * y)) from by simp [tv]]; exact w), okc.mpr ⟨hr, (okc.mp (okc.mp hs).2).2⟩⟩) k
theorem xw_idiv {x y : Int} (C : XC p s m args meth c dC dI q r) (hd : decode r.1.2.1 pc = .ok (.idiv, 1)) (hy : 0 < y) (k : XW p l e R s m args below meth c Q ad dC dI B n0 s0 (pc + 1) ls (xI (x.tdiv y) :: st) μ) : XW p l e R s m args below meth c Q ad dC dI B n0 s0 pc ls (xI y :: xI x :: st) μ :=
  XW.pure (st' := xI (x.tdiv y) :: st) (fun H locs lsA cells slots hl ho hs => ⟨fun w => lv_idiv C.2.1 C.2.2.1 hd (ne32 (okc.mp hs).1 hy) (by rw [show Value.int (Int32.ofInt x / Int32.ofInt y) = tv ad (xI (x.tdiv y)) from by (show _ = Value.int (Int32.ofInt (x.tdiv y)); rw [div32 (okc.mp (okc.mp hs).2).1 (okc.mp hs).1])]; exact w), okc.mpr ⟨i32_tdiv (okc.mp (okc.mp hs).2).1 hy, (okc.mp (okc.mp hs).2).2⟩⟩) k
theorem xw_irem {x y : Int} (C : XC p s m args meth c dC dI q r) (hd : decode r.1.2.1 pc = .ok (.irem, 1)) (hy : 0 < y) (k : XW p l e R s m args below meth c Q ad dC dI B n0 s0 (pc + 1) ls (xI (x.tmod y) :: st) μ) : XW p l e R s m args below meth c Q ad dC dI B n0 s0 pc ls (xI y :: xI x :: st) μ :=
  XW.pure (st' := xI (x.tmod y) :: st) (fun H locs lsA cells slots hl ho hs => ⟨fun w => lv_irem C.2.1 C.2.2.1 hd (ne32 (okc.mp hs).1 hy) (by rw [show Value.int (Int32.ofInt x - Int32.ofInt x / Int32.ofInt y * Int32.ofInt y) = tv ad (xI (x.tmod y)) from by (show _ = Value.int (Int32.ofInt (x.tmod y)); rw [rem32 (okc.mp (okc.mp hs).2).1 (okc.mp hs).1])]; exact w), okc.mpr ⟨i32_tmod (okc.mp (okc.mp hs).2).1, (okc.mp (okc.mp hs).2).2⟩⟩) k
theorem xw_iand {x y : Int} (C : XC p s m args meth c dC dI q r) (hd : decode r.1.2.1 pc = .ok (.iand, 1)) (k : XW p l e R s m args below meth c Q ad dC dI B n0 s0 (pc + 1) ls (xI (b32 (fun a b => a &&& b) x y) :: st) μ) : XW p l e R s m args below meth c Q ad dC dI B n0 s0 pc ls (xI y :: xI x :: st) μ :=
  XW.pure (st' := xI (b32 (fun a b => a &&& b) x y) :: st) (fun H locs lsA cells slots hl ho hs => ⟨fun w => lv_iand C.2.1 C.2.2.1 hd (by rw [show Value.int (Int32.ofInt x &&& Int32.ofInt y) = tv ad (xI (b32 (fun a b => a &&& b) x y)) from by (show _ = Value.int (Int32.ofInt (b32 _ x y)); rw [b32, Int32.ofInt_toInt])]; exact w), okc.mpr ⟨n32i _, (okc.mp (okc.mp hs).2).2⟩⟩) k
theorem xw_ior {x y : Int} (C : XC p s m args meth c dC dI q r) (hd : decode r.1.2.1 pc = .ok (.ior, 1)) (k : XW p l e R s m args below meth c Q ad dC dI B n0 s0 (pc + 1) ls (xI (b32 (fun a b => a ||| b) x y) :: st) μ) : XW p l e R s m args below meth c Q ad dC dI B n0 s0 pc ls (xI y :: xI x :: st) μ :=
  XW.pure (st' := xI (b32 (fun a b => a ||| b) x y) :: st) (fun H locs lsA cells slots hl ho hs => ⟨fun w => lv_ior C.2.1 C.2.2.1 hd (by rw [show Value.int (Int32.ofInt x ||| Int32.ofInt y) = tv ad (xI (b32 (fun a b => a ||| b) x y)) from by (show _ = Value.int (Int32.ofInt (b32 _ x y)); rw [b32, Int32.ofInt_toInt])]; exact w), okc.mpr ⟨n32i _, (okc.mp (okc.mp hs).2).2⟩⟩) k
theorem xw_ixor {x y : Int} (C : XC p s m args meth c dC dI q r) (hd : decode r.1.2.1 pc = .ok (.ixor, 1)) (k : XW p l e R s m args below meth c Q ad dC dI B n0 s0 (pc + 1) ls (xI (b32 (fun a b => a ^^^ b) x y) :: st) μ) : XW p l e R s m args below meth c Q ad dC dI B n0 s0 pc ls (xI y :: xI x :: st) μ :=
  XW.pure (st' := xI (b32 (fun a b => a ^^^ b) x y) :: st) (fun H locs lsA cells slots hl ho hs => ⟨fun w => lv_ixor C.2.1 C.2.2.1 hd (by rw [show Value.int (Int32.ofInt x ^^^ Int32.ofInt y) = tv ad (xI (b32 (fun a b => a ^^^ b) x y)) from by (show _ = Value.int (Int32.ofInt (b32 _ x y)); rw [b32, Int32.ofInt_toInt])]; exact w), okc.mpr ⟨n32i _, (okc.mp (okc.mp hs).2).2⟩⟩) k
theorem xw_ishl {x y : Int} (C : XC p s m args meth c dC dI q r) (hd : decode r.1.2.1 pc = .ok (.ishl, 1)) (k : XW p l e R s m args below meth c Q ad dC dI B n0 s0 (pc + 1) ls (xI (b32 (fun a b => a <<< (b &&& 31)) x y) :: st) μ) : XW p l e R s m args below meth c Q ad dC dI B n0 s0 pc ls (xI y :: xI x :: st) μ :=
  XW.pure (st' := xI (b32 (fun a b => a <<< (b &&& 31)) x y) :: st) (fun H locs lsA cells slots hl ho hs => ⟨fun w => lv_ishl C.2.1 C.2.2.1 hd (by rw [show Value.int (Int32.ofInt x <<< (Int32.ofInt y &&& 31)) = tv ad (xI (b32 (fun a b => a <<< (b &&& 31)) x y)) from by (show _ = Value.int (Int32.ofInt (b32 _ x y)); rw [b32, Int32.ofInt_toInt])]; exact w), okc.mpr ⟨n32i _, (okc.mp (okc.mp hs).2).2⟩⟩) k
theorem xw_ishr {x y : Int} (C : XC p s m args meth c dC dI q r) (hd : decode r.1.2.1 pc = .ok (.ishr, 1)) (k : XW p l e R s m args below meth c Q ad dC dI B n0 s0 (pc + 1) ls (xI (b32 (fun a b => a >>> (b &&& 31)) x y) :: st) μ) : XW p l e R s m args below meth c Q ad dC dI B n0 s0 pc ls (xI y :: xI x :: st) μ :=
  XW.pure (st' := xI (b32 (fun a b => a >>> (b &&& 31)) x y) :: st) (fun H locs lsA cells slots hl ho hs => ⟨fun w => lv_ishr C.2.1 C.2.2.1 hd (by rw [show Value.int (Int32.ofInt x >>> (Int32.ofInt y &&& 31)) = tv ad (xI (b32 (fun a b => a >>> (b &&& 31)) x y)) from by (show _ = Value.int (Int32.ofInt (b32 _ x y)); rw [b32, Int32.ofInt_toInt])]; exact w), okc.mpr ⟨n32i _, (okc.mp (okc.mp hs).2).2⟩⟩) k
theorem xw_ineg {x : Int} (C : XC p s m args meth c dC dI q r) (hd : decode r.1.2.1 pc = .ok (.ineg, 1)) (hr : i32 (-x)) (k : XW p l e R s m args below meth c Q ad dC dI B n0 s0 (pc + 1) ls (xI (-x) :: st) μ) : XW p l e R s m args below meth c Q ad dC dI B n0 s0 pc ls (xI x :: st) μ :=
  XW.pure (st' := xI (-x) :: st) (fun H locs lsA cells slots hl ho hs => ⟨fun w => lv_ineg C.2.1 C.2.2.1 hd (by rw [show Value.int (-Int32.ofInt x) = tv ad (xI (-x)) from by simp [tv]]; exact w), okc.mpr ⟨hr, (okc.mp hs).2⟩⟩) k
theorem xw_i2l {x : Int} (C : XC p s m args meth c dC dI q r) (hd : decode r.1.2.1 pc = .ok (.i2l, 1)) (k : XW p l e R s m args below meth c Q ad dC dI B n0 s0 (pc + 1) ls (xL x :: st) μ) : XW p l e R s m args below meth c Q ad dC dI B n0 s0 pc ls (xI x :: st) μ :=
  XW.pure (st' := xL x :: st) (fun H locs lsA cells slots hl ho hs => ⟨fun w => lv_i2l (v := Int64.ofInt x) C.2.1 C.2.2.1 hd (l64 (okc.mp hs).1) w, okc.mpr ⟨i64_of (okc.mp hs).1, (okc.mp hs).2⟩⟩) k
theorem xw_l2i {x : Int} (C : XC p s m args meth c dC dI q r) (hd : decode r.1.2.1 pc = .ok (.l2i, 1)) (k : XW p l e R s m args below meth c Q ad dC dI B n0 s0 (pc + 1) ls (xI (Int64.ofInt x).toInt32.toInt :: st) μ) : XW p l e R s m args below meth c Q ad dC dI B n0 s0 pc ls (xL x :: st) μ :=
  XW.pure (st' := xI (Int64.ofInt x).toInt32.toInt :: st) (fun H locs lsA cells slots hl ho hs => ⟨fun w => lv_l2i (v := Int32.ofInt (Int64.ofInt x).toInt32.toInt) C.2.1 C.2.2.1 hd (Int32.ofInt_toInt _).symm w, okc.mpr ⟨n32i _, (okc.mp hs).2⟩⟩) k
theorem xw_lmul {x y : Int} (C : XC p s m args meth c dC dI q r) (hd : decode r.1.2.1 pc = .ok (.lmul, 1)) (hr : i64 (x * y)) (k : XW p l e R s m args below meth c Q ad dC dI B n0 s0 (pc + 1) ls (xL (x * y) :: st) μ) : XW p l e R s m args below meth c Q ad dC dI B n0 s0 pc ls (xL y :: xL x :: st) μ :=
  XW.pure (st' := xL (x * y) :: st) (fun H locs lsA cells slots hl ho hs => ⟨fun w => lv_lmul C.2.1 C.2.2.1 hd (by rw [show Value.long (Int64.ofInt x * Int64.ofInt y) = tv ad (xL (x * y)) from by simp [tv]]; exact w), okc.mpr ⟨hr, (okc.mp (okc.mp hs).2).2⟩⟩) k
theorem xw_ldiv {x y : Int} (C : XC p s m args meth c dC dI q r) (hd : decode r.1.2.1 pc = .ok (.ldiv, 1)) (hy : 0 < y) (k : XW p l e R s m args below meth c Q ad dC dI B n0 s0 (pc + 1) ls (xL (x.tdiv y) :: st) μ) : XW p l e R s m args below meth c Q ad dC dI B n0 s0 pc ls (xL y :: xL x :: st) μ :=
  XW.pure (st' := xL (x.tdiv y) :: st) (fun H locs lsA cells slots hl ho hs => ⟨fun w => lv_ldiv C.2.1 C.2.2.1 hd (ne64 (okc.mp hs).1 hy) (by rw [show Value.long (Int64.ofInt x / Int64.ofInt y) = tv ad (xL (x.tdiv y)) from by (show _ = Value.long (Int64.ofInt (x.tdiv y)); rw [div64 (okc.mp (okc.mp hs).2).1 (okc.mp hs).1])]; exact w), okc.mpr ⟨i64_tdiv (okc.mp (okc.mp hs).2).1 hy, (okc.mp (okc.mp hs).2).2⟩⟩) k
theorem xw_lrem {x y : Int} (C : XC p s m args meth c dC dI q r) (hd : decode r.1.2.1 pc = .ok (.lrem, 1)) (hy : 0 < y) (k : XW p l e R s m args below meth c Q ad dC dI B n0 s0 (pc + 1) ls (xL (x.tmod y) :: st) μ) : XW p l e R s m args below meth c Q ad dC dI B n0 s0 pc ls (xL y :: xL x :: st) μ :=
  XW.pure (st' := xL (x.tmod y) :: st) (fun H locs lsA cells slots hl ho hs => ⟨fun w => lv_lrem C.2.1 C.2.2.1 hd (ne64 (okc.mp hs).1 hy) (by rw [show Value.long (Int64.ofInt x - Int64.ofInt x / Int64.ofInt y * Int64.ofInt y) = tv ad (xL (x.tmod y)) from by (show _ = Value.long (Int64.ofInt (x.tmod y)); rw [rem64 (okc.mp (okc.mp hs).2).1 (okc.mp hs).1])]; exact w), okc.mpr ⟨i64_tmod (okc.mp (okc.mp hs).2).1, (okc.mp (okc.mp hs).2).2⟩⟩) k
theorem xw_land {x y : Int} (C : XC p s m args meth c dC dI q r) (hd : decode r.1.2.1 pc = .ok (.land, 1)) (k : XW p l e R s m args below meth c Q ad dC dI B n0 s0 (pc + 1) ls (xL (b64 (fun a b => a &&& b) x y) :: st) μ) : XW p l e R s m args below meth c Q ad dC dI B n0 s0 pc ls (xL y :: xL x :: st) μ :=
  XW.pure (st' := xL (b64 (fun a b => a &&& b) x y) :: st) (fun H locs lsA cells slots hl ho hs => ⟨fun w => lv_land C.2.1 C.2.2.1 hd (by rw [show Value.long (Int64.ofInt x &&& Int64.ofInt y) = tv ad (xL (b64 (fun a b => a &&& b) x y)) from by (show _ = Value.long (Int64.ofInt (b64 _ x y)); rw [b64, Int64.ofInt_toInt])]; exact w), okc.mpr ⟨n64i _, (okc.mp (okc.mp hs).2).2⟩⟩) k
theorem xw_lor {x y : Int} (C : XC p s m args meth c dC dI q r) (hd : decode r.1.2.1 pc = .ok (.lor, 1)) (k : XW p l e R s m args below meth c Q ad dC dI B n0 s0 (pc + 1) ls (xL (b64 (fun a b => a ||| b) x y) :: st) μ) : XW p l e R s m args below meth c Q ad dC dI B n0 s0 pc ls (xL y :: xL x :: st) μ :=
  XW.pure (st' := xL (b64 (fun a b => a ||| b) x y) :: st) (fun H locs lsA cells slots hl ho hs => ⟨fun w => lv_lor C.2.1 C.2.2.1 hd (by rw [show Value.long (Int64.ofInt x ||| Int64.ofInt y) = tv ad (xL (b64 (fun a b => a ||| b) x y)) from by (show _ = Value.long (Int64.ofInt (b64 _ x y)); rw [b64, Int64.ofInt_toInt])]; exact w), okc.mpr ⟨n64i _, (okc.mp (okc.mp hs).2).2⟩⟩) k
theorem xw_lshl {x y : Int} (C : XC p s m args meth c dC dI q r) (hd : decode r.1.2.1 pc = .ok (.lshl, 1)) (k : XW p l e R s m args below meth c Q ad dC dI B n0 s0 (pc + 1) ls (xL (s64 (fun a b => a <<< (b.toInt64 &&& 63)) x y) :: st) μ) : XW p l e R s m args below meth c Q ad dC dI B n0 s0 pc ls (xI y :: xL x :: st) μ :=
  XW.pure (st' := xL (s64 (fun a b => a <<< (b.toInt64 &&& 63)) x y) :: st) (fun H locs lsA cells slots hl ho hs => ⟨fun w => lv_lshl (v := Int64.ofInt (s64 (fun a b => a <<< (b.toInt64 &&& 63)) x y)) C.2.1 C.2.2.1 hd (by rw [s64, Int64.ofInt_toInt]) w, okc.mpr ⟨n64i _, (okc.mp (okc.mp hs).2).2⟩⟩) k
theorem xw_lshr {x y : Int} (C : XC p s m args meth c dC dI q r) (hd : decode r.1.2.1 pc = .ok (.lshr, 1)) (k : XW p l e R s m args below meth c Q ad dC dI B n0 s0 (pc + 1) ls (xL (s64 (fun a b => a >>> (b.toInt64 &&& 63)) x y) :: st) μ) : XW p l e R s m args below meth c Q ad dC dI B n0 s0 pc ls (xI y :: xL x :: st) μ :=
  XW.pure (st' := xL (s64 (fun a b => a >>> (b.toInt64 &&& 63)) x y) :: st) (fun H locs lsA cells slots hl ho hs => ⟨fun w => lv_lshr (v := Int64.ofInt (s64 (fun a b => a >>> (b.toInt64 &&& 63)) x y)) C.2.1 C.2.2.1 hd (by rw [s64, Int64.ofInt_toInt]) w, okc.mpr ⟨n64i _, (okc.mp (okc.mp hs).2).2⟩⟩) k
theorem xw_lushr {x y : Int} (C : XC p s m args meth c dC dI q r) (hd : decode r.1.2.1 pc = .ok (.lushr, 1)) (k : XW p l e R s m args below meth c Q ad dC dI B n0 s0 (pc + 1) ls (xL (s64 (fun a b => (a.toUInt64 >>> (b.toInt64.toUInt64 &&& Int64.toUInt64 63)).toInt64) x y) :: st) μ) : XW p l e R s m args below meth c Q ad dC dI B n0 s0 pc ls (xI y :: xL x :: st) μ :=
  XW.pure (st' := xL (s64 (fun a b => (a.toUInt64 >>> (b.toInt64.toUInt64 &&& Int64.toUInt64 63)).toInt64) x y) :: st) (fun H locs lsA cells slots hl ho hs => ⟨fun w => lv_lushr (v := Int64.ofInt (s64 (fun a b => (a.toUInt64 >>> (b.toInt64.toUInt64 &&& Int64.toUInt64 63)).toInt64) x y)) C.2.1 C.2.2.1 hd (by rw [s64, Int64.ofInt_toInt]) w, okc.mpr ⟨n64i _, (okc.mp (okc.mp hs).2).2⟩⟩) k
theorem xw_lcmp {x y : Int} (C : XC p s m args meth c dC dI q r) (hd : decode r.1.2.1 pc = .ok (.lcmp, 1)) (k : XW p l e R s m args below meth c Q ad dC dI B n0 s0 (pc + 1) ls (xI (if x < y then -1 else if x = y then 0 else 1) :: st) μ) : XW p l e R s m args below meth c Q ad dC dI B n0 s0 pc ls (xL y :: xL x :: st) μ :=
  XW.pure (st' := xI (if x < y then -1 else if x = y then 0 else 1) :: st) (fun H locs lsA cells slots hl ho hs => ⟨fun w => W.lcmp C.2.1 C.2.2.1 hd (by rw [cmp64 (okc.mp (okc.mp hs).2).1 (okc.mp hs).1]; exact w), okc.mpr ⟨(by show i32 _; split <;> first | decide | (split <;> decide)), (okc.mp (okc.mp hs).2).2⟩⟩) k
theorem c1_cat {v : XV} (h : c1 v = true) : (tv ad v).category = 1 := by
  rcases v with x | x | x | x
  · rfl
  · cases h
  · rfl
  · cases h
theorem xw_dup {v : XV} (C : XC p s m args meth c dC dI q r) (hd : decode r.1.2.1 pc = .ok (.dup, 1)) (hv : c1 v = true) (k : XW p l e R s m args below meth c Q ad dC dI B n0 s0 (pc + 1) ls (v :: v :: st) μ) : XW p l e R s m args below meth c Q ad dC dI B n0 s0 pc ls (v :: st) μ :=
  XW.pure (st' := v :: v :: st) (fun H locs lsA cells slots hl ho hs => ⟨fun w => lv_dup C.2.1 C.2.2.1 hd (c1_cat hv) w, okc.mpr ⟨(okc.mp hs).1, hs⟩⟩) k
theorem xw_dup_x1 {v u : XV} (C : XC p s m args meth c dC dI q r) (hd : decode r.1.2.1 pc = .ok (.dup_x1, 1)) (hv : c1 v = true) (hu : c1 u = true) (k : XW p l e R s m args below meth c Q ad dC dI B n0 s0 (pc + 1) ls (v :: u :: v :: st) μ) : XW p l e R s m args below meth c Q ad dC dI B n0 s0 pc ls (v :: u :: st) μ :=
  XW.pure (st' := v :: u :: v :: st) (fun H locs lsA cells slots hl ho hs => ⟨fun w => lv_dup_x1 C.2.1 C.2.2.1 hd (c1_cat hv) (c1_cat hu) w, okc.mpr ⟨(okc.mp hs).1, okc.mpr ⟨(okc.mp (okc.mp hs).2).1, okc.mpr ⟨(okc.mp hs).1, (okc.mp (okc.mp hs).2).2⟩⟩⟩⟩) k
theorem xw_dup2 {v u : XV} (C : XC p s m args meth c dC dI q r) (hd : decode r.1.2.1 pc = .ok (.dup2, 1)) (hv : c1 v = true) (hu : c1 u = true) (k : XW p l e R s m args below meth c Q ad dC dI B n0 s0 (pc + 1) ls (v :: u :: v :: u :: st) μ) : XW p l e R s m args below meth c Q ad dC dI B n0 s0 pc ls (v :: u :: st) μ :=
  XW.pure (st' := v :: u :: v :: u :: st) (fun H locs lsA cells slots hl ho hs => ⟨fun w => lv_dup2_11 C.2.1 C.2.2.1 hd (c1_cat hv) (c1_cat hu) w, okc.mpr ⟨(okc.mp hs).1, okc.mpr ⟨(okc.mp (okc.mp hs).2).1, hs⟩⟩⟩) k
theorem xw_goto {off : Int} {t : Nat} (C : XC p s m args meth c dC dI q r) (hd : decode r.1.2.1 pc = .ok (.goto off, 3)) (ht : (pc : Int) + off = (t : Int)) (k : XW p l e R s m args below meth c Q ad dC dI B n0 s0 t ls st μ) : XW p l e R s m args below meth c Q ad dC dI B n0 s0 pc ls st μ :=
  XW.pure (st' := st) (fun H locs lsA cells slots hl ho hs => ⟨fun w => lv_goto C.2.1 C.2.2.1 hd ht w, hs⟩) k
def cP (c : ClassFile.Cond) (x y : Int) : Prop := match c with
  | .eq => x = y
  | .ne => ¬ x = y
  | .lt => x < y
  | .ge => y ≤ x
  | .gt => y < x
  | .le => x ≤ y
theorem br_spec {cnd : ClassFile.Cond} {x y : Int} {a b : Option XR} {z : XR} (h : br cnd x y a b = some z) : (cP cnd x y ∧ a = some z) ∨ (¬ cP cnd x y ∧ b = some z) := by
  cases cnd <;> simp only [br] at h <;> simp only [cP] <;> split at h <;> first | exact Or.inl ⟨by assumption, h⟩ | exact Or.inr ⟨by assumption, h⟩ | exact Or.inr ⟨fun z => z (by assumption), h⟩
theorem xw_if {cnd : ClassFile.Cond} {x off : Int} {t : Nat} (C : XC p s m args meth c dC dI q r) (hd : decode r.1.2.1 pc = .ok (.ifCond cnd off, 3)) (ht : (pc : Int) + off = (t : Int)) (k1 : cP cnd x 0 → XW p l e R s m args below meth c Q ad dC dI B n0 s0 t ls st μ) (k2 : ¬ cP cnd x 0 → XW p l e R s m args below meth c Q ad dC dI B n0 s0 (pc + 3) ls st μ) : XW p l e R s m args below meth c Q ad dC dI B n0 s0 pc ls (xI x :: st) μ := by
  intro H locs lsA h1 h2 h3 h4 h5 h6 h7 h8
  have hx := (okc.mp h4).1
  have K1 := fun h => k1 h H locs lsA h1 h2 h3 (okc.mp h4).2 h5 h6 h7 h8
  have K2 := fun h => k2 h H locs lsA h1 h2 h3 (okc.mp h4).2 h5 h6 h7 h8
  have ex : Int32.ofInt x = 0 ↔ x = 0 := by rw [← o32]; exact eq32 hx z32
  have lx : Int32.ofInt x < 0 ↔ x < 0 := by rw [← o32]; exact lt32 hx z32
  have lx' : 0 < Int32.ofInt x ↔ 0 < x := by rw [← o32]; exact lt32 z32 hx
  have gx : Int32.ofInt x ≤ 0 ↔ x ≤ 0 := by rw [← o32]; exact le32 hx z32
  have gx' : 0 ≤ Int32.ofInt x ↔ 0 ≤ x := by rw [← o32]; exact le32 z32 hx
  cases cnd
  · exact lv_if_eq C.2.1 C.2.2.1 hd ht (fun h => K1 (ex.mp h)) (fun h => K2 (fun z => h (ex.mpr z)))
  · exact lv_if_ne C.2.1 C.2.2.1 hd ht (fun h => K1 (fun z => h (ex.mpr z))) (fun h => K2 (fun z => z (ex.mp h)))
  · exact lv_if_lt C.2.1 C.2.2.1 hd ht (fun h => K1 (lx.mp h)) (fun h => K2 (fun z => h (lx.mpr z)))
  · exact lv_if_ge C.2.1 C.2.2.1 hd ht (fun h => K1 (gx'.mp h)) (fun h => K2 (fun z => h (gx'.mpr z)))
  · exact lv_if_gt C.2.1 C.2.2.1 hd ht (fun h => K1 (lx'.mp h)) (fun h => K2 (fun z => h (lx'.mpr z)))
  · exact lv_if_le C.2.1 C.2.2.1 hd ht (fun h => K1 (gx.mp h)) (fun h => K2 (fun z => h (gx.mpr z)))
theorem xw_icmp {cnd : ClassFile.Cond} {x y off : Int} {t : Nat} (C : XC p s m args meth c dC dI q r) (hd : decode r.1.2.1 pc = .ok (.if_icmp cnd off, 3)) (ht : (pc : Int) + off = (t : Int)) (k1 : cP cnd x y → XW p l e R s m args below meth c Q ad dC dI B n0 s0 t ls st μ) (k2 : ¬ cP cnd x y → XW p l e R s m args below meth c Q ad dC dI B n0 s0 (pc + 3) ls st μ) : XW p l e R s m args below meth c Q ad dC dI B n0 s0 pc ls (xI y :: xI x :: st) μ := by
  intro H locs lsA h1 h2 h3 h4 h5 h6 h7 h8
  have hy := (okc.mp h4).1
  have hx := (okc.mp (okc.mp h4).2).1
  have h4 := (okc.mp (okc.mp h4).2).2
  have K1 := fun h => k1 h H locs lsA h1 h2 h3 h4 h5 h6 h7 h8
  have K2 := fun h => k2 h H locs lsA h1 h2 h3 h4 h5 h6 h7 h8
  have ex := eq32 hx hy
  have lx := lt32 hx hy
  have lx' := lt32 hy hx
  have gx := le32 hx hy
  have gx' := le32 hy hx
  cases cnd
  · exact lv_icmp_eq C.2.1 C.2.2.1 hd ht (fun h => K1 (ex.mp h)) (fun h => K2 (fun z => h (ex.mpr z)))
  · exact lv_icmp_ne C.2.1 C.2.2.1 hd ht (fun h => K1 (fun z => h (ex.mpr z))) (fun h => K2 (fun z => z (ex.mp h)))
  · exact lv_icmp_lt C.2.1 C.2.2.1 hd ht (fun h => K1 (lx.mp h)) (fun h => K2 (fun z => h (lx.mpr z)))
  · exact lv_icmp_ge C.2.1 C.2.2.1 hd ht (fun h => K1 (gx'.mp h)) (fun h => K2 (fun z => h (gx'.mpr z)))
  · exact lv_icmp_gt C.2.1 C.2.2.1 hd ht (fun h => K1 (lx'.mp h)) (fun h => K2 (fun z => h (lx'.mpr z)))
  · exact lv_icmp_le C.2.1 C.2.2.1 hd ht (fun h => K1 (gx.mp h)) (fun h => K2 (fun z => h (gx.mpr z)))
theorem xw_istore_n {k0 : Fin 4} {x : Int} (C : XC p s m args meth c dC dI q r) (hd : decode r.1.2.1 pc = .ok (.istore_n k0, 1)) (hn : k0.val < ls.length) (hl : lgB ls k0.val = false) (k : XW p l e R s m args below meth c Q ad dC dI B n0 s0 (pc + 1) (ls.set k0.val (xI x)) st μ) : XW p l e R s m args below meth c Q ad dC dI B n0 s0 pc ls (xI x :: st) μ := by
  intro H locs lsA h1 h2 h3 h4 h5 h6 h7 h8
  refine lv_istore_n C.2.1 C.2.2.1 hd rfl h1 (by rw [← h2]; exact hn) rfl (fun ls2 g => ?_)
  exact k H locs ls2 (has_sub g (lvl_set1 hl)) (by rw [List.length_set]; exact h2) (ok_set h3 (okc.mp h4).1) (okc.mp h4).2 h5 h6 h7 h8
theorem xw_istore {k0 : Nat} {x : Int} (C : XC p s m args meth c dC dI q r) (hd : decode r.1.2.1 pc = .ok (.istore k0, 2)) (hn : k0 < ls.length) (hl : lgB ls k0 = false) (k : XW p l e R s m args below meth c Q ad dC dI B n0 s0 (pc + 2) (ls.set k0 (xI x)) st μ) : XW p l e R s m args below meth c Q ad dC dI B n0 s0 pc ls (xI x :: st) μ := by
  intro H locs lsA h1 h2 h3 h4 h5 h6 h7 h8
  refine lv_istore C.2.1 C.2.2.1 hd h1 (by rw [← h2]; exact hn) rfl (fun ls2 g => ?_)
  exact k H locs ls2 (has_sub g (lvl_set1 hl)) (by rw [List.length_set]; exact h2) (ok_set h3 (okc.mp h4).1) (okc.mp h4).2 h5 h6 h7 h8
theorem xw_astore_n {k0 : Fin 4} {x : Nat} (C : XC p s m args meth c dC dI q r) (hd : decode r.1.2.1 pc = .ok (.astore_n k0, 1)) (hn : k0.val < ls.length) (hl : lgB ls k0.val = false) (k : XW p l e R s m args below meth c Q ad dC dI B n0 s0 (pc + 1) (ls.set k0.val (xR x)) st μ) : XW p l e R s m args below meth c Q ad dC dI B n0 s0 pc ls (xR x :: st) μ := by
  intro H locs lsA h1 h2 h3 h4 h5 h6 h7 h8
  refine lv_astore_n C.2.1 C.2.2.1 hd rfl h1 (by rw [← h2]; exact hn) rfl (fun ls2 g => ?_)
  exact k H locs ls2 (has_sub g (lvl_set1 hl)) (by rw [List.length_set]; exact h2) (ok_set h3 (okc.mp h4).1) (okc.mp h4).2 h5 h6 h7 h8
theorem xw_astore {k0 : Nat} {x : Nat} (C : XC p s m args meth c dC dI q r) (hd : decode r.1.2.1 pc = .ok (.astore k0, 2)) (hn : k0 < ls.length) (hl : lgB ls k0 = false) (k : XW p l e R s m args below meth c Q ad dC dI B n0 s0 (pc + 2) (ls.set k0 (xR x)) st μ) : XW p l e R s m args below meth c Q ad dC dI B n0 s0 pc ls (xR x :: st) μ := by
  intro H locs lsA h1 h2 h3 h4 h5 h6 h7 h8
  refine lv_astore C.2.1 C.2.2.1 hd h1 (by rw [← h2]; exact hn) rfl (fun ls2 g => ?_)
  exact k H locs ls2 (has_sub g (lvl_set1 hl)) (by rw [List.length_set]; exact h2) (ok_set h3 (okc.mp h4).1) (okc.mp h4).2 h5 h6 h7 h8
theorem xw_lstore_n {k0 : Fin 4} {x : Int} (C : XC p s m args meth c dC dI q r) (hd : decode r.1.2.1 pc = .ok (.lstore_n k0, 1)) (hn : k0.val + 1 < ls.length) (hl : lgB ls k0.val = false) (k : XW p l e R s m args below meth c Q ad dC dI B n0 s0 (pc + 1) ((ls.set k0.val (xL x)).set (k0.val + 1) xU) st μ) : XW p l e R s m args below meth c Q ad dC dI B n0 s0 pc ls (xL x :: st) μ := by
  intro H locs lsA h1 h2 h3 h4 h5 h6 h7 h8
  refine lv_lstore_n C.2.1 C.2.2.1 hd rfl h1 (by rw [← h2]; exact hn) rfl (fun ls2 g => ?_)
  exact k H locs ls2 (has_sub g (lvl_set2 hl)) (by rw [List.length_set, List.length_set]; exact h2) (ok_set (ok_set h3 (okc.mp h4).1) trivial) (okc.mp h4).2 h5 h6 h7 h8
theorem xw_lstore {k0 : Nat} {x : Int} (C : XC p s m args meth c dC dI q r) (hd : decode r.1.2.1 pc = .ok (.lstore k0, 2)) (hn : k0 + 1 < ls.length) (hl : lgB ls k0 = false) (k : XW p l e R s m args below meth c Q ad dC dI B n0 s0 (pc + 2) ((ls.set k0 (xL x)).set (k0 + 1) xU) st μ) : XW p l e R s m args below meth c Q ad dC dI B n0 s0 pc ls (xL x :: st) μ := by
  intro H locs lsA h1 h2 h3 h4 h5 h6 h7 h8
  refine lv_lstore C.2.1 C.2.2.1 hd h1 (by rw [← h2]; exact hn) rfl (fun ls2 g => ?_)
  exact k H locs ls2 (has_sub g (lvl_set2 hl)) (by rw [List.length_set, List.length_set]; exact h2) (ok_set (ok_set h3 (okc.mp h4).1) trivial) (okc.mp h4).2 h5 h6 h7 h8
theorem xw_iinc {k0 : Nat} {n x : Int} (C : XC p s m args meth c dC dI q r) (hd : decode r.1.2.1 pc = .ok (.iinc k0 n, 3)) (hx : ls[k0]? = some (xI x)) (hr : i32 (x + n)) (hn : k0 < ls.length) (hl : lgB ls k0 = false) (k : XW p l e R s m args below meth c Q ad dC dI B n0 s0 (pc + 3) (ls.set k0 (xI (x + n))) st μ) : XW p l e R s m args below meth c Q ad dC dI B n0 s0 pc ls st μ := by
  intro H locs lsA h1 h2 h3 h4 h5 h6 h7 h8
  have hm : (k0, Value.int (Int32.ofInt x)) ∈ lvl ad ls 0 := lvl_mem.mpr ⟨k0, xI x, hx, (fun h => by cases h), by rw [Nat.zero_add]; rfl⟩
  obtain ⟨j, hj⟩ := List.getElem?_of_mem hm
  refine lv_iinc (v := Int32.ofInt (x + n)) C.2.1 C.2.2.1 hd h1 hj (by rw [Int32.ofInt_add]) (by rw [← h2]; exact hn) rfl (fun ls2 g => ?_)
  exact k H locs ls2 (has_sub g (lvl_set1 (v := xI (x + n)) hl)) (by rw [List.length_set]; exact h2) (ok_set h3 hr) h4 h5 h6 h7 h8
theorem xw_tabO {d lo hi : Int} {offs : Array Int} {len : Nat} {x : Int} {t : Nat} (C : XC p s m args meth c dC dI q r) (hd : decode r.1.2.1 pc = .ok (.tableswitch d lo hi offs, len)) (h : x < lo ∨ hi < x) (ht : (pc : Int) + d = (t : Int)) (k : XW p l e R s m args below meth c Q ad dC dI B n0 s0 t ls st μ) : XW p l e R s m args below meth c Q ad dC dI B n0 s0 pc ls (xI x :: st) μ :=
  XW.pure (st' := st) (fun H locs lsA cells slots hl ho hs => ⟨fun w => lv_tableOut C.2.1 C.2.2.1 hd (by rw [n32 (okc.mp hs).1]; exact h) ht w, (okc.mp hs).2⟩) k
theorem xw_tabI {d lo hi : Int} {offs : Array Int} {len : Nat} {x off : Int} {t : Nat} (C : XC p s m args meth c dC dI q r) (hd : decode r.1.2.1 pc = .ok (.tableswitch d lo hi offs, len)) (h : ¬ (x < lo ∨ hi < x)) (ho2 : offs[(x - lo).toNat]? = some off) (ht : (pc : Int) + off = (t : Int)) (k : XW p l e R s m args below meth c Q ad dC dI B n0 s0 t ls st μ) : XW p l e R s m args below meth c Q ad dC dI B n0 s0 pc ls (xI x :: st) μ :=
  XW.pure (st' := st) (fun H locs lsA cells slots hl ho hs => ⟨fun w => lv_tableIn C.2.1 C.2.2.1 hd (by rw [n32 (okc.mp hs).1]; exact fun z => h (Or.inl z)) (by rw [n32 (okc.mp hs).1]; exact fun z => h (Or.inr z)) (by rw [n32 (okc.mp hs).1]; exact ho2) ht w, (okc.mp hs).2⟩) k
theorem xw_look {d : Int} {ps : Array (Int × Int)} {len : Nat} {x : Int} {t : Nat} (C : XC p s m args meth c dC dI q r) (hd : decode r.1.2.1 pc = .ok (.lookupswitch d ps, len)) (hp : (ps.toList.zip (ps.toList.drop 1)).all (fun (a, next) => a.1 < next.1) = true) (ht : (pc : Int) + Op.lookupswitch.offset ps.toList d x = (t : Int)) (k : XW p l e R s m args below meth c Q ad dC dI B n0 s0 t ls st μ) : XW p l e R s m args below meth c Q ad dC dI B n0 s0 pc ls (xI x :: st) μ :=
  XW.pure (st' := st) (fun H locs lsA cells slots hl ho hs => ⟨fun w => lv_lookup C.2.1 C.2.2.1 hd hp (by rw [n32 (okc.mp hs).1]) ht w, (okc.mp hs).2⟩) k
end XStep
