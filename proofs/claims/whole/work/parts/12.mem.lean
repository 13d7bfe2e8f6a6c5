/-! THE STEPS that touch memory -/
theorem u_sz : ∀ c : Nat, ∀ q : vw_C, clX[c]? = some q → q.2.2 = cO c
  | 0 => fun q h => by cases h; rfl
  | 1 => fun q h => by cases h; rfl
  | 2 => fun q h => by cases h; rfl
  | 3 => fun q h => by cases h; rfl
  | 4 => fun q h => by cases h; rfl
  | 5 => fun q h => by cases h; rfl
  | 6 => fun q h => by cases h; rfl
  | 7 => fun q h => by cases h; rfl
  | 8 => fun q h => by cases h; rfl
  | 9 => fun q h => by cases h; rfl
  | 10 => fun q h => by cases h; rfl
  | 11 => fun q h => by cases h; rfl
  | n + 12 => fun q h => by simp [clX] at h
section XMem0
variable {ad : Nat → Nat} {dC : Nat → ClassId} {dI : Nat → Nat → Nat} {U : State} {H : Heap} {μ : XM} {a : Nat} {i : Int}
theorem cR_1 (e : (μ.2.1 a).1 = 1) : cR ad dC dI U H μ a ↔ ∃ cA, H[ad a]? = some (arrV cA (μ.2.1 a).2 (fun j => .int (Int32.ofInt (μ.1 a j)))) ∧ ArrOfT U cA .int := by unfold cR; rw [e]
theorem cR_2 (e : (μ.2.1 a).1 = 2) : cR ad dC dI U H μ a ↔ ∃ cA, H[ad a]? = some (arrV cA (μ.2.1 a).2 (fun j => .int (Int32.ofInt (μ.1 a j)))) ∧ ArrOfT U cA .boolean := by unfold cR; rw [e]
theorem cR_3 (e : (μ.2.1 a).1 = 3) : cR ad dC dI U H μ a ↔ ∃ cA, H[ad a]? = some (arrV cA (μ.2.1 a).2 (fun j => .long (Int64.ofInt (μ.1 a j)))) ∧ ArrOfT U cA .long := by unfold cR; rw [e]
theorem cR_4 (e : (μ.2.1 a).1 = 4) : cR ad dC dI U H μ a ↔ ∃ cA, H[ad a]? = some (arrV cA (μ.2.1 a).2 (fun j => va_rf ((μ.2.2.1 a j).map ad))) ∧ ArrOfT U cA (.array .int) := by unfold cR; rw [e]
theorem cR_5 (e : (μ.2.1 a).1 = 5) : cR ad dC dI U H μ a ↔ ∃ cA, H[ad a]? = some (arrV cA (μ.2.1 a).2 (fun j => va_rf ((μ.2.2.1 a j).map ad))) ∧ ArrOfT U cA (.object "LightPlate$Row") ∧ va_RA U cA (.object "LightPlate$Row") := by unfold cR; rw [e]
theorem cR_9 (e : (μ.2.1 a).1 = 9) : cR ad dC dI U H μ a ↔ ∃ scr : Cell, H[ad a]? = some scr ∧ U.isArrayOf scr .int ∧ scr.vm ≠ .unknown ∧ scr.slots.size = (μ.2.1 a).2 ∧ ∀ j : Nat, j < (μ.2.1 a).2 → scr.slots[j]? = some (.int (Int32.ofInt (μ.1 a j))) := by unfold cR; rw [e]
theorem cR_o {k : Nat} (e : (μ.2.1 a).1 = 10 + k) : cR ad dC dI U H μ a ↔ ∃ q : vw_C, clX[k]? = some q ∧ t_OB (ad a) (dC k) q.2.2 (dI k) H (fun j => fV ad μ a k j) := by unfold cR; rw [e, Nat.add_comm]
theorem okC_1 (e : (μ.2.1 a).1 = 1) : okC μ a i ↔ i32 (μ.1 a i) := by unfold okC; rw [e]
theorem okC_2 (e : (μ.2.1 a).1 = 2) : okC μ a i ↔ (μ.1 a i = 0 ∨ μ.1 a i = 1) := by unfold okC; rw [e]
theorem okC_3 (e : (μ.2.1 a).1 = 3) : okC μ a i ↔ i64 (μ.1 a i) := by unfold okC; rw [e]
theorem okC_4 (e : (μ.2.1 a).1 = 4) : okC μ a i ↔ True := by unfold okC; rw [e]
theorem okC_5 (e : (μ.2.1 a).1 = 5) : okC μ a i ↔ True := by unfold okC; rw [e]
theorem okC_9 (e : (μ.2.1 a).1 = 9) : okC μ a i ↔ i32 (μ.1 a i) := by unfold okC; rw [e]
theorem okC_o {k : Nat} (e : (μ.2.1 a).1 = 10 + k) : okC μ a i ↔ ((fT k i.toNat = 0 → i32 (μ.1 a i)) ∧ (fT k i.toNat = 1 → μ.1 a i = 0 ∨ μ.1 a i = 1) ∧ (fT k i.toNat = 2 → i64 (μ.1 a i))) := by unfold okC; rw [e, Nat.add_comm]
theorem upd_fun {f : Int → Int} {k : Int} {x : Int} (h0 : 0 ≤ k) (mk : Int → Value) : updV (fun j : Nat => mk (f j)) k.toNat (mk x) = fun j : Nat => mk (vU f k x j) := by
  funext j
  by_cases h : j = k.toNat
  · have h2 : (j : Int) = k := by omega
    simp only [updV, vU, if_pos h, if_pos h2]
  · have h2 : ¬ (j : Int) = k := by omega
    simp [updV, vU, h, h2]
theorem vA_at {V : Nat → Int → Int} {f : Int → Int} : vA V a f a = f := by simp [vA]
theorem z01 {x : Int} (h : x = 0 ∨ x = 1) : i32 x := by rcases h with rfl | rfl <;> decide
theorem nb01 {x : Int} (h : x = 0 ∨ x = 1) : narrow .boolean (.int (Int32.ofInt x)) = .int (Int32.ofInt x) := by rcases h with rfl | rfl <;> rfl
theorem fb01 {x : Int} (h : x = 0 ∨ x = 1) : fits .boolean (.int (Int32.ofInt x)) = true := by rcases h with rfl | rfl <;> rfl
end XMem0
section XMem
variable {p : Program} {l : Launch} {ev : Env} {R : Room} {s : State} {m : MethodId} {args : Array Value} {below : List Frame} {meth : Method} {c : Code} {Q : State → Prop} {ad : Nat → Nat} {dC : Nat → ClassId} {dI : Nat → Nat → Nat} {B n0 s0 : Nat} {q : Nat} {r : MR} {pc : Nat} {ls st : List XV} {μ : XM}
theorem xw_alen {a : Nat} (C : XC p s m args meth c dC dI q r) (hd : decode r.1.2.1 pc = .ok (.arraylength, 1)) (hk : (μ.2.1 a).1 = 1 ∨ (μ.2.1 a).1 = 3 ∨ (μ.2.1 a).1 = 9) (hn : (μ.2.1 a).2 ≤ 100000) (k : XW p l ev R s m args below meth c Q ad dC dI B n0 s0 (pc + 1) ls (xI ((μ.2.1 a).2 : Nat) :: st) μ) : XW p l ev R s m args below meth c Q ad dC dI B n0 s0 pc ls (xR a :: st) μ := by
  intro H locs lsA h1 h2 h3 h4 h5 h6 h7 h8
  have K := k H locs lsA h1 h2 h3 (okc.mpr ⟨⟨by omega, by omega⟩, (okc.mp h4).2⟩) h5 h6 h7 h8
  rcases hk with e | e | e
  · obtain ⟨cA, g1, g2⟩ := (cR_1 e).mp (h5.1 a)
    exact W.alen (n := Int32.ofInt ((μ.2.1 a).2 : Nat)) C.2.1 C.2.2.1 g1 (g2 _ _) (by rw [arrV_size, Int32.ofInt_eq_ofNat]) rfl rfl hd K
  · obtain ⟨cA, g1, g2⟩ := (cR_3 e).mp (h5.1 a)
    exact W.alen (n := Int32.ofInt ((μ.2.1 a).2 : Nat)) C.2.1 C.2.2.1 g1 (g2 _ _) (by rw [arrV_size, Int32.ofInt_eq_ofNat]) rfl rfl hd K
  · obtain ⟨scr, g1, g2, g3, g4, g5⟩ := (cR_9 e).mp (h5.1 a)
    exact W.alen (n := Int32.ofInt ((μ.2.1 a).2 : Nat)) C.2.1 C.2.2.1 g1 g2 (by rw [g4, Int32.ofInt_eq_ofNat]) rfl rfl hd K
theorem xw_iald {a : Nat} {j : Int} (C : XC p s m args meth c dC dI q r) (hd : decode r.1.2.1 pc = .ok (.iaload, 1)) (e : (μ.2.1 a).1 = 1) (h0 : 0 ≤ j) (hj : j < ((μ.2.1 a).2 : Nat)) (k : XW p l ev R s m args below meth c Q ad dC dI B n0 s0 (pc + 1) ls (xI (μ.1 a j) :: st) μ) : XW p l ev R s m args below meth c Q ad dC dI B n0 s0 pc ls (xI j :: xR a :: st) μ := by
  intro H locs lsA h1 h2 h3 h4 h5 h6 h7 h8
  have hj32 : i32 j := (okc.mp h4).1
  have hok := h5.2.1 a j
  rw [okC_1 e] at hok
  have K := k H locs lsA h1 h2 h3 (okc.mpr ⟨hok, (okc.mp (okc.mp h4).2).2⟩) h5 h6 h7 h8
  obtain ⟨cA, g1, g2⟩ := (cR_1 e).mp (h5.1 a)
  exact W.iald (v := .int (Int32.ofInt (μ.1 a j))) C.2.1 C.2.2.1 g1 (g2 _ _) (fun z => by cases z) (by rw [arrV_size]; exact in32 hj32 h0 hj) (by rw [cl32 hj32, arrV_read _ _ (by omega)]; simp only [Int.toNat_of_nonneg h0]) rfl rfl hd K
theorem xw_zald {a : Nat} {j : Int} (C : XC p s m args meth c dC dI q r) (hd : decode r.1.2.1 pc = .ok (.baload, 1)) (e : (μ.2.1 a).1 = 2) (h0 : 0 ≤ j) (hj : j < ((μ.2.1 a).2 : Nat)) (k : XW p l ev R s m args below meth c Q ad dC dI B n0 s0 (pc + 1) ls (xI (μ.1 a j) :: st) μ) : XW p l ev R s m args below meth c Q ad dC dI B n0 s0 pc ls (xI j :: xR a :: st) μ := by
  intro H locs lsA h1 h2 h3 h4 h5 h6 h7 h8
  have hj32 : i32 j := (okc.mp h4).1
  have hok := h5.2.1 a j
  rw [okC_2 e] at hok
  have K := k H locs lsA h1 h2 h3 (okc.mpr ⟨z01 hok, (okc.mp (okc.mp h4).2).2⟩) h5 h6 h7 h8
  obtain ⟨cA, g1, g2⟩ := (cR_2 e).mp (h5.1 a)
  exact W.zald (v := .int (Int32.ofInt (μ.1 a j))) C.2.1 C.2.2.1 g1 (g2 _ _) (fun z => by cases z) (by rw [arrV_size]; exact in32 hj32 h0 hj) (by rw [cl32 hj32, arrV_read _ _ (by omega)]; simp only [Int.toNat_of_nonneg h0]) rfl rfl hd K
theorem xw_lald {a : Nat} {j : Int} (C : XC p s m args meth c dC dI q r) (hd : decode r.1.2.1 pc = .ok (.laload, 1)) (e : (μ.2.1 a).1 = 3) (h0 : 0 ≤ j) (hj : j < ((μ.2.1 a).2 : Nat)) (k : XW p l ev R s m args below meth c Q ad dC dI B n0 s0 (pc + 1) ls (xL (μ.1 a j) :: st) μ) : XW p l ev R s m args below meth c Q ad dC dI B n0 s0 pc ls (xI j :: xR a :: st) μ := by
  intro H locs lsA h1 h2 h3 h4 h5 h6 h7 h8
  have hj32 : i32 j := (okc.mp h4).1
  have hok := h5.2.1 a j
  rw [okC_3 e] at hok
  have K := k H locs lsA h1 h2 h3 (okc.mpr ⟨hok, (okc.mp (okc.mp h4).2).2⟩) h5 h6 h7 h8
  obtain ⟨cA, g1, g2⟩ := (cR_3 e).mp (h5.1 a)
  exact W.lald (v := .long (Int64.ofInt (μ.1 a j))) C.2.1 C.2.2.1 g1 (g2 _ _) (fun z => by cases z) (by rw [arrV_size]; exact in32 hj32 h0 hj) (by rw [cl32 hj32, arrV_read _ _ (by omega)]; simp only [Int.toNat_of_nonneg h0]) rfl rfl hd K
theorem xw_sald {a : Nat} {j : Int} (C : XC p s m args meth c dC dI q r) (hd : decode r.1.2.1 pc = .ok (.iaload, 1)) (e : (μ.2.1 a).1 = 9) (h0 : 0 ≤ j) (hj : j < ((μ.2.1 a).2 : Nat)) (k : XW p l ev R s m args below meth c Q ad dC dI B n0 s0 (pc + 1) ls (xI (μ.1 a j) :: st) μ) : XW p l ev R s m args below meth c Q ad dC dI B n0 s0 pc ls (xI j :: xR a :: st) μ := by
  intro H locs lsA h1 h2 h3 h4 h5 h6 h7 h8
  have hj32 : i32 j := (okc.mp h4).1
  have hok := h5.2.1 a j
  rw [okC_9 e] at hok
  have K := k H locs lsA h1 h2 h3 (okc.mpr ⟨hok, (okc.mp (okc.mp h4).2).2⟩) h5 h6 h7 h8
  obtain ⟨scr, g1, g2, g3, g4, g5⟩ := (cR_9 e).mp (h5.1 a)
  exact W.iald (v := .int (Int32.ofInt (μ.1 a j))) C.2.1 C.2.2.1 g1 g2 g3 (by rw [g4]; exact in32 hj32 h0 hj) (by have g6 := g5 j.toNat (by omega); rw [Int.toNat_of_nonneg h0] at g6; rw [cl32 hj32]; exact g6) rfl rfl hd K
theorem xw_aald4 {a b : Nat} {j : Int} (C : XC p s m args meth c dC dI q r) (hd : decode r.1.2.1 pc = .ok (.aaload, 1)) (e : (μ.2.1 a).1 = 4) (h0 : 0 ≤ j) (hj : j < ((μ.2.1 a).2 : Nat)) (hb : μ.2.2.1 a j = some b) (k : XW p l ev R s m args below meth c Q ad dC dI B n0 s0 (pc + 1) ls (xR b :: st) μ) : XW p l ev R s m args below meth c Q ad dC dI B n0 s0 pc ls (xI j :: xR a :: st) μ := by
  intro H locs lsA h1 h2 h3 h4 h5 h6 h7 h8
  have hj32 : i32 j := (okc.mp h4).1
  have K := k H locs lsA h1 h2 h3 (okc.mpr ⟨trivial, (okc.mp (okc.mp h4).2).2⟩) h5 h6 h7 h8
  obtain ⟨cA, g1, g2⟩ := (cR_4 e).mp (h5.1 a)
  exact W.aald (v := .ref (ad b)) (ty := .array .int) C.2.1 C.2.2.1 g1 (g2 _ _) rfl (fun z => by cases z) (by rw [arrV_size]; exact in32 hj32 h0 hj) (by rw [cl32 hj32, arrV_read _ _ (by omega)]; simp only [Int.toNat_of_nonneg h0, hb]; rfl) rfl rfl hd K
theorem xw_aald5 {a b : Nat} {j : Int} (C : XC p s m args meth c dC dI q r) (hd : decode r.1.2.1 pc = .ok (.aaload, 1)) (e : (μ.2.1 a).1 = 5) (h0 : 0 ≤ j) (hj : j < ((μ.2.1 a).2 : Nat)) (hb : μ.2.2.1 a j = some b) (k : XW p l ev R s m args below meth c Q ad dC dI B n0 s0 (pc + 1) ls (xR b :: st) μ) : XW p l ev R s m args below meth c Q ad dC dI B n0 s0 pc ls (xI j :: xR a :: st) μ := by
  intro H locs lsA h1 h2 h3 h4 h5 h6 h7 h8
  have hj32 : i32 j := (okc.mp h4).1
  have K := k H locs lsA h1 h2 h3 (okc.mpr ⟨trivial, (okc.mp (okc.mp h4).2).2⟩) h5 h6 h7 h8
  obtain ⟨cA, g1, g2, -⟩ := (cR_5 e).mp (h5.1 a)
  exact W.aald (v := .ref (ad b)) (ty := .object "LightPlate$Row") C.2.1 C.2.2.1 g1 (g2 _ _) rfl (fun z => by cases z) (by rw [arrV_size]; exact in32 hj32 h0 hj) (by rw [cl32 hj32, arrV_read _ _ (by omega)]; simp only [Int.toNat_of_nonneg h0, hb]; rfl) rfl rfl hd K
theorem xw_iast {a : Nat} {j x : Int} (C : XC p s m args meth c dC dI q r) (hd : decode r.1.2.1 pc = .ok (.iastore, 1)) (e : (μ.2.1 a).1 = 1) (h0 : 0 ≤ j) (hj : j < ((μ.2.1 a).2 : Nat)) (k : XW p l ev R s m args below meth c Q ad dC dI B n0 s0 (pc + 1) ls st (vA μ.1 a (vU (μ.1 a) j x), μ.2)) : XW p l ev R s m args below meth c Q ad dC dI B n0 s0 pc ls (xI x :: xI j :: xR a :: st) μ := by
  intro H locs lsA h1 h2 h3 h4 h5 h6 h7 h8
  have hx := (okc.mp h4).1
  have hj32 : i32 j := (okc.mp (okc.mp h4).2).1
  have h4 := (okc.mp (okc.mp (okc.mp h4).2).2).2
  have hk0 : (μ.2.1 a).1 ≠ 0 := by rw [e]; decide
  have hk9 : (μ.2.1 a).1 ≠ 9 := by rw [e]; decide
  obtain ⟨cA, g1, g2⟩ := (cR_1 e).mp (h5.1 a)
  refine W.iast C.2.1 C.2.2.1 g1 (g2 _ _) (fun z => by cases z) (by rw [arrV_size]; exact in32 hj32 h0 hj) rfl rfl hd (fun H' e1 e2 e3 => ?_)
  refine k H' _ lsA h1 h2 h3 h4 (h5.put hk0 rfl rfl (fun b hb => by simp [vA, hb]) (fun _ _ => rfl) e2 e3 ((cR_1 (μ := (vA μ.1 a (vU (μ.1 a) j x), μ.2)) e).mpr ⟨cA, ?_, g2⟩) (fun i => ?_)) (h6.put e2 e3 (h5.low hk0 hk9)) h7 h8
  · rw [e1, cl32 hj32, arrV_store, upd_fun (f := μ.1 a) h0 (fun z => .int (Int32.ofInt z))]
    simp only [vA_at]
  · rw [okC_1 (μ := (vA μ.1 a (vU (μ.1 a) j x), μ.2)) e]
    simp only [vA_at]
    have hok := h5.2.1 a i
    rw [okC_1 e] at hok
    by_cases hi : i = j
    · simp only [vU, if_pos hi]; exact hx
    · simp only [vU, if_neg hi]; exact hok
theorem xw_zast {a : Nat} {j x : Int} (C : XC p s m args meth c dC dI q r) (hd : decode r.1.2.1 pc = .ok (.bastore, 1)) (e : (μ.2.1 a).1 = 2) (hb01 : x = 0 ∨ x = 1) (h0 : 0 ≤ j) (hj : j < ((μ.2.1 a).2 : Nat)) (k : XW p l ev R s m args below meth c Q ad dC dI B n0 s0 (pc + 1) ls st (vA μ.1 a (vU (μ.1 a) j x), μ.2)) : XW p l ev R s m args below meth c Q ad dC dI B n0 s0 pc ls (xI x :: xI j :: xR a :: st) μ := by
  intro H locs lsA h1 h2 h3 h4 h5 h6 h7 h8
  have hx := (okc.mp h4).1
  have hj32 : i32 j := (okc.mp (okc.mp h4).2).1
  have h4 := (okc.mp (okc.mp (okc.mp h4).2).2).2
  have hk0 : (μ.2.1 a).1 ≠ 0 := by rw [e]; decide
  have hk9 : (μ.2.1 a).1 ≠ 9 := by rw [e]; decide
  obtain ⟨cA, g1, g2⟩ := (cR_2 e).mp (h5.1 a)
  refine W.zast C.2.1 C.2.2.1 g1 (g2 _ _) (fun z => by cases z) (by rw [arrV_size]; exact in32 hj32 h0 hj) rfl rfl hd (fun H' e1 e2 e3 => ?_)
  refine k H' _ lsA h1 h2 h3 h4 (h5.put hk0 rfl rfl (fun b hb => by simp [vA, hb]) (fun _ _ => rfl) e2 e3 ((cR_2 (μ := (vA μ.1 a (vU (μ.1 a) j x), μ.2)) e).mpr ⟨cA, ?_, g2⟩) (fun i => ?_)) (h6.put e2 e3 (h5.low hk0 hk9)) h7 h8
  · rw [e1, cl32 hj32, nb01 hb01, arrV_store, upd_fun (f := μ.1 a) h0 (fun z => .int (Int32.ofInt z))]
    simp only [vA_at]
  · rw [okC_2 (μ := (vA μ.1 a (vU (μ.1 a) j x), μ.2)) e]
    simp only [vA_at]
    have hok := h5.2.1 a i
    rw [okC_2 e] at hok
    by_cases hi : i = j
    · simp only [vU, if_pos hi]; exact hb01
    · simp only [vU, if_neg hi]; exact hok
theorem xw_last {a : Nat} {j x : Int} (C : XC p s m args meth c dC dI q r) (hd : decode r.1.2.1 pc = .ok (.lastore, 1)) (e : (μ.2.1 a).1 = 3) (h0 : 0 ≤ j) (hj : j < ((μ.2.1 a).2 : Nat)) (k : XW p l ev R s m args below meth c Q ad dC dI B n0 s0 (pc + 1) ls st (vA μ.1 a (vU (μ.1 a) j x), μ.2)) : XW p l ev R s m args below meth c Q ad dC dI B n0 s0 pc ls (xL x :: xI j :: xR a :: st) μ := by
  intro H locs lsA h1 h2 h3 h4 h5 h6 h7 h8
  have hx := (okc.mp h4).1
  have hj32 : i32 j := (okc.mp (okc.mp h4).2).1
  have h4 := (okc.mp (okc.mp (okc.mp h4).2).2).2
  have hk0 : (μ.2.1 a).1 ≠ 0 := by rw [e]; decide
  have hk9 : (μ.2.1 a).1 ≠ 9 := by rw [e]; decide
  obtain ⟨cA, g1, g2⟩ := (cR_3 e).mp (h5.1 a)
  refine W.last C.2.1 C.2.2.1 g1 (g2 _ _) (fun z => by cases z) (by rw [arrV_size]; exact in32 hj32 h0 hj) rfl rfl hd (fun H' e1 e2 e3 => ?_)
  refine k H' _ lsA h1 h2 h3 h4 (h5.put hk0 rfl rfl (fun b hb => by simp [vA, hb]) (fun _ _ => rfl) e2 e3 ((cR_3 (μ := (vA μ.1 a (vU (μ.1 a) j x), μ.2)) e).mpr ⟨cA, ?_, g2⟩) (fun i => ?_)) (h6.put e2 e3 (h5.low hk0 hk9)) h7 h8
  · rw [e1, cl32 hj32, arrV_store, upd_fun (f := μ.1 a) h0 (fun z => .long (Int64.ofInt z))]
    simp only [vA_at]
  · rw [okC_3 (μ := (vA μ.1 a (vU (μ.1 a) j x), μ.2)) e]
    simp only [vA_at]
    have hok := h5.2.1 a i
    rw [okC_3 e] at hok
    by_cases hi : i = j
    · simp only [vU, if_pos hi]; exact hx
    · simp only [vU, if_neg hi]; exact hok
theorem xw_aast {a b : Nat} {j : Int} (C : XC p s m args meth c dC dI q r) (hd : decode r.1.2.1 pc = .ok (.aastore, 1)) (e : (μ.2.1 a).1 = 5) (eb : (μ.2.1 b).1 = 16) (h0 : 0 ≤ j) (hj : j < ((μ.2.1 a).2 : Nat)) (k : XW p l ev R s m args below meth c Q ad dC dI B n0 s0 (pc + 1) ls st (μ.1, gR μ.2 a j b)) : XW p l ev R s m args below meth c Q ad dC dI B n0 s0 pc ls (xR b :: xI j :: xR a :: st) μ := by
  intro H locs lsA h1 h2 h3 h4 h5 h6 h7 h8
  have hj32 : i32 j := (okc.mp (okc.mp h4).2).1
  have h4 := (okc.mp (okc.mp (okc.mp h4).2).2).2
  have hk0 : (μ.2.1 a).1 ≠ 0 := by rw [e]; decide
  have hk9 : (μ.2.1 a).1 ≠ 9 := by rw [e]; decide
  obtain ⟨cA, g1, g2, g3⟩ := (cR_5 e).mp (h5.1 a)
  obtain ⟨qv, v0, cellV, v1, v2, v3, -⟩ := (cR_o (k := 6) eb).mp (h5.1 b)
  have hq6 : clX[6]? = some ("LightPlate$Row", TF6, 3) := rfl
  have hcls := (C.2.2.2.2.2.2.2.2.2.1.1 6 _ hq6).2
  obtain ⟨kA, comp, k1, k2, k3, k4⟩ := id g3
  have hcomp : comp = dC 6 := Option.some.inj (k3.symm.trans hcls.1)
  subst hcomp
  obtain ⟨kC, hkC, hkk⟩ := hcls.2
  refine W.aast C.2.1 C.2.2.1 g1 (fun q h => by cases h) (fun h => by cases h) k1 k2 rfl hkC ⟨fun z => in32 hj32 h0 hj (Or.inl z), by show _ < (arrV _ _ _).slots.size; rw [arrV_size, cl32 hj32]; omega⟩ v1 (fun q h => by rw [v3] at h; cases h) (by rw [v2]; exact hkC) (by rw [v2]; exact va_assign hcls) rfl rfl hd (fun H' e1 e2 e3 => ?_)
  refine k H' _ lsA h1 h2 h3 h4 (h5.put hk0 rfl rfl (fun _ _ => rfl) (fun b hb => by simp [gR, hb]) e2 e3 ((cR_5 (μ := (μ.1, gR μ.2 a j b)) e).mpr ⟨cA, ?_, g2, g3⟩) (fun i => (okC_5 (μ := (μ.1, gR μ.2 a j b)) e).mpr trivial)) (h6.put e2 e3 (h5.low hk0 hk9)) h7 h8
  rw [e1, cl32 hj32, arrV_store]
  congr 2
  funext i
  by_cases hi : i = j.toNat
  · have h9 : (i : Int) = j := by omega
    subst hi
    simp [updV, gR, va_rf, Int.toNat_of_nonneg h0]
  · have h9 : ¬ (i : Int) = j := by omega
    simp [updV, gR, hi, h9]
theorem xw_getI {a k0 ci idx : Nat} (C : XC p s m args meth c dC dI q r) (hd : decode r.1.2.1 pc = .ok (.getfield idx, 3)) (e : (μ.2.1 a).1 = 10 + ci) (hk0 : k0 < cO ci) (hlink : (Cond.fieldLink (cN (q / 100)) idx (TF ci k0).1 (TF ci k0).2.1 (TF ci k0).2.2.1).before args s = true) (ht : fT ci k0 = 0) (k : XW p l ev R s m args below meth c Q ad dC dI B n0 s0 (pc + 3) ls (xI (μ.1 a (k0 : Int)) :: st) μ) : XW p l ev R s m args below meth c Q ad dC dI B n0 s0 pc ls (xR a :: st) μ := by
  intro H locs lsA h1 h2 h3 h4 h5 h6 h7 h8
  obtain ⟨qq, g1, cell, z1, z2, z3, z4⟩ := (cR_o e).mp (h5.1 a)
  obtain ⟨hS, hfc, kC, hkC, hkind⟩ := C.2.2.2.2.2.2.2.2.2.1.1 ci qq g1
  have hN : qq.2.2 = cO ci := u_sz ci qq g1
  have hk : k0 < qq.2.2 := by rw [hN]; exact hk0
  rw [TF_at (k := k0) g1] at hlink
  obtain ⟨cf, kf, fi, f, hi, hsl⟩ := hS k0 hk
  have hok := (okC_o e).mp (h5.2.1 a (k0 : Int))
  rw [Int.toNat_natCast] at hok
  refine W.getf C.2.1 C.2.2.1 C.2.2.2.2.2.1 hlink hi (u_facts hfc hkC (u_lays C.2.2.2.2.2.2.1 (u_in ci qq g1) hk) hi).1 z1 (by rw [z3]; exact fun h => by cases h) (v := fV ad μ a ci k0) (by rw [hsl, z4 k0 hk]) rfl rfl hd ?_
  have K := k H locs lsA h1 h2 h3 (okc.mpr ⟨hok.1 ht, (okc.mp h4).2⟩) h5 h6 h7 h8
  rw [show fV ad μ a ci k0 = tv ad (xI (μ.1 a (k0 : Int))) from by simp [fV, ht, tv]]
  exact K
theorem xw_getZ {a k0 ci idx : Nat} (C : XC p s m args meth c dC dI q r) (hd : decode r.1.2.1 pc = .ok (.getfield idx, 3)) (e : (μ.2.1 a).1 = 10 + ci) (hk0 : k0 < cO ci) (hlink : (Cond.fieldLink (cN (q / 100)) idx (TF ci k0).1 (TF ci k0).2.1 (TF ci k0).2.2.1).before args s = true) (ht : fT ci k0 = 1) (k : XW p l ev R s m args below meth c Q ad dC dI B n0 s0 (pc + 3) ls (xI (μ.1 a (k0 : Int)) :: st) μ) : XW p l ev R s m args below meth c Q ad dC dI B n0 s0 pc ls (xR a :: st) μ := by
  intro H locs lsA h1 h2 h3 h4 h5 h6 h7 h8
  obtain ⟨qq, g1, cell, z1, z2, z3, z4⟩ := (cR_o e).mp (h5.1 a)
  obtain ⟨hS, hfc, kC, hkC, hkind⟩ := C.2.2.2.2.2.2.2.2.2.1.1 ci qq g1
  have hN : qq.2.2 = cO ci := u_sz ci qq g1
  have hk : k0 < qq.2.2 := by rw [hN]; exact hk0
  rw [TF_at (k := k0) g1] at hlink
  obtain ⟨cf, kf, fi, f, hi, hsl⟩ := hS k0 hk
  have hok := (okC_o e).mp (h5.2.1 a (k0 : Int))
  rw [Int.toNat_natCast] at hok
  refine W.getf C.2.1 C.2.2.1 C.2.2.2.2.2.1 hlink hi (u_facts hfc hkC (u_lays C.2.2.2.2.2.2.1 (u_in ci qq g1) hk) hi).1 z1 (by rw [z3]; exact fun h => by cases h) (v := fV ad μ a ci k0) (by rw [hsl, z4 k0 hk]) rfl rfl hd ?_
  have K := k H locs lsA h1 h2 h3 (okc.mpr ⟨z01 (hok.2.1 ht), (okc.mp h4).2⟩) h5 h6 h7 h8
  rw [show fV ad μ a ci k0 = tv ad (xI (μ.1 a (k0 : Int))) from by simp [fV, ht, tv]]
  exact K
theorem xw_getL {a k0 ci idx : Nat} (C : XC p s m args meth c dC dI q r) (hd : decode r.1.2.1 pc = .ok (.getfield idx, 3)) (e : (μ.2.1 a).1 = 10 + ci) (hk0 : k0 < cO ci) (hlink : (Cond.fieldLink (cN (q / 100)) idx (TF ci k0).1 (TF ci k0).2.1 (TF ci k0).2.2.1).before args s = true) (ht : fT ci k0 = 2) (k : XW p l ev R s m args below meth c Q ad dC dI B n0 s0 (pc + 3) ls (xL (μ.1 a (k0 : Int)) :: st) μ) : XW p l ev R s m args below meth c Q ad dC dI B n0 s0 pc ls (xR a :: st) μ := by
  intro H locs lsA h1 h2 h3 h4 h5 h6 h7 h8
  obtain ⟨qq, g1, cell, z1, z2, z3, z4⟩ := (cR_o e).mp (h5.1 a)
  obtain ⟨hS, hfc, kC, hkC, hkind⟩ := C.2.2.2.2.2.2.2.2.2.1.1 ci qq g1
  have hN : qq.2.2 = cO ci := u_sz ci qq g1
  have hk : k0 < qq.2.2 := by rw [hN]; exact hk0
  rw [TF_at (k := k0) g1] at hlink
  obtain ⟨cf, kf, fi, f, hi, hsl⟩ := hS k0 hk
  have hok := (okC_o e).mp (h5.2.1 a (k0 : Int))
  rw [Int.toNat_natCast] at hok
  refine W.getf C.2.1 C.2.2.1 C.2.2.2.2.2.1 hlink hi (u_facts hfc hkC (u_lays C.2.2.2.2.2.2.1 (u_in ci qq g1) hk) hi).1 z1 (by rw [z3]; exact fun h => by cases h) (v := fV ad μ a ci k0) (by rw [hsl, z4 k0 hk]) rfl rfl hd ?_
  have K := k H locs lsA h1 h2 h3 (okc.mpr ⟨hok.2.2 ht, (okc.mp h4).2⟩) h5 h6 h7 h8
  rw [show fV ad μ a ci k0 = tv ad (xL (μ.1 a (k0 : Int))) from by simp [fV, ht, tv]]
  exact K
theorem xw_getR {a k0 ci idx : Nat} {b : Nat} (C : XC p s m args meth c dC dI q r) (hd : decode r.1.2.1 pc = .ok (.getfield idx, 3)) (e : (μ.2.1 a).1 = 10 + ci) (hk0 : k0 < cO ci) (hlink : (Cond.fieldLink (cN (q / 100)) idx (TF ci k0).1 (TF ci k0).2.1 (TF ci k0).2.2.1).before args s = true) (ht : fT ci k0 = 3) (hb : μ.2.2.1 a (k0 : Int) = some b) (k : XW p l ev R s m args below meth c Q ad dC dI B n0 s0 (pc + 3) ls (xR b :: st) μ) : XW p l ev R s m args below meth c Q ad dC dI B n0 s0 pc ls (xR a :: st) μ := by
  intro H locs lsA h1 h2 h3 h4 h5 h6 h7 h8
  obtain ⟨qq, g1, cell, z1, z2, z3, z4⟩ := (cR_o e).mp (h5.1 a)
  obtain ⟨hS, hfc, kC, hkC, hkind⟩ := C.2.2.2.2.2.2.2.2.2.1.1 ci qq g1
  have hN : qq.2.2 = cO ci := u_sz ci qq g1
  have hk : k0 < qq.2.2 := by rw [hN]; exact hk0
  rw [TF_at (k := k0) g1] at hlink
  obtain ⟨cf, kf, fi, f, hi, hsl⟩ := hS k0 hk
  have hok := (okC_o e).mp (h5.2.1 a (k0 : Int))
  rw [Int.toNat_natCast] at hok
  refine W.getf C.2.1 C.2.2.1 C.2.2.2.2.2.1 hlink hi (u_facts hfc hkC (u_lays C.2.2.2.2.2.2.1 (u_in ci qq g1) hk) hi).1 z1 (by rw [z3]; exact fun h => by cases h) (v := fV ad μ a ci k0) (by rw [hsl, z4 k0 hk]) rfl rfl hd ?_
  have K := k H locs lsA h1 h2 h3 (okc.mpr ⟨trivial, (okc.mp h4).2⟩) h5 h6 h7 h8
  rw [show fV ad μ a ci k0 = tv ad (xR b) from by simp [fV, ht, tv, hb, va_rf]]
  exact K
theorem xw_putI {a k0 ci idx : Nat} {x : Int} (C : XC p s m args meth c dC dI q r) (hd : decode r.1.2.1 pc = .ok (.putfield idx, 3)) (e : (μ.2.1 a).1 = 10 + ci) (hk0 : k0 < cO ci) (hlink : (Cond.fieldLink (cN (q / 100)) idx (TF ci k0).1 (TF ci k0).2.1 (TF ci k0).2.2.1).before args s = true) (hfin : (TF ci k0).2.2.2 = true → r.1.1.name = "<init>" ∧ ci = q / 100) (ht : fT ci k0 = 0) (k : XW p l ev R s m args below meth c Q ad dC dI B n0 s0 (pc + 3) ls st (vA μ.1 a (vU (μ.1 a) (k0 : Int) x), μ.2)) : XW p l ev R s m args below meth c Q ad dC dI B n0 s0 pc ls (xI x :: xR a :: st) μ := by
  intro H locs lsA h1 h2 h3 h4 h5 h6 h7 h8
  have hx := (okc.mp h4).1
  have h4 := (okc.mp (okc.mp h4).2).2
  have hka0 : (μ.2.1 a).1 ≠ 0 := by omega
  have hka9 : (μ.2.1 a).1 ≠ 9 := by omega
  obtain ⟨qq, g1, cell, z1, z2, z3, z4⟩ := (cR_o e).mp (h5.1 a)
  have hKn := C.2.2.2.2.2.2.2.2.2.1
  obtain ⟨hS, hfc, kC, hkC, hkind⟩ := hKn.1 ci qq g1
  have hN : qq.2.2 = cO ci := u_sz ci qq g1
  have hk : k0 < qq.2.2 := by rw [hN]; exact hk0
  rw [TF_at (k := k0) g1] at hlink hfin
  have hin := u_in ci qq g1
  have hts := C.2.2.2.2.2.2.1
  obtain ⟨hpd, hcl, hcn, -⟩ := u_ty ci qq g1 k0 hk
  have hap := va_apart (own := cN (q / 100)) hts hin (fY ci) (fun k hk => (u_ty ci qq g1 k hk).1) (u_nm ci qq g1) hKn g1
  obtain ⟨cf, kf, fi, f, hi, hsl⟩ := hS k0 hk
  have hlay := u_lays hts hin hk
  have hst := (u_facts hfc hkC hlay hi).1
  have hty := u_ft ci qq g1 k0 hk
  have hnar : narrow (fY ci k0) (.int (Int32.ofInt x)) = .int (Int32.ofInt x) := (by rcases hty with ⟨h, h'⟩ | ⟨h, h'⟩ | ⟨h, h'⟩ | ⟨h, h'⟩ <;> first | (rw [h]at ht; exact absurd ht (by decide)) | (rw [h']; rfl))
  have hfit : fits (fY ci k0) (.int (Int32.ofInt x)) = true := (by rcases hty with ⟨h, h'⟩ | ⟨h, h'⟩ | ⟨h, h'⟩ | ⟨h, h'⟩ <;> first | (rw [h]at ht; exact absurd ht (by decide)) | (rw [h']; rfl))
  have fin : ∀ (H' : Heap) (locs' : List Loc), H'[ad a]? = some (cell.setSlot f.slot (.int (Int32.ofInt x))) → H'.size = H.size → (∀ q, q ≠ ad a → H'[q]? = H[q]?) → va_S (fun q => B ≤ q) s.heap H' locs' → W p l ev R s m args below meth c H' locs' (μ.2.2.2.1 - n0) (μ.2.2.2.2.1 - s0) Q (F0 m (pc + 3) lsA (st.map (tv ad))) := by
    intro H' locs' e1 e2 e3 e4
    rw [hsl] at e1
    refine k H' locs' lsA h1 h2 h3 h4 (h5.put hka0 rfl rfl (fun b hb => by simp [vA, gR, hb]) (fun b hb => by simp [gR, hb]) e2 e3 ((cR_o (μ := (vA μ.1 a (vU (μ.1 a) (k0 : Int) x), μ.2)) e).mpr ⟨qq, g1, t_OB.to (V := updV (fun j => fV ad μ a ci j) k0 (.int (Int32.ofInt x))) ⟨_, e1, z2, z3, t_set z4 hap hk _⟩ (fun j _ => ?_)⟩) (fun i => ?_)) e4 h7 h8
    · by_cases hj : j = k0
      · subst hj; simp [updV, fV, vA, vU, gR, ht, va_rf]
      · have hj2 : ¬ (j : Int) = (k0 : Int) := by omega
        simp only [updV, fV, vA, vU, gR, hj, hj2, if_false, if_true]
    · rw [okC_o (μ := (vA μ.1 a (vU (μ.1 a) (k0 : Int) x), μ.2)) e]
      have hok := (okC_o e).mp (h5.2.1 a i)
      by_cases hj : i = (k0 : Int)
      · subst hj; simp [vA, vU, ht]; exact hx
      · simpa [vA, vU, hj] using hok
  by_cases hf : (qq.2.1 k0).2.2.2 = true
  · obtain ⟨hin2, hown⟩ := hfin hf
    have hcf : m.cls = cf := by
      have hl2 := hts _ (hin _ (u_in_lay hk))
      unfold u_lay at hl2
      rw [if_pos hf] at hl2
      obtain ⟨_, _, c', _, _, _, -, -, hf', -, -, -, hown2, -⟩ := Cond.laysFinal_spec hl2
      have e1 : c' = cf := by have := hi.symm.trans hf'; simp at this; exact this.1.symm
      rw [hcl, hcn, hown] at hown2
      rw [← e1]; exact Option.some.inj (C.2.2.2.2.2.1.symm.trans hown2)
    have h9 := u_fits hfc hkC hkind hlay hi hpd hnar hfit
    exact W.putFinK C.2.1 C.2.2.1 C.2.2.2.2.2.1 hlink hi hst hcf (C.2.2.2.2.2.2.2.2.1 hin2) (by rw [z2]; exact h9) z1 z3 (by rw [hsl]; exact k2_hasslot (z4 k0 hk)) rfl rfl hd (fun H' e1 e2 e3 => fin H' _ e1 e2 e3 (h6.put e2 e3 (h5.low hka0 hka9)))
  · have hl2 := hts _ (hin _ (u_in_lay hk))
    unfold u_lay at hl2
    rw [if_neg hf] at hl2
    have h9 := u_store hfc hkC hkind hl2 hi hpd hnar hfit
    exact W.putK C.2.1 C.2.2.1 (f := f) ⟨C.2.2.2.2.2.1, hlink, ⟨_, _, _, hi⟩, hst⟩ (by rw [z2]; exact h9) z1 z3 (by rw [hsl]; exact k2_hasslot (z4 k0 hk)) rfl rfl hd (fun H' e1 e2 e3 => fin H' _ e1 e2 e3 (h6.put e2 e3 (h5.low hka0 hka9)))
theorem xw_putZ {a k0 ci idx : Nat} {x : Int} (C : XC p s m args meth c dC dI q r) (hd : decode r.1.2.1 pc = .ok (.putfield idx, 3)) (e : (μ.2.1 a).1 = 10 + ci) (hk0 : k0 < cO ci) (hlink : (Cond.fieldLink (cN (q / 100)) idx (TF ci k0).1 (TF ci k0).2.1 (TF ci k0).2.2.1).before args s = true) (hfin : (TF ci k0).2.2.2 = true → r.1.1.name = "<init>" ∧ ci = q / 100) (ht : fT ci k0 = 1) (hb01 : x = 0 ∨ x = 1) (k : XW p l ev R s m args below meth c Q ad dC dI B n0 s0 (pc + 3) ls st (vA μ.1 a (vU (μ.1 a) (k0 : Int) x), μ.2)) : XW p l ev R s m args below meth c Q ad dC dI B n0 s0 pc ls (xI x :: xR a :: st) μ := by
  intro H locs lsA h1 h2 h3 h4 h5 h6 h7 h8
  have hx := (okc.mp h4).1
  have h4 := (okc.mp (okc.mp h4).2).2
  have hka0 : (μ.2.1 a).1 ≠ 0 := by omega
  have hka9 : (μ.2.1 a).1 ≠ 9 := by omega
  obtain ⟨qq, g1, cell, z1, z2, z3, z4⟩ := (cR_o e).mp (h5.1 a)
  have hKn := C.2.2.2.2.2.2.2.2.2.1
  obtain ⟨hS, hfc, kC, hkC, hkind⟩ := hKn.1 ci qq g1
  have hN : qq.2.2 = cO ci := u_sz ci qq g1
  have hk : k0 < qq.2.2 := by rw [hN]; exact hk0
  rw [TF_at (k := k0) g1] at hlink hfin
  have hin := u_in ci qq g1
  have hts := C.2.2.2.2.2.2.1
  obtain ⟨hpd, hcl, hcn, -⟩ := u_ty ci qq g1 k0 hk
  have hap := va_apart (own := cN (q / 100)) hts hin (fY ci) (fun k hk => (u_ty ci qq g1 k hk).1) (u_nm ci qq g1) hKn g1
  obtain ⟨cf, kf, fi, f, hi, hsl⟩ := hS k0 hk
  have hlay := u_lays hts hin hk
  have hst := (u_facts hfc hkC hlay hi).1
  have hty := u_ft ci qq g1 k0 hk
  have hnar : narrow (fY ci k0) (.int (Int32.ofInt x)) = .int (Int32.ofInt x) := (by rcases hty with ⟨h, h'⟩ | ⟨h, h'⟩ | ⟨h, h'⟩ | ⟨h, h'⟩ <;> first | (rw [h]at ht; exact absurd ht (by decide)) | (rw [h']; exact nb01 hb01))
  have hfit : fits (fY ci k0) (.int (Int32.ofInt x)) = true := (by rcases hty with ⟨h, h'⟩ | ⟨h, h'⟩ | ⟨h, h'⟩ | ⟨h, h'⟩ <;> first | (rw [h]at ht; exact absurd ht (by decide)) | (rw [h']; exact fb01 hb01))
  have fin : ∀ (H' : Heap) (locs' : List Loc), H'[ad a]? = some (cell.setSlot f.slot (.int (Int32.ofInt x))) → H'.size = H.size → (∀ q, q ≠ ad a → H'[q]? = H[q]?) → va_S (fun q => B ≤ q) s.heap H' locs' → W p l ev R s m args below meth c H' locs' (μ.2.2.2.1 - n0) (μ.2.2.2.2.1 - s0) Q (F0 m (pc + 3) lsA (st.map (tv ad))) := by
    intro H' locs' e1 e2 e3 e4
    rw [hsl] at e1
    refine k H' locs' lsA h1 h2 h3 h4 (h5.put hka0 rfl rfl (fun b hb => by simp [vA, gR, hb]) (fun b hb => by simp [gR, hb]) e2 e3 ((cR_o (μ := (vA μ.1 a (vU (μ.1 a) (k0 : Int) x), μ.2)) e).mpr ⟨qq, g1, t_OB.to (V := updV (fun j => fV ad μ a ci j) k0 (.int (Int32.ofInt x))) ⟨_, e1, z2, z3, t_set z4 hap hk _⟩ (fun j _ => ?_)⟩) (fun i => ?_)) e4 h7 h8
    · by_cases hj : j = k0
      · subst hj; simp [updV, fV, vA, vU, gR, ht, va_rf]
      · have hj2 : ¬ (j : Int) = (k0 : Int) := by omega
        simp only [updV, fV, vA, vU, gR, hj, hj2, if_false, if_true]
    · rw [okC_o (μ := (vA μ.1 a (vU (μ.1 a) (k0 : Int) x), μ.2)) e]
      have hok := (okC_o e).mp (h5.2.1 a i)
      by_cases hj : i = (k0 : Int)
      · subst hj; simp [vA, vU, ht]; exact hb01
      · simpa [vA, vU, hj] using hok
  by_cases hf : (qq.2.1 k0).2.2.2 = true
  · obtain ⟨hin2, hown⟩ := hfin hf
    have hcf : m.cls = cf := by
      have hl2 := hts _ (hin _ (u_in_lay hk))
      unfold u_lay at hl2
      rw [if_pos hf] at hl2
      obtain ⟨_, _, c', _, _, _, -, -, hf', -, -, -, hown2, -⟩ := Cond.laysFinal_spec hl2
      have e1 : c' = cf := by have := hi.symm.trans hf'; simp at this; exact this.1.symm
      rw [hcl, hcn, hown] at hown2
      rw [← e1]; exact Option.some.inj (C.2.2.2.2.2.1.symm.trans hown2)
    have h9 := u_fits hfc hkC hkind hlay hi hpd hnar hfit
    exact W.putFinK C.2.1 C.2.2.1 C.2.2.2.2.2.1 hlink hi hst hcf (C.2.2.2.2.2.2.2.2.1 hin2) (by rw [z2]; exact h9) z1 z3 (by rw [hsl]; exact k2_hasslot (z4 k0 hk)) rfl rfl hd (fun H' e1 e2 e3 => fin H' _ e1 e2 e3 (h6.put e2 e3 (h5.low hka0 hka9)))
  · have hl2 := hts _ (hin _ (u_in_lay hk))
    unfold u_lay at hl2
    rw [if_neg hf] at hl2
    have h9 := u_store hfc hkC hkind hl2 hi hpd hnar hfit
    exact W.putK C.2.1 C.2.2.1 (f := f) ⟨C.2.2.2.2.2.1, hlink, ⟨_, _, _, hi⟩, hst⟩ (by rw [z2]; exact h9) z1 z3 (by rw [hsl]; exact k2_hasslot (z4 k0 hk)) rfl rfl hd (fun H' e1 e2 e3 => fin H' _ e1 e2 e3 (h6.put e2 e3 (h5.low hka0 hka9)))
theorem xw_putL {a k0 ci idx : Nat} {x : Int} (C : XC p s m args meth c dC dI q r) (hd : decode r.1.2.1 pc = .ok (.putfield idx, 3)) (e : (μ.2.1 a).1 = 10 + ci) (hk0 : k0 < cO ci) (hlink : (Cond.fieldLink (cN (q / 100)) idx (TF ci k0).1 (TF ci k0).2.1 (TF ci k0).2.2.1).before args s = true) (hfin : (TF ci k0).2.2.2 = true → r.1.1.name = "<init>" ∧ ci = q / 100) (ht : fT ci k0 = 2) (k : XW p l ev R s m args below meth c Q ad dC dI B n0 s0 (pc + 3) ls st (vA μ.1 a (vU (μ.1 a) (k0 : Int) x), μ.2)) : XW p l ev R s m args below meth c Q ad dC dI B n0 s0 pc ls (xL x :: xR a :: st) μ := by
  intro H locs lsA h1 h2 h3 h4 h5 h6 h7 h8
  have hx := (okc.mp h4).1
  have h4 := (okc.mp (okc.mp h4).2).2
  have hka0 : (μ.2.1 a).1 ≠ 0 := by omega
  have hka9 : (μ.2.1 a).1 ≠ 9 := by omega
  obtain ⟨qq, g1, cell, z1, z2, z3, z4⟩ := (cR_o e).mp (h5.1 a)
  have hKn := C.2.2.2.2.2.2.2.2.2.1
  obtain ⟨hS, hfc, kC, hkC, hkind⟩ := hKn.1 ci qq g1
  have hN : qq.2.2 = cO ci := u_sz ci qq g1
  have hk : k0 < qq.2.2 := by rw [hN]; exact hk0
  rw [TF_at (k := k0) g1] at hlink hfin
  have hin := u_in ci qq g1
  have hts := C.2.2.2.2.2.2.1
  obtain ⟨hpd, hcl, hcn, -⟩ := u_ty ci qq g1 k0 hk
  have hap := va_apart (own := cN (q / 100)) hts hin (fY ci) (fun k hk => (u_ty ci qq g1 k hk).1) (u_nm ci qq g1) hKn g1
  obtain ⟨cf, kf, fi, f, hi, hsl⟩ := hS k0 hk
  have hlay := u_lays hts hin hk
  have hst := (u_facts hfc hkC hlay hi).1
  have hty := u_ft ci qq g1 k0 hk
  have hnar : narrow (fY ci k0) (.long (Int64.ofInt x)) = .long (Int64.ofInt x) := (by rcases hty with ⟨h, h'⟩ | ⟨h, h'⟩ | ⟨h, h'⟩ | ⟨h, h'⟩ <;> first | (rw [h]at ht; exact absurd ht (by decide)) | (rw [h']; rfl))
  have hfit : fits (fY ci k0) (.long (Int64.ofInt x)) = true := (by rcases hty with ⟨h, h'⟩ | ⟨h, h'⟩ | ⟨h, h'⟩ | ⟨h, h'⟩ <;> first | (rw [h]at ht; exact absurd ht (by decide)) | (rw [h']; rfl))
  have fin : ∀ (H' : Heap) (locs' : List Loc), H'[ad a]? = some (cell.setSlot f.slot (.long (Int64.ofInt x))) → H'.size = H.size → (∀ q, q ≠ ad a → H'[q]? = H[q]?) → va_S (fun q => B ≤ q) s.heap H' locs' → W p l ev R s m args below meth c H' locs' (μ.2.2.2.1 - n0) (μ.2.2.2.2.1 - s0) Q (F0 m (pc + 3) lsA (st.map (tv ad))) := by
    intro H' locs' e1 e2 e3 e4
    rw [hsl] at e1
    refine k H' locs' lsA h1 h2 h3 h4 (h5.put hka0 rfl rfl (fun b hb => by simp [vA, gR, hb]) (fun b hb => by simp [gR, hb]) e2 e3 ((cR_o (μ := (vA μ.1 a (vU (μ.1 a) (k0 : Int) x), μ.2)) e).mpr ⟨qq, g1, t_OB.to (V := updV (fun j => fV ad μ a ci j) k0 (.long (Int64.ofInt x))) ⟨_, e1, z2, z3, t_set z4 hap hk _⟩ (fun j _ => ?_)⟩) (fun i => ?_)) e4 h7 h8
    · by_cases hj : j = k0
      · subst hj; simp [updV, fV, vA, vU, gR, ht, va_rf]
      · have hj2 : ¬ (j : Int) = (k0 : Int) := by omega
        simp only [updV, fV, vA, vU, gR, hj, hj2, if_false, if_true]
    · rw [okC_o (μ := (vA μ.1 a (vU (μ.1 a) (k0 : Int) x), μ.2)) e]
      have hok := (okC_o e).mp (h5.2.1 a i)
      by_cases hj : i = (k0 : Int)
      · subst hj; simp [vA, vU, ht]; exact hx
      · simpa [vA, vU, hj] using hok
  by_cases hf : (qq.2.1 k0).2.2.2 = true
  · obtain ⟨hin2, hown⟩ := hfin hf
    have hcf : m.cls = cf := by
      have hl2 := hts _ (hin _ (u_in_lay hk))
      unfold u_lay at hl2
      rw [if_pos hf] at hl2
      obtain ⟨_, _, c', _, _, _, -, -, hf', -, -, -, hown2, -⟩ := Cond.laysFinal_spec hl2
      have e1 : c' = cf := by have := hi.symm.trans hf'; simp at this; exact this.1.symm
      rw [hcl, hcn, hown] at hown2
      rw [← e1]; exact Option.some.inj (C.2.2.2.2.2.1.symm.trans hown2)
    have h9 := u_fits hfc hkC hkind hlay hi hpd hnar hfit
    exact W.putFinK C.2.1 C.2.2.1 C.2.2.2.2.2.1 hlink hi hst hcf (C.2.2.2.2.2.2.2.2.1 hin2) (by rw [z2]; exact h9) z1 z3 (by rw [hsl]; exact k2_hasslot (z4 k0 hk)) rfl rfl hd (fun H' e1 e2 e3 => fin H' _ e1 e2 e3 (h6.put e2 e3 (h5.low hka0 hka9)))
  · have hl2 := hts _ (hin _ (u_in_lay hk))
    unfold u_lay at hl2
    rw [if_neg hf] at hl2
    have h9 := u_store hfc hkC hkind hl2 hi hpd hnar hfit
    exact W.putK C.2.1 C.2.2.1 (f := f) ⟨C.2.2.2.2.2.1, hlink, ⟨_, _, _, hi⟩, hst⟩ (by rw [z2]; exact h9) z1 z3 (by rw [hsl]; exact k2_hasslot (z4 k0 hk)) rfl rfl hd (fun H' e1 e2 e3 => fin H' _ e1 e2 e3 (h6.put e2 e3 (h5.low hka0 hka9)))
theorem xw_putR {a k0 ci idx : Nat} {x : Nat} (C : XC p s m args meth c dC dI q r) (hd : decode r.1.2.1 pc = .ok (.putfield idx, 3)) (e : (μ.2.1 a).1 = 10 + ci) (hk0 : k0 < cO ci) (hlink : (Cond.fieldLink (cN (q / 100)) idx (TF ci k0).1 (TF ci k0).2.1 (TF ci k0).2.2.1).before args s = true) (hfin : (TF ci k0).2.2.2 = true → r.1.1.name = "<init>" ∧ ci = q / 100) (ht : fT ci k0 = 3) (k : XW p l ev R s m args below meth c Q ad dC dI B n0 s0 (pc + 3) ls st (μ.1, gR μ.2 a (k0 : Int) x)) : XW p l ev R s m args below meth c Q ad dC dI B n0 s0 pc ls (xR x :: xR a :: st) μ := by
  intro H locs lsA h1 h2 h3 h4 h5 h6 h7 h8
  have hx := (okc.mp h4).1
  have h4 := (okc.mp (okc.mp h4).2).2
  have hka0 : (μ.2.1 a).1 ≠ 0 := by omega
  have hka9 : (μ.2.1 a).1 ≠ 9 := by omega
  obtain ⟨qq, g1, cell, z1, z2, z3, z4⟩ := (cR_o e).mp (h5.1 a)
  have hKn := C.2.2.2.2.2.2.2.2.2.1
  obtain ⟨hS, hfc, kC, hkC, hkind⟩ := hKn.1 ci qq g1
  have hN : qq.2.2 = cO ci := u_sz ci qq g1
  have hk : k0 < qq.2.2 := by rw [hN]; exact hk0
  rw [TF_at (k := k0) g1] at hlink hfin
  have hin := u_in ci qq g1
  have hts := C.2.2.2.2.2.2.1
  obtain ⟨hpd, hcl, hcn, -⟩ := u_ty ci qq g1 k0 hk
  have hap := va_apart (own := cN (q / 100)) hts hin (fY ci) (fun k hk => (u_ty ci qq g1 k hk).1) (u_nm ci qq g1) hKn g1
  obtain ⟨cf, kf, fi, f, hi, hsl⟩ := hS k0 hk
  have hlay := u_lays hts hin hk
  have hst := (u_facts hfc hkC hlay hi).1
  have hty := u_ft ci qq g1 k0 hk
  have hnar : narrow (fY ci k0) (.ref (ad x)) = .ref (ad x) := (by rcases hty with ⟨h, h'⟩ | ⟨h, h'⟩ | ⟨h, h'⟩ | ⟨h, h'⟩ <;> first | (rw [h]at ht; exact absurd ht (by decide)) | (revert h'; generalize fY ci k0 = z; intro h'; cases z <;> first | rfl | cases h'))
  have hfit : fits (fY ci k0) (.ref (ad x)) = true := (by rcases hty with ⟨h, h'⟩ | ⟨h, h'⟩ | ⟨h, h'⟩ | ⟨h, h'⟩ <;> first | (rw [h]at ht; exact absurd ht (by decide)) | (revert h'; generalize fY ci k0 = z; intro h'; cases z <;> first | rfl | cases h'))
  have fin : ∀ (H' : Heap) (locs' : List Loc), H'[ad a]? = some (cell.setSlot f.slot (.ref (ad x))) → H'.size = H.size → (∀ q, q ≠ ad a → H'[q]? = H[q]?) → va_S (fun q => B ≤ q) s.heap H' locs' → W p l ev R s m args below meth c H' locs' (μ.2.2.2.1 - n0) (μ.2.2.2.2.1 - s0) Q (F0 m (pc + 3) lsA (st.map (tv ad))) := by
    intro H' locs' e1 e2 e3 e4
    rw [hsl] at e1
    refine k H' locs' lsA h1 h2 h3 h4 (h5.put hka0 rfl rfl (fun b hb => by simp [vA, gR, hb]) (fun b hb => by simp [gR, hb]) e2 e3 ((cR_o (μ := (μ.1, gR μ.2 a (k0 : Int) x)) e).mpr ⟨qq, g1, t_OB.to (V := updV (fun j => fV ad μ a ci j) k0 (.ref (ad x))) ⟨_, e1, z2, z3, t_set z4 hap hk _⟩ (fun j _ => ?_)⟩) (fun i => ?_)) e4 h7 h8
    · by_cases hj : j = k0
      · subst hj; simp [updV, fV, vA, vU, gR, ht, va_rf]
      · have hj2 : ¬ (j : Int) = (k0 : Int) := by omega
        simp only [updV, fV, vA, vU, gR, hj, hj2, if_false, if_true]
    · rw [okC_o (μ := (μ.1, gR μ.2 a (k0 : Int) x)) e]
      have hok := (okC_o e).mp (h5.2.1 a i)
      by_cases hj : i = (k0 : Int)
      · subst hj; simp [vA, vU, ht]
      · simpa [vA, vU, hj] using hok
  by_cases hf : (qq.2.1 k0).2.2.2 = true
  · obtain ⟨hin2, hown⟩ := hfin hf
    have hcf : m.cls = cf := by
      have hl2 := hts _ (hin _ (u_in_lay hk))
      unfold u_lay at hl2
      rw [if_pos hf] at hl2
      obtain ⟨_, _, c', _, _, _, -, -, hf', -, -, -, hown2, -⟩ := Cond.laysFinal_spec hl2
      have e1 : c' = cf := by have := hi.symm.trans hf'; simp at this; exact this.1.symm
      rw [hcl, hcn, hown] at hown2
      rw [← e1]; exact Option.some.inj (C.2.2.2.2.2.1.symm.trans hown2)
    have h9 := u_fits hfc hkC hkind hlay hi hpd hnar hfit
    exact W.putFinK C.2.1 C.2.2.1 C.2.2.2.2.2.1 hlink hi hst hcf (C.2.2.2.2.2.2.2.2.1 hin2) (by rw [z2]; exact h9) z1 z3 (by rw [hsl]; exact k2_hasslot (z4 k0 hk)) rfl rfl hd (fun H' e1 e2 e3 => fin H' _ e1 e2 e3 (h6.put e2 e3 (h5.low hka0 hka9)))
  · have hl2 := hts _ (hin _ (u_in_lay hk))
    unfold u_lay at hl2
    rw [if_neg hf] at hl2
    have h9 := u_store hfc hkC hkind hl2 hi hpd hnar hfit
    exact W.putK C.2.1 C.2.2.1 (f := f) ⟨C.2.2.2.2.2.1, hlink, ⟨_, _, _, hi⟩, hst⟩ (by rw [z2]; exact h9) z1 z3 (by rw [hsl]; exact k2_hasslot (z4 k0 hk)) rfl rfl hd (fun H' e1 e2 e3 => fin H' _ e1 e2 e3 (h6.put e2 e3 (h5.low hka0 hka9)))
end XMem
