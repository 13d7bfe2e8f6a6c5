/-! NEXT -/
/-- one outcome is counted: how many came to each number, and the greatest group -/
def gS (v : Int) (s : (Int → Int) × Int) : (Int → Int) × Int := (vU s.1 v (s.1 v + 1), if s.2 < s.1 v + 1 then s.1 v + 1 else s.2)
def gF (p : Int → Bool) (val : Int → Int) : Nat → (Int → Int) × Int
  | 0 => (fun _ => 0, 0)
  | h + 1 => if p h = true then gS (val h) (gF p val h) else gF p val h
theorem gF_up {p : Int → Bool} {val : Int → Int} {h : Int} (h0 : 0 ≤ h) : gF p val (h + 1).toNat = if p h = true then gS (val h) (gF p val h.toNat) else gF p val h.toNat := by
  rw [show (h + 1).toNat = h.toNat + 1 by omega]
  conv => lhs; unfold gF
  rw [show ((h.toNat : Nat) : Int) = h by omega]
theorem gF_bd {p : Int → Bool} {val : Int → Int} : ∀ (h : Nat), (∀ v, 0 ≤ (gF p val h).1 v ∧ (gF p val h).1 v ≤ h) ∧ 0 ≤ (gF p val h).2 ∧ (gF p val h).2 ≤ h
  | 0 => ⟨fun v => by simp [gF], by simp [gF]⟩
  | h + 1 => by
    obtain ⟨h1, h2⟩ := gF_bd (p := p) (val := val) h
    unfold gF
    by_cases q : p h = true
    · rw [if_pos q]
      unfold gS
      have hv := h1 (val h)
      refine ⟨fun v => ?_, ?_⟩
      · show 0 ≤ vU (gF p val h).1 (val h) ((gF p val h).1 (val h) + 1) v ∧ vU (gF p val h).1 (val h) ((gF p val h).1 (val h) + 1) v ≤ _
        by_cases e : v = val h
        · rw [e, vU_at]; omega
        · rw [vU_ne e]; have := h1 v; omega
      · show 0 ≤ (if (gF p val h).2 < (gF p val h).1 (val h) + 1 then (gF p val h).1 (val h) + 1 else (gF p val h).2) ∧ (if (gF p val h).2 < (gF p val h).1 (val h) + 1 then (gF p val h).1 (val h) + 1 else (gF p val h).2) ≤ _
        split <;> omega
    · rw [if_neg q]
      exact ⟨fun v => by have := h1 v; omega, by omega⟩
theorem gF_cong {p p' : Int → Bool} {val : Int → Int} : ∀ (h : Nat), (∀ k, 0 ≤ k → k < (h : Int) → p k = p' k) → gF p val h = gF p' val h
  | 0, _ => rfl
  | h + 1, e => by
    unfold gF
    rw [gF_cong h (fun k k0 k1 => e k k0 (by omega)), e h (by omega) (by omega)]
def bsS (f c : Int) (s : Int × Int) : Int × Int := if f < s.1 then (f, c) else s
def bsM (f : Int → Int → Int) (j : Int) : Nat → Int × Int → Int × Int
  | 0, s => s
  | m + 1, s => bsS (f j m) (10 * j + m) (bsM f j m s)
def bsJ (f : Int → Int → Int) (n : Nat) : Nat → Int × Int → Int × Int
  | 0, s => s
  | j + 1, s => bsM f j n (bsJ f n j s)
theorem bsM_up {f : Int → Int → Int} {j m : Int} {s : Int × Int} (h0 : 0 ≤ m) : bsM f j (m + 1).toNat s = bsS (f j m) (10 * j + m) (bsM f j m.toNat s) := by
  rw [show (m + 1).toNat = m.toNat + 1 by omega]
  conv => lhs; unfold bsM
  rw [show ((m.toNat : Nat) : Int) = m by omega]
theorem bsJ_up {f : Int → Int → Int} {n : Nat} {j : Int} {s : Int × Int} (h0 : 0 ≤ j) : bsJ f n (j + 1).toNat s = bsM f j n (bsJ f n j.toNat s) := by
  rw [show (j + 1).toNat = j.toNat + 1 by omega]
  conv => lhs; unfold bsJ
  rw [show ((j.toNat : Nat) : Int) = j by omega]
theorem bsM_ini {f : Int → Int → Int} {s s' : Int × Int} (h : f 0 0 < s.1) (h' : f 0 0 < s'.1) : ∀ (m : Nat), bsM f 0 (m + 1) s = bsM f 0 (m + 1) s'
  | 0 => by
    show bsS (f 0 ((0 : Nat) : Int)) (10 * 0 + ((0 : Nat) : Int)) s = bsS (f 0 ((0 : Nat) : Int)) (10 * 0 + ((0 : Nat) : Int)) s'
    unfold bsS
    rw [show ((0 : Nat) : Int) = 0 from rfl, if_pos h, if_pos h']
  | m + 1 => by
    conv => lhs; unfold bsM
    conv => rhs; unfold bsM
    rw [bsM_ini h h' m]
theorem bsJ_ini {f : Int → Int → Int} {n : Nat} {s s' : Int × Int} (hn : 1 ≤ n) (h : f 0 0 < s.1) (h' : f 0 0 < s'.1) : ∀ (j : Nat), bsJ f n (j + 1) s = bsJ f n (j + 1) s'
  | 0 => by
    show bsM f ((0 : Nat) : Int) n s = bsM f ((0 : Nat) : Int) n s'
    obtain ⟨m, rfl⟩ : ∃ m, n = m + 1 := ⟨n - 1, by omega⟩
    exact bsM_ini h h' m
  | j + 1 => by
    conv => lhs; unfold bsJ
    conv => rhs; unfold bsJ
    rw [bsJ_ini hn h h' j]
theorem bsM_bd {f : Int → Int → Int} {j M : Int} (hM : 0 ≤ M ∧ M ≤ 100) (hf : ∀ m, 0 ≤ m → m < M → 0 ≤ f j m ∧ f j m ≤ 1000) : ∀ (m : Nat) (s : Int × Int), (m : Int) ≤ M → 0 ≤ s.1 ∧ s.1 ≤ 1000 → 0 ≤ (bsM f j m s).1 ∧ (bsM f j m s).1 ≤ 1000
  | 0, _, _, h => h
  | m + 1, s, hm, h => by
    unfold bsM bsS
    have := hf m (by omega) (by omega)
    split
    · exact this
    · exact bsM_bd hM hf m s (by omega) h
def grR (p : Int → Bool) (oc : Int → Int → Int) (U : Nat → Int → Int) (h m : Int) : Prop := (∀ v, 0 ≤ v → v < 97 → U (366 + m.toNat) v = (gF p (fun h => oc h m) h.toNat).1 v) ∧ U 372 m = (gF p (fun h => oc h m) h.toNat).2
section NX
variable {n L d : Nat} {G : XG} {V : Nat → Int → Int}
/-- one hypothesis is counted, in all lanes -/
theorem x_groups_in {A W : Nat → Int → Int} {p : Int → Bool} {oc : Int → Int → Int} {h : Int} {a : Nat} (hG : Good n L G) (hn : A 5 0 = n) (h6 : n ≤ 6) (h0 : 0 ≤ h ∧ h < 145) (hp : p h = true) (hov : ∀ m, 0 ≤ m → m < (n : Int) → 0 ≤ oc h m ∧ oc h m ≤ 96) (ha : G.1 a = (1, 6)) (ha2 : a < 365) (hea : eqn n (W a) (oc h)) (fr : ∀ b, b ≠ 364 → ¬ (366 ≤ b ∧ b < 373) → W b = A b) (hin : ∀ m, 0 ≤ m → m < (n : Int) → grR p oc W h m) : ∃ W', run (d + 1) 409 67 [xR 344, xI h, xR a, xI 0] [] (W, G) = run (d + 1) 409 39 [xR 344, xI (h + 1), xR a, xI n] [] (W', G) ∧ (∀ b, b ≠ 364 → ¬ (366 ≤ b ∧ b < 373) → W' b = A b) ∧ ∀ m, 0 ≤ m → m < (n : Int) → grR p oc W' (h + 1) m := by
  have hl := it_inv (D := d + 1) (q := 409) (pc := 67) (hi := n) (I := fun k ls μ => ls = [xR 344, xI h, xR a, xI k] ∧ ∃ U, μ = (U, G) ∧ (∀ b, ¬ (366 ≤ b ∧ b < 373) → U b = W b) ∧ (∀ m, k ≤ m → m < (n : Int) → grR p oc U h m) ∧ ∀ m, 0 ≤ m → m < k → grR p oc U (h + 1) m) (Q := fun y => ∃ W', y = run (d + 1) 409 39 [xR 344, xI (h + 1), xR a, xI n] [] (W', G) ∧ (∀ b, b ≠ 364 → ¬ (366 ≤ b ∧ b < 373) → W' b = A b) ∧ ∀ m, 0 ≤ m → m < (n : Int) → grR p oc W' (h + 1) m) (fun ls μ hI => by
    obtain ⟨rfl, U, rfl, u1, u2, u3⟩ := hI
    have f5 : U 5 0 = n := by rw [u1 5 (by omega), fr 5 (by decide) (by omega)]; exact hn
    refine ⟨U, ?_, fun b b1 b2 => (u1 b b2).trans (fr b b1 b2), u3⟩
    rw [bk409_67]
    simp (disch := first | omega | exact Nat.le_of_ble_eq_true rfl) only [bk409_0, bk409_37, bk409_59, bk409_123, bk409_129, Int.reduceToNat, vA_ap, Nat.reduceEqDiff, if_true, if_false, bx_nil, isL_I, isL_R, isL_U, if_ff, bind_some, tl_some, tl_none, bx_aload_0, gf344_14 hG, ia372 hG, is372 hG, bx_iconst, cl1400, bx_istore_1, bx_iload_1, gf344_0 hG, gf5_0 hG, bx_ic_ge, gf344_13 hG, aa365 hG, bx_iinc1, bx_goto, gf344_3 hG, gf344_8 hG, ia347 hG, is347 hG, bx_if_ne, cl406 hG, bx_astore_2, bx_istore_3, bx_iload_3, bx_aload_2, bx_dup2, bx_iadd, cl1303, bx_iinc3, bx_vret, f5, if_pos (show (n : Int) ≤ n by omega)]) n 0 (by omega) (fun k ls μ k0 k1 hI => by
    obtain ⟨rfl, U, rfl, u1, u2, u3⟩ := hI
    left
    obtain ⟨r, rfl⟩ : ∃ r : Nat, k = r := ⟨k.toNat, by omega⟩
    have f5 : U 5 0 = n := by rw [u1 5 (by omega), fr 5 (by decide) (by omega)]; exact hn
    have ea : U a r = oc h r := by rw [u1 a (by omega)]; exact hea r k0 k1
    have hv := hov r k0 k1
    obtain ⟨g1, g2⟩ := u2 r (by omega) k1
    rw [Int.toNat_natCast] at g1
    have hbd := gF_bd (p := p) (val := fun h => oc h r) h.toNat
    have hbv : 0 ≤ U (366 + r) (oc h r) ∧ U (366 + r) (oc h r) ≤ 145 := by
      rw [g1 _ hv.1 (by omega)]
      have := hbd.1 (oc h r)
      omega
    have n1 : ¬ a = 366 + r := by omega
    have n2 : ¬ 372 = 366 + r := by omega
    have hup := gF_up (p := p) (val := fun h => oc h r) h0.1
    rw [if_pos hp] at hup
    refine ⟨_, _, ⟨rfl, vA (vA U (366 + r) (vU (U (366 + r)) (oc h r) (U (366 + r) (oc h r) + 1))) 372 (vU (U 372) r (if U 372 r < U (366 + r) (oc h r) + 1 then U (366 + r) (oc h r) + 1 else U 372 r)), rfl, fun b hb => ?_, fun m m0 m1 => ?_, fun m m0 m1 => ?_⟩, ?_⟩
    · rw [vA_ne (by omega), vA_ne (by omega)]; exact u1 b hb
    · obtain ⟨y1, y2⟩ := u2 m (by omega) m1
      refine ⟨fun v v0 v1 => ?_, ?_⟩
      · rw [vA_ne (by omega), vA_ne (by omega)]; exact y1 v v0 v1
      · rw [vA_same, vU_ne (by omega)]; exact y2
    · by_cases e : m = r
      · subst e
        unfold grR
        rw [hup, Int.toNat_natCast]
        refine ⟨fun v v0 v1 => ?_, ?_⟩
        · rw [vA_ne (by omega), vA_same]
          show _ = vU (gF p (fun h => oc h r) h.toNat).1 (oc h r) ((gF p (fun h => oc h r) h.toNat).1 (oc h r) + 1) v
          by_cases e : v = oc h r
          · rw [e, vU_at, vU_at, g1 _ hv.1 (by omega)]
          · rw [vU_ne e, vU_ne e]; exact g1 v v0 v1
        · rw [vA_same, vU_at]
          show _ = (if (gF p (fun h => oc h r) h.toNat).2 < (gF p (fun h => oc h r) h.toNat).1 (oc h r) + 1 then (gF p (fun h => oc h r) h.toNat).1 (oc h r) + 1 else (gF p (fun h => oc h r) h.toNat).2)
          rw [g2, g1 _ hv.1 (by omega)]
      · obtain ⟨y1, y2⟩ := u3 m m0 (by omega)
        refine ⟨fun v v0 v1 => ?_, ?_⟩
        · rw [vA_ne (by omega), vA_ne (by omega)]; exact y1 v v0 v1
        · rw [vA_same, vU_ne e]; exact y2
    · rw [bk409_67]
      simp (disch := first | omega | exact Nat.le_of_ble_eq_true rfl) only [bk409_0, bk409_37, bk409_59, bk409_123, bk409_129, Int.reduceToNat, vA_ap, Nat.reduceEqDiff, if_true, if_false, bx_nil, isL_I, isL_R, isL_U, if_ff, bind_some, tl_some, tl_none, bx_aload_0, gf344_14 hG, ia372 hG, is372 hG, bx_iconst, cl1400, bx_istore_1, bx_iload_1, gf344_0 hG, gf5_0 hG, bx_ic_ge, gf344_13 hG, aa365 hG, bx_iinc1, bx_goto, gf344_3 hG, gf344_8 hG, ia347 hG, is347 hG, bx_if_ne, cl406 hG, bx_astore_2, bx_istore_3, bx_iload_3, bx_aload_2, bx_dup2, bx_iadd, cl1303, bx_iinc3, bx_vret, f5, if_neg (show ¬ (n : Int) ≤ r by omega), Int.toNat_natCast, bx_iald ha, ea, ia366 hG, is366 hG, n1, n2, vA_same, vU_at, j_max])
  exact hl _ _ ⟨rfl, W, rfl, fun _ _ => rfl, fun m m0 m1 => hin m m0 m1, fun m m0 m1 => by omega⟩
/-- the class counts groups -/
theorem x_groups {A : Nat → Int → Int} {p : Int → Bool} {N : Nat} {oc : Int → Int → Int} (hG : Good n L G) (hn : A 5 0 = n) (h6 : n ≤ 6) (hN : A 344 3 = N) (hN2 : N ≤ 145) (hp : ∀ h, 0 ≤ h → h < (N : Int) → (p h = true ↔ ¬ A 347 h = 0)) (hov : ∀ h m, 0 ≤ h → h < (N : Int) → 0 ≤ m → m < (n : Int) → 0 ≤ oc h m ∧ oc h m ≤ 96) (hoc : ∀ W h, (∀ b, b ≠ 364 → ¬ (366 ≤ b ∧ b < 373) → W b = A b) → 0 ≤ h → h < (N : Int) → ∃ W' a, run (d + 3) 406 0 [xR 344, xI h, xU, xU, xU] [] (W, G) = some (some (xR a), (W', G)) ∧ G.1 a = (1, 6) ∧ (∀ b, b ≠ 364 → W' b = W b) ∧ eqn n (W' a) (oc h) ∧ a < 365) : ∃ W, run (d + 4) 409 0 [xR 344, xU, xU, xU] [] (A, G) = some (none, (W, G)) ∧ (∀ b, b ≠ 364 → ¬ (366 ≤ b ∧ b < 373) → W b = A b) ∧ ∀ m, 0 ≤ m → m < (n : Int) → W 372 m = (gF p (fun h => oc h m) N).2 := by
  -- hypotheses
  have l2 := it_inv (D := d + 4) (q := 409) (pc := 39) (hi := N) (I := fun h ls μ => (∃ u v, ls = [xR 344, xI h, u, v] ∧ isL u = false) ∧ ∃ W, μ = (W, G) ∧ (∀ b, b ≠ 364 → ¬ (366 ≤ b ∧ b < 373) → W b = A b) ∧ ∀ m, 0 ≤ m → m < (n : Int) → grR p oc W h m) (Q := fun y => ∃ W, y = some (none, (W, G)) ∧ (∀ b, b ≠ 364 → ¬ (366 ≤ b ∧ b < 373) → W b = A b) ∧ ∀ m, 0 ≤ m → m < (n : Int) → W 372 m = (gF p (fun h => oc h m) N).2) (fun ls μ hI => by
    obtain ⟨⟨u, v, rfl, hu⟩, W, rfl, w1, w2⟩ := hI
    have es : W 344 3 = N := by rw [w1 344 (by decide) (by decide)]; exact hN
    refine ⟨W, ?_, w1, fun m m0 m1 => (w2 m m0 m1).2⟩
    rw [bk409_39]
    simp (disch := first | omega | exact Nat.le_of_ble_eq_true rfl) only [bk409_0, bk409_37, bk409_59, bk409_123, bk409_129, Int.reduceToNat, vA_ap, Nat.reduceEqDiff, if_true, if_false, bx_nil, isL_I, isL_R, isL_U, if_ff, bind_some, tl_some, tl_none, bx_aload_0, gf344_14 hG, ia372 hG, is372 hG, bx_iconst, cl1400, bx_istore_1, bx_iload_1, gf344_0 hG, gf5_0 hG, bx_ic_ge, gf344_13 hG, aa365 hG, bx_iinc1, bx_goto, gf344_3 hG, gf344_8 hG, ia347 hG, is347 hG, bx_if_ne, cl406 hG, bx_astore_2, bx_istore_3, bx_iload_3, bx_aload_2, bx_dup2, bx_iadd, cl1303, bx_iinc3, bx_vret, es, if_pos (show (N : Int) ≤ N by omega)]) N 0 (by omega) (fun h ls μ h1 h2 hI => by
    obtain ⟨⟨u, v, rfl, hu⟩, W, rfl, w1, w2⟩ := hI
    left
    have es : W 344 3 = N := by rw [w1 344 (by decide) (by decide)]; exact hN
    have eh : W 347 = A 347 := w1 _ (by decide) (by decide)
    have hph := hp h h1 h2
    by_cases q : p h = true
    · have q' := hph.mp q
      obtain ⟨W', a, o1, o2, o3, o4, o5⟩ := hoc W h w1 h1 h2
      obtain ⟨U, u0, u1, u2⟩ := x_groups_in (d := d + 3) (A := A) (W := W') (p := p) (oc := oc) (h := h) (a := a) hG hn h6 (by omega) q (fun m m0 m1 => hov h m h1 h2 m0 m1) o2 o5 o4 (fun b b1 b2 => (o3 b b1).trans (w1 b b1 b2)) (fun m m0 m1 => by
        obtain ⟨y1, y2⟩ := w2 m m0 m1
        refine ⟨fun v v0 v1 => ?_, ?_⟩
        · rw [o3 _ (by omega)]; exact y1 v v0 v1
        · rw [o3 _ (by decide)]; exact y2)
      refine ⟨_, _, ⟨⟨xR a, xI n, rfl, rfl⟩, U, rfl, u1, u2⟩, ?_⟩
      rw [bk409_39]
      simp (disch := first | omega | exact Nat.le_of_ble_eq_true rfl) only [bk409_0, bk409_37, bk409_59, bk409_123, bk409_129, Int.reduceToNat, vA_ap, Nat.reduceEqDiff, if_true, if_false, bx_nil, isL_I, isL_R, isL_U, if_ff, bind_some, tl_some, tl_none, bx_aload_0, gf344_14 hG, ia372 hG, is372 hG, bx_iconst, cl1400, bx_istore_1, bx_iload_1, gf344_0 hG, gf5_0 hG, bx_ic_ge, gf344_13 hG, aa365 hG, bx_iinc1, bx_goto, gf344_3 hG, gf344_8 hG, ia347 hG, is347 hG, bx_if_ne, cl406 hG, bx_astore_2, bx_istore_3, bx_iload_3, bx_aload_2, bx_dup2, bx_iadd, cl1303, bx_iinc3, bx_vret, es, if_neg (show ¬ (N : Int) ≤ h by omega), eh, if_neg q', o1]
      exact u0
    · have q' : A 347 h = 0 := Classical.byContradiction fun y => q (hph.mpr y)
      refine ⟨_, _, ⟨⟨u, v, rfl, hu⟩, W, rfl, w1, fun m m0 m1 => ?_⟩, ?_⟩
      · have hup := gF_up (p := p) (val := fun h => oc h m) h1
        rw [if_neg q] at hup
        unfold grR
        rw [hup]
        exact w2 m m0 m1
      · rw [bk409_39]
        simp (disch := first | omega | exact Nat.le_of_ble_eq_true rfl) only [bk409_0, bk409_37, bk409_59, bk409_123, bk409_129, Int.reduceToNat, vA_ap, Nat.reduceEqDiff, if_true, if_false, bx_nil, isL_I, isL_R, isL_U, if_ff, bind_some, tl_some, tl_none, bx_aload_0, gf344_14 hG, ia372 hG, is372 hG, bx_iconst, cl1400, bx_istore_1, bx_iload_1, gf344_0 hG, gf5_0 hG, bx_ic_ge, gf344_13 hG, aa365 hG, bx_iinc1, bx_goto, gf344_3 hG, gf344_8 hG, ia347 hG, is347 hG, bx_if_ne, cl406 hG, bx_astore_2, bx_istore_3, bx_iload_3, bx_aload_2, bx_dup2, bx_iadd, cl1303, bx_iinc3, bx_vret, es, if_neg (show ¬ (N : Int) ≤ h by omega), eh, if_pos q'])
  -- rows of groups
  obtain ⟨A0, hA0⟩ : ∃ A0, A0 = vA A 372 (fun j => if 0 ≤ j ∧ j < ((6 : Nat) : Int) then 0 else A 372 j) := ⟨_, rfl⟩
  have f0 : ∀ b, b ≠ 372 → A0 b = A b := fun b hb => by rw [hA0, vA_ne hb]
  have l1 := it_inv (D := d + 4) (q := 409) (pc := 10) (hi := n) (I := fun k ls μ => ls = [xR 344, xI k, xU, xU] ∧ ∃ W, μ = (W, G) ∧ (∀ b, ¬ (366 ≤ b ∧ b < 372) → W b = A0 b) ∧ ∀ m, 0 ≤ m → m < k → ∀ v, 0 ≤ v → v < 97 → W (366 + m.toNat) v = 0) (Q := fun y => ∃ W, y = run (d + 4) 409 39 [xR 344, xI 0, xU, xU] [] (W, G) ∧ (∀ b, ¬ (366 ≤ b ∧ b < 372) → W b = A0 b) ∧ ∀ m, 0 ≤ m → m < (n : Int) → ∀ v, 0 ≤ v → v < 97 → W (366 + m.toNat) v = 0) (fun ls μ hI => by
    obtain ⟨rfl, W, rfl, w1, w2⟩ := hI
    have f5 : W 5 0 = n := by rw [w1 5 (by omega), f0 5 (by decide)]; exact hn
    refine ⟨W, ?_, w1, w2⟩
    rw [bk409_10]
    simp (disch := first | omega | exact Nat.le_of_ble_eq_true rfl) only [bk409_0, bk409_37, bk409_59, bk409_123, bk409_129, Int.reduceToNat, vA_ap, Nat.reduceEqDiff, if_true, if_false, bx_nil, isL_I, isL_R, isL_U, if_ff, bind_some, tl_some, tl_none, bx_aload_0, gf344_14 hG, ia372 hG, is372 hG, bx_iconst, cl1400, bx_istore_1, bx_iload_1, gf344_0 hG, gf5_0 hG, bx_ic_ge, gf344_13 hG, aa365 hG, bx_iinc1, bx_goto, gf344_3 hG, gf344_8 hG, ia347 hG, is347 hG, bx_if_ne, cl406 hG, bx_astore_2, bx_istore_3, bx_iload_3, bx_aload_2, bx_dup2, bx_iadd, cl1303, bx_iinc3, bx_vret, f5, if_pos (show (n : Int) ≤ n by omega)]) n 0 (by omega) (fun k ls μ k0 k1 hI => by
    obtain ⟨rfl, W, rfl, w1, w2⟩ := hI
    left
    obtain ⟨r, rfl⟩ : ∃ r : Nat, k = r := ⟨k.toNat, by omega⟩
    have f5 : W 5 0 = n := by rw [w1 5 (by omega), f0 5 (by decide)]; exact hn
    have s0 := sf366 hG (show r < 6 by omega)
    refine ⟨_, _, ⟨rfl, vA W (366 + r) (fun j => if 0 ≤ j ∧ j < ((97 : Nat) : Int) then 0 else W (366 + r) j), rfl, fun b hb => ?_, fun m m0 m1 v v0 v1 => ?_⟩, ?_⟩
    · rw [vA_ne (by omega)]; exact w1 b hb
    · by_cases e : m = r
      · rw [e, Int.toNat_natCast, vA_same]
        exact if_pos (And.intro v0 v1)
      · rw [vA_ne (by omega)]; exact w2 m m0 (by omega) v v0 v1
    · rw [bk409_10]
      simp (disch := first | omega | exact Nat.le_of_ble_eq_true rfl) only [bk409_0, bk409_37, bk409_59, bk409_123, bk409_129, Int.reduceToNat, vA_ap, Nat.reduceEqDiff, if_true, if_false, bx_nil, isL_I, isL_R, isL_U, if_ff, bind_some, tl_some, tl_none, bx_aload_0, gf344_14 hG, ia372 hG, is372 hG, bx_iconst, cl1400, bx_istore_1, bx_iload_1, gf344_0 hG, gf5_0 hG, bx_ic_ge, gf344_13 hG, aa365 hG, bx_iinc1, bx_goto, gf344_3 hG, gf344_8 hG, ia347 hG, is347 hG, bx_if_ne, cl406 hG, bx_astore_2, bx_istore_3, bx_iload_3, bx_aload_2, bx_dup2, bx_iadd, cl1303, bx_iinc3, bx_vret, f5, if_neg (show ¬ (n : Int) ≤ r by omega), Int.toNat_natCast, j_fill s0])
  obtain ⟨W, w0, w1, w2⟩ := l1 [xR 344, xI 0, xU, xU] (A0, G) ⟨rfl, A0, rfl, fun _ _ => rfl, fun m m0 m1 => by omega⟩
  have hst : run (d + 4) 409 0 [xR 344, xU, xU, xU] [] (A, G) = run (d + 4) 409 10 [xR 344, xI 0, xU, xU] [] (A0, G) := by
    simp (disch := first | omega | exact Nat.le_of_ble_eq_true rfl) only [bk409_0, bk409_37, bk409_59, bk409_123, bk409_129, Int.reduceToNat, vA_ap, Nat.reduceEqDiff, if_true, if_false, bx_nil, isL_I, isL_R, isL_U, if_ff, bind_some, tl_some, tl_none, bx_aload_0, gf344_14 hG, ia372 hG, is372 hG, bx_iconst, cl1400, bx_istore_1, bx_iload_1, gf344_0 hG, gf5_0 hG, bx_ic_ge, gf344_13 hG, aa365 hG, bx_iinc1, bx_goto, gf344_3 hG, gf344_8 hG, ia347 hG, is347 hG, bx_if_ne, cl406 hG, bx_astore_2, bx_istore_3, bx_iload_3, bx_aload_2, bx_dup2, bx_iadd, cl1303, bx_iinc3, bx_vret, j_fill (gsh hG 372 rfl rfl : G.1 372 = (1, 6)), ← hA0]
  rw [hst, w0]
  refine l2 _ _ ⟨⟨xU, xU, rfl, rfl⟩, W, rfl, fun b b1 b2 => ?_, fun m m0 m1 => ⟨fun v v0 v1 => ?_, ?_⟩⟩
  · rw [w1 b (by omega)]; exact f0 b (by omega)
  · rw [w2 m m0 m1 v v0 v1]; rfl
  · rw [w1 _ (by decide), hA0, vA_same]
    exact if_pos ⟨m0, by omega⟩
end NX
