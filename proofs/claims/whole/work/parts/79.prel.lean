/-! PROGRAM: what holds between both readers -/
def pvT (A B : Nat → Int → Int) : Prop := ∀ i, 0 ≤ i → i < A 35 1 → B 394 i = A 36 i ∧ 0 ≤ A 36 i ∧ A 36 i ≤ 255
def pvL (n : Nat) (A B : Nat → Int → Int) : Prop := ∀ k : Nat, (k : Int) ≤ A 35 8 → rowQ n (rowOf A (41 + 3 * k)) (B 396 k) (fun w => B 395 (13 * k + w))
def pvO (A B : Nat → Int → Int) : Prop := ∀ k, 1 ≤ k → k ≤ A 35 8 → A 38 k = B 397 k ∧ 0 ≤ B 397 k ∧ B 397 k ≤ 15
def pvN (n : Nat) (A B : Nat → Int → Int) : Prop := ∀ m : Nat, m < 6 → A 40 m = B 400 m ∧ (B 400 m = 0 ∨ B 400 m = 1) ∧ (B 400 m = 1 → rowQ n (rowOf A (194 + 3 * m)) (B 399 m) (fun w => B 398 (11 * m + w)))
def pvI (n : Nat) (A B : Nat → Int → Int) : Prop := (A 35 0 = n ∧ B 376 0 = n ∧ (2 ≤ n ∧ n ≤ 6)) ∧ (B 376 30 = A 35 1 ∧ 0 ≤ A 35 1 ∧ A 35 1 ≤ 100) ∧ (B 376 31 = A 35 7 ∧ 0 ≤ A 35 7 ∧ A 35 7 ≤ A 35 1) ∧ (B 376 32 = A 35 8 ∧ 0 ≤ A 35 8 ∧ 2 * A 35 8 ≤ A 35 7) ∧ (B 376 33 = A 35 9 ∧ -1 ≤ A 35 9 ∧ A 35 9 ≤ 100)
def pvR (n : Nat) (A B : Nat → Int → Int) : Prop := pvI n A B ∧ pvT A B ∧ pvL n A B ∧ pvO A B ∧ pvN n A B
/-- cells that reading changes -/
def frRx (A A' : Nat → Int → Int) : Prop := (∀ b, ¬ (35 ≤ b ∧ b < 212) → A' b = A b) ∧ A' 35 0 = A 35 0 ∧ A' 35 1 = A 35 1
def frRm (B B' : Nat → Int → Int) : Prop := (∀ b, b ≠ 376 → ¬ (395 ≤ b ∧ b < 401) → B' b = B b) ∧ ∀ k, ¬ (31 ≤ k ∧ k < 35) → B' 376 k = B 376 k
theorem frRx_rf {A : Nat → Int → Int} : frRx A A := ⟨fun _ _ => rfl, rfl, rfl⟩
theorem frRm_rf {B : Nat → Int → Int} : frRm B B := ⟨fun _ _ _ => rfl, fun _ _ => rfl⟩
theorem frRx_tr {A B C : Nat → Int → Int} (h : frRx A B) (g : frRx B C) : frRx A C := ⟨fun b hb => (g.1 b hb).trans (h.1 b hb), g.2.1.trans h.2.1, g.2.2.trans h.2.2⟩
theorem frRm_tr {A B C : Nat → Int → Int} (h : frRm A B) (g : frRm B C) : frRm A C := ⟨fun b h1 h2 => (g.1 b h1 h2).trans (h.1 b h1 h2), fun k hk => (g.2 k hk).trans (h.2 k hk)⟩
section PV
variable {n L d : Nat} {G : XG} {A B : Nat → Int → Int}
theorem pv_pk (h : pvR n A B) (a : Int) (h0 : 0 ≤ a) : pkF (B 394) (A 35 1) a = pkF (A 36) (A 35 1) a := by
  unfold pkF
  by_cases q : a < A 35 1
  · rw [if_pos q, if_pos q]; exact (h.2.1 a h0 q).1
  · rw [if_neg q, if_neg q]
theorem pk_bd (h : pvR n A B) (a : Int) (h0 : 0 ≤ a) : -1 ≤ pkF (A 36) (A 35 1) a ∧ pkF (A 36) (A 35 1) a ≤ 255 := by
  unfold pkF
  by_cases q : a < A 35 1
  · rw [if_pos q]; have := h.2.1 a h0 q; omega
  · rw [if_neg q]; omega
theorem pv_num (h : pvR n A B) (a most : Int) (h0 : 0 ≤ a) : numF (B 394) (A 35 1) a most = numF (A 36) (A 35 1) a most := by
  unfold numF
  rw [pv_pk h a h0, pv_pk h (a + 1) (by omega), pv_pk h (a + 2) (by omega)]
/-- only the place moves -/
theorem pv_mv {A' B' : Nat → Int → Int} (h : pvR n A B) (a1 : ∀ b, b ≠ 35 → A' b = A b) (a2 : ∀ k, k ≠ 7 → k ≠ 10 → A' 35 k = A 35 k) (b1 : ∀ b, b ≠ 376 → B' b = B b) (b2 : ∀ k, k ≠ 31 → k ≠ 34 → B' 376 k = B 376 k) (e : B' 376 31 = A' 35 7) (hp : A 35 7 ≤ A' 35 7 ∧ A' 35 7 ≤ A 35 1) : pvR n A' B' := by
  obtain ⟨⟨i1, i2, i3, i4, i5⟩, h2, h3, h4, h5⟩ := h
  have er : ∀ r, r ≠ 35 → r + 1 ≠ 35 → r + 2 ≠ 35 → rowOf A' r = rowOf A r := fun r r0 r1 r2 => by
    unfold rowOf
    rw [a1 _ r0, a1 _ r1, a1 _ r2]
  refine ⟨⟨?_, ?_, ?_, ?_, ?_⟩, ?_, ?_, ?_, ?_⟩
  · rw [a2 0 (by decide) (by decide), b2 0 (by decide) (by decide)]; exact i1
  · rw [a2 1 (by decide) (by decide), b2 30 (by decide) (by decide)]; exact i2
  · rw [a2 1 (by decide) (by decide)]; exact ⟨e, by omega, hp.2⟩
  · rw [a2 8 (by decide) (by decide), b2 32 (by decide) (by decide)]; exact ⟨i4.1, i4.2.1, by omega⟩
  · rw [a2 9 (by decide) (by decide), b2 33 (by decide) (by decide)]; exact i5
  · unfold pvT
    rw [a2 1 (by decide) (by decide), a1 _ (by decide), b1 _ (by decide)]; exact h2
  · unfold pvL
    rw [a2 8 (by decide) (by decide), b1 _ (by decide), b1 _ (by decide)]
    intro k hk
    rw [er _ (by omega) (by omega) (by omega)]
    exact h3 k hk
  · unfold pvO
    rw [a2 8 (by decide) (by decide), a1 _ (by decide), b1 _ (by decide)]; exact h4
  · unfold pvN
    rw [a1 _ (by decide), b1 _ (by decide), b1 _ (by decide), b1 _ (by decide)]
    intro m hm
    rw [er _ (by omega) (by omega) (by omega)]
    exact h5 m hm
/-- the row in which one is, is another on both sides -/
theorem pv_row {A' B' : Nat → Int → Int} {D : Nat} {s : RS} (h : pvR n A B) (hD : A 35 8 = D) (hD2 : D ≤ 50) (ha : A' = setRow A (41 + 3 * D) s) (ho : oth (D : Int) B B') (hq : rowQ n s (B' 396 D) (fun w => B' 395 (13 * D + w))) : pvR n A' B' := by
  obtain ⟨⟨i1, i2, i3, i4, i5⟩, h2, h3, h4, h5⟩ := h
  have a1 : ∀ b, b ≠ 41 + 3 * D → b ≠ 41 + 3 * D + 1 → b ≠ 41 + 3 * D + 2 → A' b = A b := fun b b0 b1 b2 => by rw [ha]; exact setRow_ap b0 b1 b2
  have e35 := a1 35 (by omega) (by omega) (by omega)
  have e376 := ho.2.2 376 (by decide) (by decide)
  refine ⟨⟨?_, ?_, ?_, ?_, ?_⟩, ?_, ?_, ?_, ?_⟩
  · rw [e35, e376]; exact i1
  · rw [e35, e376]; exact i2
  · rw [e35, e376]; exact i3
  · rw [e35, e376]; exact i4
  · rw [e35, e376]; exact i5
  · unfold pvT
    rw [e35, a1 _ (by omega) (by omega) (by omega), ho.2.2 _ (by decide) (by decide)]; exact h2
  · intro k hk
    rw [e35] at hk
    by_cases e : k = D
    · subst e
      rw [ha, rowOf_set]
      exact hq
    · rw [ha, rowOf_ne (by omega) (by omega) (by omega)]
      exact rowQ_cong (h3 k hk) (ho.1 k (by omega)) (fun w w0 w1 => ho.2.1 k w (by omega) w0 w1)
  · unfold pvO
    rw [e35, a1 _ (by omega) (by omega) (by omega), ho.2.2 _ (by decide) (by decide)]; exact h4
  · unfold pvN
    rw [a1 40 (by omega) (by omega) (by omega), ho.2.2 400 (by decide) (by decide), ho.2.2 399 (by decide) (by decide), ho.2.2 398 (by decide) (by decide)]
    intro m hm
    rw [ha, rowOf_ne (by omega) (by omega) (by omega)]
    exact h5 m hm
/-- a bracket opens on both sides -/
theorem pv_open {D : Nat} {a how : Int} (h : pvR n A B) (hD : A 35 8 = D) (hD2 : D ≤ 49) (hh : 0 ≤ how ∧ how ≤ 15) (ha : 2 * ((D : Int) + 1) ≤ a ∧ A 35 7 ≤ a ∧ a ≤ A 35 1) {B' : Nat → Int → Int} (b1 : B' 396 = vU (B 396) ((D : Int) + 1) 0) (b2 : B' 397 = vU (B 397) ((D : Int) + 1) how) (b3 : ∀ b, b ≠ 376 → b ≠ 396 → b ≠ 397 → B' b = B b) (b4 : ∀ k, k ≠ 31 → k ≠ 32 → k ≠ 34 → B' 376 k = B 376 k) (b5 : B' 376 31 = a) (b6 : B' 376 32 = (D : Int) + 1) : pvR n (opX A D a how) B' := by
  obtain ⟨⟨i1, i2, i3, i4, i5⟩, h2, h3, h4, h5⟩ := h
  have x1 : ∀ b, b ≠ 35 → b ≠ 38 → b ≠ 41 + 3 * (D + 1) → b ≠ 41 + 3 * (D + 1) + 1 → b ≠ 41 + 3 * (D + 1) + 2 → opX A D a how b = A b := fun b c0 c1 c2 c3 c4 => by
    unfold opX
    rw [vA_ne c0, vA_ne c1, setRow_ap c2 c3 c4, vA_ne c0]
  have x2 : opX A D a how 35 = vU (vU (vU (A 35) 7 a) 8 ((D : Int) + 1)) 10 1 := by unfold opX; rw [vA_same]
  have x3 : opX A D a how 38 = vU (A 38) ((D : Int) + 1) how := by unfold opX; rw [vA_ne (by decide), vA_same]
  have x4 : (rowOf (opX A D a how) (41 + 3 * (D + 1))).1 = 0 := by
    show opX A D a how (41 + 3 * (D + 1)) 2 = 0
    unfold opX
    rw [vA_ne (by omega), vA_ne (by omega)]
    exact congrArg (fun s : RS => s.1) (rowOf_set (V := vA A 35 (vU (vU (A 35) 7 a) 8 ((D : Int) + 1))) (r := 41 + 3 * (D + 1)) (s := (0, A (41 + 3 * (D + 1) + 1), A (41 + 3 * (D + 1) + 2))))
  have k0 : opX A D a how 35 0 = A 35 0 := by rw [x2]; rfl
  have k1 : opX A D a how 35 1 = A 35 1 := by rw [x2]; rfl
  have k7 : opX A D a how 35 7 = a := by rw [x2]; rfl
  have k8 : opX A D a how 35 8 = (D : Int) + 1 := by rw [x2]; rfl
  have k9 : opX A D a how 35 9 = A 35 9 := by rw [x2]; rfl
  refine ⟨⟨?_, ?_, ?_, ?_, ?_⟩, ?_, ?_, ?_, ?_⟩
  · rw [k0, b4 0 (by decide) (by decide) (by decide)]; exact i1
  · rw [k1, b4 30 (by decide) (by decide) (by decide)]; exact i2
  · rw [k7, k1, b5]; exact ⟨rfl, by omega, ha.2.2⟩
  · rw [k8, k7, b6]; exact ⟨rfl, by omega, ha.1⟩
  · rw [k9, b4 33 (by decide) (by decide) (by decide)]; exact i5
  · unfold pvT
    rw [k1, x1 _ (by omega) (by omega) (by omega) (by omega) (by omega), b3 _ (by decide) (by decide) (by decide)]; exact h2
  · intro k hk
    rw [k8] at hk
    rw [b1, b3 395 (by decide) (by decide) (by decide)]
    by_cases e : k = D + 1
    · subst e
      rw [show ((D + 1 : Nat) : Int) = (D : Int) + 1 by omega, vU_at]
      exact ⟨x4, by omega, fun _ w w0 w1 => by omega⟩
    · rw [vU_ne (by omega)]
      have er : rowOf (opX A D a how) (41 + 3 * k) = rowOf A (41 + 3 * k) := by
        unfold rowOf
        rw [x1 _ (by omega) (by omega) (by omega) (by omega) (by omega), x1 _ (by omega) (by omega) (by omega) (by omega) (by omega), x1 _ (by omega) (by omega) (by omega) (by omega) (by omega)]
      rw [er]
      exact h3 k (by omega)
  · intro k hk hk2
    rw [k8] at hk2
    rw [x3, b2]
    by_cases e : k = (D : Int) + 1
    · rw [e, vU_at, vU_at]; exact ⟨rfl, hh⟩
    · rw [vU_ne e, vU_ne e]; exact h4 k hk (by omega)
  · unfold pvN
    rw [x1 40 (by omega) (by omega) (by omega) (by omega) (by omega), b3 400 (by decide) (by decide) (by decide), b3 399 (by decide) (by decide) (by decide), b3 398 (by decide) (by decide) (by decide)]
    intro m hm
    have er : rowOf (opX A D a how) (194 + 3 * m) = rowOf A (194 + 3 * m) := by
      unfold rowOf
      rw [x1 _ (by omega) (by omega) (by omega) (by omega) (by omega), x1 _ (by omega) (by omega) (by omega) (by omega) (by omega), x1 _ (by omega) (by omega) (by omega) (by omega) (by omega)]
    rw [er]
    exact h5 m hm
/-- a bracket closes on both sides -/
theorem pv_close {D : Nat} {how : Int} (h : pvR n A B) (hD : A 35 8 = (D : Int) + 1) (hD2 : D ≤ 49) (hh : A 38 ((D : Int) + 1) = how) : pvR n (csX A D how) (if 10 ≤ how then clN B ((D : Int) + 1) (how - 10) else clL (fun w => B 395 (13 * ((D : Int) + 1) + w)) (B 396 ((D : Int) + 1)).toNat how.toNat (vA B 376 (vU (B 376) 32 ((D : Int) + 1 - 1)))) := by
  obtain ⟨⟨i1, i2, i3, i4, i5⟩, h2, h3, h4, h5⟩ := id h
  have hhb := h4 ((D : Int) + 1) (by omega) (by omega)
  rw [hh] at hhb
  have hrow := h3 (D + 1) (by omega)
  rw [show ((D + 1 : Nat) : Int) = (D : Int) + 1 by omega] at hrow
  have hrowD := h3 D (by omega)
  unfold csX
  by_cases q : 10 ≤ how
  · rw [if_pos q, if_pos q]
    generalize hnm : (how - 10).toNat = nm
    have hnm2 : how - 10 = nm := by omega
    rw [hnm2]
    have hnm6 : nm < 6 := by omega
    obtain ⟨X, hX⟩ : ∃ X, X = vA (setRow (vA A 35 (vU (A 35) 8 (D : Int))) (194 + 3 * nm) (addAll (0, A (194 + 3 * nm + 1), A (194 + 3 * nm + 2)) (rowOf A (41 + 3 * (D + 1))))) 40 (vU (A 40) (nm : Int) 1) := ⟨_, rfl⟩
    rw [← hX]
    have x1 : ∀ b, b ≠ 35 → b ≠ 40 → b ≠ 194 + 3 * nm → b ≠ 194 + 3 * nm + 1 → b ≠ 194 + 3 * nm + 2 → X b = A b := fun b c0 c1 c2 c3 c4 => by
      rw [hX, vA_ne c1, setRow_ap c2 c3 c4, vA_ne c0]
    have x2 : X 35 = vU (A 35) 8 (D : Int) := by rw [hX, vA_ne (by decide), setRow_ap (by omega) (by omega) (by omega), vA_same]
    have x3 : X 40 = vU (A 40) (nm : Int) 1 := by rw [hX, vA_same]
    have x4 : rowOf X (194 + 3 * nm) = addAll (0, A (194 + 3 * nm + 1), A (194 + 3 * nm + 2)) (rowOf A (41 + 3 * (D + 1))) := by
      have : rowOf X (194 + 3 * nm) = rowOf (setRow (vA A 35 (vU (A 35) 8 (D : Int))) (194 + 3 * nm) (addAll (0, A (194 + 3 * nm + 1), A (194 + 3 * nm + 2)) (rowOf A (41 + 3 * (D + 1))))) (194 + 3 * nm) := by
        rw [hX]
        unfold rowOf
        rw [vA_ne (by omega), vA_ne (by omega), vA_ne (by omega)]
      rw [this, rowOf_set]
    have xr : ∀ r, r % 3 = 2 → 41 ≤ r → r ≠ 194 + 3 * nm → rowOf X r = rowOf A r := fun r r0 r1 r2 => by
      unfold rowOf
      rw [x1 _ (by omega) (by omega) (by omega) (by omega) (by omega), x1 _ (by omega) (by omega) (by omega) (by omega) (by omega), x1 _ (by omega) (by omega) (by omega) (by omega) (by omega)]
    obtain ⟨Y, hY⟩ : ∃ Y, Y = clN B ((D : Int) + 1) (nm : Int) := ⟨_, rfl⟩
    rw [← hY]
    have y1 : ∀ b, b ≠ 376 → b ≠ 400 → b ≠ 399 → b ≠ 398 → Y b = B b := fun b c0 c1 c2 c3 => by
      rw [hY]; unfold clN
      rw [vA_ne c3, vA_ne c2, vA_ne c1, vA_ne c0]
    have y2 : Y 376 = vU (B 376) 32 ((D : Int) + 1 - 1) := by rw [hY]; rfl
    have y3 : Y 400 = vU (B 400) (nm : Int) 1 := by rw [hY]; rfl
    have y4 : Y 399 = vU (B 399) (nm : Int) (B 396 ((D : Int) + 1)) := by rw [hY]; rfl
    have y5 : Y 398 = fl (B 398) (fun j => B 395 (13 * ((D : Int) + 1) + (j - 11 * (nm : Int)))) (11 * (nm : Int)) (11 * (nm : Int) + B 396 ((D : Int) + 1)) := by rw [hY]; rfl
    have k0 : X 35 0 = A 35 0 := by rw [x2]; rfl
    have k1 : X 35 1 = A 35 1 := by rw [x2]; rfl
    have k7 : X 35 7 = A 35 7 := by rw [x2]; rfl
    have k8 : X 35 8 = (D : Int) := by rw [x2]; rfl
    have k9 : X 35 9 = A 35 9 := by rw [x2]; rfl
    have j0 : Y 376 0 = B 376 0 := by rw [y2]; rfl
    have j30 : Y 376 30 = B 376 30 := by rw [y2]; rfl
    have j31 : Y 376 31 = B 376 31 := by rw [y2]; rfl
    have j32 : Y 376 32 = (D : Int) := by rw [y2, vU_at]; omega
    have j33 : Y 376 33 = B 376 33 := by rw [y2]; rfl
    refine ⟨⟨?_, ?_, ?_, ?_, ?_⟩, ?_, ?_, ?_, ?_⟩
    · rw [k0, j0]; exact i1
    · rw [k1, j30]; exact i2
    · rw [k7, k1, j31]; exact i3
    · rw [k8, k7, j32]; exact ⟨rfl, by omega, by omega⟩
    · rw [k9, j33]; exact i5
    · unfold pvT
      rw [k1, x1 _ (by omega) (by omega) (by omega) (by omega) (by omega), y1 _ (by decide) (by decide) (by decide) (by decide)]; exact h2
    · intro k hk
      rw [k8] at hk
      rw [xr _ (by omega) (by omega) (by omega), y1 _ (by decide) (by decide) (by decide) (by decide), y1 _ (by decide) (by decide) (by decide) (by decide)]
      exact h3 k (by omega)
    · intro k hk hk2
      rw [k8] at hk2
      rw [x1 38 (by omega) (by omega) (by omega) (by omega) (by omega), y1 _ (by decide) (by decide) (by decide) (by decide)]
      exact h4 k hk (by omega)
    · intro m hm
      rw [x3, y3, y4, y5]
      by_cases e : m = nm
      · subst e
        rw [vU_at, vU_at, vU_at, x4]
        refine ⟨rfl, Or.inr rfl, fun _ => rowQ_copy ?_⟩
        obtain ⟨r1, r2, r3⟩ := hrow
        refine ⟨r1, r2, fun y w w0 w1 => ?_⟩
        dsimp only
        rw [fl_in (by omega) (by omega), show 11 * (m : Int) + w - 11 * (m : Int) = w by omega]
        exact r3 y w w0 w1
      · obtain ⟨g1, g2, g3⟩ := h5 m hm
        rw [vU_ne (by omega), vU_ne (by omega), vU_ne (by omega), xr _ (by omega) (by omega) (by omega)]
        refine ⟨g1, g2, fun y => ?_⟩
        obtain ⟨r1, r2, r3⟩ := g3 y
        refine ⟨r1, r2, fun y w w0 w1 => ?_⟩
        have hz := hrow.2.1
        dsimp only
        rw [fl_out (by omega)]
        exact r3 y w w0 w1
  · rw [if_neg q, if_neg q]
    have e1 : (D : Int) + 1 - 1 = D := by omega
    rw [e1]
    have hmid : pvR n (vA A 35 (vU (A 35) 8 (D : Int))) (vA B 376 (vU (B 376) 32 (D : Int))) := by
      have er : ∀ r, r ≠ 35 → r + 1 ≠ 35 → r + 2 ≠ 35 → rowOf (vA A 35 (vU (A 35) 8 (D : Int))) r = rowOf A r := fun r r0 r1 r2 => by
        unfold rowOf
        rw [vA_ne r0, vA_ne r1, vA_ne r2]
      refine ⟨⟨i1, i2, i3, ⟨rfl, ?_, ?_⟩, i5⟩, h2, fun k hk => ?_, fun k hk hk2 => ?_, fun m hm => ?_⟩
      · show 0 ≤ (D : Int); omega
      · show 2 * (D : Int) ≤ A 35 7; omega
      · have hk' : (k : Int) ≤ D := hk
        rw [er _ (by omega) (by omega) (by omega)]
        exact h3 k (by omega)
      · have hk' : k ≤ (D : Int) := hk2
        exact h4 k hk (by omega)
      · rw [er _ (by omega) (by omega) (by omega)]
        exact h5 m hm
    have e5 : (vA B 376 (vU (B 376) 32 (D : Int))) 376 32 = (D : Int) := by rw [vA_same, vU_at]
    have hcl := clL_row (n := n) hrow how.toNat (vA B 376 (vU (B 376) 32 (D : Int))) (rowOf A (41 + 3 * D)) (by rw [e5]; exact hrowD)
    rw [e5] at hcl
    refine pv_row (A := vA A 35 (vU (A 35) 8 (D : Int))) (D := D) (s := caL (rowOf A (41 + 3 * (D + 1))) how.toNat (rowOf A (41 + 3 * D))) hmid (by rw [vA_same, vU_at]) (by omega) rfl hcl.1 hcl.2
end PV
