/-! CELLS of both sides, and what light does -/
/-- the reference's number of the class's cell c -/
def ix (c : Int) : Int := 6 * (c / 3) + (2 * (c % 3) + (c / 3) % 2)
def lnF (n c : Int) : Int := if 2 * (c % 3) + (c / 3) % 2 + 1 < n then 2 * (c % 3) + (c / 3) % 2 else -1
def cRl (X M : Int → Int) : Prop := ∀ c, 0 ≤ c → c < 36 → X c = M (ix c)
def cZ (n : Int) (M : Int → Int) (z : Int) : Prop := ∀ l i, 0 ≤ l → l < 12 → 0 ≤ i → i < 6 → ¬ isC n l i → M (6 * l + i) = z
def lanOK (n : Int) (LN : Int → Int) : Prop := ∀ c, 0 ≤ c → c < 36 → LN c = lnF n c
def eqn (n : Int) (f g : Int → Int) : Prop := ∀ j, 0 ≤ j → j < n → f j = g j
theorem ix_bd {c : Int} (h : 0 ≤ c ∧ c < 36) : 0 ≤ ix c ∧ ix c < 72 := by unfold ix; omega
theorem ix_xi {n l i : Int} (h6 : n ≤ 6) (h : isC n l i) : ix (xi l i) = 6 * l + i := by
  unfold isC at h; unfold ix xi
  have e : (3 * l + i / 2) / 3 = l := by omega
  rw [e]; omega
theorem ix_ln {n c : Int} (h : 0 ≤ c ∧ c < 36) (hl : lnF n c ≠ -1) : isC n (c / 3) (lnF n c) ∧ xi (c / 3) (lnF n c) = c ∧ 6 * (c / 3) + lnF n c = ix c := by
  unfold lnF at hl ⊢
  split
  · next h1 => unfold isC xi ix; omega
  · next h1 => exact absurd (if_neg h1) hl
theorem ln_xi {n l i : Int} (h : isC n l i) (h6 : n ≤ 6) : lnF n (xi l i) = i := by
  unfold isC at h; unfold lnF xi
  have e : (3 * l + i / 2) / 3 = l := by omega
  rw [e, if_pos (by omega)]; omega
theorem ln_bd {n c : Int} (h : 0 ≤ c ∧ c < 36) (hl : lnF n c ≠ -1) : 0 ≤ lnF n c ∧ lnF n c + 1 < n := by
  unfold lnF at hl ⊢
  split
  · omega
  · next h1 => exact absurd (if_neg h1) hl
theorem lanOK_ln {n : Int} {LN : Int → Int} (h6 : n ≤ 6) (h : lanOK n LN) : lnOK LN := by
  intro c h0 h1
  rw [h c h0 h1]
  by_cases e : lnF n c = -1
  · exact Or.inl e
  · have := ln_bd ⟨h0, h1⟩ e
    exact Or.inr (by omega)
/-- where there is no cell -/
theorem ix_no {n c : Int} (h : 0 ≤ c ∧ c < 36) (hl : lnF n c = -1) : ¬ isC n (c / 3) (2 * (c % 3) + (c / 3) % 2) := by
  intro hc
  unfold isC at hc
  unfold lnF at hl
  rw [if_pos (by omega)] at hl
  omega
theorem cZ_x {n : Int} {X M : Int → Int} {z c : Int} (hr : cRl X M) (hz : cZ n M z) (h : 0 ≤ c ∧ c < 36) (hl : lnF n c = -1) : X c = z := by
  rw [hr c h.1 h.2]
  exact hz _ _ (by omega) (by omega) (by omega) (by omega) (ix_no h hl)
theorem turnL_eq {n : Int} {C S f g : Int → Int} {i k : Int} (h : eqn n f g) (hi : 0 ≤ i ∧ i + 1 < n) : eqn n (turnL C S f i k) (turnL C S g i k) := by
  intro j h0 h1
  unfold turnL
  rw [h i hi.1 (by omega), h (i + 1) (by omega) hi.2, h j h0 h1]
theorem sendX_add {C S LN t : Int → Int} : ∀ (a b : Nat) (c : Int) (f : Int → Int), sendX C S LN t (a + b) c f = sendX C S LN t b (c + a) (sendX C S LN t a c f)
  | 0, b, c, f => by simp [sendX]
  | a + 1, b, c, f => by
    rw [show a + 1 + b = (a + b) + 1 by omega]
    show sendX C S LN t (a + b) (c + 1) (if LN c = -1 then f else turnL C S f (LN c) (t c)) = sendX C S LN t b (c + ((a + 1 : Nat) : Int)) (sendX C S LN t a (c + 1) (if LN c = -1 then f else turnL C S f (LN c) (t c)))
    rw [sendX_add a b (c + 1), show c + 1 + (a : Int) = c + ((a + 1 : Nat) : Int) by omega]
/-- light by the same turns is the same -/
theorem sendX_cong {n : Int} {C S LN LN' t t' : Int → Int} : ∀ (m : Nat) (c : Int) (f g : Int → Int), eqn n f g → (∀ j, c ≤ j → j < c + m → LN j = LN' j ∧ (LN j ≠ -1 → (0 ≤ LN j ∧ LN j + 1 < n) ∧ t j = t' j)) → eqn n (sendX C S LN t m c f) (sendX C S LN' t' m c g)
  | 0, _, _, _, h, _ => h
  | m + 1, c, f, g, h, ht => by
    unfold sendX
    refine sendX_cong m (c + 1) _ _ ?_ (fun j h1 h2 => ht j (by omega) (by omega))
    have e := ht c (by omega) (by omega)
    rw [← e.1]
    by_cases h1 : LN c = -1
    · rw [if_pos h1, if_pos h1]; exact h
    · rw [if_neg h1, if_neg h1, ← (e.2 h1).2]
      exact turnL_eq h (e.2 h1).1
theorem lyr_send {n l : Int} {C S LN tx : Int → Int} {t : Int → Int → Int} {f : Int → Int} (h2 : 2 ≤ n) (h6 : n ≤ 6) (hl : 0 ≤ l ∧ l < 12) (hL : lanOK n LN) (ht : ∀ i, isC n l i → t l i = tx (xi l i)) : lyr C S t n l 3 (l % 2) f = sendX C S LN tx 3 (3 * l) f := by
  have e0 : LN (3 * l) = if l % 2 < n - 1 then l % 2 else -1 := by
    rw [hL _ (by omega) (by omega)]; unfold lnF
    by_cases h : l % 2 < n - 1
    · rw [if_pos h, if_pos (by omega)]; omega
    · rw [if_neg h, if_neg (by omega)]
  have e1 : LN (3 * l + 1) = if l % 2 + 2 < n - 1 then l % 2 + 2 else -1 := by
    rw [hL _ (by omega) (by omega)]; unfold lnF
    by_cases h : l % 2 + 2 < n - 1
    · rw [if_pos h, if_pos (by omega)]; omega
    · rw [if_neg h, if_neg (by omega)]
  have e2 : LN (3 * l + 1 + 1) = if l % 2 + 2 + 2 < n - 1 then l % 2 + 2 + 2 else -1 := by
    rw [hL _ (by omega) (by omega)]; unfold lnF
    by_cases h : l % 2 + 2 + 2 < n - 1
    · rw [if_pos h, if_pos (by omega)]; omega
    · rw [if_neg h, if_neg (by omega)]
  unfold sendX sendX sendX sendX lyr
  rw [e0, e1, e2]
  by_cases a0 : l % 2 < n - 1
  · have g0 := ht (l % 2) (by unfold isC; omega)
    rw [show xi l (l % 2) = 3 * l by unfold xi; omega] at g0
    rw [if_pos a0, if_pos a0, if_neg (show ¬ l % 2 = -1 by omega), g0]
    unfold lyr
    by_cases a1 : l % 2 + 2 < n - 1
    · have g1 := ht (l % 2 + 2) (by unfold isC; omega)
      rw [show xi l (l % 2 + 2) = 3 * l + 1 by unfold xi; omega] at g1
      rw [if_pos a1, if_pos a1, if_neg (show ¬ l % 2 + 2 = -1 by omega), g1]
      unfold lyr
      by_cases a2 : l % 2 + 2 + 2 < n - 1
      · have g2 := ht (l % 2 + 2 + 2) (by unfold isC; omega)
        rw [show xi l (l % 2 + 2 + 2) = 3 * l + 1 + 1 by unfold xi; omega] at g2
        rw [if_pos a2, if_pos a2, if_neg (show ¬ l % 2 + 2 + 2 = -1 by omega), g2]
        unfold lyr
        rfl
      · rw [if_neg a2, if_neg a2, if_pos rfl]
    · rw [if_neg a1, if_neg a1, if_pos rfl, if_neg (show ¬ l % 2 + 2 + 2 < n - 1 by omega), if_pos rfl]
  · rw [if_neg a0, if_neg a0, if_pos rfl, if_neg (show ¬ l % 2 + 2 < n - 1 by omega), if_pos rfl, if_neg (show ¬ l % 2 + 2 + 2 < n - 1 by omega), if_pos rfl]
theorem plt_send {n : Int} {C S LN tx : Int → Int} {t : Int → Int → Int} (h2 : 2 ≤ n) (h6 : n ≤ 6) (hL : lanOK n LN) (ht : ∀ l i, isC n l i → t l i = tx (xi l i)) : ∀ (m : Nat) (l : Int) (f : Int → Int), 0 ≤ l → l + m ≤ 12 → plt C S t n m l f = sendX C S LN tx (3 * m) (3 * l) f
  | 0, _, _, _, _ => rfl
  | m + 1, l, f, h0, h1 => by
    unfold plt
    rw [plt_send h2 h6 hL ht m (l + 1) _ (by omega) (by omega), lyr_send h2 h6 ⟨h0, by omega⟩ hL (fun i hi => ht l i hi), show 3 * (m + 1) = 3 + 3 * m by omega, sendX_add, show 3 * l + ((3 : Nat) : Int) = 3 * (l + 1) by omega]
theorem tO_kX {S B SX BX : Int → Int} {c : Int} (hc : 0 ≤ c ∧ c < 36) (hS : cRl SX S) (hB : cRl BX B) (hs : rg S 72 (-1) 95) : tO S B (ix c) = kX SX BX c := by
  have h1 := hs (ix c) (ix_bd hc).1 (ix_bd hc).2
  unfold tO kX
  rw [hS c hc.1 hc.2, hB c hc.1 hc.2]
  by_cases h : S (ix c) = -1
  · rw [if_pos h, if_neg (by omega)]
  · rw [if_neg h, if_pos (by omega)]
theorem ht_eq {k : Int} : htF k = htX k := by unfold htF htX; split <;> split <;> omega
theorem tt_eq {n l i cr : Int} {S B O SX BX OX : Int → Int} (h6 : n ≤ 6) (hc : isC n l i) (hS : cRl SX S) (hB : cRl BX B) (hO : cRl OX O) (hs : rg S 72 (-1) 95) (zS : cZ n S (-1)) (zB : cZ n B 0) : ttM n S B O cr l i = ttX SX BX OX cr (xi l i) := by
  have hx := xi_in h6 hc
  have ei := ix_xi h6 hc
  have hc' := hc
  unfold isC at hc'
  have g := hs (6 * l + i) (by omega) (by omega)
  have hq : (3 * l + i / 2) / 3 = l := by omega
  have hm : xi l i % 3 = i / 2 := by unfold xi; omega
  unfold ttM ttX
  rw [hS _ hx.1 hx.2, hB _ hx.1 hx.2, hO _ hx.1 hx.2, ei]
  by_cases h : S (6 * l + i) = -1
  · rw [if_pos h, if_neg (by omega)]
    have eL : hM n S B l (i - 2) = (if 0 < (xi l i) % 3 then htX (kX SX BX (xi l i - 1)) else 0) := by
      unfold hM
      by_cases a : 0 < (xi l i) % 3
      · have a' : isC n l (i - 2) := by unfold isC; omega
        rw [if_pos a, if_pos a', ← ix_xi h6 a', show xi l (i - 2) = xi l i - 1 by unfold xi; omega, tO_kX (by unfold xi at hm ⊢; omega) hS hB hs, ht_eq]
      · rw [if_neg a, if_neg (by unfold isC; omega)]
    have eR : hM n S B l (i + 2) = (if (xi l i) % 3 < 2 then htX (kX SX BX (xi l i + 1)) else 0) := by
      unfold hM
      by_cases a : (xi l i) % 3 < 2
      · rw [if_pos a, show xi l i + 1 = xi l (i + 2) by unfold xi; omega]
        have hb : 0 ≤ xi l (i + 2) ∧ xi l (i + 2) < 36 := by unfold xi at hm ⊢; omega
        by_cases a' : isC n l (i + 2)
        · rw [if_pos a', ← ix_xi h6 a', tO_kX hb hS hB hs, ht_eq]
        · rw [if_neg a']
          have e2 : ix (xi l (i + 2)) = 6 * l + (i + 2) := by
            unfold ix xi
            have e : (3 * l + (i + 2) / 2) / 3 = l := by omega
            rw [e]; omega
          have e3 : kX SX BX (xi l (i + 2)) = 0 := by
            unfold kX
            rw [hS _ hb.1 hb.2, hB _ hb.1 hb.2, e2, zS l (i + 2) (by omega) (by omega) (by omega) (by omega) a', zB l (i + 2) (by omega) (by omega) (by omega) (by omega) a', if_pos rfl]
          rw [e3]; rfl
      · rw [if_neg a, if_neg (by unfold isC; omega)]
    rw [eL, eR]; rfl
  · rw [if_neg h, if_pos (by omega)]
