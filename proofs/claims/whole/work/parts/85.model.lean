/-! LAY: numbers kept in longs; what may be laid, and the fewest layers -/
/-- four bits of a number -/
def nib (m l : Nat) : Nat := (m >>> (4 * l)) % 16
theorem nib_bit (m l i : Nat) : (nib m l).testBit i = (decide (i < 4) && m.testBit (4 * l + i)) := by
  unfold nib
  rw [show 16 = 2 ^ 4 by rfl, Nat.testBit_mod_two_pow, Nat.testBit_shiftRight]
theorem nib_or {m v l l' : Nat} (hv : v < 16) (h0 : nib m l = 0 ∨ nib m l = v) : nib (m ||| (v <<< (4 * l))) l' = if l' = l then v else nib m l' := by
  have hvb : ∀ i, 4 ≤ i → v.testBit i = false := fun i hi => Nat.testBit_lt_two_pow (Nat.lt_of_lt_of_le hv (Nat.le_trans (show 16 ≤ 2 ^ 4 by decide) (Nat.pow_le_pow_right (by decide) hi)))
  apply Nat.eq_of_testBit_eq
  intro i
  rw [nib_bit, Nat.testBit_or, Nat.testBit_shiftLeft]
  by_cases e : l' = l
  · subst e
    rw [if_pos rfl]
    have h1 := nib_bit m l' i
    by_cases q : i < 4
    · rw [decide_eq_true q, Bool.true_and] at h1 ⊢
      rw [← h1, decide_eq_true (show 4 * l' + i ≥ 4 * l' by omega), show 4 * l' + i - 4 * l' = i by omega, Bool.true_and]
      rcases h0 with e | e
      · rw [e, Nat.zero_testBit, Bool.false_or]
      · rw [e, Bool.or_self]
    · rw [decide_eq_false q, Bool.false_and, hvb i (by omega)]
  · rw [if_neg e, nib_bit]
    by_cases q : i < 4
    · rw [decide_eq_true q, Bool.true_and, Bool.true_and]
      by_cases lt : l' < l
      · rw [decide_eq_false (show ¬ 4 * l' + i ≥ 4 * l by omega), Bool.false_and, Bool.or_false]
      · rw [hvb _ (by omega), Bool.and_false, Bool.or_false]
    · rw [decide_eq_false q, Bool.false_and, Bool.false_and]
theorem bv_i64 {x : BitVec 64} {a : Nat} (h : x.toNat = a) (ha : a < 9223372036854775808) : x.toInt = (a : Int) := by
  rw [BitVec.toInt_eq_toNat_of_lt (by omega), h]
theorem ofL_bv {a : Nat} : (Int64.ofInt (a : Int)).toBitVec = BitVec.ofNat 64 a := BitVec.ofInt_natCast 64 a
def nbX (w y : Int) : Int := b32 (fun a b => a &&& b) (Int64.ofInt (s64 (fun a b => (a.toUInt64 >>> (b.toInt64.toUInt64 &&& Int64.toUInt64 63)).toInt64) w y)).toInt32.toInt 15
theorem nbX_eq (w y : Int) : nbX w y = ((((Int64.ofInt w).toUInt64 >>> ((Int32.ofInt y).toInt64.toUInt64 &&& Int64.toUInt64 63)).toInt64.toInt32) &&& Int32.ofInt 15).toInt := by
  unfold nbX b32 s64
  rw [Int64.ofInt_toInt, Int32.ofInt_toInt]
theorem nib_N {m l : Nat} (hm : m < 281474976710656) (hl : l < 12) : nbX (m : Int) (4 * (l : Int)) = ((nib m l : Nat) : Int) := by
  have key : ∀ s : Nat, (((Int64.ofInt (m : Int)).toBitVec >>> s).signExtend 32 &&& 15#32).toInt = (((m >>> s) % 16 : Nat) : Int) := fun s => by
    refine bv_i32 ?_ (by omega)
    rw [BitVec.toNat_and, BitVec.signExtend_eq_setWidth_of_le _ (by omega), BitVec.toNat_setWidth, BitVec.toNat_ushiftRight, ofL_bv, BitVec.toNat_ofNat, Nat.mod_eq_of_lt (show m < 2 ^ 64 by omega), show (15#32).toNat = 2 ^ 4 - 1 by rfl, Nat.and_two_pow_sub_one_eq_mod]
    omega
  rw [nbX_eq]
  unfold nib
  have e : l = 0 ∨ l = 1 ∨ l = 2 ∨ l = 3 ∨ l = 4 ∨ l = 5 ∨ l = 6 ∨ l = 7 ∨ l = 8 ∨ l = 9 ∨ l = 10 ∨ l = 11 := by omega
  rcases e with rfl | rfl | rfl | rfl | rfl | rfl | rfl | rfl | rfl | rfl | rfl | rfl
  · exact key 0
  · exact key 4
  · exact key 8
  · exact key 12
  · exact key 16
  · exact key 20
  · exact key 24
  · exact key 28
  · exact key 32
  · exact key 36
  · exact key 40
  · exact key 44
def orX (w v y : Int) : Int := b64 (fun a b => a ||| b) w (s64 (fun a b => a <<< (b.toInt64 &&& 63)) v y)
theorem orX_eq (w v y : Int) : orX w v y = (Int64.ofInt w ||| (Int64.ofInt v <<< ((Int32.ofInt y).toInt64 &&& 63))).toInt := by
  unfold orX b64 s64
  rw [Int64.ofInt_toInt]
theorem or_L {m v l : Nat} (hm : m < 281474976710656) (hv : v < 16) (hl : l < 12) : orX (m : Int) (v : Int) (4 * (l : Int)) = ((m ||| (v <<< (4 * l)) : Nat) : Int) ∧ m ||| (v <<< (4 * l)) < 281474976710656 := by
  have hb : v <<< (4 * l) < 2 ^ 48 := by
    rw [Nat.shiftLeft_eq]
    have h1 : v * 2 ^ (4 * l) ≤ 15 * 2 ^ 44 := Nat.mul_le_mul (by omega) (Nat.pow_le_pow_right (by decide) (by omega))
    exact Nat.lt_of_le_of_lt h1 (by decide)
  have hlt : m ||| (v <<< (4 * l)) < 2 ^ 48 := Nat.or_lt_two_pow hm hb
  refine ⟨?_, hlt⟩
  have key : ∀ s : Nat, v <<< s < 2 ^ 48 → ((Int64.ofInt (m : Int)).toBitVec ||| ((Int64.ofInt (v : Int)).toBitVec <<< s)).toInt = ((m ||| (v <<< s) : Nat) : Int) := fun s hs => by
    refine bv_i64 ?_ (Nat.lt_trans (Nat.or_lt_two_pow (n := 48) hm hs) (by decide))
    rw [BitVec.toNat_or, BitVec.toNat_shiftLeft, ofL_bv, ofL_bv, BitVec.toNat_ofNat, BitVec.toNat_ofNat, Nat.mod_eq_of_lt (show m < 2 ^ 64 by omega), Nat.mod_eq_of_lt (show v < 2 ^ 64 by omega), Nat.mod_eq_of_lt (Nat.lt_trans hs (by decide))]
  rw [orX_eq]
  have e : l = 0 ∨ l = 1 ∨ l = 2 ∨ l = 3 ∨ l = 4 ∨ l = 5 ∨ l = 6 ∨ l = 7 ∨ l = 8 ∨ l = 9 ∨ l = 10 ∨ l = 11 := by omega
  rcases e with rfl | rfl | rfl | rfl | rfl | rfl | rfl | rfl | rfl | rfl | rfl | rfl
  · exact key 0 hb
  · exact key 4 hb
  · exact key 8 hb
  · exact key 12 hb
  · exact key 16 hb
  · exact key 20 hb
  · exact key 24 hb
  · exact key 28 hb
  · exact key 32 hb
  · exact key 36 hb
  · exact key 40 hb
  · exact key 44 hb
/-- sets that have nothing in common -/
theorem or_two (a b : Nat) : a ||| b = 2 * ((a / 2) ||| (b / 2)) + (a % 2 + b % 2 - (a % 2) * (b % 2)) := by
  have h1 := Nat.div_add_mod (a ||| b) 2
  have h2 : (a ||| b) / 2 = (a / 2) ||| (b / 2) := Nat.or_div_two
  have h3 : (a ||| b) % 2 = a % 2 + b % 2 - (a % 2) * (b % 2) := by
    have := Nat.or_mod_two_pow (a := a) (b := b) (n := 1)
    rw [Nat.pow_one] at this
    rw [this]
    rcases Nat.mod_two_eq_zero_or_one a with e | e <;> rcases Nat.mod_two_eq_zero_or_one b with f | f <;> rw [e, f] <;> rfl
  rw [h2, h3] at h1
  exact h1.symm
theorem or_add : ∀ (a b : Nat), a &&& b = 0 → a ||| b = a + b := by
  intro a
  induction a using Nat.strongRecOn with
  | ind a ih =>
    intro b h
    by_cases a0 : a = 0
    · subst a0; rw [Nat.zero_or]; omega
    · have h2 := and_two a b
      rw [h] at h2
      have ms := Nat.div_add_mod a 2
      have mt := Nat.div_add_mod b 2
      have e1 : a / 2 &&& b / 2 = 0 := by omega
      have e2 : a % 2 * (b % 2) = 0 := by omega
      have hi := ih (a / 2) (by omega) (b / 2) e1
      rw [or_two a b, hi, e2]
      omega
/-- lanes, how many works, their lanes and turns, where cells are stuck -/
abbrev LayP : Type := Int × Nat × (Int → Int) × (Int → Int) × (Int → Int → Int)
/-- a work can be done in a layer -/
def Rd (p : LayP) (l : Int) (D w : Nat) : Prop := w < p.2.1 ∧ D.testBit w = false ∧ isC p.1 l (p.2.2.1 w) ∧ (∀ v : Nat, v < w → (-1 ≤ p.2.2.1 v - p.2.2.1 w ∧ p.2.2.1 v - p.2.2.1 w ≤ 1) → D.testBit v = true) ∧ (p.2.2.2.2 l (p.2.2.1 w) = -1 ∨ p.2.2.2.2 l (p.2.2.1 w) = p.2.2.2.1 w)
/-- a set of works may be what a layer does -/
def Vd (p : LayP) (l : Int) (S D : Nat) : Prop := (∀ w, S.testBit w = true → Rd p l D w) ∧ ∀ i, isC p.1 l i → 0 < p.2.2.2.2 l i → ∃ w : Nat, S.testBit w = true ∧ p.2.2.1 w = i
def allW (p : LayP) : Nat := 2 ^ p.2.1 - 1
/-- m layers from l on can do the rest -/
def Cn (p : LayP) : Nat → Int → Nat → Prop
  | 0, _, D => D = allW p
  | m + 1, l, D => ∃ S, Vd p l S D ∧ Cn p m (l + 1) (D ||| S)
def bare (p : LayP) (l : Int) : Prop := ∀ i, isC p.1 l i → ¬ 0 < p.2.2.2.2 l i
/-- r is the least number of layers (13: none) -/
def FwP (p : LayP) (b l : Int) (D : Nat) (r : Int) : Prop := ((l ≤ r ∧ b ≤ r ∧ r ≤ 12) ∧ Cn p (r - l).toNat l D ∧ ∀ r', l ≤ r' → b ≤ r' → r' < r → ¬ Cn p (r' - l).toNat l D) ∨ (r = 13 ∧ ∀ r', l ≤ r' → b ≤ r' → r' ≤ 12 → ¬ Cn p (r' - l).toNat l D)
theorem FwP_one {p : LayP} {b l : Int} {D : Nat} {r r' : Int} (h : FwP p b l D r) (h' : FwP p b l D r') : r = r' := by
  rcases h with ⟨a1, a2, a3⟩ | ⟨a1, a2⟩ <;> rcases h' with ⟨b1, b2, b3⟩ | ⟨b1, b2⟩
  · apply Classical.byContradiction
    intro hne
    by_cases q : r < r'
    · exact b3 r a1.1 a1.2.1 q a2
    · exact a3 r' b1.1 b1.2.1 (by omega) b2
  · exact absurd a2 (b2 r a1.1 a1.2.1 a1.2.2)
  · exact absurd b2 (a2 r' b1.1 b1.2.1 b1.2.2)
  · omega
theorem FwP_bd {p : LayP} {b l : Int} {D : Nat} {r : Int} (h : FwP p b l D r) (hl : 0 ≤ l) : 0 ≤ r ∧ r ≤ 13 := by
  rcases h with ⟨a1, a2, a3⟩ | ⟨a1, a2⟩ <;> omega
theorem all_bit (p : LayP) (w : Nat) : (allW p).testBit w = decide (w < p.2.1) := by
  unfold allW
  rw [Nat.testBit_two_pow_sub_one]
theorem Cn_all {p : LayP} : ∀ (m : Nat) (l : Int), Cn p m l (allW p) ↔ ∀ j, 0 ≤ j → j < (m : Int) → bare p (l + j)
  | 0, l => ⟨fun _ j j0 j1 => by omega, fun _ => rfl⟩
  | m + 1, l => by
    constructor
    · rintro ⟨S, h1, h2⟩ j j0 j1
      have hS : ∀ w, S.testBit w = false := fun w => by
        cases hw : S.testBit w with
        | false => rfl
        | true =>
          have hr := h1.1 w hw
          have := hr.2.1
          rw [all_bit, decide_eq_true hr.1] at this
          cases this
      have hS0 : S = 0 := Nat.eq_of_testBit_eq fun i => by rw [hS i, Nat.zero_testBit]
      subst hS0
      rw [Nat.or_zero] at h2
      by_cases e : j = 0
      · rw [e, Int.add_zero]
        intro i hi hpos
        obtain ⟨w, hw, _⟩ := h1.2 i hi hpos
        rw [hS w] at hw
        cases hw
      · have := (Cn_all m (l + 1)).mp h2 (j - 1) (by omega) (by omega)
        rw [show l + 1 + (j - 1) = l + j by omega] at this
        exact this
    · intro h
      refine ⟨0, ⟨fun w hw => (by rw [Nat.zero_testBit] at hw; cases hw), fun i hi hpos => ?_⟩, ?_⟩
      · have := h 0 (by omega) (by omega) i
        rw [Int.add_zero] at this
        exact absurd hpos (this hi)
      · rw [Nat.or_zero]
        refine (Cn_all m (l + 1)).mpr (fun j j0 j1 => ?_)
        rw [show l + 1 + j = l + (j + 1) by omega]
        exact h (j + 1) (by omega) (by omega)
theorem FwP_all {p : LayP} {b l : Int} (hb : b ≤ 12) (hb2 : b = 0 ∨ ¬ bare p (b - 1)) (hl : 0 ≤ l ∧ l ≤ 12) : FwP p b l (allW p) (if b ≤ l then l else 13) := by
  by_cases q : b ≤ l
  · rw [if_pos q]
    refine Or.inl ⟨⟨Int.le_refl _, q, hl.2⟩, ?_, fun r' h1 _ h2 => by omega⟩
    rw [show (l - l).toNat = 0 by omega]
    rfl
  · rw [if_neg q]
    refine Or.inr ⟨rfl, fun r' h1 h2 h3 h4 => ?_⟩
    have := (Cn_all _ l).mp h4 (b - 1 - l) (by omega) (by omega)
    rw [show l + (b - 1 - l) = b - 1 by omega] at this
    exact (hb2.resolve_left (by omega)) this
theorem FwP_12 {p : LayP} {b : Int} {D : Nat} (hD : ¬ D = allW p) : FwP p b 12 D 13 := by
  refine Or.inr ⟨rfl, fun r' h1 h2 h3 h4 => ?_⟩
  rw [show (r' - 12).toNat = 0 by omega] at h4
  exact hD h4
theorem FwP_step {p : LayP} {b l : Int} {D : Nat} {r : Int} (hD : ¬ D = allW p) (hr : r ≤ 13) (h1 : ∀ S, Vd p l S D → ∃ f, FwP p b (l + 1) (D ||| S) f ∧ r ≤ f) (h2 : r = 13 ∨ ∃ S, Vd p l S D ∧ FwP p b (l + 1) (D ||| S) r) : FwP p b l D r := by
  -- any number that will do is r at least
  have key : ∀ r', l ≤ r' → b ≤ r' → r' ≤ 12 → Cn p (r' - l).toNat l D → r ≤ r' := fun r' a1 a2 a3 a4 => by
    by_cases e : r' = l
    · rw [e, show (l - l).toNat = 0 by omega] at a4
      exact absurd a4 hD
    · rw [show (r' - l).toNat = (r' - (l + 1)).toNat + 1 by omega] at a4
      obtain ⟨S, s1, s2⟩ := a4
      obtain ⟨f, f1, f2⟩ := h1 S s1
      rcases f1 with ⟨g1, g2, g3⟩ | ⟨g1, g2⟩
      · by_cases q : r' < f
        · exact absurd s2 (g3 r' (by omega) a2 q)
        · omega
      · exact absurd s2 (g2 r' (by omega) a2 a3)
  by_cases e : r = 13
  · exact Or.inr ⟨e, fun r' a1 a2 a3 a4 => by have := key r' a1 a2 a3 a4; omega⟩
  · obtain ⟨S, s1, s2⟩ := h2.resolve_left e
    rcases s2 with ⟨g1, g2, g3⟩ | ⟨g1, g2⟩
    · refine Or.inl ⟨by omega, ?_, fun r' a1 a2 a3 a4 => ?_⟩
      · rw [show (r - l).toNat = (r - (l + 1)).toNat + 1 by omega]
        exact ⟨S, s1, g2⟩
      · have := key r' a1 a2 (by omega) a4
        omega
    · exact absurd g1 e
/-- the way to the fewest layers goes on -/
theorem FwP_go {p : LayP} {b l L : Int} {D S : Nat} (h : FwP p b l D L) (hL : L ≤ 12) (hl : l < L) (hS : Vd p l S D) : Cn p (L - (l + 1)).toNat (l + 1) (D ||| S) ↔ FwP p b (l + 1) (D ||| S) L := by
  rcases h with ⟨g1, g2, g3⟩ | ⟨g1, _⟩
  · constructor
    · intro hc
      refine Or.inl ⟨by omega, hc, fun r' a1 a2 a3 a4 => ?_⟩
      refine g3 r' (by omega) a2 a3 ?_
      rw [show (r' - l).toNat = (r' - (l + 1)).toNat + 1 by omega]
      exact ⟨S, hS, a4⟩
    · rintro (⟨k1, k2, k3⟩ | ⟨k1, _⟩)
      · exact k2
      · omega
  · omega
theorem FwP_ex {p : LayP} {b l L : Int} {D : Nat} (h : FwP p b l D L) (hL : L ≤ 12) (hl : l < L) : ∃ S, Vd p l S D ∧ Cn p (L - (l + 1)).toNat (l + 1) (D ||| S) := by
  rcases h with ⟨g1, g2, g3⟩ | ⟨g1, _⟩
  · rw [show (L - l).toNat = (L - (l + 1)).toNat + 1 by omega] at g2
    exact g2
  · omega
