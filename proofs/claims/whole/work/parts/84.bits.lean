/-! BITS: sets of works as numbers -/
theorem ofI_bv {a : Nat} : (Int32.ofInt (a : Int)).toBitVec = BitVec.ofNat 32 a := BitVec.ofInt_natCast 32 a
theorem bv_i32 {x : BitVec 32} {a : Nat} (h : x.toNat = a) (ha : a < 2147483648) : x.toInt = (a : Int) := by
  rw [BitVec.toInt_eq_toNat_of_lt (by omega), h]
theorem and_N {a b : Nat} (ha : a < 2147483648) (hb : b < 2147483648) : andI (a : Int) (b : Int) = ((a &&& b : Nat) : Int) := by
  have e : ((Int32.ofInt (a : Int)).toBitVec &&& (Int32.ofInt (b : Int)).toBitVec).toNat = a &&& b := by
    rw [ofI_bv, ofI_bv, BitVec.toNat_and, BitVec.toNat_ofNat, BitVec.toNat_ofNat, Nat.mod_eq_of_lt (by omega), Nat.mod_eq_of_lt (by omega)]
  exact bv_i32 e (Nat.lt_of_le_of_lt Nat.and_le_left ha)
theorem or_N {a b : Nat} (ha : a < 2147483648) (hb : b < 2147483648) : orI (a : Int) (b : Int) = ((a ||| b : Nat) : Int) := by
  have e : ((Int32.ofInt (a : Int)).toBitVec ||| (Int32.ofInt (b : Int)).toBitVec).toNat = a ||| b := by
    rw [ofI_bv, ofI_bv, BitVec.toNat_or, BitVec.toNat_ofNat, BitVec.toNat_ofNat, Nat.mod_eq_of_lt (by omega), Nat.mod_eq_of_lt (by omega)]
  exact bv_i32 e (Nat.or_lt_two_pow (n := 31) ha hb)
theorem shl_1 : ∀ w : Fin 12, shlI 1 (w.val : Int) = ((2 ^ w.val : Nat) : Int) := by decide +kernel
theorem shl_N {w : Nat} (h : w ≤ 11) : shlI 1 (w : Int) = ((2 ^ w : Nat) : Int) := shl_1 ⟨w, by omega⟩
theorem shl_10 {a : Nat} (ha : a < 1024) : shlI (a : Int) 10 = ((a * 1024 : Nat) : Int) := by
  have e : ((Int32.ofInt (a : Int)).toBitVec <<< 10).toNat = a * 1024 := by
    rw [ofI_bv, BitVec.toNat_shiftLeft, BitVec.toNat_ofNat, Nat.mod_eq_of_lt (by omega), Nat.shiftLeft_eq, Nat.mod_eq_of_lt (by omega)]
  exact bv_i32 e (by omega)
theorem shr_N {a w : Nat} (ha : a < 2147483648) (hw : w ≤ 10) : shrI (a : Int) (w : Int) = ((a >>> w : Nat) : Int) := by
  have key : ∀ s : Nat, ((Int32.ofInt (a : Int)).toBitVec.sshiftRight s).toInt = ((a >>> s : Nat) : Int) := fun s => by
    rw [ofI_bv, BitVec.sshiftRight_eq_of_msb_false]
    · refine bv_i32 ?_ (Nat.lt_of_le_of_lt (Nat.shiftRight_le a s) ha)
      rw [BitVec.toNat_ushiftRight, BitVec.toNat_ofNat, Nat.mod_eq_of_lt (by omega)]
    · rw [BitVec.msb_eq_decide, BitVec.toNat_ofNat, Nat.mod_eq_of_lt (by omega)]
      exact decide_eq_false (by omega)
  have e : w = 0 ∨ w = 1 ∨ w = 2 ∨ w = 3 ∨ w = 4 ∨ w = 5 ∨ w = 6 ∨ w = 7 ∨ w = 8 ∨ w = 9 ∨ w = 10 := by omega
  rcases e with rfl | rfl | rfl | rfl | rfl | rfl | rfl | rfl | rfl | rfl | rfl
  · exact key 0
  · exact key 1
  · exact key 2
  · exact key 3
  · exact key 4
  · exact key 5
  · exact key 6
  · exact key 7
  · exact key 8
  · exact key 9
  · exact key 10
/-- a without b -/
def dif (a b : Nat) : Nat := a &&& (a ^^^ b)
theorem dif_bit (a b i : Nat) : (dif a b).testBit i = (a.testBit i && !b.testBit i) := by
  unfold dif
  rw [Nat.testBit_and, Nat.testBit_xor]
  cases a.testBit i <;> cases b.testBit i <;> rfl
theorem dif_le (a b : Nat) : dif a b ≤ a := Nat.and_le_left
abbrev xorI (a b : Int) : Int := b32 (fun a b => a ^^^ b) a b
theorem dif_N {a b : Nat} (ha : a < 2147483648) (hb : b < 2147483648) : andI (a : Int) (xorI (b : Int) (-1)) = ((dif a b : Nat) : Int) := by
  have e0 : andI (a : Int) (xorI (b : Int) (-1)) = (Int32.ofInt (a : Int) &&& (Int32.ofInt (b : Int) ^^^ Int32.ofInt (-1))).toInt := by
    unfold andI xorI b32
    rw [Int32.ofInt_toInt]
  rw [e0]
  have e1 : (Int32.ofInt (-1)).toBitVec = BitVec.ofNat 32 4294967295 := by decide
  have e : ((Int32.ofInt (a : Int)).toBitVec &&& ((Int32.ofInt (b : Int)).toBitVec ^^^ (Int32.ofInt (-1)).toBitVec)).toNat = dif a b := by
    rw [ofI_bv, ofI_bv, e1, BitVec.toNat_and, BitVec.toNat_xor, BitVec.toNat_ofNat, BitVec.toNat_ofNat, BitVec.toNat_ofNat, Nat.mod_eq_of_lt (show a < 2 ^ 32 by omega), Nat.mod_eq_of_lt (show b < 2 ^ 32 by omega), Nat.mod_eq_of_lt (show 4294967295 < 2 ^ 32 by omega)]
    apply Nat.eq_of_testBit_eq
    intro i
    rw [dif_bit, Nat.testBit_and, Nat.testBit_xor, show 4294967295 = 2 ^ 32 - 1 by rfl, Nat.testBit_two_pow_sub_one]
    by_cases q : i < 32
    · rw [decide_eq_true q]
      cases a.testBit i <;> cases b.testBit i <;> rfl
    · have : a.testBit i = false := Nat.testBit_lt_two_pow (Nat.lt_of_lt_of_le ha (Nat.le_trans (show 2147483648 ≤ 2 ^ 31 by decide) (Nat.pow_le_pow_right (by decide) (by omega))))
      rw [this]; rfl
  exact bv_i32 e (Nat.lt_of_le_of_lt (dif_le a b) ha)
theorem bit_shr (a w : Nat) : (a >>> w) &&& 1 = if a.testBit w = true then 1 else 0 := by
  unfold Nat.testBit
  have h1 : 1 &&& (a >>> w) = (a >>> w) &&& 1 := Nat.and_comm _ _
  rw [h1]
  have h2 : (a >>> w) &&& 1 = (a >>> w) % 2 := Nat.and_one_is_mod _
  rw [h2]
  rcases Nat.mod_two_eq_zero_or_one (a >>> w) with e | e <;> rw [e] <;> rfl
/-- is a work in a set -/
theorem bit_N {a w : Nat} (ha : a < 2147483648) (hw : w ≤ 10) : andI (shrI (a : Int) (w : Int)) 1 = if a.testBit w = true then 1 else 0 := by
  rw [shr_N ha hw]
  have h := and_N (a := a >>> w) (b := 1) (Nat.lt_of_le_of_lt (Nat.shiftRight_le a w) ha) (by omega)
  have h1 : andI ((a >>> w : Nat) : Int) ((1 : Nat) : Int) = andI ((a >>> w : Nat) : Int) 1 := rfl
  rw [← h1, h, bit_shr]
  split <;> rfl
/-- the next lower set of m below s -/
theorem sub_lt {s m : Nat} (h : 0 < s) : (s - 1) &&& m < s := Nat.lt_of_le_of_lt Nat.and_le_left (by omega)
theorem and_two (a b : Nat) : a &&& b = 2 * ((a / 2) &&& (b / 2)) + (a % 2) * (b % 2) := by
  have h1 := Nat.div_add_mod (a &&& b) 2
  have h2 : (a &&& b) / 2 = (a / 2) &&& (b / 2) := Nat.and_div_two
  have h3 : (a &&& b) % 2 = (a % 2) * (b % 2) := by
    have := Nat.and_mod_two_pow (a := a) (b := b) (n := 1)
    rw [Nat.pow_one] at this
    rw [this]
    rcases Nat.mod_two_eq_zero_or_one a with e | e <;> rcases Nat.mod_two_eq_zero_or_one b with f | f <;> rw [e, f] <;> rfl
  rw [h2, h3] at h1
  exact h1.symm
theorem sub_next : ∀ (s m t : Nat), s &&& m = s → t &&& m = t → t < s → t ≤ (s - 1) &&& m := by
  intro s
  induction s using Nat.strongRecOn with
  | ind s ih =>
    intro m t hs ht hlt
    have hs2 := and_two s m
    have ht2 := and_two t m
    rw [hs] at hs2
    rw [ht] at ht2
    have ms := Nat.div_add_mod s 2
    have mt := Nat.div_add_mod t 2
    have mm := Nat.div_add_mod m 2
    have bm := Nat.mod_two_eq_zero_or_one m
    have bs := Nat.mod_two_eq_zero_or_one s
    have bt := Nat.mod_two_eq_zero_or_one t
    have es : s / 2 &&& m / 2 = s / 2 := by
      rcases bs with e | e <;> rcases bm with f | f <;> rw [e, f] at hs2 <;> omega
    have et : t / 2 &&& m / 2 = t / 2 := by
      rcases bt with e | e <;> rcases bm with f | f <;> rw [e, f] at ht2 <;> omega
    have hx := and_two (s - 1) m
    rw [hx]
    rcases bs with e | e
    · have d1 : (s - 1) / 2 = s / 2 - 1 := by omega
      have d2 : (s - 1) % 2 = 1 := by omega
      rw [d1, d2]
      have hi := ih (s / 2) (by omega) (m / 2) (t / 2) es et (by omega)
      have : t % 2 ≤ m % 2 := by
        rcases bt with f | f <;> rcases bm with g | g <;> rw [f, g] at ht2 <;> omega
      omega
    · have d1 : (s - 1) / 2 = s / 2 := by omega
      have d2 : (s - 1) % 2 = 0 := by omega
      rw [d1, d2, es]
      omega
theorem sub_and (s m : Nat) : (s &&& m) &&& m = s &&& m := by rw [Nat.and_assoc, Nat.and_self]
