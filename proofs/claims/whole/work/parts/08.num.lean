/-! NUMBERS: Int beside Int32 and Int64 -/
theorem n32 {x : Int} (h : i32 x) : (Int32.ofInt x).toInt = x := Int32.toInt_ofInt_of_le (by have := h.1; omega) (by have := h.2; omega)
theorem n64 {x : Int} (h : i64 x) : (Int64.ofInt x).toInt = x := Int64.toInt_ofInt_of_le (by have := h.1; omega) (by have := h.2; omega)
theorem n32i (x : Int32) : i32 x.toInt := ⟨by have := x.le_toInt; omega, by have := x.toInt_lt; omega⟩
theorem n64i (x : Int64) : i64 x.toInt := ⟨by have := x.le_toInt; omega, by have := x.toInt_lt; omega⟩
theorem lt32 {x y : Int} (hx : i32 x) (hy : i32 y) : Int32.ofInt x < Int32.ofInt y ↔ x < y := by rw [Int32.lt_iff_toInt_lt, n32 hx, n32 hy]
theorem le32 {x y : Int} (hx : i32 x) (hy : i32 y) : Int32.ofInt x ≤ Int32.ofInt y ↔ x ≤ y := by rw [Int32.le_iff_toInt_le, n32 hx, n32 hy]
theorem eq32 {x y : Int} (hx : i32 x) (hy : i32 y) : Int32.ofInt x = Int32.ofInt y ↔ x = y := by rw [← Int32.toInt_inj, n32 hx, n32 hy]
theorem lt64 {x y : Int} (hx : i64 x) (hy : i64 y) : Int64.ofInt x < Int64.ofInt y ↔ x < y := by rw [Int64.lt_iff_toInt_lt, n64 hx, n64 hy]
theorem eq64 {x y : Int} (hx : i64 x) (hy : i64 y) : Int64.ofInt x = Int64.ofInt y ↔ x = y := by rw [← Int64.toInt_inj, n64 hx, n64 hy]
theorem o32 : Int32.ofInt 0 = 0 := rfl
theorem z32 : i32 0 := by decide
theorem cl32 {x : Int} (h : i32 x) : (Int32.ofInt x).toNatClampNeg = x.toNat := by
  show (Int32.ofInt x).toInt.toNat = x.toNat
  rw [n32 h]
theorem in32 {j : Int} {n : Nat} (hj : i32 j) (h0 : 0 ≤ j) (h : j < (n : Int)) : ¬ (Int32.ofInt j < 0 ∨ n ≤ (Int32.ofInt j).toNatClampNeg) := by
  rw [cl32 hj, ← o32, lt32 hj z32]
  omega
theorem ne32 {y : Int} (hy : i32 y) (h : 0 < y) : ¬ Int32.ofInt y = 0 := by
  rw [← o32, eq32 hy z32]; omega
theorem ne64 {y : Int} (hy : i64 y) (h : 0 < y) : ¬ Int64.ofInt y = 0 := by
  rw [show (0 : Int64) = Int64.ofInt 0 from rfl, eq64 hy (by decide)]; omega
theorem mn32 : Int32.minValue.toInt = -2147483648 := rfl
theorem mx32 : Int32.maxValue.toInt = 2147483647 := rfl
theorem mn64 : Int64.minValue.toInt = -9223372036854775808 := rfl
theorem mx64 : Int64.maxValue.toInt = 9223372036854775807 := rfl
theorem div32 {x y : Int} (hx : i32 x) (hy : i32 y) : Int32.ofInt (x.tdiv y) = Int32.ofInt x / Int32.ofInt y :=
  Int32.ofInt_tdiv (by rw [mn32]; exact hx.1) (by rw [mx32]; have := hx.2; omega) (by rw [mn32]; exact hy.1) (by rw [mx32]; have := hy.2; omega)
theorem div64 {x y : Int} (hx : i64 x) (hy : i64 y) : Int64.ofInt (x.tdiv y) = Int64.ofInt x / Int64.ofInt y :=
  Int64.ofInt_tdiv (by rw [mn64]; exact hx.1) (by rw [mx64]; have := hx.2; omega) (by rw [mn64]; exact hy.1) (by rw [mx64]; have := hy.2; omega)
theorem rem32 {x y : Int} (hx : i32 x) (hy : i32 y) : Int32.ofInt (x.tmod y) = Int32.ofInt x - Int32.ofInt x / Int32.ofInt y * Int32.ofInt y := by
  rw [← div32 hx hy, ← Int32.ofInt_mul, ← Int32.ofInt_sub]
  congr 1
  rw [Int.tmod_def, Int.mul_comm]
theorem rem64 {x y : Int} (hx : i64 x) (hy : i64 y) : Int64.ofInt (x.tmod y) = Int64.ofInt x - Int64.ofInt x / Int64.ofInt y * Int64.ofInt y := by
  rw [← div64 hx hy, ← Int64.ofInt_mul, ← Int64.ofInt_sub]
  congr 1
  rw [Int.tmod_def, Int.mul_comm]
theorem tdiv_le {x y : Int} (hy : 0 < y) : (x.tdiv y).natAbs ≤ x.natAbs := by
  rw [Int.natAbs_tdiv]
  exact Nat.div_le_self _ _
theorem tmod_le {x y : Int} : (x.tmod y).natAbs ≤ x.natAbs := by
  rw [Int.natAbs_tmod]
  exact Nat.mod_le _ _
theorem tdiv_pos {x y : Int} (hy : 0 < y) (h : 0 ≤ x) : 0 ≤ x.tdiv y := Int.tdiv_nonneg h (Int.le_of_lt hy)
theorem i32_tdiv {x y : Int} (hx : i32 x) (hy : 0 < y) : i32 (x.tdiv y) := by
  have h := tdiv_le (x := x) hy
  have h1 := hx.1; have h2 := hx.2
  have h3 : 0 ≤ x → 0 ≤ x.tdiv y := tdiv_pos hy
  have h4 : x ≤ 0 → x.tdiv y ≤ 0 := fun h => by
    have h5 := tdiv_pos (x := -x) hy (by omega)
    rw [Int.neg_tdiv] at h5
    omega
  rcases Int.le_total 0 x with g | g
  · have := h3 g
    constructor <;> omega
  · have := h4 g
    constructor <;> omega
theorem i32_tmod {x y : Int} (hx : i32 x) : i32 (x.tmod y) := by
  have h := tmod_le (x := x) (y := y)
  have h1 := hx.1; have h2 := hx.2
  rcases Int.le_total 0 x with g | g
  · have := Int.tmod_nonneg y g
    constructor <;> omega
  · have h5 := Int.tmod_nonneg y (a := -x) (by omega)
    rw [Int.neg_tmod] at h5
    constructor <;> omega
theorem i64_tdiv {x y : Int} (hx : i64 x) (hy : 0 < y) : i64 (x.tdiv y) := by
  have h := tdiv_le (x := x) hy
  have h1 := hx.1; have h2 := hx.2
  have h3 : 0 ≤ x → 0 ≤ x.tdiv y := tdiv_pos hy
  have h4 : x ≤ 0 → x.tdiv y ≤ 0 := fun h => by
    have h5 := tdiv_pos (x := -x) hy (by omega)
    rw [Int.neg_tdiv] at h5
    omega
  rcases Int.le_total 0 x with g | g
  · have := h3 g
    constructor <;> omega
  · have := h4 g
    constructor <;> omega
theorem i64_tmod {x y : Int} (hx : i64 x) : i64 (x.tmod y) := by
  have h := tmod_le (x := x) (y := y)
  have h1 := hx.1; have h2 := hx.2
  rcases Int.le_total 0 x with g | g
  · have := Int.tmod_nonneg y g
    constructor <;> omega
  · have h5 := Int.tmod_nonneg y (a := -x) (by omega)
    rw [Int.neg_tmod] at h5
    constructor <;> omega
theorem i64_of {x : Int} (h : i32 x) : i64 x := by have := h.1; have := h.2; constructor <;> omega
theorem l64 {x : Int} (h : i32 x) : (Int32.ofInt x).toInt64 = Int64.ofInt x := by
  rw [← Int64.ofInt_int32ToInt, n32 h]
theorem cmp64 {x y : Int} (hx : i64 x) (hy : i64 y) : lg_cmp (Int64.ofInt x) (Int64.ofInt y) = Int32.ofInt (if x < y then -1 else if x = y then 0 else 1) := by
  unfold lg_cmp
  by_cases h : x < y
  · have h3 : ¬ y < x := by omega
    have h4 : ¬ x = y := by omega
    simp [lt64 hx hy, lt64 hy hx, eq64 hx hy, h, h3, h4]
  · by_cases h2 : x = y
    · subst h2
      simp [lt64 hx hx]
    · have h3 : y < x := by omega
      simp [lt64 hx hy, lt64 hy hx, eq64 hx hy, h, h2, h3]
/-! INVERSIONS of a step's parts -/
theorem tI_inv {st : List XV} {k : Int → List XV → Option XR} {z : XR} (h : tI st k = some z) : ∃ x st', st = xI x :: st' ∧ k x st' = some z := by
  unfold tI at h
  split at h
  · exact ⟨_, _, rfl, h⟩
  · cases h
theorem tL_inv {st : List XV} {k : Int → List XV → Option XR} {z : XR} (h : tL st k = some z) : ∃ x st', st = xL x :: st' ∧ k x st' = some z := by
  unfold tL at h
  split at h
  · exact ⟨_, _, rfl, h⟩
  · cases h
theorem tA_inv {st : List XV} {k : Nat → List XV → Option XR} {z : XR} (h : tA st k = some z) : ∃ x st', st = xR x :: st' ∧ k x st' = some z := by
  unfold tA at h
  split at h
  · exact ⟨_, _, rfl, h⟩
  · cases h
theorem bI_inv {st : List XV} {k : Int → Int → List XV → Option XR} {z : XR} (h : bI st k = some z) : ∃ x y st', st = xI y :: xI x :: st' ∧ k x y st' = some z := by
  obtain ⟨y, s1, e1, h1⟩ := tI_inv h
  obtain ⟨x, s2, e2, h2⟩ := tI_inv h1
  exact ⟨x, y, s2, by rw [e1, e2], h2⟩
theorem bL_inv {st : List XV} {k : Int → Int → List XV → Option XR} {z : XR} (h : bL st k = some z) : ∃ x y st', st = xL y :: xL x :: st' ∧ k x y st' = some z := by
  obtain ⟨y, s1, e1, h1⟩ := tL_inv h
  obtain ⟨x, s2, e2, h2⟩ := tL_inv h1
  exact ⟨x, y, s2, by rw [e1, e2], h2⟩
theorem ldI_inv {ls : List XV} {i : Nat} {k : Int → Option XR} {z : XR} (h : ldI ls i k = some z) : ∃ x, ls[i]? = some (xI x) ∧ k x = some z := by
  unfold ldI at h
  split at h
  · exact ⟨_, by assumption, h⟩
  · cases h
theorem ldL_inv {ls : List XV} {i : Nat} {k : Int → Option XR} {z : XR} (h : ldL ls i k = some z) : ∃ x, ls[i]? = some (xL x) ∧ k x = some z := by
  unfold ldL at h
  split at h
  · exact ⟨_, by assumption, h⟩
  · cases h
theorem ldA_inv {ls : List XV} {i : Nat} {k : Nat → Option XR} {z : XR} (h : ldA ls i k = some z) : ∃ x, ls[i]? = some (xR x) ∧ k x = some z := by
  unfold ldA at h
  split at h
  · exact ⟨_, by assumption, h⟩
  · cases h
theorem st1_inv {ls : List XV} {i : Nat} {v : XV} {k : List XV → Option XR} {z : XR} (h : st1 ls i v k = some z) : i < ls.length ∧ lgB ls i = false ∧ k (ls.set i v) = some z := by
  unfold st1 at h
  split at h
  · next hc => exact ⟨hc.1, hc.2, h⟩
  · cases h
theorem st2_inv {ls : List XV} {i : Nat} {v : XV} {k : List XV → Option XR} {z : XR} (h : st2 ls i v k = some z) : i + 1 < ls.length ∧ lgB ls i = false ∧ k ((ls.set i v).set (i + 1) xU) = some z := by
  unfold st2 at h
  split at h
  · next hc => exact ⟨hc.1, hc.2, h⟩
  · cases h
theorem if_inv {c : Prop} [Decidable c] {a : Option XR} {z : XR} (h : (if c then a else none) = some z) : c ∧ a = some z := by
  by_cases hc : c
  · rw [if_pos hc] at h; exact ⟨hc, h⟩
  · rw [if_neg hc] at h; cases h
theorem rN_inj {ls st ls' st' : List XV} {μ μ' : XM} (h : rN ls st μ = some (.inl (ls', st', μ'))) : ls = ls' ∧ st = st' ∧ μ = μ' := by
  cases h; exact ⟨rfl, rfl, rfl⟩
