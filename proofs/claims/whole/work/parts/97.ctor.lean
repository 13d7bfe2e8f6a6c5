/-! CONSTRUCTORS: cells made one behind another -/
/-- the number of the cell made as the j-th, and back -/
def ivN (n j : Nat) : Nat := if j < 15 + n then j + 1 else if j < 16 + 2 * n then j + 7 - n else j + 13 - 2 * n
def oI (n a : Nat) : Nat := if a < 16 + n then a - 1 else if a < 23 + n then a - 7 + n else a - 13 + 2 * n
def zF : Int → Int := fun _ => 0
def noR : Int → Option Nat := fun _ => none
def rA (R : Nat → Int → Option Nat) (a : Nat) (f : Int → Option Nat) : Nat → Int → Option Nat := fun b => if b = a then f else R b
def uR (f : Int → Option Nat) (i : Int) (b : Nat) : Int → Option Nat := fun j => if j = i then some b else f j
def shJ (n L j : Nat) (b : Nat) : Nat × Nat := if b = 0 then (9, L) else if okI n b = true ∧ oI n b < j then shF n b else (0, 0)
theorem o_iv {n : Nat} (h2 : 2 ≤ n) (h6 : n ≤ 6) (j : Nat) : oI n (ivN n j) = j := by
  unfold oI ivN
  split
  · rw [if_pos (by omega)]; omega
  · split
    · rw [if_neg (by omega), if_pos (by omega)]; omega
    · rw [if_neg (by omega), if_neg (by omega)]; omega
theorem iv_0 {n : Nat} (h6 : n ≤ 6) (j : Nat) : ivN n j ≠ 0 := by
  unfold ivN
  split
  · omega
  · split <;> omega
theorem okI_iff {n a : Nat} (h6 : n ≤ 6) : okI n a = true ↔ (1 ≤ a ∧ a < 16 + n) ∨ (22 ≤ a ∧ a < 23 + n) ∨ (29 ≤ a ∧ a < 411) := by
  unfold okI
  by_cases c1 : a < 16
  · rw [if_pos c1, decide_eq_true_eq]; omega
  · rw [if_neg c1]
    by_cases c2 : a < 22
    · rw [if_pos c2, decide_eq_true_eq]; omega
    · rw [if_neg c2]
      by_cases c3 : a < 23
      · rw [if_pos c3]
        constructor
        · intro _; omega
        · intro _; rfl
      · rw [if_neg c3]
        by_cases c4 : a < 29
        · rw [if_pos c4, decide_eq_true_eq]; omega
        · rw [if_neg c4, decide_eq_true_eq]; omega
theorem iv_o {n a : Nat} (h6 : n ≤ 6) (h : okI n a = true) : ivN n (oI n a) = a := by
  rw [okI_iff h6] at h
  unfold oI
  by_cases c1 : a < 16 + n
  · rw [if_pos c1]
    unfold ivN
    rw [if_pos (by omega)]; omega
  · rw [if_neg c1]
    by_cases c2 : a < 23 + n
    · rw [if_pos c2]
      unfold ivN
      rw [if_neg (by omega), if_pos (by omega)]; omega
    · rw [if_neg c2]
      unfold ivN
      rw [if_neg (by omega), if_neg (by omega)]; omega
/-- memory's frame when the next cell is a -/
abbrev GA (n L a : Nat) (R : Nat → Int → Option Nat) (s : Nat) : XG := (shJ n L (oI n a), R, oI n a, s, ivN n)
abbrev zV (a : Nat) (V : Nat → Int → Int) : Prop := ∀ b, a ≤ b → V b = zF
abbrev zR (a : Nat) (R : Nat → Int → Option Nat) : Prop := ∀ b, a ≤ b → R b = noR
theorem shJ_in {n L j a : Nat} (h6 : n ≤ 6) (h : okI n a = true) (hj : oI n a < j) : shJ n L j a = shF n a := by
  unfold shJ
  rw [if_neg (by have := (okI_iff h6).mp h; omega), if_pos ⟨h, hj⟩]
theorem shJ_up {n L a a' : Nat} {sh : Nat × Nat} (h6 : n ≤ 6) (h : okI n a = true) (hs : shF n a = sh) (ha : oI n a' = oI n a + 1) : (fun b => if b = a then sh else shJ n L (oI n a) b) = shJ n L (oI n a') := by
  funext b
  by_cases e : b = a
  · subst e
    rw [if_pos rfl, shJ_in h6 h (by omega), hs]
  · rw [if_neg e]
    unfold shJ
    by_cases b0 : b = 0
    · rw [if_pos b0, if_pos b0]
    · rw [if_neg b0, if_neg b0]
      by_cases c : okI n b = true ∧ oI n b < oI n a
      · rw [if_pos c, if_pos ⟨c.1, by omega⟩]
      · rw [if_neg c, if_neg (fun y => ?_)]
        have h1 : oI n b = oI n a := by
          have := y.2
          apply Classical.byContradiction
          intro z
          exact c ⟨y.1, by omega⟩
        have h2 := iv_o h6 y.1
        rw [h1, iv_o h6 h] at h2
        exact e h2.symm
theorem rA_z {R : Nat → Int → Option Nat} {a : Nat} (h : R a = noR) : (fun b => if b = a then fun _ => none else R b) = R := by
  funext b
  by_cases e : b = a
  · rw [if_pos e, e, h]; rfl
  · rw [if_neg e]
theorem vA_z {V : Nat → Int → Int} {a : Nat} (h : V a = zF) : vA V a (fun _ => 0) = V := by
  funext b
  by_cases e : b = a
  · rw [e, vA_same, h]; rfl
  · rw [vA_ne e]
section CT
variable {n L d q a a' s : Nat} {is : List Instr} {nx : Nat} {ls st : List XV} {V : Nat → Int → Int} {R : Nat → Int → Option Nat}
theorem c_new' {c : Nat} (h6 : n ≤ 6) (hk : okI n a = true) (hs : shF n a = (10 + c, 0)) (ha : oI n a' = oI n a + 1) (hV : V a = zF) (hR : R a = noR) : bx d q (.new c :: is) nx ls st (V, GA n L a R s) = bx d q is nx ls (xR a :: st) (V, GA n L a' R (s + cO c)) := by
  rw [bx]
  show bx d q is nx ls (xR (ivN n (oI n a)) :: st) (vA V (ivN n (oI n a)) (fun _ => 0), gN (GA n L a R s) (ivN n (oI n a)) (10 + c, 0) (cO c)) = _
  rw [iv_o h6 hk, vA_z hV]
  unfold gN
  show bx d q is nx ls (xR a :: st) (V, ((fun b => if b = a then (10 + c, 0) else shJ n L (oI n a) b), (fun b => if b = a then fun _ => none else R b), oI n a + 1, s + cO c, ivN n)) = _
  rw [shJ_up h6 hk hs ha, rA_z hR, ← ha]
theorem o_up {n a : Nat} (h6 : n ≤ 6) (h : (1 ≤ a ∧ a < 15) ∨ 29 ≤ a) : oI n (a + 1) = oI n a + 1 := by
  unfold oI
  rcases h with h | h
  · rw [if_pos (by omega), if_pos (by omega)]; omega
  · rw [if_neg (by omega), if_neg (by omega), if_neg (by omega), if_neg (by omega)]; omega
theorem o_lt {n a b : Nat} (h6 : n ≤ 6) (hb : okI n b = true) (ha : okI n a = true ∨ a = 411) (h : b < a) : oI n b < oI n a := by
  rw [okI_iff h6] at hb
  have ha' : (1 ≤ a ∧ a < 16 + n) ∨ (22 ≤ a ∧ a < 23 + n) ∨ (29 ≤ a ∧ a < 412) := by
    rcases ha with y | y
    · rw [okI_iff h6] at y; omega
    · omega
  unfold oI
  split <;> split <;> (try split) <;> (try split) <;> omega
theorem c_new {c : Nat} (h6 : n ≤ 6) (ha : (1 ≤ a ∧ a < 15) ∨ 29 ≤ a) (hk : okI n a = true) (hs : shF n a = (10 + c, 0)) (hV : V a = zF) (hR : R a = noR) : bx d q (.new c :: is) nx ls st (V, GA n L a R s) = bx d q is nx ls (xR a :: st) (V, GA n L (a + 1) R (s + cO c)) := c_new' h6 hk hs (o_up h6 ha) hV hR
theorem c_cell {k len : Nat} (h6 : n ≤ 6) (hk : okI n a = true) (hs : shF n a = (k, len)) (ha : oI n a' = oI n a + 1) (hV : V a = zF) (hR : R a = noR) : (vA V (ivN n (oI n a)) (fun _ => 0), gN (GA n L a R s) (ivN n (oI n a)) (k, len) len) = ((V, GA n L a' R (s + len)) : XM) := by
  rw [iv_o h6 hk, vA_z hV]
  unfold gN
  show (V, ((fun b => if b = a then (k, len) else shJ n L (oI n a) b), (fun b => if b = a then fun _ => none else R b), oI n a + 1, s + len, ivN n)) = ((V, GA n L a' R (s + len)) : XM)
  rw [shJ_up h6 hk hs ha, rA_z hR, ← ha]
theorem c_arrI {len : Nat} {x : Int} (h6 : n ≤ 6) (ha : (1 ≤ a ∧ a < 15) ∨ 29 ≤ a) (hk : okI n a = true) (hs : shF n a = (1, len)) (hx : x = len) (hl : len ≤ 100000) (hV : V a = zF) (hR : R a = noR) : bx d q (.newarray .int :: is) nx ls (xI x :: st) (V, GA n L a R s) = bx d q is nx ls (xR a :: st) (V, GA n L (a + 1) R (s + len)) := by
  subst hx
  rw [bx]
  simp only [xs, tI, if_pos (show (0 : Int) ≤ (len : Int) ∧ (len : Int) ≤ 100000 by omega), Int.toNat_natCast]
  show bx d q is nx ls (xR (ivN n (oI n a)) :: st) (vA V (ivN n (oI n a)) (fun _ => 0), gN (GA n L a R s) (ivN n (oI n a)) (1, len) len) = _
  rw [c_cell h6 hk hs (o_up h6 ha) hV hR, iv_o h6 hk]
theorem c_arrZ {len : Nat} {x : Int} (h6 : n ≤ 6) (ha : (1 ≤ a ∧ a < 15) ∨ 29 ≤ a) (hk : okI n a = true) (hs : shF n a = (2, len)) (hx : x = len) (hl : len ≤ 100000) (hV : V a = zF) (hR : R a = noR) : bx d q (.newarray .boolean :: is) nx ls (xI x :: st) (V, GA n L a R s) = bx d q is nx ls (xR a :: st) (V, GA n L (a + 1) R (s + len)) := by
  subst hx
  rw [bx]
  simp only [xs, tI, if_pos (show (0 : Int) ≤ (len : Int) ∧ (len : Int) ≤ 100000 by omega), Int.toNat_natCast]
  show bx d q is nx ls (xR (ivN n (oI n a)) :: st) (vA V (ivN n (oI n a)) (fun _ => 0), gN (GA n L a R s) (ivN n (oI n a)) (2, len) len) = _
  rw [c_cell h6 hk hs (o_up h6 ha) hV hR, iv_o h6 hk]
theorem c_arrL {len : Nat} {x : Int} (h6 : n ≤ 6) (ha : (1 ≤ a ∧ a < 15) ∨ 29 ≤ a) (hk : okI n a = true) (hs : shF n a = (3, len)) (hx : x = len) (hl : len ≤ 100000) (hV : V a = zF) (hR : R a = noR) : bx d q (.newarray .long :: is) nx ls (xI x :: st) (V, GA n L a R s) = bx d q is nx ls (xR a :: st) (V, GA n L (a + 1) R (s + len)) := by
  subst hx
  rw [bx]
  simp only [xs, tI, if_pos (show (0 : Int) ≤ (len : Int) ∧ (len : Int) ≤ 100000 by omega), Int.toNat_natCast]
  show bx d q is nx ls (xR (ivN n (oI n a)) :: st) (vA V (ivN n (oI n a)) (fun _ => 0), gN (GA n L a R s) (ivN n (oI n a)) (3, len) len) = _
  rw [c_cell h6 hk hs (o_up h6 ha) hV hR, iv_o h6 hk]
theorem c_anew {len z : Nat} {x : Int} (h6 : n ≤ 6) (ha : (1 ≤ a ∧ a < 15) ∨ 29 ≤ a) (hk : okI n a = true) (hs : shF n a = (5, len)) (hx : x = len) (hl : len ≤ 100000) (hV : V a = zF) (hR : R a = noR) : bx d q (.anewarray z :: is) nx ls (xI x :: st) (V, GA n L a R s) = bx d q is nx ls (xR a :: st) (V, GA n L (a + 1) R (s + len)) := by
  subst hx
  rw [bx]
  simp only [xs, tI, if_pos (show (0 : Int) ≤ (len : Int) ∧ (len : Int) ≤ 100000 by omega), Int.toNat_natCast]
  show bx d q is nx ls (xR (ivN n (oI n a)) :: st) (vA V (ivN n (oI n a)) (fun _ => 0), gN (GA n L a R s) (ivN n (oI n a)) (5, len) len) = _
  rw [c_cell h6 hk hs (o_up h6 ha) hV hR, iv_o h6 hk]
/-- an array of arrays -/
theorem c_mul {z w cnt len : Nat} {x y : Int} (h6 : n ≤ 6) (hx : x = cnt) (hy : y = len) (hl : cnt ≤ 10000 ∧ len ≤ 10000) (hk : okI n a = true) (hs : shF n a = (4, cnt)) (hkr : ∀ r, r < cnt → okI n (a + 1 + r) = true ∧ shF n (a + 1 + r) = (1, len) ∧ oI n (a + 1 + r) = oI n a + 1 + r) (ha : oI n a' = oI n a + 1 + cnt) (hV : zV a V) (hR : zR a R) : bx d q (.multianewarray z w :: is) nx ls (xI y :: xI x :: st) (V, GA n L a R s) = bx d q is nx ls (xR a :: st) (V, GA n L a' (rA R a (fun j => if 0 ≤ j ∧ j < (cnt : Int) then some (a + 1 + j.toNat) else none)) (s + cnt + cnt * len)) := by
  subst hx; subst hy
  have hiv : ∀ r, r < cnt → ivN n (oI n a + 1 + r) = a + 1 + r := fun r hr => by
    obtain ⟨k1, k2, k3⟩ := hkr r hr
    rw [← k3]; exact iv_o h6 k1
  have hia := iv_o h6 hk
  rw [bx]
  simp only [xs, bI, tI, if_pos (show ((0 : Int) ≤ (cnt : Int) ∧ (cnt : Int) ≤ 10000) ∧ ((0 : Int) ≤ (len : Int) ∧ (len : Int) ≤ 10000) by omega), Int.toNat_natCast]
  have e1 : (fun b => if (List.range (1 + cnt)).any (fun j => b == ivN n (oI n a + j)) = true then fun _ => (0 : Int) else V b) = V := by
    funext b
    split
    · next h =>
      rw [List.any_eq_true] at h
      obtain ⟨j, hj, hb⟩ := h
      rw [List.mem_range] at hj
      have hb' : b = ivN n (oI n a + j) := by simpa using hb
      have hab : a ≤ b := by
        by_cases j0 : j = 0
        · rw [hb', j0, Nat.add_zero, hia]; exact Nat.le_refl _
        · rw [hb', show oI n a + j = oI n a + 1 + (j - 1) by omega, hiv (j - 1) (by omega)]; omega
      rw [hV b hab]; rfl
    · rfl
  have e2 : (fun b => if b = ivN n (oI n a) then ((4, cnt) : Nat × Nat) else if (List.range cnt).any (fun j => b == ivN n (oI n a + 1 + j)) = true then (1, len) else shJ n L (oI n a) b) = shJ n L (oI n a') := by
    funext b
    rw [hia]
    by_cases e : b = a
    · subst e
      rw [if_pos rfl, shJ_in h6 hk (by omega), hs]
    · rw [if_neg e]
      by_cases c : ∃ r, r < cnt ∧ b = a + 1 + r
      · obtain ⟨r, hr, hb⟩ := c
        obtain ⟨k1, k2, k3⟩ := hkr r hr
        rw [if_pos (by
          rw [List.any_eq_true]
          exact ⟨r, List.mem_range.mpr hr, by rw [hiv r hr, hb]; simp⟩), hb, shJ_in h6 k1 (by omega), k2]
      · rw [if_neg (fun y => by
          rw [List.any_eq_true] at y
          obtain ⟨j, hj, hb⟩ := y
          rw [List.mem_range] at hj
          rw [hiv j hj] at hb
          exact c ⟨j, hj, by simpa using hb⟩)]
        unfold shJ
        by_cases b0 : b = 0
        · rw [if_pos b0, if_pos b0]
        · rw [if_neg b0, if_neg b0]
          by_cases o1 : okI n b = true ∧ oI n b < oI n a
          · rw [if_pos o1, if_pos ⟨o1.1, by omega⟩]
          · rw [if_neg o1, if_neg (fun y => ?_)]
            have h2 := iv_o h6 y.1
            have h3 : oI n a ≤ oI n b := by
              apply Classical.byContradiction
              intro z
              exact o1 ⟨y.1, by omega⟩
            by_cases h4 : oI n b = oI n a
            · rw [h4, hia] at h2; exact e h2.symm
            · refine c ⟨oI n b - oI n a - 1, by omega, ?_⟩
              rw [← hiv (oI n b - oI n a - 1) (by omega), show oI n a + 1 + (oI n b - oI n a - 1) = oI n b by omega]
              exact h2.symm
  have e3 : (fun b => if b = ivN n (oI n a) then (fun (j : Int) => if 0 ≤ j ∧ j < (cnt : Int) then some (ivN n (oI n a + 1 + j.toNat)) else none) else R b) = rA R a (fun j => if 0 ≤ j ∧ j < (cnt : Int) then some (a + 1 + j.toNat) else none) := by
    funext b
    rw [hia]
    unfold rA
    by_cases e : b = a
    · rw [if_pos e, if_pos e]
      funext j
      by_cases c : 0 ≤ j ∧ j < (cnt : Int)
      · rw [if_pos c, if_pos c, hiv _ (by omega)]
      · rw [if_neg c, if_neg c]
    · rw [if_neg e, if_neg e]
  show bx d q is nx ls (xR (ivN n (oI n a)) :: st) ((fun b => if (List.range (1 + cnt)).any (fun j => b == ivN n (oI n a + j)) = true then fun _ => (0 : Int) else V b), ((fun b => if b = ivN n (oI n a) then ((4, cnt) : Nat × Nat) else if (List.range cnt).any (fun j => b == ivN n (oI n a + 1 + j)) = true then (1, len) else shJ n L (oI n a) b), (fun b => if b = ivN n (oI n a) then (fun (j : Int) => if 0 ≤ j ∧ j < (cnt : Int) then some (ivN n (oI n a + 1 + j.toNat)) else none) else R b), oI n a + 1 + cnt, s + cnt + cnt * len, ivN n)) = _
  rw [e1, e2, e3, hia, ← ha]
/-- fields of a cell b that is there -/
theorem c_kd {b : Nat} (h6 : n ≤ 6) (hb : okI n b = true) (ha : okI n a = true ∨ a = 411) (hlt : b < a) : (GA n L a R s).1 b = shF n b := shJ_in h6 hb (o_lt h6 hb ha hlt)
theorem c_gfR {b z Q : Nat} (h6 : n ≤ 6) (ha : okI n a = true ∨ a = 411) (hb : okI n b = true) (hlt : b < a) (hs : (shF n b).1 = 10 + Q / 100) (hf : fT (Q / 100) (Q % 100) = 3) (hr : R b ((Q % 100 : Nat) : Int) = some z) : bx d q (.getfield Q :: is) nx ls (xR b :: st) (V, GA n L a R s) = bx d q is nx ls (xR z :: st) (V, GA n L a R s) := by
  have hk : (shJ n L (oI n a) b).1 = 10 + Q / 100 := by rw [shJ_in h6 hb (o_lt h6 hb ha hlt)]; exact hs
  rw [bx]
  simp only [xs, tA, if_pos hk, hf, hr]
  rfl
theorem c_gfI {b Q : Nat} (h6 : n ≤ 6) (ha : okI n a = true ∨ a = 411) (hb : okI n b = true) (hlt : b < a) (hs : (shF n b).1 = 10 + Q / 100) (hf : fT (Q / 100) (Q % 100) = 0) : bx d q (.getfield Q :: is) nx ls (xR b :: st) (V, GA n L a R s) = bx d q is nx ls (xI (V b ((Q % 100 : Nat) : Int)) :: st) (V, GA n L a R s) := by
  have hk : (shJ n L (oI n a) b).1 = 10 + Q / 100 := by rw [shJ_in h6 hb (o_lt h6 hb ha hlt)]; exact hs
  rw [bx]
  simp only [xs, tA, if_pos hk, hf]
  rfl
theorem c_pfI {b Q : Nat} {x : Int} (h6 : n ≤ 6) (ha : okI n a = true ∨ a = 411) (hb : okI n b = true) (hlt : b < a) (hs : (shF n b).1 = 10 + Q / 100) (hf : fT (Q / 100) (Q % 100) = 0) : bx d q (.putfield Q :: is) nx ls (xI x :: xR b :: st) (V, GA n L a R s) = bx d q is nx ls st (vA V b (vU (V b) ((Q % 100 : Nat) : Int) x), GA n L a R s) := by
  have hk : (shJ n L (oI n a) b).1 = 10 + Q / 100 := by rw [shJ_in h6 hb (o_lt h6 hb ha hlt)]; exact hs
  rw [bx]
  simp only [xs, tA, tI, if_pos hk, hf]
  rfl
theorem c_pfL {b Q : Nat} {x : Int} (h6 : n ≤ 6) (ha : okI n a = true ∨ a = 411) (hb : okI n b = true) (hlt : b < a) (hs : (shF n b).1 = 10 + Q / 100) (hf : fT (Q / 100) (Q % 100) = 2) : bx d q (.putfield Q :: is) nx ls (xL x :: xR b :: st) (V, GA n L a R s) = bx d q is nx ls st (vA V b (vU (V b) ((Q % 100 : Nat) : Int) x), GA n L a R s) := by
  have hk : (shJ n L (oI n a) b).1 = 10 + Q / 100 := by rw [shJ_in h6 hb (o_lt h6 hb ha hlt)]; exact hs
  rw [bx]
  simp only [xs, tA, tL, if_pos hk, hf]
  rfl
theorem c_pfR {b z Q : Nat} (h6 : n ≤ 6) (ha : okI n a = true ∨ a = 411) (hb : okI n b = true) (hlt : b < a) (hs : (shF n b).1 = 10 + Q / 100) (hf : fT (Q / 100) (Q % 100) = 3) : bx d q (.putfield Q :: is) nx ls (xR z :: xR b :: st) (V, GA n L a R s) = bx d q is nx ls st (V, GA n L a (rA R b (uR (R b) ((Q % 100 : Nat) : Int) z)) s) := by
  have hk : (shJ n L (oI n a) b).1 = 10 + Q / 100 := by rw [shJ_in h6 hb (o_lt h6 hb ha hlt)]; exact hs
  rw [bx]
  simp only [xs, tA, if_pos hk, hf]
  rfl
theorem gfR' (b Q : Nat) (k : Int) (z : Nat) (hk : ((Q % 100 : Nat) : Int) = k) (h6 : n ≤ 6) (hb : okI n b = true) (hs : (shF n b).1 = 10 + Q / 100) (hf : fT (Q / 100) (Q % 100) = 3) (ha : okI n a = true ∨ a = 411) (hlt : b < a) (hr : R b k = some z) : bx d q (.getfield Q :: is) nx ls (xR b :: st) (V, GA n L a R s) = bx d q is nx ls (xR z :: st) (V, GA n L a R s) := c_gfR h6 ha hb hlt hs hf (by rw [hk]; exact hr)
theorem gfI' (b Q : Nat) (k : Int) (hk : ((Q % 100 : Nat) : Int) = k) (h6 : n ≤ 6) (hb : okI n b = true) (hs : (shF n b).1 = 10 + Q / 100) (hf : fT (Q / 100) (Q % 100) = 0) (ha : okI n a = true ∨ a = 411) (hlt : b < a) : bx d q (.getfield Q :: is) nx ls (xR b :: st) (V, GA n L a R s) = bx d q is nx ls (xI (V b k) :: st) (V, GA n L a R s) := by rw [c_gfI h6 ha hb hlt hs hf, hk]
theorem pfI' (b Q : Nat) (k : Int) (hk : ((Q % 100 : Nat) : Int) = k) (h6 : n ≤ 6) (hb : okI n b = true) (hs : (shF n b).1 = 10 + Q / 100) (hf : fT (Q / 100) (Q % 100) = 0) {x : Int} (ha : okI n a = true ∨ a = 411) (hlt : b < a) : bx d q (.putfield Q :: is) nx ls (xI x :: xR b :: st) (V, GA n L a R s) = bx d q is nx ls st (vA V b (vU (V b) k x), GA n L a R s) := by rw [c_pfI h6 ha hb hlt hs hf, hk]
theorem pfL' (b Q : Nat) (k : Int) (hk : ((Q % 100 : Nat) : Int) = k) (h6 : n ≤ 6) (hb : okI n b = true) (hs : (shF n b).1 = 10 + Q / 100) (hf : fT (Q / 100) (Q % 100) = 2) {x : Int} (ha : okI n a = true ∨ a = 411) (hlt : b < a) : bx d q (.putfield Q :: is) nx ls (xL x :: xR b :: st) (V, GA n L a R s) = bx d q is nx ls st (vA V b (vU (V b) k x), GA n L a R s) := by rw [c_pfL h6 ha hb hlt hs hf, hk]
theorem pfR' (b Q : Nat) (k : Int) (hk : ((Q % 100 : Nat) : Int) = k) (h6 : n ≤ 6) (hb : okI n b = true) (hs : (shF n b).1 = 10 + Q / 100) (hf : fT (Q / 100) (Q % 100) = 3) {z : Nat} (ha : okI n a = true ∨ a = 411) (hlt : b < a) : bx d q (.putfield Q :: is) nx ls (xR z :: xR b :: st) (V, GA n L a R s) = bx d q is nx ls st (V, GA n L a (rA R b (uR (R b) k z)) s) := by rw [c_pfR h6 ha hb hlt hs hf, hk]
theorem iald' (b len : Nat) (h6 : n ≤ 6) (hb : okI n b = true) (hs : shF n b = (1, len)) {j : Int} (ha : okI n a = true ∨ a = 411) (hlt : b < a) (h0 : 0 ≤ j) (h : j < len) : bx d q (.iaload :: is) nx ls (xI j :: xR b :: st) (V, GA n L a R s) = bx d q is nx ls (xI (V b j) :: st) (V, GA n L a R s) := bx_iald ((c_kd h6 hb ha hlt).trans hs) h0 h
theorem iast' (b len : Nat) (h6 : n ≤ 6) (hb : okI n b = true) (hs : shF n b = (1, len)) {j x : Int} (ha : okI n a = true ∨ a = 411) (hlt : b < a) (h0 : 0 ≤ j) (h : j < len) : bx d q (.iastore :: is) nx ls (xI x :: xI j :: xR b :: st) (V, GA n L a R s) = bx d q is nx ls st (vA V b (vU (V b) j x), GA n L a R s) := bx_iast ((c_kd h6 hb ha hlt).trans hs) h0 h
theorem fill' (b len : Nat) (h6 : n ≤ 6) (hb : okI n b = true) (hs : shF n b = (1, len)) (hl : len ≤ 100000) {v : Int} (ha : okI n a = true ∨ a = 411) (hlt : b < a) : run d 1400 0 [xR b, xI v, xU, xU] [] (V, GA n L a R s) = some (none, (vA V b (fun j => if 0 ≤ j ∧ j < len then v else V b j), GA n L a R s)) := j_fill ((c_kd h6 hb ha hlt).trans hs) hl
end CT
theorem rA_ap (R : Nat → Int → Option Nat) (a : Nat) (f : Int → Option Nat) (b : Nat) : rA R a f b = if b = a then f else R b := rfl
theorem rA_rA (R : Nat → Int → Option Nat) (a : Nat) (f g : Int → Option Nat) : rA (rA R a f) a g = rA R a g := by
  funext b; by_cases h : b = a <;> simp [rA, h]
theorem rA_ne {R : Nat → Int → Option Nat} {a b : Nat} {f : Int → Option Nat} (h : b ≠ a) : rA R a f b = R b := by simp [rA, h]
theorem rA_same (R : Nat → Int → Option Nat) (a : Nat) (f : Int → Option Nat) : rA R a f a = f := by simp [rA]
theorem zV_w {a b : Nat} {V : Nat → Int → Int} {f : Int → Int} (h : zV a V) (hb : b < a) : zV a (vA V b f) := fun c hc => by rw [vA_ne (by omega)]; exact h c hc
theorem zV_up {a b : Nat} {V : Nat → Int → Int} (h : zV a V) (hb : a ≤ b) : zV b V := fun c hc => h c (by omega)
theorem zR_w {a b : Nat} {R : Nat → Int → Option Nat} {f : Int → Option Nat} (h : zR a R) (hb : b < a) : zR a (rA R b f) := fun c hc => by rw [rA_ne (by omega)]; exact h c hc
theorem zR_up {a b : Nat} {R : Nat → Int → Option Nat} (h : zR a R) (hb : a ≤ b) : zR b R := fun c hc => h c (by omega)
theorem rA_sw (R : Nat → Int → Option Nat) {a b : Nat} (f g : Int → Option Nat) (e : b < a) : rA (rA R a f) b g = rA (rA R b g) a f := by
  funext c
  simp only [rA_ap]
  by_cases e1 : c = b
  · rw [if_pos e1, if_neg (by omega), if_pos e1]
  · rw [if_neg e1]
    by_cases e2 : c = a
    · rw [if_pos e2, if_pos e2]
    · rw [if_neg e2, if_neg e2, if_neg e1]
theorem vA_sw (V : Nat → Int → Int) {a b : Nat} (f g : Int → Int) (e : b < a) : vA (vA V a f) b g = vA (vA V b g) a f := by
  funext c
  simp only [vA_ap]
  by_cases e1 : c = b
  · rw [if_pos e1, if_neg (by omega), if_pos e1]
  · rw [if_neg e1]
    by_cases e2 : c = a
    · rw [if_pos e2, if_pos e2]
    · rw [if_neg e2, if_neg e2, if_neg e1]
theorem uR_ap (f : Int → Option Nat) (i : Int) (b : Nat) (j : Int) : uR f i b j = if j = i then some b else f j := rfl
def rA2 (R : Nat → Int → Option Nat) (a : Nat) (f : Int → Option Nat) (b : Nat) (g : Int → Option Nat) : Nat → Int → Option Nat := rA (rA R a f) b g
theorem rA2_eq (R : Nat → Int → Option Nat) (a : Nat) (f : Int → Option Nat) (b : Nat) (g : Int → Option Nat) : rA2 R a f b g = rA (rA R a f) b g := rfl
theorem rA_s2 (R : Nat → Int → Option Nat) {a b : Nat} (f g : Int → Option Nat) (e : b < a) : rA (rA R a f) b g = rA2 R b g a f := rA_sw R f g e
def vA2 (V : Nat → Int → Int) (a : Nat) (f : Int → Int) (b : Nat) (g : Int → Int) : Nat → Int → Int := vA (vA V a f) b g
theorem vA2_eq (V : Nat → Int → Int) (a : Nat) (f : Int → Int) (b : Nat) (g : Int → Int) : vA2 V a f b g = vA (vA V a f) b g := rfl
theorem vA_s2 (V : Nat → Int → Int) {a b : Nat} (f g : Int → Int) (e : b < a) : vA (vA V a f) b g = vA2 V b g a f := vA_sw V f g e
