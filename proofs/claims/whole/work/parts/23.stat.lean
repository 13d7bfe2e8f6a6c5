/-! THE CELLS of both objects, as their constructors leave them; fields, arrays and calls in a block. Written by our program genst.py -/
def shL : List (Nat × Nat) := [(9, 1), (20, 0), (10, 0), (1, 96), (1, 96), (13, 0), (1, 36), (1, 36), (1, 36), (1, 36), (1, 36), (1, 6), (18, 0), (1, 15), (1, 15), (4, 6), (1, 6), (1, 6), (1, 6), (1, 6), (1, 6), (1, 6), (4, 6), (1, 6), (1, 6), (1, 6), (1, 6), (1, 6), (1, 6), (16, 0), (1, 10), (1, 10), (11, 0), (3, 1024), (1, 10), (15, 0), (1, 100), (5, 51), (1, 51), (5, 6), (2, 6), (16, 0), (1, 10), (1, 10), (16, 0), (1, 10), (1, 10), (16, 0), (1, 10), (1, 10), (16, 0), (1, 10), (1, 10), (16, 0), (1, 10), (1, 10), (16, 0), (1, 10), (1, 10), (16, 0), (1, 10), (1, 10), (16, 0), (1, 10), (1, 10), (16, 0), (1, 10), (1, 10), (16, 0), (1, 10), (1, 10), (16, 0), (1, 10), (1, 10), (16, 0), (1, 10), (1, 10), (16, 0), (1, 10), (1, 10), (16, 0), (1, 10), (1, 10), (16, 0), (1, 10), (1, 10), (16, 0), (1, 10), (1, 10), (16, 0), (1, 10), (1, 10), (16, 0), (1, 10), (1, 10), (16, 0), (1, 10), (1, 10), (16, 0), (1, 10), (1, 10), (16, 0), (1, 10), (1, 10), (16, 0), (1, 10), (1, 10), (16, 0), (1, 10), (1, 10), (16, 0), (1, 10), (1, 10), (16, 0), (1, 10), (1, 10), (16, 0), (1, 10), (1, 10), (16, 0), (1, 10), (1, 10), (16, 0), (1, 10), (1, 10), (16, 0), (1, 10), (1, 10), (16, 0), (1, 10), (1, 10), (16, 0), (1, 10), (1, 10), (16, 0), (1, 10), (1, 10), (16, 0), (1, 10), (1, 10), (16, 0), (1, 10), (1, 10), (16, 0), (1, 10), (1, 10), (16, 0), (1, 10), (1, 10), (16, 0), (1, 10), (1, 10), (16, 0), (1, 10), (1, 10), (16, 0), (1, 10), (1, 10), (16, 0), (1, 10), (1, 10), (16, 0), (1, 10), (1, 10), (16, 0), (1, 10), (1, 10), (16, 0), (1, 10), (1, 10), (16, 0), (1, 10), (1, 10), (16, 0), (1, 10), (1, 10), (16, 0), (1, 10), (1, 10), (16, 0), (1, 10), (1, 10), (16, 0), (1, 10), (1, 10), (16, 0), (1, 10), (1, 10), (16, 0), (1, 10), (1, 10), (16, 0), (1, 10), (1, 10), (16, 0), (1, 10), (1, 10), (16, 0), (1, 10), (1, 10), (16, 0), (1, 10), (1, 10), (16, 0), (1, 10), (1, 10), (16, 0), (1, 10), (1, 10), (16, 0), (1, 10), (1, 10), (12, 0), (1, 60), (1, 60), (1, 60), (1, 36), (17, 0), (4, 40), (1, 6), (1, 6), (1, 6), (1, 6), (1, 6), (1, 6), (1, 6), (1, 6), (1, 6), (1, 6), (1, 6), (1, 6), (1, 6), (1, 6), (1, 6), (1, 6), (1, 6), (1, 6), (1, 6), (1, 6), (1, 6), (1, 6), (1, 6), (1, 6), (1, 6), (1, 6), (1, 6), (1, 6), (1, 6), (1, 6), (1, 6), (1, 6), (1, 6), (1, 6), (1, 6), (1, 6), (1, 6), (1, 6), (1, 6), (1, 6), (4, 40), (1, 6), (1, 6), (1, 6), (1, 6), (1, 6), (1, 6), (1, 6), (1, 6), (1, 6), (1, 6), (1, 6), (1, 6), (1, 6), (1, 6), (1, 6), (1, 6), (1, 6), (1, 6), (1, 6), (1, 6), (1, 6), (1, 6), (1, 6), (1, 6), (1, 6), (1, 6), (1, 6), (1, 6), (1, 6), (1, 6), (1, 6), (1, 6), (1, 6), (1, 6), (1, 6), (1, 6), (1, 6), (1, 6), (1, 6), (1, 6), (4, 40), (1, 36), (1, 36), (1, 36), (1, 36), (1, 36), (1, 36), (1, 36), (1, 36), (1, 36), (1, 36), (1, 36), (1, 36), (1, 36), (1, 36), (1, 36), (1, 36), (1, 36), (1, 36), (1, 36), (1, 36), (1, 36), (1, 36), (1, 36), (1, 36), (1, 36), (1, 36), (1, 36), (1, 36), (1, 36), (1, 36), (1, 36), (1, 36), (1, 36), (1, 36), (1, 36), (1, 36), (1, 36), (1, 36), (1, 36), (1, 36), (1, 36), (1, 36), (1, 6), (14, 0), (1, 145), (1, 145), (2, 145), (1, 36), (1, 36), (4, 13), (1, 6), (1, 6), (1, 6), (1, 6), (1, 6), (1, 6), (1, 6), (1, 6), (1, 6), (1, 6), (1, 6), (1, 6), (1, 6), (1, 6), (4, 6), (1, 97), (1, 97), (1, 97), (1, 97), (1, 97), (1, 97), (1, 6), (19, 0), (1, 36), (2, 6), (21, 0), (1, 96), (1, 96), (1, 72), (1, 72), (1, 72), (1, 72), (1, 72), (1, 72), (1, 6), (1, 36), (1, 36), (1, 15), (1, 15), (1, 6), (1, 11), (1, 11), (2, 13312), (1, 100), (1, 1300), (1, 100), (1, 100), (1, 66), (1, 6), (2, 6), (1, 240), (1, 240), (1, 2880), (1, 60), (1, 60), (1, 60), (1, 72), (1, 289), (2, 289), (1, 97)]
def okI (n a : Nat) : Bool := if a < 16 then decide (1 ≤ a) else if a < 22 then decide (a < 16 + n) else if a < 23 then true else if a < 29 then decide (a < 23 + n) else decide (a < 411)
def shF (n a : Nat) : Nat × Nat := if a < 15 then shL.getD a (0, 0) else if a < 16 then (4, n) else if a < 22 then (1, n) else if a < 23 then (4, n) else if a < 29 then (1, n) else shL.getD a (0, 0)
def rfL : List (List (Option Nat)) := [[], [some 2, some 5, some 12, some 29, some 32, some 35, some 212, some 217, some 344, some 373], [some 3, some 4], [], [], [none, some 2, some 6, some 7, some 8, some 9, none, some 10, some 11], [], [], [], [], [], [], [none, some 2, some 15, some 22, some 13, some 14, none, none], [], [], [], [], [], [], [], [], [], [], [], [], [], [], [], [], [some 30, some 31, none], [], [], [some 5, some 29, some 33, some 34, none, none], [], [], [none, none, some 36, some 37, some 38, some 39, some 40, none, none, none, none], [], [], [], [], [], [some 42, some 43, none], [], [], [some 45, some 46, none], [], [], [some 48, some 49, none], [], [], [some 51, some 52, none], [], [], [some 54, some 55, none], [], [], [some 57, some 58, none], [], [], [some 60, some 61, none], [], [], [some 63, some 64, none], [], [], [some 66, some 67, none], [], [], [some 69, some 70, none], [], [], [some 72, some 73, none], [], [], [some 75, some 76, none], [], [], [some 78, some 79, none], [], [], [some 81, some 82, none], [], [], [some 84, some 85, none], [], [], [some 87, some 88, none], [], [], [some 90, some 91, none], [], [], [some 93, some 94, none], [], [], [some 96, some 97, none], [], [], [some 99, some 100, none], [], [], [some 102, some 103, none], [], [], [some 105, some 106, none], [], [], [some 108, some 109, none], [], [], [some 111, some 112, none], [], [], [some 114, some 115, none], [], [], [some 117, some 118, none], [], [], [some 120, some 121, none], [], [], [some 123, some 124, none], [], [], [some 126, some 127, none], [], [], [some 129, some 130, none], [], [], [some 132, some 133, none], [], [], [some 135, some 136, none], [], [], [some 138, some 139, none], [], [], [some 141, some 142, none], [], [], [some 144, some 145, none], [], [], [some 147, some 148, none], [], [], [some 150, some 151, none], [], [], [some 153, some 154, none], [], [], [some 156, some 157, none], [], [], [some 159, some 160, none], [], [], [some 162, some 163, none], [], [], [some 165, some 166, none], [], [], [some 168, some 169, none], [], [], [some 171, some 172, none], [], [], [some 174, some 175, none], [], [], [some 177, some 178, none], [], [], [some 180, some 181, none], [], [], [some 183, some 184, none], [], [], [some 186, some 187, none], [], [], [some 189, some 190, none], [], [], [some 192, some 193, none], [], [], [some 195, some 196, none], [], [], [some 198, some 199, none], [], [], [some 201, some 202, none], [], [], [some 204, some 205, none], [], [], [some 207, some 208, none], [], [], [some 210, some 211, none], [], [], [none, none, some 213, some 214, some 215, some 216], [], [], [], [], [some 5, some 212, none, none, some 218, some 259, some 300, some 341, some 342, some 343], [], [], [], [], [], [], [], [], [], [], [], [], [], [], [], [], [], [], [], [], [], [], [], [], [], [], [], [], [], [], [], [], [], [], [], [], [], [], [], [], [], [], [], [], [], [], [], [], [], [], [], [], [], [], [], [], [], [], [], [], [], [], [], [], [], [], [], [], [], [], [], [], [], [], [], [], [], [], [], [], [], [], [], [], [], [], [], [], [], [], [], [], [], [], [], [], [], [], [], [], [], [], [], [], [], [], [], [], [], [], [], [], [], [], [], [], [], [], [], [], [], [], [], [], [], [], [some 5, some 212, none, none, none, none, some 345, some 346, some 347, some 348, some 349, some 350, some 364, some 365, some 372], [], [], [], [], [], [], [], [], [], [], [], [], [], [], [], [], [], [], [], [], [], [], [], [], [], [], [], [], [some 5, some 374, some 375], [], [], [none, some 377, some 378, some 379, some 380, some 381, some 382, none, some 383, some 384, some 385, some 386, some 387, some 388, some 389, some 390, none, none, none, some 391, some 392, none, some 393, some 394, some 395, some 396, some 397, some 398, some 399, some 400, none, none, none, none, none, some 401, some 402, some 403, some 404, some 405, some 406, none, none, none, some 407, some 408, some 409, none, none, none, none, some 410], [], [], [], [], [], [], [], [], [], [], [], [], [], [], [], [], [], [], [], [], [], [], [], [], [], [], [], [], [], [], [], [], [], []]
def rfA (n a : Nat) (i : Int) : Option Nat := if a = 15 then (if 0 ≤ i ∧ i < n then some (16 + i.toNat) else none) else if a = 22 then (if 0 ≤ i ∧ i < n then some (23 + i.toNat) else none) else if a = 218 then (if 0 ≤ i ∧ i < 40 then some (219 + i.toNat) else none) else if a = 259 then (if 0 ≤ i ∧ i < 40 then some (260 + i.toNat) else none) else if a = 300 then (if 0 ≤ i ∧ i < 40 then some (301 + i.toNat) else none) else if a = 350 then (if 0 ≤ i ∧ i < 13 then some (351 + i.toNat) else none) else if a = 365 then (if 0 ≤ i ∧ i < 6 then some (366 + i.toNat) else none) else if a = 37 then (if 0 ≤ i ∧ i < 51 then some (41 + 3 * i.toNat) else none) else if a = 39 then (if 0 ≤ i ∧ i < 6 then some (194 + 3 * i.toNat) else none) else none
def Good (n L : Nat) (G : XG) : Prop := G.1 0 = (9, L) ∧ (∀ a, okI n a = true → G.1 a = shF n a) ∧ (∀ a (k b : Nat), (rfL.getD a []).getD k none = some b → G.2.1 a (k : Int) = some b) ∧ (∀ a i b, rfA n a i = some b → G.2.1 a i = some b)
section ST
variable {n L : Nat} {d q : Nat} {is : List Instr} {nx : Nat} {ls st : List XV} {V : Nat → Int → Int} {G : XG}
theorem gsh (hG : Good n L G) (a : Nat) {z : Nat × Nat} (h : okI n a = true) (hz : shF n a = z) : G.1 a = z := (hG.2.1 a h).trans hz
theorem ia3 (hG : Good n L G) {j : Int} (h0 : 0 ≤ j) (h : j < 96) : bx d q (.iaload :: is) nx ls (xI j :: xR 3 :: st) (V, G) = bx d q is nx ls (xI (V 3 j) :: st) (V, G) := bx_iald (gsh hG 3 rfl rfl) h0 h
theorem is3 (hG : Good n L G) {j x : Int} (h0 : 0 ≤ j) (h : j < 96) : bx d q (.iastore :: is) nx ls (xI x :: xI j :: xR 3 :: st) (V, G) = bx d q is nx ls st (vA V 3 (vU (V 3) j x), G) := bx_iast (gsh hG 3 rfl rfl) h0 h
theorem ia4 (hG : Good n L G) {j : Int} (h0 : 0 ≤ j) (h : j < 96) : bx d q (.iaload :: is) nx ls (xI j :: xR 4 :: st) (V, G) = bx d q is nx ls (xI (V 4 j) :: st) (V, G) := bx_iald (gsh hG 4 rfl rfl) h0 h
theorem is4 (hG : Good n L G) {j x : Int} (h0 : 0 ≤ j) (h : j < 96) : bx d q (.iastore :: is) nx ls (xI x :: xI j :: xR 4 :: st) (V, G) = bx d q is nx ls st (vA V 4 (vU (V 4) j x), G) := bx_iast (gsh hG 4 rfl rfl) h0 h
theorem ia6 (hG : Good n L G) {j : Int} (h0 : 0 ≤ j) (h : j < 36) : bx d q (.iaload :: is) nx ls (xI j :: xR 6 :: st) (V, G) = bx d q is nx ls (xI (V 6 j) :: st) (V, G) := bx_iald (gsh hG 6 rfl rfl) h0 h
theorem is6 (hG : Good n L G) {j x : Int} (h0 : 0 ≤ j) (h : j < 36) : bx d q (.iastore :: is) nx ls (xI x :: xI j :: xR 6 :: st) (V, G) = bx d q is nx ls st (vA V 6 (vU (V 6) j x), G) := bx_iast (gsh hG 6 rfl rfl) h0 h
theorem ia7 (hG : Good n L G) {j : Int} (h0 : 0 ≤ j) (h : j < 36) : bx d q (.iaload :: is) nx ls (xI j :: xR 7 :: st) (V, G) = bx d q is nx ls (xI (V 7 j) :: st) (V, G) := bx_iald (gsh hG 7 rfl rfl) h0 h
theorem is7 (hG : Good n L G) {j x : Int} (h0 : 0 ≤ j) (h : j < 36) : bx d q (.iastore :: is) nx ls (xI x :: xI j :: xR 7 :: st) (V, G) = bx d q is nx ls st (vA V 7 (vU (V 7) j x), G) := bx_iast (gsh hG 7 rfl rfl) h0 h
theorem ia8 (hG : Good n L G) {j : Int} (h0 : 0 ≤ j) (h : j < 36) : bx d q (.iaload :: is) nx ls (xI j :: xR 8 :: st) (V, G) = bx d q is nx ls (xI (V 8 j) :: st) (V, G) := bx_iald (gsh hG 8 rfl rfl) h0 h
theorem is8 (hG : Good n L G) {j x : Int} (h0 : 0 ≤ j) (h : j < 36) : bx d q (.iastore :: is) nx ls (xI x :: xI j :: xR 8 :: st) (V, G) = bx d q is nx ls st (vA V 8 (vU (V 8) j x), G) := bx_iast (gsh hG 8 rfl rfl) h0 h
theorem ia9 (hG : Good n L G) {j : Int} (h0 : 0 ≤ j) (h : j < 36) : bx d q (.iaload :: is) nx ls (xI j :: xR 9 :: st) (V, G) = bx d q is nx ls (xI (V 9 j) :: st) (V, G) := bx_iald (gsh hG 9 rfl rfl) h0 h
theorem is9 (hG : Good n L G) {j x : Int} (h0 : 0 ≤ j) (h : j < 36) : bx d q (.iastore :: is) nx ls (xI x :: xI j :: xR 9 :: st) (V, G) = bx d q is nx ls st (vA V 9 (vU (V 9) j x), G) := bx_iast (gsh hG 9 rfl rfl) h0 h
theorem ia10 (hG : Good n L G) {j : Int} (h0 : 0 ≤ j) (h : j < 36) : bx d q (.iaload :: is) nx ls (xI j :: xR 10 :: st) (V, G) = bx d q is nx ls (xI (V 10 j) :: st) (V, G) := bx_iald (gsh hG 10 rfl rfl) h0 h
theorem is10 (hG : Good n L G) {j x : Int} (h0 : 0 ≤ j) (h : j < 36) : bx d q (.iastore :: is) nx ls (xI x :: xI j :: xR 10 :: st) (V, G) = bx d q is nx ls st (vA V 10 (vU (V 10) j x), G) := bx_iast (gsh hG 10 rfl rfl) h0 h
theorem ia11 (hG : Good n L G) {j : Int} (h0 : 0 ≤ j) (h : j < 6) : bx d q (.iaload :: is) nx ls (xI j :: xR 11 :: st) (V, G) = bx d q is nx ls (xI (V 11 j) :: st) (V, G) := bx_iald (gsh hG 11 rfl rfl) h0 h
theorem is11 (hG : Good n L G) {j x : Int} (h0 : 0 ≤ j) (h : j < 6) : bx d q (.iastore :: is) nx ls (xI x :: xI j :: xR 11 :: st) (V, G) = bx d q is nx ls st (vA V 11 (vU (V 11) j x), G) := bx_iast (gsh hG 11 rfl rfl) h0 h
theorem ia13 (hG : Good n L G) {j : Int} (h0 : 0 ≤ j) (h : j < 15) : bx d q (.iaload :: is) nx ls (xI j :: xR 13 :: st) (V, G) = bx d q is nx ls (xI (V 13 j) :: st) (V, G) := bx_iald (gsh hG 13 rfl rfl) h0 h
theorem is13 (hG : Good n L G) {j x : Int} (h0 : 0 ≤ j) (h : j < 15) : bx d q (.iastore :: is) nx ls (xI x :: xI j :: xR 13 :: st) (V, G) = bx d q is nx ls st (vA V 13 (vU (V 13) j x), G) := bx_iast (gsh hG 13 rfl rfl) h0 h
theorem ia14 (hG : Good n L G) {j : Int} (h0 : 0 ≤ j) (h : j < 15) : bx d q (.iaload :: is) nx ls (xI j :: xR 14 :: st) (V, G) = bx d q is nx ls (xI (V 14 j) :: st) (V, G) := bx_iald (gsh hG 14 rfl rfl) h0 h
theorem is14 (hG : Good n L G) {j x : Int} (h0 : 0 ≤ j) (h : j < 15) : bx d q (.iastore :: is) nx ls (xI x :: xI j :: xR 14 :: st) (V, G) = bx d q is nx ls st (vA V 14 (vU (V 14) j x), G) := bx_iast (gsh hG 14 rfl rfl) h0 h
theorem ia33 (hG : Good n L G) {j : Int} (h0 : 0 ≤ j) (h : j < 1024) : bx d q (.laload :: is) nx ls (xI j :: xR 33 :: st) (V, G) = bx d q is nx ls (xL (V 33 j) :: st) (V, G) := bx_lald (gsh hG 33 rfl rfl) h0 h
theorem is33 (hG : Good n L G) {j x : Int} (h0 : 0 ≤ j) (h : j < 1024) : bx d q (.lastore :: is) nx ls (xL x :: xI j :: xR 33 :: st) (V, G) = bx d q is nx ls st (vA V 33 (vU (V 33) j x), G) := bx_last (gsh hG 33 rfl rfl) h0 h
theorem ia34 (hG : Good n L G) {j : Int} (h0 : 0 ≤ j) (h : j < 10) : bx d q (.iaload :: is) nx ls (xI j :: xR 34 :: st) (V, G) = bx d q is nx ls (xI (V 34 j) :: st) (V, G) := bx_iald (gsh hG 34 rfl rfl) h0 h
theorem is34 (hG : Good n L G) {j x : Int} (h0 : 0 ≤ j) (h : j < 10) : bx d q (.iastore :: is) nx ls (xI x :: xI j :: xR 34 :: st) (V, G) = bx d q is nx ls st (vA V 34 (vU (V 34) j x), G) := bx_iast (gsh hG 34 rfl rfl) h0 h
theorem ia36 (hG : Good n L G) {j : Int} (h0 : 0 ≤ j) (h : j < 100) : bx d q (.iaload :: is) nx ls (xI j :: xR 36 :: st) (V, G) = bx d q is nx ls (xI (V 36 j) :: st) (V, G) := bx_iald (gsh hG 36 rfl rfl) h0 h
theorem is36 (hG : Good n L G) {j x : Int} (h0 : 0 ≤ j) (h : j < 100) : bx d q (.iastore :: is) nx ls (xI x :: xI j :: xR 36 :: st) (V, G) = bx d q is nx ls st (vA V 36 (vU (V 36) j x), G) := bx_iast (gsh hG 36 rfl rfl) h0 h
theorem ia38 (hG : Good n L G) {j : Int} (h0 : 0 ≤ j) (h : j < 51) : bx d q (.iaload :: is) nx ls (xI j :: xR 38 :: st) (V, G) = bx d q is nx ls (xI (V 38 j) :: st) (V, G) := bx_iald (gsh hG 38 rfl rfl) h0 h
theorem is38 (hG : Good n L G) {j x : Int} (h0 : 0 ≤ j) (h : j < 51) : bx d q (.iastore :: is) nx ls (xI x :: xI j :: xR 38 :: st) (V, G) = bx d q is nx ls st (vA V 38 (vU (V 38) j x), G) := bx_iast (gsh hG 38 rfl rfl) h0 h
theorem ia40 (hG : Good n L G) {j : Int} (h0 : 0 ≤ j) (h : j < 6) : bx d q (.baload :: is) nx ls (xI j :: xR 40 :: st) (V, G) = bx d q is nx ls (xI (V 40 j) :: st) (V, G) := bx_zald (gsh hG 40 rfl rfl) h0 h
theorem is40 (hG : Good n L G) {j x : Int} (hb : x = 0 ∨ x = 1) (h0 : 0 ≤ j) (h : j < 6) : bx d q (.bastore :: is) nx ls (xI x :: xI j :: xR 40 :: st) (V, G) = bx d q is nx ls st (vA V 40 (vU (V 40) j x), G) := bx_zast (gsh hG 40 rfl rfl) hb h0 h
theorem ia213 (hG : Good n L G) {j : Int} (h0 : 0 ≤ j) (h : j < 60) : bx d q (.iaload :: is) nx ls (xI j :: xR 213 :: st) (V, G) = bx d q is nx ls (xI (V 213 j) :: st) (V, G) := bx_iald (gsh hG 213 rfl rfl) h0 h
theorem is213 (hG : Good n L G) {j x : Int} (h0 : 0 ≤ j) (h : j < 60) : bx d q (.iastore :: is) nx ls (xI x :: xI j :: xR 213 :: st) (V, G) = bx d q is nx ls st (vA V 213 (vU (V 213) j x), G) := bx_iast (gsh hG 213 rfl rfl) h0 h
theorem ia214 (hG : Good n L G) {j : Int} (h0 : 0 ≤ j) (h : j < 60) : bx d q (.iaload :: is) nx ls (xI j :: xR 214 :: st) (V, G) = bx d q is nx ls (xI (V 214 j) :: st) (V, G) := bx_iald (gsh hG 214 rfl rfl) h0 h
theorem is214 (hG : Good n L G) {j x : Int} (h0 : 0 ≤ j) (h : j < 60) : bx d q (.iastore :: is) nx ls (xI x :: xI j :: xR 214 :: st) (V, G) = bx d q is nx ls st (vA V 214 (vU (V 214) j x), G) := bx_iast (gsh hG 214 rfl rfl) h0 h
theorem ia215 (hG : Good n L G) {j : Int} (h0 : 0 ≤ j) (h : j < 60) : bx d q (.iaload :: is) nx ls (xI j :: xR 215 :: st) (V, G) = bx d q is nx ls (xI (V 215 j) :: st) (V, G) := bx_iald (gsh hG 215 rfl rfl) h0 h
theorem is215 (hG : Good n L G) {j x : Int} (h0 : 0 ≤ j) (h : j < 60) : bx d q (.iastore :: is) nx ls (xI x :: xI j :: xR 215 :: st) (V, G) = bx d q is nx ls st (vA V 215 (vU (V 215) j x), G) := bx_iast (gsh hG 215 rfl rfl) h0 h
theorem ia216 (hG : Good n L G) {j : Int} (h0 : 0 ≤ j) (h : j < 36) : bx d q (.iaload :: is) nx ls (xI j :: xR 216 :: st) (V, G) = bx d q is nx ls (xI (V 216 j) :: st) (V, G) := bx_iald (gsh hG 216 rfl rfl) h0 h
theorem is216 (hG : Good n L G) {j x : Int} (h0 : 0 ≤ j) (h : j < 36) : bx d q (.iastore :: is) nx ls (xI x :: xI j :: xR 216 :: st) (V, G) = bx d q is nx ls st (vA V 216 (vU (V 216) j x), G) := bx_iast (gsh hG 216 rfl rfl) h0 h
theorem ia341 (hG : Good n L G) {j : Int} (h0 : 0 ≤ j) (h : j < 36) : bx d q (.iaload :: is) nx ls (xI j :: xR 341 :: st) (V, G) = bx d q is nx ls (xI (V 341 j) :: st) (V, G) := bx_iald (gsh hG 341 rfl rfl) h0 h
theorem is341 (hG : Good n L G) {j x : Int} (h0 : 0 ≤ j) (h : j < 36) : bx d q (.iastore :: is) nx ls (xI x :: xI j :: xR 341 :: st) (V, G) = bx d q is nx ls st (vA V 341 (vU (V 341) j x), G) := bx_iast (gsh hG 341 rfl rfl) h0 h
theorem ia342 (hG : Good n L G) {j : Int} (h0 : 0 ≤ j) (h : j < 36) : bx d q (.iaload :: is) nx ls (xI j :: xR 342 :: st) (V, G) = bx d q is nx ls (xI (V 342 j) :: st) (V, G) := bx_iald (gsh hG 342 rfl rfl) h0 h
theorem is342 (hG : Good n L G) {j x : Int} (h0 : 0 ≤ j) (h : j < 36) : bx d q (.iastore :: is) nx ls (xI x :: xI j :: xR 342 :: st) (V, G) = bx d q is nx ls st (vA V 342 (vU (V 342) j x), G) := bx_iast (gsh hG 342 rfl rfl) h0 h
theorem ia343 (hG : Good n L G) {j : Int} (h0 : 0 ≤ j) (h : j < 6) : bx d q (.iaload :: is) nx ls (xI j :: xR 343 :: st) (V, G) = bx d q is nx ls (xI (V 343 j) :: st) (V, G) := bx_iald (gsh hG 343 rfl rfl) h0 h
theorem is343 (hG : Good n L G) {j x : Int} (h0 : 0 ≤ j) (h : j < 6) : bx d q (.iastore :: is) nx ls (xI x :: xI j :: xR 343 :: st) (V, G) = bx d q is nx ls st (vA V 343 (vU (V 343) j x), G) := bx_iast (gsh hG 343 rfl rfl) h0 h
theorem ia345 (hG : Good n L G) {j : Int} (h0 : 0 ≤ j) (h : j < 145) : bx d q (.iaload :: is) nx ls (xI j :: xR 345 :: st) (V, G) = bx d q is nx ls (xI (V 345 j) :: st) (V, G) := bx_iald (gsh hG 345 rfl rfl) h0 h
theorem is345 (hG : Good n L G) {j x : Int} (h0 : 0 ≤ j) (h : j < 145) : bx d q (.iastore :: is) nx ls (xI x :: xI j :: xR 345 :: st) (V, G) = bx d q is nx ls st (vA V 345 (vU (V 345) j x), G) := bx_iast (gsh hG 345 rfl rfl) h0 h
theorem ia346 (hG : Good n L G) {j : Int} (h0 : 0 ≤ j) (h : j < 145) : bx d q (.iaload :: is) nx ls (xI j :: xR 346 :: st) (V, G) = bx d q is nx ls (xI (V 346 j) :: st) (V, G) := bx_iald (gsh hG 346 rfl rfl) h0 h
theorem is346 (hG : Good n L G) {j x : Int} (h0 : 0 ≤ j) (h : j < 145) : bx d q (.iastore :: is) nx ls (xI x :: xI j :: xR 346 :: st) (V, G) = bx d q is nx ls st (vA V 346 (vU (V 346) j x), G) := bx_iast (gsh hG 346 rfl rfl) h0 h
theorem ia347 (hG : Good n L G) {j : Int} (h0 : 0 ≤ j) (h : j < 145) : bx d q (.baload :: is) nx ls (xI j :: xR 347 :: st) (V, G) = bx d q is nx ls (xI (V 347 j) :: st) (V, G) := bx_zald (gsh hG 347 rfl rfl) h0 h
theorem is347 (hG : Good n L G) {j x : Int} (hb : x = 0 ∨ x = 1) (h0 : 0 ≤ j) (h : j < 145) : bx d q (.bastore :: is) nx ls (xI x :: xI j :: xR 347 :: st) (V, G) = bx d q is nx ls st (vA V 347 (vU (V 347) j x), G) := bx_zast (gsh hG 347 rfl rfl) hb h0 h
theorem ia348 (hG : Good n L G) {j : Int} (h0 : 0 ≤ j) (h : j < 36) : bx d q (.iaload :: is) nx ls (xI j :: xR 348 :: st) (V, G) = bx d q is nx ls (xI (V 348 j) :: st) (V, G) := bx_iald (gsh hG 348 rfl rfl) h0 h
theorem is348 (hG : Good n L G) {j x : Int} (h0 : 0 ≤ j) (h : j < 36) : bx d q (.iastore :: is) nx ls (xI x :: xI j :: xR 348 :: st) (V, G) = bx d q is nx ls st (vA V 348 (vU (V 348) j x), G) := bx_iast (gsh hG 348 rfl rfl) h0 h
theorem ia349 (hG : Good n L G) {j : Int} (h0 : 0 ≤ j) (h : j < 36) : bx d q (.iaload :: is) nx ls (xI j :: xR 349 :: st) (V, G) = bx d q is nx ls (xI (V 349 j) :: st) (V, G) := bx_iald (gsh hG 349 rfl rfl) h0 h
theorem is349 (hG : Good n L G) {j x : Int} (h0 : 0 ≤ j) (h : j < 36) : bx d q (.iastore :: is) nx ls (xI x :: xI j :: xR 349 :: st) (V, G) = bx d q is nx ls st (vA V 349 (vU (V 349) j x), G) := bx_iast (gsh hG 349 rfl rfl) h0 h
theorem ia364 (hG : Good n L G) {j : Int} (h0 : 0 ≤ j) (h : j < 6) : bx d q (.iaload :: is) nx ls (xI j :: xR 364 :: st) (V, G) = bx d q is nx ls (xI (V 364 j) :: st) (V, G) := bx_iald (gsh hG 364 rfl rfl) h0 h
theorem is364 (hG : Good n L G) {j x : Int} (h0 : 0 ≤ j) (h : j < 6) : bx d q (.iastore :: is) nx ls (xI x :: xI j :: xR 364 :: st) (V, G) = bx d q is nx ls st (vA V 364 (vU (V 364) j x), G) := bx_iast (gsh hG 364 rfl rfl) h0 h
theorem ia372 (hG : Good n L G) {j : Int} (h0 : 0 ≤ j) (h : j < 6) : bx d q (.iaload :: is) nx ls (xI j :: xR 372 :: st) (V, G) = bx d q is nx ls (xI (V 372 j) :: st) (V, G) := bx_iald (gsh hG 372 rfl rfl) h0 h
theorem is372 (hG : Good n L G) {j x : Int} (h0 : 0 ≤ j) (h : j < 6) : bx d q (.iastore :: is) nx ls (xI x :: xI j :: xR 372 :: st) (V, G) = bx d q is nx ls st (vA V 372 (vU (V 372) j x), G) := bx_iast (gsh hG 372 rfl rfl) h0 h
theorem ia374 (hG : Good n L G) {j : Int} (h0 : 0 ≤ j) (h : j < 36) : bx d q (.iaload :: is) nx ls (xI j :: xR 374 :: st) (V, G) = bx d q is nx ls (xI (V 374 j) :: st) (V, G) := bx_iald (gsh hG 374 rfl rfl) h0 h
theorem is374 (hG : Good n L G) {j x : Int} (h0 : 0 ≤ j) (h : j < 36) : bx d q (.iastore :: is) nx ls (xI x :: xI j :: xR 374 :: st) (V, G) = bx d q is nx ls st (vA V 374 (vU (V 374) j x), G) := bx_iast (gsh hG 374 rfl rfl) h0 h
theorem ia375 (hG : Good n L G) {j : Int} (h0 : 0 ≤ j) (h : j < 6) : bx d q (.baload :: is) nx ls (xI j :: xR 375 :: st) (V, G) = bx d q is nx ls (xI (V 375 j) :: st) (V, G) := bx_zald (gsh hG 375 rfl rfl) h0 h
theorem is375 (hG : Good n L G) {j x : Int} (hb : x = 0 ∨ x = 1) (h0 : 0 ≤ j) (h : j < 6) : bx d q (.bastore :: is) nx ls (xI x :: xI j :: xR 375 :: st) (V, G) = bx d q is nx ls st (vA V 375 (vU (V 375) j x), G) := bx_zast (gsh hG 375 rfl rfl) hb h0 h
theorem ia377 (hG : Good n L G) {j : Int} (h0 : 0 ≤ j) (h : j < 96) : bx d q (.iaload :: is) nx ls (xI j :: xR 377 :: st) (V, G) = bx d q is nx ls (xI (V 377 j) :: st) (V, G) := bx_iald (gsh hG 377 rfl rfl) h0 h
theorem is377 (hG : Good n L G) {j x : Int} (h0 : 0 ≤ j) (h : j < 96) : bx d q (.iastore :: is) nx ls (xI x :: xI j :: xR 377 :: st) (V, G) = bx d q is nx ls st (vA V 377 (vU (V 377) j x), G) := bx_iast (gsh hG 377 rfl rfl) h0 h
theorem ia378 (hG : Good n L G) {j : Int} (h0 : 0 ≤ j) (h : j < 96) : bx d q (.iaload :: is) nx ls (xI j :: xR 378 :: st) (V, G) = bx d q is nx ls (xI (V 378 j) :: st) (V, G) := bx_iald (gsh hG 378 rfl rfl) h0 h
theorem is378 (hG : Good n L G) {j x : Int} (h0 : 0 ≤ j) (h : j < 96) : bx d q (.iastore :: is) nx ls (xI x :: xI j :: xR 378 :: st) (V, G) = bx d q is nx ls st (vA V 378 (vU (V 378) j x), G) := bx_iast (gsh hG 378 rfl rfl) h0 h
theorem ia379 (hG : Good n L G) {j : Int} (h0 : 0 ≤ j) (h : j < 72) : bx d q (.iaload :: is) nx ls (xI j :: xR 379 :: st) (V, G) = bx d q is nx ls (xI (V 379 j) :: st) (V, G) := bx_iald (gsh hG 379 rfl rfl) h0 h
theorem is379 (hG : Good n L G) {j x : Int} (h0 : 0 ≤ j) (h : j < 72) : bx d q (.iastore :: is) nx ls (xI x :: xI j :: xR 379 :: st) (V, G) = bx d q is nx ls st (vA V 379 (vU (V 379) j x), G) := bx_iast (gsh hG 379 rfl rfl) h0 h
theorem ia380 (hG : Good n L G) {j : Int} (h0 : 0 ≤ j) (h : j < 72) : bx d q (.iaload :: is) nx ls (xI j :: xR 380 :: st) (V, G) = bx d q is nx ls (xI (V 380 j) :: st) (V, G) := bx_iald (gsh hG 380 rfl rfl) h0 h
theorem is380 (hG : Good n L G) {j x : Int} (h0 : 0 ≤ j) (h : j < 72) : bx d q (.iastore :: is) nx ls (xI x :: xI j :: xR 380 :: st) (V, G) = bx d q is nx ls st (vA V 380 (vU (V 380) j x), G) := bx_iast (gsh hG 380 rfl rfl) h0 h
theorem ia381 (hG : Good n L G) {j : Int} (h0 : 0 ≤ j) (h : j < 72) : bx d q (.iaload :: is) nx ls (xI j :: xR 381 :: st) (V, G) = bx d q is nx ls (xI (V 381 j) :: st) (V, G) := bx_iald (gsh hG 381 rfl rfl) h0 h
theorem is381 (hG : Good n L G) {j x : Int} (h0 : 0 ≤ j) (h : j < 72) : bx d q (.iastore :: is) nx ls (xI x :: xI j :: xR 381 :: st) (V, G) = bx d q is nx ls st (vA V 381 (vU (V 381) j x), G) := bx_iast (gsh hG 381 rfl rfl) h0 h
theorem ia382 (hG : Good n L G) {j : Int} (h0 : 0 ≤ j) (h : j < 72) : bx d q (.iaload :: is) nx ls (xI j :: xR 382 :: st) (V, G) = bx d q is nx ls (xI (V 382 j) :: st) (V, G) := bx_iald (gsh hG 382 rfl rfl) h0 h
theorem is382 (hG : Good n L G) {j x : Int} (h0 : 0 ≤ j) (h : j < 72) : bx d q (.iastore :: is) nx ls (xI x :: xI j :: xR 382 :: st) (V, G) = bx d q is nx ls st (vA V 382 (vU (V 382) j x), G) := bx_iast (gsh hG 382 rfl rfl) h0 h
theorem ia383 (hG : Good n L G) {j : Int} (h0 : 0 ≤ j) (h : j < 72) : bx d q (.iaload :: is) nx ls (xI j :: xR 383 :: st) (V, G) = bx d q is nx ls (xI (V 383 j) :: st) (V, G) := bx_iald (gsh hG 383 rfl rfl) h0 h
theorem is383 (hG : Good n L G) {j x : Int} (h0 : 0 ≤ j) (h : j < 72) : bx d q (.iastore :: is) nx ls (xI x :: xI j :: xR 383 :: st) (V, G) = bx d q is nx ls st (vA V 383 (vU (V 383) j x), G) := bx_iast (gsh hG 383 rfl rfl) h0 h
theorem ia384 (hG : Good n L G) {j : Int} (h0 : 0 ≤ j) (h : j < 72) : bx d q (.iaload :: is) nx ls (xI j :: xR 384 :: st) (V, G) = bx d q is nx ls (xI (V 384 j) :: st) (V, G) := bx_iald (gsh hG 384 rfl rfl) h0 h
theorem is384 (hG : Good n L G) {j x : Int} (h0 : 0 ≤ j) (h : j < 72) : bx d q (.iastore :: is) nx ls (xI x :: xI j :: xR 384 :: st) (V, G) = bx d q is nx ls st (vA V 384 (vU (V 384) j x), G) := bx_iast (gsh hG 384 rfl rfl) h0 h
theorem ia385 (hG : Good n L G) {j : Int} (h0 : 0 ≤ j) (h : j < 6) : bx d q (.iaload :: is) nx ls (xI j :: xR 385 :: st) (V, G) = bx d q is nx ls (xI (V 385 j) :: st) (V, G) := bx_iald (gsh hG 385 rfl rfl) h0 h
theorem is385 (hG : Good n L G) {j x : Int} (h0 : 0 ≤ j) (h : j < 6) : bx d q (.iastore :: is) nx ls (xI x :: xI j :: xR 385 :: st) (V, G) = bx d q is nx ls st (vA V 385 (vU (V 385) j x), G) := bx_iast (gsh hG 385 rfl rfl) h0 h
theorem ia386 (hG : Good n L G) {j : Int} (h0 : 0 ≤ j) (h : j < 36) : bx d q (.iaload :: is) nx ls (xI j :: xR 386 :: st) (V, G) = bx d q is nx ls (xI (V 386 j) :: st) (V, G) := bx_iald (gsh hG 386 rfl rfl) h0 h
theorem is386 (hG : Good n L G) {j x : Int} (h0 : 0 ≤ j) (h : j < 36) : bx d q (.iastore :: is) nx ls (xI x :: xI j :: xR 386 :: st) (V, G) = bx d q is nx ls st (vA V 386 (vU (V 386) j x), G) := bx_iast (gsh hG 386 rfl rfl) h0 h
theorem ia387 (hG : Good n L G) {j : Int} (h0 : 0 ≤ j) (h : j < 36) : bx d q (.iaload :: is) nx ls (xI j :: xR 387 :: st) (V, G) = bx d q is nx ls (xI (V 387 j) :: st) (V, G) := bx_iald (gsh hG 387 rfl rfl) h0 h
theorem is387 (hG : Good n L G) {j x : Int} (h0 : 0 ≤ j) (h : j < 36) : bx d q (.iastore :: is) nx ls (xI x :: xI j :: xR 387 :: st) (V, G) = bx d q is nx ls st (vA V 387 (vU (V 387) j x), G) := bx_iast (gsh hG 387 rfl rfl) h0 h
theorem ia388 (hG : Good n L G) {j : Int} (h0 : 0 ≤ j) (h : j < 15) : bx d q (.iaload :: is) nx ls (xI j :: xR 388 :: st) (V, G) = bx d q is nx ls (xI (V 388 j) :: st) (V, G) := bx_iald (gsh hG 388 rfl rfl) h0 h
theorem is388 (hG : Good n L G) {j x : Int} (h0 : 0 ≤ j) (h : j < 15) : bx d q (.iastore :: is) nx ls (xI x :: xI j :: xR 388 :: st) (V, G) = bx d q is nx ls st (vA V 388 (vU (V 388) j x), G) := bx_iast (gsh hG 388 rfl rfl) h0 h
theorem ia389 (hG : Good n L G) {j : Int} (h0 : 0 ≤ j) (h : j < 15) : bx d q (.iaload :: is) nx ls (xI j :: xR 389 :: st) (V, G) = bx d q is nx ls (xI (V 389 j) :: st) (V, G) := bx_iald (gsh hG 389 rfl rfl) h0 h
theorem is389 (hG : Good n L G) {j x : Int} (h0 : 0 ≤ j) (h : j < 15) : bx d q (.iastore :: is) nx ls (xI x :: xI j :: xR 389 :: st) (V, G) = bx d q is nx ls st (vA V 389 (vU (V 389) j x), G) := bx_iast (gsh hG 389 rfl rfl) h0 h
theorem ia390 (hG : Good n L G) {j : Int} (h0 : 0 ≤ j) (h : j < 6) : bx d q (.iaload :: is) nx ls (xI j :: xR 390 :: st) (V, G) = bx d q is nx ls (xI (V 390 j) :: st) (V, G) := bx_iald (gsh hG 390 rfl rfl) h0 h
theorem is390 (hG : Good n L G) {j x : Int} (h0 : 0 ≤ j) (h : j < 6) : bx d q (.iastore :: is) nx ls (xI x :: xI j :: xR 390 :: st) (V, G) = bx d q is nx ls st (vA V 390 (vU (V 390) j x), G) := bx_iast (gsh hG 390 rfl rfl) h0 h
theorem ia391 (hG : Good n L G) {j : Int} (h0 : 0 ≤ j) (h : j < 11) : bx d q (.iaload :: is) nx ls (xI j :: xR 391 :: st) (V, G) = bx d q is nx ls (xI (V 391 j) :: st) (V, G) := bx_iald (gsh hG 391 rfl rfl) h0 h
theorem is391 (hG : Good n L G) {j x : Int} (h0 : 0 ≤ j) (h : j < 11) : bx d q (.iastore :: is) nx ls (xI x :: xI j :: xR 391 :: st) (V, G) = bx d q is nx ls st (vA V 391 (vU (V 391) j x), G) := bx_iast (gsh hG 391 rfl rfl) h0 h
theorem ia392 (hG : Good n L G) {j : Int} (h0 : 0 ≤ j) (h : j < 11) : bx d q (.iaload :: is) nx ls (xI j :: xR 392 :: st) (V, G) = bx d q is nx ls (xI (V 392 j) :: st) (V, G) := bx_iald (gsh hG 392 rfl rfl) h0 h
theorem is392 (hG : Good n L G) {j x : Int} (h0 : 0 ≤ j) (h : j < 11) : bx d q (.iastore :: is) nx ls (xI x :: xI j :: xR 392 :: st) (V, G) = bx d q is nx ls st (vA V 392 (vU (V 392) j x), G) := bx_iast (gsh hG 392 rfl rfl) h0 h
theorem ia393 (hG : Good n L G) {j : Int} (h0 : 0 ≤ j) (h : j < 13312) : bx d q (.baload :: is) nx ls (xI j :: xR 393 :: st) (V, G) = bx d q is nx ls (xI (V 393 j) :: st) (V, G) := bx_zald (gsh hG 393 rfl rfl) h0 h
theorem is393 (hG : Good n L G) {j x : Int} (hb : x = 0 ∨ x = 1) (h0 : 0 ≤ j) (h : j < 13312) : bx d q (.bastore :: is) nx ls (xI x :: xI j :: xR 393 :: st) (V, G) = bx d q is nx ls st (vA V 393 (vU (V 393) j x), G) := bx_zast (gsh hG 393 rfl rfl) hb h0 h
theorem ia394 (hG : Good n L G) {j : Int} (h0 : 0 ≤ j) (h : j < 100) : bx d q (.iaload :: is) nx ls (xI j :: xR 394 :: st) (V, G) = bx d q is nx ls (xI (V 394 j) :: st) (V, G) := bx_iald (gsh hG 394 rfl rfl) h0 h
theorem is394 (hG : Good n L G) {j x : Int} (h0 : 0 ≤ j) (h : j < 100) : bx d q (.iastore :: is) nx ls (xI x :: xI j :: xR 394 :: st) (V, G) = bx d q is nx ls st (vA V 394 (vU (V 394) j x), G) := bx_iast (gsh hG 394 rfl rfl) h0 h
theorem ia395 (hG : Good n L G) {j : Int} (h0 : 0 ≤ j) (h : j < 1300) : bx d q (.iaload :: is) nx ls (xI j :: xR 395 :: st) (V, G) = bx d q is nx ls (xI (V 395 j) :: st) (V, G) := bx_iald (gsh hG 395 rfl rfl) h0 h
theorem is395 (hG : Good n L G) {j x : Int} (h0 : 0 ≤ j) (h : j < 1300) : bx d q (.iastore :: is) nx ls (xI x :: xI j :: xR 395 :: st) (V, G) = bx d q is nx ls st (vA V 395 (vU (V 395) j x), G) := bx_iast (gsh hG 395 rfl rfl) h0 h
theorem ia396 (hG : Good n L G) {j : Int} (h0 : 0 ≤ j) (h : j < 100) : bx d q (.iaload :: is) nx ls (xI j :: xR 396 :: st) (V, G) = bx d q is nx ls (xI (V 396 j) :: st) (V, G) := bx_iald (gsh hG 396 rfl rfl) h0 h
theorem is396 (hG : Good n L G) {j x : Int} (h0 : 0 ≤ j) (h : j < 100) : bx d q (.iastore :: is) nx ls (xI x :: xI j :: xR 396 :: st) (V, G) = bx d q is nx ls st (vA V 396 (vU (V 396) j x), G) := bx_iast (gsh hG 396 rfl rfl) h0 h
theorem ia397 (hG : Good n L G) {j : Int} (h0 : 0 ≤ j) (h : j < 100) : bx d q (.iaload :: is) nx ls (xI j :: xR 397 :: st) (V, G) = bx d q is nx ls (xI (V 397 j) :: st) (V, G) := bx_iald (gsh hG 397 rfl rfl) h0 h
theorem is397 (hG : Good n L G) {j x : Int} (h0 : 0 ≤ j) (h : j < 100) : bx d q (.iastore :: is) nx ls (xI x :: xI j :: xR 397 :: st) (V, G) = bx d q is nx ls st (vA V 397 (vU (V 397) j x), G) := bx_iast (gsh hG 397 rfl rfl) h0 h
theorem ia398 (hG : Good n L G) {j : Int} (h0 : 0 ≤ j) (h : j < 66) : bx d q (.iaload :: is) nx ls (xI j :: xR 398 :: st) (V, G) = bx d q is nx ls (xI (V 398 j) :: st) (V, G) := bx_iald (gsh hG 398 rfl rfl) h0 h
theorem is398 (hG : Good n L G) {j x : Int} (h0 : 0 ≤ j) (h : j < 66) : bx d q (.iastore :: is) nx ls (xI x :: xI j :: xR 398 :: st) (V, G) = bx d q is nx ls st (vA V 398 (vU (V 398) j x), G) := bx_iast (gsh hG 398 rfl rfl) h0 h
theorem ia399 (hG : Good n L G) {j : Int} (h0 : 0 ≤ j) (h : j < 6) : bx d q (.iaload :: is) nx ls (xI j :: xR 399 :: st) (V, G) = bx d q is nx ls (xI (V 399 j) :: st) (V, G) := bx_iald (gsh hG 399 rfl rfl) h0 h
theorem is399 (hG : Good n L G) {j x : Int} (h0 : 0 ≤ j) (h : j < 6) : bx d q (.iastore :: is) nx ls (xI x :: xI j :: xR 399 :: st) (V, G) = bx d q is nx ls st (vA V 399 (vU (V 399) j x), G) := bx_iast (gsh hG 399 rfl rfl) h0 h
theorem ia400 (hG : Good n L G) {j : Int} (h0 : 0 ≤ j) (h : j < 6) : bx d q (.baload :: is) nx ls (xI j :: xR 400 :: st) (V, G) = bx d q is nx ls (xI (V 400 j) :: st) (V, G) := bx_zald (gsh hG 400 rfl rfl) h0 h
theorem is400 (hG : Good n L G) {j x : Int} (hb : x = 0 ∨ x = 1) (h0 : 0 ≤ j) (h : j < 6) : bx d q (.bastore :: is) nx ls (xI x :: xI j :: xR 400 :: st) (V, G) = bx d q is nx ls st (vA V 400 (vU (V 400) j x), G) := bx_zast (gsh hG 400 rfl rfl) hb h0 h
theorem ia401 (hG : Good n L G) {j : Int} (h0 : 0 ≤ j) (h : j < 240) : bx d q (.iaload :: is) nx ls (xI j :: xR 401 :: st) (V, G) = bx d q is nx ls (xI (V 401 j) :: st) (V, G) := bx_iald (gsh hG 401 rfl rfl) h0 h
theorem is401 (hG : Good n L G) {j x : Int} (h0 : 0 ≤ j) (h : j < 240) : bx d q (.iastore :: is) nx ls (xI x :: xI j :: xR 401 :: st) (V, G) = bx d q is nx ls st (vA V 401 (vU (V 401) j x), G) := bx_iast (gsh hG 401 rfl rfl) h0 h
theorem ia402 (hG : Good n L G) {j : Int} (h0 : 0 ≤ j) (h : j < 240) : bx d q (.iaload :: is) nx ls (xI j :: xR 402 :: st) (V, G) = bx d q is nx ls (xI (V 402 j) :: st) (V, G) := bx_iald (gsh hG 402 rfl rfl) h0 h
theorem is402 (hG : Good n L G) {j x : Int} (h0 : 0 ≤ j) (h : j < 240) : bx d q (.iastore :: is) nx ls (xI x :: xI j :: xR 402 :: st) (V, G) = bx d q is nx ls st (vA V 402 (vU (V 402) j x), G) := bx_iast (gsh hG 402 rfl rfl) h0 h
theorem ia403 (hG : Good n L G) {j : Int} (h0 : 0 ≤ j) (h : j < 2880) : bx d q (.iaload :: is) nx ls (xI j :: xR 403 :: st) (V, G) = bx d q is nx ls (xI (V 403 j) :: st) (V, G) := bx_iald (gsh hG 403 rfl rfl) h0 h
theorem is403 (hG : Good n L G) {j x : Int} (h0 : 0 ≤ j) (h : j < 2880) : bx d q (.iastore :: is) nx ls (xI x :: xI j :: xR 403 :: st) (V, G) = bx d q is nx ls st (vA V 403 (vU (V 403) j x), G) := bx_iast (gsh hG 403 rfl rfl) h0 h
theorem ia404 (hG : Good n L G) {j : Int} (h0 : 0 ≤ j) (h : j < 60) : bx d q (.iaload :: is) nx ls (xI j :: xR 404 :: st) (V, G) = bx d q is nx ls (xI (V 404 j) :: st) (V, G) := bx_iald (gsh hG 404 rfl rfl) h0 h
theorem is404 (hG : Good n L G) {j x : Int} (h0 : 0 ≤ j) (h : j < 60) : bx d q (.iastore :: is) nx ls (xI x :: xI j :: xR 404 :: st) (V, G) = bx d q is nx ls st (vA V 404 (vU (V 404) j x), G) := bx_iast (gsh hG 404 rfl rfl) h0 h
theorem ia405 (hG : Good n L G) {j : Int} (h0 : 0 ≤ j) (h : j < 60) : bx d q (.iaload :: is) nx ls (xI j :: xR 405 :: st) (V, G) = bx d q is nx ls (xI (V 405 j) :: st) (V, G) := bx_iald (gsh hG 405 rfl rfl) h0 h
theorem is405 (hG : Good n L G) {j x : Int} (h0 : 0 ≤ j) (h : j < 60) : bx d q (.iastore :: is) nx ls (xI x :: xI j :: xR 405 :: st) (V, G) = bx d q is nx ls st (vA V 405 (vU (V 405) j x), G) := bx_iast (gsh hG 405 rfl rfl) h0 h
theorem ia406 (hG : Good n L G) {j : Int} (h0 : 0 ≤ j) (h : j < 60) : bx d q (.iaload :: is) nx ls (xI j :: xR 406 :: st) (V, G) = bx d q is nx ls (xI (V 406 j) :: st) (V, G) := bx_iald (gsh hG 406 rfl rfl) h0 h
theorem is406 (hG : Good n L G) {j x : Int} (h0 : 0 ≤ j) (h : j < 60) : bx d q (.iastore :: is) nx ls (xI x :: xI j :: xR 406 :: st) (V, G) = bx d q is nx ls st (vA V 406 (vU (V 406) j x), G) := bx_iast (gsh hG 406 rfl rfl) h0 h
theorem ia407 (hG : Good n L G) {j : Int} (h0 : 0 ≤ j) (h : j < 72) : bx d q (.iaload :: is) nx ls (xI j :: xR 407 :: st) (V, G) = bx d q is nx ls (xI (V 407 j) :: st) (V, G) := bx_iald (gsh hG 407 rfl rfl) h0 h
theorem is407 (hG : Good n L G) {j x : Int} (h0 : 0 ≤ j) (h : j < 72) : bx d q (.iastore :: is) nx ls (xI x :: xI j :: xR 407 :: st) (V, G) = bx d q is nx ls st (vA V 407 (vU (V 407) j x), G) := bx_iast (gsh hG 407 rfl rfl) h0 h
theorem ia408 (hG : Good n L G) {j : Int} (h0 : 0 ≤ j) (h : j < 289) : bx d q (.iaload :: is) nx ls (xI j :: xR 408 :: st) (V, G) = bx d q is nx ls (xI (V 408 j) :: st) (V, G) := bx_iald (gsh hG 408 rfl rfl) h0 h
theorem is408 (hG : Good n L G) {j x : Int} (h0 : 0 ≤ j) (h : j < 289) : bx d q (.iastore :: is) nx ls (xI x :: xI j :: xR 408 :: st) (V, G) = bx d q is nx ls st (vA V 408 (vU (V 408) j x), G) := bx_iast (gsh hG 408 rfl rfl) h0 h
theorem ia409 (hG : Good n L G) {j : Int} (h0 : 0 ≤ j) (h : j < 289) : bx d q (.baload :: is) nx ls (xI j :: xR 409 :: st) (V, G) = bx d q is nx ls (xI (V 409 j) :: st) (V, G) := bx_zald (gsh hG 409 rfl rfl) h0 h
theorem is409 (hG : Good n L G) {j x : Int} (hb : x = 0 ∨ x = 1) (h0 : 0 ≤ j) (h : j < 289) : bx d q (.bastore :: is) nx ls (xI x :: xI j :: xR 409 :: st) (V, G) = bx d q is nx ls st (vA V 409 (vU (V 409) j x), G) := bx_zast (gsh hG 409 rfl rfl) hb h0 h
theorem ia410 (hG : Good n L G) {j : Int} (h0 : 0 ≤ j) (h : j < 97) : bx d q (.iaload :: is) nx ls (xI j :: xR 410 :: st) (V, G) = bx d q is nx ls (xI (V 410 j) :: st) (V, G) := bx_iald (gsh hG 410 rfl rfl) h0 h
theorem is410 (hG : Good n L G) {j x : Int} (h0 : 0 ≤ j) (h : j < 97) : bx d q (.iastore :: is) nx ls (xI x :: xI j :: xR 410 :: st) (V, G) = bx d q is nx ls st (vA V 410 (vU (V 410) j x), G) := bx_iast (gsh hG 410 rfl rfl) h0 h
theorem aa15 (hG : Good n L G) {j : Int} (h0 : 0 ≤ j) (h : j < n) : bx d q (.aaload :: is) nx ls (xI j :: xR 15 :: st) (V, G) = bx d q is nx ls (xR (16 + j.toNat) :: st) (V, G) := bx_aald (gsh hG 15 rfl rfl) (Or.inl rfl) h0 h (hG.2.2.2 15 j (16 + j.toNat) (show (if 0 ≤ j ∧ j < (n : Int) then some (16 + j.toNat) else none) = _ from if_pos ⟨h0, h⟩))
theorem sf16 (hG : Good n L G) (hn : n ≤ 6) {r : Nat} (h : r < n) : G.1 (16 + r) = (1, n) := by
  refine gsh hG (16 + r) ?_ ?_
  · unfold okI
    rw [if_neg (by omega), if_pos (by omega)]
    exact decide_eq_true (by omega)
  · unfold shF
    rw [if_neg (by omega), if_neg (by omega), if_pos (by omega)]
theorem ia16 (hG : Good n L G) (hn : n ≤ 6) {r : Nat} {j : Int} (hr : r < n) (h0 : 0 ≤ j) (h : j < (n : Nat)) : bx d q (.iaload :: is) nx ls (xI j :: xR (16 + r) :: st) (V, G) = bx d q is nx ls (xI (V (16 + r) j) :: st) (V, G) := bx_iald (sf16 hG hn hr) h0 h
theorem is16 (hG : Good n L G) (hn : n ≤ 6) {r : Nat} {j x : Int} (hr : r < n) (h0 : 0 ≤ j) (h : j < (n : Nat)) : bx d q (.iastore :: is) nx ls (xI x :: xI j :: xR (16 + r) :: st) (V, G) = bx d q is nx ls st (vA V (16 + r) (vU (V (16 + r)) j x), G) := bx_iast (sf16 hG hn hr) h0 h
theorem aa22 (hG : Good n L G) {j : Int} (h0 : 0 ≤ j) (h : j < n) : bx d q (.aaload :: is) nx ls (xI j :: xR 22 :: st) (V, G) = bx d q is nx ls (xR (23 + j.toNat) :: st) (V, G) := bx_aald (gsh hG 22 rfl rfl) (Or.inl rfl) h0 h (hG.2.2.2 22 j (23 + j.toNat) (show (if 0 ≤ j ∧ j < (n : Int) then some (23 + j.toNat) else none) = _ from if_pos ⟨h0, h⟩))
theorem sf23 (hG : Good n L G) (hn : n ≤ 6) {r : Nat} (h : r < n) : G.1 (23 + r) = (1, n) := by
  refine gsh hG (23 + r) ?_ ?_
  · unfold okI
    rw [if_neg (by omega), if_neg (by omega), if_neg (by omega), if_pos (by omega)]
    exact decide_eq_true (by omega)
  · unfold shF
    rw [if_neg (by omega), if_neg (by omega), if_neg (by omega), if_neg (by omega), if_pos (by omega)]
theorem ia23 (hG : Good n L G) (hn : n ≤ 6) {r : Nat} {j : Int} (hr : r < n) (h0 : 0 ≤ j) (h : j < (n : Nat)) : bx d q (.iaload :: is) nx ls (xI j :: xR (23 + r) :: st) (V, G) = bx d q is nx ls (xI (V (23 + r) j) :: st) (V, G) := bx_iald (sf23 hG hn hr) h0 h
theorem is23 (hG : Good n L G) (hn : n ≤ 6) {r : Nat} {j x : Int} (hr : r < n) (h0 : 0 ≤ j) (h : j < (n : Nat)) : bx d q (.iastore :: is) nx ls (xI x :: xI j :: xR (23 + r) :: st) (V, G) = bx d q is nx ls st (vA V (23 + r) (vU (V (23 + r)) j x), G) := bx_iast (sf23 hG hn hr) h0 h
theorem aa218 (hG : Good n L G) {j : Int} (h0 : 0 ≤ j) (h : j < 40) : bx d q (.aaload :: is) nx ls (xI j :: xR 218 :: st) (V, G) = bx d q is nx ls (xR (219 + j.toNat) :: st) (V, G) := bx_aald (gsh hG 218 rfl rfl) (Or.inl rfl) h0 h (hG.2.2.2 218 j (219 + j.toNat) (show (if 0 ≤ j ∧ j < (40 : Int) then some (219 + j.toNat) else none) = _ from if_pos ⟨h0, h⟩))
theorem sf219 (hG : Good n L G) {r : Nat} (h : r < 40) : G.1 (219 + r) = (1, 6) := by
  refine gsh hG (219 + r) ?_ ?_
  · unfold okI
    rw [if_neg (by omega), if_neg (by omega), if_neg (by omega), if_neg (by omega)]
    exact decide_eq_true (by omega)
  · unfold shF
    rw [if_neg (by omega), if_neg (by omega), if_neg (by omega), if_neg (by omega), if_neg (by omega)]
    exact (show ∀ r, r < 40 → shL.getD (219 + r) (0, 0) = (1, 6) by decide +kernel) r h
theorem ia219 (hG : Good n L G) {r : Nat} {j : Int} (hr : r < 40) (h0 : 0 ≤ j) (h : j < 6) : bx d q (.iaload :: is) nx ls (xI j :: xR (219 + r) :: st) (V, G) = bx d q is nx ls (xI (V (219 + r) j) :: st) (V, G) := bx_iald (sf219 hG hr) h0 h
theorem is219 (hG : Good n L G) {r : Nat} {j x : Int} (hr : r < 40) (h0 : 0 ≤ j) (h : j < 6) : bx d q (.iastore :: is) nx ls (xI x :: xI j :: xR (219 + r) :: st) (V, G) = bx d q is nx ls st (vA V (219 + r) (vU (V (219 + r)) j x), G) := bx_iast (sf219 hG hr) h0 h
theorem aa259 (hG : Good n L G) {j : Int} (h0 : 0 ≤ j) (h : j < 40) : bx d q (.aaload :: is) nx ls (xI j :: xR 259 :: st) (V, G) = bx d q is nx ls (xR (260 + j.toNat) :: st) (V, G) := bx_aald (gsh hG 259 rfl rfl) (Or.inl rfl) h0 h (hG.2.2.2 259 j (260 + j.toNat) (show (if 0 ≤ j ∧ j < (40 : Int) then some (260 + j.toNat) else none) = _ from if_pos ⟨h0, h⟩))
theorem sf260 (hG : Good n L G) {r : Nat} (h : r < 40) : G.1 (260 + r) = (1, 6) := by
  refine gsh hG (260 + r) ?_ ?_
  · unfold okI
    rw [if_neg (by omega), if_neg (by omega), if_neg (by omega), if_neg (by omega)]
    exact decide_eq_true (by omega)
  · unfold shF
    rw [if_neg (by omega), if_neg (by omega), if_neg (by omega), if_neg (by omega), if_neg (by omega)]
    exact (show ∀ r, r < 40 → shL.getD (260 + r) (0, 0) = (1, 6) by decide +kernel) r h
theorem ia260 (hG : Good n L G) {r : Nat} {j : Int} (hr : r < 40) (h0 : 0 ≤ j) (h : j < 6) : bx d q (.iaload :: is) nx ls (xI j :: xR (260 + r) :: st) (V, G) = bx d q is nx ls (xI (V (260 + r) j) :: st) (V, G) := bx_iald (sf260 hG hr) h0 h
theorem is260 (hG : Good n L G) {r : Nat} {j x : Int} (hr : r < 40) (h0 : 0 ≤ j) (h : j < 6) : bx d q (.iastore :: is) nx ls (xI x :: xI j :: xR (260 + r) :: st) (V, G) = bx d q is nx ls st (vA V (260 + r) (vU (V (260 + r)) j x), G) := bx_iast (sf260 hG hr) h0 h
theorem aa300 (hG : Good n L G) {j : Int} (h0 : 0 ≤ j) (h : j < 40) : bx d q (.aaload :: is) nx ls (xI j :: xR 300 :: st) (V, G) = bx d q is nx ls (xR (301 + j.toNat) :: st) (V, G) := bx_aald (gsh hG 300 rfl rfl) (Or.inl rfl) h0 h (hG.2.2.2 300 j (301 + j.toNat) (show (if 0 ≤ j ∧ j < (40 : Int) then some (301 + j.toNat) else none) = _ from if_pos ⟨h0, h⟩))
theorem sf301 (hG : Good n L G) {r : Nat} (h : r < 40) : G.1 (301 + r) = (1, 36) := by
  refine gsh hG (301 + r) ?_ ?_
  · unfold okI
    rw [if_neg (by omega), if_neg (by omega), if_neg (by omega), if_neg (by omega)]
    exact decide_eq_true (by omega)
  · unfold shF
    rw [if_neg (by omega), if_neg (by omega), if_neg (by omega), if_neg (by omega), if_neg (by omega)]
    exact (show ∀ r, r < 40 → shL.getD (301 + r) (0, 0) = (1, 36) by decide +kernel) r h
theorem ia301 (hG : Good n L G) {r : Nat} {j : Int} (hr : r < 40) (h0 : 0 ≤ j) (h : j < 36) : bx d q (.iaload :: is) nx ls (xI j :: xR (301 + r) :: st) (V, G) = bx d q is nx ls (xI (V (301 + r) j) :: st) (V, G) := bx_iald (sf301 hG hr) h0 h
theorem is301 (hG : Good n L G) {r : Nat} {j x : Int} (hr : r < 40) (h0 : 0 ≤ j) (h : j < 36) : bx d q (.iastore :: is) nx ls (xI x :: xI j :: xR (301 + r) :: st) (V, G) = bx d q is nx ls st (vA V (301 + r) (vU (V (301 + r)) j x), G) := bx_iast (sf301 hG hr) h0 h
theorem aa350 (hG : Good n L G) {j : Int} (h0 : 0 ≤ j) (h : j < 13) : bx d q (.aaload :: is) nx ls (xI j :: xR 350 :: st) (V, G) = bx d q is nx ls (xR (351 + j.toNat) :: st) (V, G) := bx_aald (gsh hG 350 rfl rfl) (Or.inl rfl) h0 h (hG.2.2.2 350 j (351 + j.toNat) (show (if 0 ≤ j ∧ j < (13 : Int) then some (351 + j.toNat) else none) = _ from if_pos ⟨h0, h⟩))
theorem sf351 (hG : Good n L G) {r : Nat} (h : r < 13) : G.1 (351 + r) = (1, 6) := by
  refine gsh hG (351 + r) ?_ ?_
  · unfold okI
    rw [if_neg (by omega), if_neg (by omega), if_neg (by omega), if_neg (by omega)]
    exact decide_eq_true (by omega)
  · unfold shF
    rw [if_neg (by omega), if_neg (by omega), if_neg (by omega), if_neg (by omega), if_neg (by omega)]
    exact (show ∀ r, r < 13 → shL.getD (351 + r) (0, 0) = (1, 6) by decide +kernel) r h
theorem ia351 (hG : Good n L G) {r : Nat} {j : Int} (hr : r < 13) (h0 : 0 ≤ j) (h : j < 6) : bx d q (.iaload :: is) nx ls (xI j :: xR (351 + r) :: st) (V, G) = bx d q is nx ls (xI (V (351 + r) j) :: st) (V, G) := bx_iald (sf351 hG hr) h0 h
theorem is351 (hG : Good n L G) {r : Nat} {j x : Int} (hr : r < 13) (h0 : 0 ≤ j) (h : j < 6) : bx d q (.iastore :: is) nx ls (xI x :: xI j :: xR (351 + r) :: st) (V, G) = bx d q is nx ls st (vA V (351 + r) (vU (V (351 + r)) j x), G) := bx_iast (sf351 hG hr) h0 h
theorem aa365 (hG : Good n L G) {j : Int} (h0 : 0 ≤ j) (h : j < 6) : bx d q (.aaload :: is) nx ls (xI j :: xR 365 :: st) (V, G) = bx d q is nx ls (xR (366 + j.toNat) :: st) (V, G) := bx_aald (gsh hG 365 rfl rfl) (Or.inl rfl) h0 h (hG.2.2.2 365 j (366 + j.toNat) (show (if 0 ≤ j ∧ j < (6 : Int) then some (366 + j.toNat) else none) = _ from if_pos ⟨h0, h⟩))
theorem sf366 (hG : Good n L G) {r : Nat} (h : r < 6) : G.1 (366 + r) = (1, 97) := by
  refine gsh hG (366 + r) ?_ ?_
  · unfold okI
    rw [if_neg (by omega), if_neg (by omega), if_neg (by omega), if_neg (by omega)]
    exact decide_eq_true (by omega)
  · unfold shF
    rw [if_neg (by omega), if_neg (by omega), if_neg (by omega), if_neg (by omega), if_neg (by omega)]
    exact (show ∀ r, r < 6 → shL.getD (366 + r) (0, 0) = (1, 97) by decide +kernel) r h
theorem ia366 (hG : Good n L G) {r : Nat} {j : Int} (hr : r < 6) (h0 : 0 ≤ j) (h : j < 97) : bx d q (.iaload :: is) nx ls (xI j :: xR (366 + r) :: st) (V, G) = bx d q is nx ls (xI (V (366 + r) j) :: st) (V, G) := bx_iald (sf366 hG hr) h0 h
theorem is366 (hG : Good n L G) {r : Nat} {j x : Int} (hr : r < 6) (h0 : 0 ≤ j) (h : j < 97) : bx d q (.iastore :: is) nx ls (xI x :: xI j :: xR (366 + r) :: st) (V, G) = bx d q is nx ls st (vA V (366 + r) (vU (V (366 + r)) j x), G) := bx_iast (sf366 hG hr) h0 h
theorem gf1_0 (hG : Good n L G) : bx d q (.getfield 1000 :: is) nx ls (xR 1 :: st) (V, G) = bx d q is nx ls (xR 2 :: st) (V, G) := by
  rw [bx]
  have h : G.1 1 = (20, 0) := gsh hG 1 rfl rfl
  have h2 : G.2.1 1 ((1000 % 100 : Nat) : Int) = some 2 := hG.2.2.1 1 0 2 rfl
  simp only [xs, tA, h]
  rw [h2]; rfl
theorem gf1_1 (hG : Good n L G) : bx d q (.getfield 1001 :: is) nx ls (xR 1 :: st) (V, G) = bx d q is nx ls (xR 5 :: st) (V, G) := by
  rw [bx]
  have h : G.1 1 = (20, 0) := gsh hG 1 rfl rfl
  have h2 : G.2.1 1 ((1001 % 100 : Nat) : Int) = some 5 := hG.2.2.1 1 1 5 rfl
  simp only [xs, tA, h]
  rw [h2]; rfl
theorem gf1_2 (hG : Good n L G) : bx d q (.getfield 1002 :: is) nx ls (xR 1 :: st) (V, G) = bx d q is nx ls (xR 12 :: st) (V, G) := by
  rw [bx]
  have h : G.1 1 = (20, 0) := gsh hG 1 rfl rfl
  have h2 : G.2.1 1 ((1002 % 100 : Nat) : Int) = some 12 := hG.2.2.1 1 2 12 rfl
  simp only [xs, tA, h]
  rw [h2]; rfl
theorem gf1_3 (hG : Good n L G) : bx d q (.getfield 1003 :: is) nx ls (xR 1 :: st) (V, G) = bx d q is nx ls (xR 29 :: st) (V, G) := by
  rw [bx]
  have h : G.1 1 = (20, 0) := gsh hG 1 rfl rfl
  have h2 : G.2.1 1 ((1003 % 100 : Nat) : Int) = some 29 := hG.2.2.1 1 3 29 rfl
  simp only [xs, tA, h]
  rw [h2]; rfl
theorem gf1_4 (hG : Good n L G) : bx d q (.getfield 1004 :: is) nx ls (xR 1 :: st) (V, G) = bx d q is nx ls (xR 32 :: st) (V, G) := by
  rw [bx]
  have h : G.1 1 = (20, 0) := gsh hG 1 rfl rfl
  have h2 : G.2.1 1 ((1004 % 100 : Nat) : Int) = some 32 := hG.2.2.1 1 4 32 rfl
  simp only [xs, tA, h]
  rw [h2]; rfl
theorem gf1_5 (hG : Good n L G) : bx d q (.getfield 1005 :: is) nx ls (xR 1 :: st) (V, G) = bx d q is nx ls (xR 35 :: st) (V, G) := by
  rw [bx]
  have h : G.1 1 = (20, 0) := gsh hG 1 rfl rfl
  have h2 : G.2.1 1 ((1005 % 100 : Nat) : Int) = some 35 := hG.2.2.1 1 5 35 rfl
  simp only [xs, tA, h]
  rw [h2]; rfl
theorem gf1_6 (hG : Good n L G) : bx d q (.getfield 1006 :: is) nx ls (xR 1 :: st) (V, G) = bx d q is nx ls (xR 212 :: st) (V, G) := by
  rw [bx]
  have h : G.1 1 = (20, 0) := gsh hG 1 rfl rfl
  have h2 : G.2.1 1 ((1006 % 100 : Nat) : Int) = some 212 := hG.2.2.1 1 6 212 rfl
  simp only [xs, tA, h]
  rw [h2]; rfl
theorem gf1_7 (hG : Good n L G) : bx d q (.getfield 1007 :: is) nx ls (xR 1 :: st) (V, G) = bx d q is nx ls (xR 217 :: st) (V, G) := by
  rw [bx]
  have h : G.1 1 = (20, 0) := gsh hG 1 rfl rfl
  have h2 : G.2.1 1 ((1007 % 100 : Nat) : Int) = some 217 := hG.2.2.1 1 7 217 rfl
  simp only [xs, tA, h]
  rw [h2]; rfl
theorem gf1_8 (hG : Good n L G) : bx d q (.getfield 1008 :: is) nx ls (xR 1 :: st) (V, G) = bx d q is nx ls (xR 344 :: st) (V, G) := by
  rw [bx]
  have h : G.1 1 = (20, 0) := gsh hG 1 rfl rfl
  have h2 : G.2.1 1 ((1008 % 100 : Nat) : Int) = some 344 := hG.2.2.1 1 8 344 rfl
  simp only [xs, tA, h]
  rw [h2]; rfl
theorem gf1_9 (hG : Good n L G) : bx d q (.getfield 1009 :: is) nx ls (xR 1 :: st) (V, G) = bx d q is nx ls (xR 373 :: st) (V, G) := by
  rw [bx]
  have h : G.1 1 = (20, 0) := gsh hG 1 rfl rfl
  have h2 : G.2.1 1 ((1009 % 100 : Nat) : Int) = some 373 := hG.2.2.1 1 9 373 rfl
  simp only [xs, tA, h]
  rw [h2]; rfl
theorem gf2_0 (hG : Good n L G) : bx d q (.getfield 0 :: is) nx ls (xR 2 :: st) (V, G) = bx d q is nx ls (xR 3 :: st) (V, G) := by
  rw [bx]
  have h : G.1 2 = (10, 0) := gsh hG 2 rfl rfl
  have h2 : G.2.1 2 ((0 % 100 : Nat) : Int) = some 3 := hG.2.2.1 2 0 3 rfl
  simp only [xs, tA, h]
  rw [h2]; rfl
theorem gf2_1 (hG : Good n L G) : bx d q (.getfield 1 :: is) nx ls (xR 2 :: st) (V, G) = bx d q is nx ls (xR 4 :: st) (V, G) := by
  rw [bx]
  have h : G.1 2 = (10, 0) := gsh hG 2 rfl rfl
  have h2 : G.2.1 2 ((1 % 100 : Nat) : Int) = some 4 := hG.2.2.1 2 1 4 rfl
  simp only [xs, tA, h]
  rw [h2]; rfl
theorem gf5_0 (hG : Good n L G) : bx d q (.getfield 300 :: is) nx ls (xR 5 :: st) (V, G) = bx d q is nx ls (xI (V 5 0) :: st) (V, G) := by
  rw [bx]
  have h : G.1 5 = (13, 0) := gsh hG 5 rfl rfl
  simp only [xs, tA, h]
  rfl
theorem pf5_0 (hG : Good n L G) {x : Int} : bx d q (.putfield 300 :: is) nx ls (xI x :: xR 5 :: st) (V, G) = bx d q is nx ls st (vA V 5 (vU (V 5) 0 x), G) := by
  rw [bx]
  have h : G.1 5 = (13, 0) := gsh hG 5 rfl rfl
  simp only [xs, tI, tL, tA, h]
  rfl
theorem gf5_1 (hG : Good n L G) : bx d q (.getfield 301 :: is) nx ls (xR 5 :: st) (V, G) = bx d q is nx ls (xR 2 :: st) (V, G) := by
  rw [bx]
  have h : G.1 5 = (13, 0) := gsh hG 5 rfl rfl
  have h2 : G.2.1 5 ((301 % 100 : Nat) : Int) = some 2 := hG.2.2.1 5 1 2 rfl
  simp only [xs, tA, h]
  rw [h2]; rfl
theorem gf5_2 (hG : Good n L G) : bx d q (.getfield 302 :: is) nx ls (xR 5 :: st) (V, G) = bx d q is nx ls (xR 6 :: st) (V, G) := by
  rw [bx]
  have h : G.1 5 = (13, 0) := gsh hG 5 rfl rfl
  have h2 : G.2.1 5 ((302 % 100 : Nat) : Int) = some 6 := hG.2.2.1 5 2 6 rfl
  simp only [xs, tA, h]
  rw [h2]; rfl
theorem gf5_3 (hG : Good n L G) : bx d q (.getfield 303 :: is) nx ls (xR 5 :: st) (V, G) = bx d q is nx ls (xR 7 :: st) (V, G) := by
  rw [bx]
  have h : G.1 5 = (13, 0) := gsh hG 5 rfl rfl
  have h2 : G.2.1 5 ((303 % 100 : Nat) : Int) = some 7 := hG.2.2.1 5 3 7 rfl
  simp only [xs, tA, h]
  rw [h2]; rfl
theorem gf5_4 (hG : Good n L G) : bx d q (.getfield 304 :: is) nx ls (xR 5 :: st) (V, G) = bx d q is nx ls (xR 8 :: st) (V, G) := by
  rw [bx]
  have h : G.1 5 = (13, 0) := gsh hG 5 rfl rfl
  have h2 : G.2.1 5 ((304 % 100 : Nat) : Int) = some 8 := hG.2.2.1 5 4 8 rfl
  simp only [xs, tA, h]
  rw [h2]; rfl
theorem gf5_5 (hG : Good n L G) : bx d q (.getfield 305 :: is) nx ls (xR 5 :: st) (V, G) = bx d q is nx ls (xR 9 :: st) (V, G) := by
  rw [bx]
  have h : G.1 5 = (13, 0) := gsh hG 5 rfl rfl
  have h2 : G.2.1 5 ((305 % 100 : Nat) : Int) = some 9 := hG.2.2.1 5 5 9 rfl
  simp only [xs, tA, h]
  rw [h2]; rfl
theorem gf5_6 (hG : Good n L G) : bx d q (.getfield 306 :: is) nx ls (xR 5 :: st) (V, G) = bx d q is nx ls (xI (V 5 6) :: st) (V, G) := by
  rw [bx]
  have h : G.1 5 = (13, 0) := gsh hG 5 rfl rfl
  simp only [xs, tA, h]
  rfl
theorem pf5_6 (hG : Good n L G) {x : Int} : bx d q (.putfield 306 :: is) nx ls (xI x :: xR 5 :: st) (V, G) = bx d q is nx ls st (vA V 5 (vU (V 5) 6 x), G) := by
  rw [bx]
  have h : G.1 5 = (13, 0) := gsh hG 5 rfl rfl
  simp only [xs, tI, tL, tA, h]
  rfl
theorem gf5_7 (hG : Good n L G) : bx d q (.getfield 307 :: is) nx ls (xR 5 :: st) (V, G) = bx d q is nx ls (xR 10 :: st) (V, G) := by
  rw [bx]
  have h : G.1 5 = (13, 0) := gsh hG 5 rfl rfl
  have h2 : G.2.1 5 ((307 % 100 : Nat) : Int) = some 10 := hG.2.2.1 5 7 10 rfl
  simp only [xs, tA, h]
  rw [h2]; rfl
theorem gf5_8 (hG : Good n L G) : bx d q (.getfield 308 :: is) nx ls (xR 5 :: st) (V, G) = bx d q is nx ls (xR 11 :: st) (V, G) := by
  rw [bx]
  have h : G.1 5 = (13, 0) := gsh hG 5 rfl rfl
  have h2 : G.2.1 5 ((308 % 100 : Nat) : Int) = some 11 := hG.2.2.1 5 8 11 rfl
  simp only [xs, tA, h]
  rw [h2]; rfl
theorem gf12_0 (hG : Good n L G) : bx d q (.getfield 800 :: is) nx ls (xR 12 :: st) (V, G) = bx d q is nx ls (xI (V 12 0) :: st) (V, G) := by
  rw [bx]
  have h : G.1 12 = (18, 0) := gsh hG 12 rfl rfl
  simp only [xs, tA, h]
  rfl
theorem pf12_0 (hG : Good n L G) {x : Int} : bx d q (.putfield 800 :: is) nx ls (xI x :: xR 12 :: st) (V, G) = bx d q is nx ls st (vA V 12 (vU (V 12) 0 x), G) := by
  rw [bx]
  have h : G.1 12 = (18, 0) := gsh hG 12 rfl rfl
  simp only [xs, tI, tL, tA, h]
  rfl
theorem gf12_1 (hG : Good n L G) : bx d q (.getfield 801 :: is) nx ls (xR 12 :: st) (V, G) = bx d q is nx ls (xR 2 :: st) (V, G) := by
  rw [bx]
  have h : G.1 12 = (18, 0) := gsh hG 12 rfl rfl
  have h2 : G.2.1 12 ((801 % 100 : Nat) : Int) = some 2 := hG.2.2.1 12 1 2 rfl
  simp only [xs, tA, h]
  rw [h2]; rfl
theorem gf12_2 (hG : Good n L G) : bx d q (.getfield 802 :: is) nx ls (xR 12 :: st) (V, G) = bx d q is nx ls (xR 15 :: st) (V, G) := by
  rw [bx]
  have h : G.1 12 = (18, 0) := gsh hG 12 rfl rfl
  have h2 : G.2.1 12 ((802 % 100 : Nat) : Int) = some 15 := hG.2.2.1 12 2 15 rfl
  simp only [xs, tA, h]
  rw [h2]; rfl
theorem gf12_3 (hG : Good n L G) : bx d q (.getfield 803 :: is) nx ls (xR 12 :: st) (V, G) = bx d q is nx ls (xR 22 :: st) (V, G) := by
  rw [bx]
  have h : G.1 12 = (18, 0) := gsh hG 12 rfl rfl
  have h2 : G.2.1 12 ((803 % 100 : Nat) : Int) = some 22 := hG.2.2.1 12 3 22 rfl
  simp only [xs, tA, h]
  rw [h2]; rfl
theorem gf12_4 (hG : Good n L G) : bx d q (.getfield 804 :: is) nx ls (xR 12 :: st) (V, G) = bx d q is nx ls (xR 13 :: st) (V, G) := by
  rw [bx]
  have h : G.1 12 = (18, 0) := gsh hG 12 rfl rfl
  have h2 : G.2.1 12 ((804 % 100 : Nat) : Int) = some 13 := hG.2.2.1 12 4 13 rfl
  simp only [xs, tA, h]
  rw [h2]; rfl
theorem gf12_5 (hG : Good n L G) : bx d q (.getfield 805 :: is) nx ls (xR 12 :: st) (V, G) = bx d q is nx ls (xR 14 :: st) (V, G) := by
  rw [bx]
  have h : G.1 12 = (18, 0) := gsh hG 12 rfl rfl
  have h2 : G.2.1 12 ((805 % 100 : Nat) : Int) = some 14 := hG.2.2.1 12 5 14 rfl
  simp only [xs, tA, h]
  rw [h2]; rfl
theorem gf12_6 (hG : Good n L G) : bx d q (.getfield 806 :: is) nx ls (xR 12 :: st) (V, G) = bx d q is nx ls (xI (V 12 6) :: st) (V, G) := by
  rw [bx]
  have h : G.1 12 = (18, 0) := gsh hG 12 rfl rfl
  simp only [xs, tA, h]
  rfl
theorem pf12_6 (hG : Good n L G) {x : Int} : bx d q (.putfield 806 :: is) nx ls (xI x :: xR 12 :: st) (V, G) = bx d q is nx ls st (vA V 12 (vU (V 12) 6 x), G) := by
  rw [bx]
  have h : G.1 12 = (18, 0) := gsh hG 12 rfl rfl
  simp only [xs, tI, tL, tA, h]
  rfl
theorem gf12_7 (hG : Good n L G) : bx d q (.getfield 807 :: is) nx ls (xR 12 :: st) (V, G) = bx d q is nx ls (xI (V 12 7) :: st) (V, G) := by
  rw [bx]
  have h : G.1 12 = (18, 0) := gsh hG 12 rfl rfl
  simp only [xs, tA, h]
  rfl
theorem pf12_7 (hG : Good n L G) {x : Int} (hb : x = 0 ∨ x = 1) : bx d q (.putfield 807 :: is) nx ls (xI x :: xR 12 :: st) (V, G) = bx d q is nx ls st (vA V 12 (vU (V 12) 7 x), G) := by
  rw [bx]
  have h : G.1 12 = (18, 0) := gsh hG 12 rfl rfl
  simp only [xs, tI, tL, tA, h]
  rw [if_neg (show ¬ fT (807 / 100) (807 % 100) = 0 by decide +kernel), if_pos (show fT (807 / 100) (807 % 100) = 1 by decide +kernel), if_pos ⟨trivial, hb⟩]
  rfl
theorem gf32_0 (hG : Good n L G) : bx d q (.getfield 100 :: is) nx ls (xR 32 :: st) (V, G) = bx d q is nx ls (xR 5 :: st) (V, G) := by
  rw [bx]
  have h : G.1 32 = (11, 0) := gsh hG 32 rfl rfl
  have h2 : G.2.1 32 ((100 % 100 : Nat) : Int) = some 5 := hG.2.2.1 32 0 5 rfl
  simp only [xs, tA, h]
  rw [h2]; rfl
theorem gf32_1 (hG : Good n L G) : bx d q (.getfield 101 :: is) nx ls (xR 32 :: st) (V, G) = bx d q is nx ls (xR 29 :: st) (V, G) := by
  rw [bx]
  have h : G.1 32 = (11, 0) := gsh hG 32 rfl rfl
  have h2 : G.2.1 32 ((101 % 100 : Nat) : Int) = some 29 := hG.2.2.1 32 1 29 rfl
  simp only [xs, tA, h]
  rw [h2]; rfl
theorem gf32_2 (hG : Good n L G) : bx d q (.getfield 102 :: is) nx ls (xR 32 :: st) (V, G) = bx d q is nx ls (xR 33 :: st) (V, G) := by
  rw [bx]
  have h : G.1 32 = (11, 0) := gsh hG 32 rfl rfl
  have h2 : G.2.1 32 ((102 % 100 : Nat) : Int) = some 33 := hG.2.2.1 32 2 33 rfl
  simp only [xs, tA, h]
  rw [h2]; rfl
theorem gf32_3 (hG : Good n L G) : bx d q (.getfield 103 :: is) nx ls (xR 32 :: st) (V, G) = bx d q is nx ls (xR 34 :: st) (V, G) := by
  rw [bx]
  have h : G.1 32 = (11, 0) := gsh hG 32 rfl rfl
  have h2 : G.2.1 32 ((103 % 100 : Nat) : Int) = some 34 := hG.2.2.1 32 3 34 rfl
  simp only [xs, tA, h]
  rw [h2]; rfl
theorem gf32_4 (hG : Good n L G) : bx d q (.getfield 104 :: is) nx ls (xR 32 :: st) (V, G) = bx d q is nx ls (xI (V 32 4) :: st) (V, G) := by
  rw [bx]
  have h : G.1 32 = (11, 0) := gsh hG 32 rfl rfl
  simp only [xs, tA, h]
  rfl
theorem pf32_4 (hG : Good n L G) {x : Int} : bx d q (.putfield 104 :: is) nx ls (xI x :: xR 32 :: st) (V, G) = bx d q is nx ls st (vA V 32 (vU (V 32) 4 x), G) := by
  rw [bx]
  have h : G.1 32 = (11, 0) := gsh hG 32 rfl rfl
  simp only [xs, tI, tL, tA, h]
  rfl
theorem gf32_5 (hG : Good n L G) : bx d q (.getfield 105 :: is) nx ls (xR 32 :: st) (V, G) = bx d q is nx ls (xI (V 32 5) :: st) (V, G) := by
  rw [bx]
  have h : G.1 32 = (11, 0) := gsh hG 32 rfl rfl
  simp only [xs, tA, h]
  rfl
theorem pf32_5 (hG : Good n L G) {x : Int} : bx d q (.putfield 105 :: is) nx ls (xI x :: xR 32 :: st) (V, G) = bx d q is nx ls st (vA V 32 (vU (V 32) 5 x), G) := by
  rw [bx]
  have h : G.1 32 = (11, 0) := gsh hG 32 rfl rfl
  simp only [xs, tI, tL, tA, h]
  rfl
theorem gf35_0 (hG : Good n L G) : bx d q (.getfield 500 :: is) nx ls (xR 35 :: st) (V, G) = bx d q is nx ls (xI (V 35 0) :: st) (V, G) := by
  rw [bx]
  have h : G.1 35 = (15, 0) := gsh hG 35 rfl rfl
  simp only [xs, tA, h]
  rfl
theorem pf35_0 (hG : Good n L G) {x : Int} : bx d q (.putfield 500 :: is) nx ls (xI x :: xR 35 :: st) (V, G) = bx d q is nx ls st (vA V 35 (vU (V 35) 0 x), G) := by
  rw [bx]
  have h : G.1 35 = (15, 0) := gsh hG 35 rfl rfl
  simp only [xs, tI, tL, tA, h]
  rfl
theorem gf35_1 (hG : Good n L G) : bx d q (.getfield 501 :: is) nx ls (xR 35 :: st) (V, G) = bx d q is nx ls (xI (V 35 1) :: st) (V, G) := by
  rw [bx]
  have h : G.1 35 = (15, 0) := gsh hG 35 rfl rfl
  simp only [xs, tA, h]
  rfl
theorem pf35_1 (hG : Good n L G) {x : Int} : bx d q (.putfield 501 :: is) nx ls (xI x :: xR 35 :: st) (V, G) = bx d q is nx ls st (vA V 35 (vU (V 35) 1 x), G) := by
  rw [bx]
  have h : G.1 35 = (15, 0) := gsh hG 35 rfl rfl
  simp only [xs, tI, tL, tA, h]
  rfl
theorem gf35_2 (hG : Good n L G) : bx d q (.getfield 502 :: is) nx ls (xR 35 :: st) (V, G) = bx d q is nx ls (xR 36 :: st) (V, G) := by
  rw [bx]
  have h : G.1 35 = (15, 0) := gsh hG 35 rfl rfl
  have h2 : G.2.1 35 ((502 % 100 : Nat) : Int) = some 36 := hG.2.2.1 35 2 36 rfl
  simp only [xs, tA, h]
  rw [h2]; rfl
theorem gf35_3 (hG : Good n L G) : bx d q (.getfield 503 :: is) nx ls (xR 35 :: st) (V, G) = bx d q is nx ls (xR 37 :: st) (V, G) := by
  rw [bx]
  have h : G.1 35 = (15, 0) := gsh hG 35 rfl rfl
  have h2 : G.2.1 35 ((503 % 100 : Nat) : Int) = some 37 := hG.2.2.1 35 3 37 rfl
  simp only [xs, tA, h]
  rw [h2]; rfl
theorem gf35_4 (hG : Good n L G) : bx d q (.getfield 504 :: is) nx ls (xR 35 :: st) (V, G) = bx d q is nx ls (xR 38 :: st) (V, G) := by
  rw [bx]
  have h : G.1 35 = (15, 0) := gsh hG 35 rfl rfl
  have h2 : G.2.1 35 ((504 % 100 : Nat) : Int) = some 38 := hG.2.2.1 35 4 38 rfl
  simp only [xs, tA, h]
  rw [h2]; rfl
theorem gf35_5 (hG : Good n L G) : bx d q (.getfield 505 :: is) nx ls (xR 35 :: st) (V, G) = bx d q is nx ls (xR 39 :: st) (V, G) := by
  rw [bx]
  have h : G.1 35 = (15, 0) := gsh hG 35 rfl rfl
  have h2 : G.2.1 35 ((505 % 100 : Nat) : Int) = some 39 := hG.2.2.1 35 5 39 rfl
  simp only [xs, tA, h]
  rw [h2]; rfl
theorem gf35_6 (hG : Good n L G) : bx d q (.getfield 506 :: is) nx ls (xR 35 :: st) (V, G) = bx d q is nx ls (xR 40 :: st) (V, G) := by
  rw [bx]
  have h : G.1 35 = (15, 0) := gsh hG 35 rfl rfl
  have h2 : G.2.1 35 ((506 % 100 : Nat) : Int) = some 40 := hG.2.2.1 35 6 40 rfl
  simp only [xs, tA, h]
  rw [h2]; rfl
theorem gf35_7 (hG : Good n L G) : bx d q (.getfield 507 :: is) nx ls (xR 35 :: st) (V, G) = bx d q is nx ls (xI (V 35 7) :: st) (V, G) := by
  rw [bx]
  have h : G.1 35 = (15, 0) := gsh hG 35 rfl rfl
  simp only [xs, tA, h]
  rfl
theorem pf35_7 (hG : Good n L G) {x : Int} : bx d q (.putfield 507 :: is) nx ls (xI x :: xR 35 :: st) (V, G) = bx d q is nx ls st (vA V 35 (vU (V 35) 7 x), G) := by
  rw [bx]
  have h : G.1 35 = (15, 0) := gsh hG 35 rfl rfl
  simp only [xs, tI, tL, tA, h]
  rfl
theorem gf35_8 (hG : Good n L G) : bx d q (.getfield 508 :: is) nx ls (xR 35 :: st) (V, G) = bx d q is nx ls (xI (V 35 8) :: st) (V, G) := by
  rw [bx]
  have h : G.1 35 = (15, 0) := gsh hG 35 rfl rfl
  simp only [xs, tA, h]
  rfl
theorem pf35_8 (hG : Good n L G) {x : Int} : bx d q (.putfield 508 :: is) nx ls (xI x :: xR 35 :: st) (V, G) = bx d q is nx ls st (vA V 35 (vU (V 35) 8 x), G) := by
  rw [bx]
  have h : G.1 35 = (15, 0) := gsh hG 35 rfl rfl
  simp only [xs, tI, tL, tA, h]
  rfl
theorem gf35_9 (hG : Good n L G) : bx d q (.getfield 509 :: is) nx ls (xR 35 :: st) (V, G) = bx d q is nx ls (xI (V 35 9) :: st) (V, G) := by
  rw [bx]
  have h : G.1 35 = (15, 0) := gsh hG 35 rfl rfl
  simp only [xs, tA, h]
  rfl
theorem pf35_9 (hG : Good n L G) {x : Int} : bx d q (.putfield 509 :: is) nx ls (xI x :: xR 35 :: st) (V, G) = bx d q is nx ls st (vA V 35 (vU (V 35) 9 x), G) := by
  rw [bx]
  have h : G.1 35 = (15, 0) := gsh hG 35 rfl rfl
  simp only [xs, tI, tL, tA, h]
  rfl
theorem gf35_10 (hG : Good n L G) : bx d q (.getfield 510 :: is) nx ls (xR 35 :: st) (V, G) = bx d q is nx ls (xI (V 35 10) :: st) (V, G) := by
  rw [bx]
  have h : G.1 35 = (15, 0) := gsh hG 35 rfl rfl
  simp only [xs, tA, h]
  rfl
theorem pf35_10 (hG : Good n L G) {x : Int} (hb : x = 0 ∨ x = 1) : bx d q (.putfield 510 :: is) nx ls (xI x :: xR 35 :: st) (V, G) = bx d q is nx ls st (vA V 35 (vU (V 35) 10 x), G) := by
  rw [bx]
  have h : G.1 35 = (15, 0) := gsh hG 35 rfl rfl
  simp only [xs, tI, tL, tA, h]
  rw [if_neg (show ¬ fT (510 / 100) (510 % 100) = 0 by decide +kernel), if_pos (show fT (510 / 100) (510 % 100) = 1 by decide +kernel), if_pos ⟨trivial, hb⟩]
  rfl
theorem gf212_0 (hG : Good n L G) : bx d q (.getfield 200 :: is) nx ls (xR 212 :: st) (V, G) = bx d q is nx ls (xI (V 212 0) :: st) (V, G) := by
  rw [bx]
  have h : G.1 212 = (12, 0) := gsh hG 212 rfl rfl
  simp only [xs, tA, h]
  rfl
theorem pf212_0 (hG : Good n L G) {x : Int} : bx d q (.putfield 200 :: is) nx ls (xI x :: xR 212 :: st) (V, G) = bx d q is nx ls st (vA V 212 (vU (V 212) 0 x), G) := by
  rw [bx]
  have h : G.1 212 = (12, 0) := gsh hG 212 rfl rfl
  simp only [xs, tI, tL, tA, h]
  rfl
theorem gf212_1 (hG : Good n L G) : bx d q (.getfield 201 :: is) nx ls (xR 212 :: st) (V, G) = bx d q is nx ls (xI (V 212 1) :: st) (V, G) := by
  rw [bx]
  have h : G.1 212 = (12, 0) := gsh hG 212 rfl rfl
  simp only [xs, tA, h]
  rfl
theorem pf212_1 (hG : Good n L G) {x : Int} : bx d q (.putfield 201 :: is) nx ls (xI x :: xR 212 :: st) (V, G) = bx d q is nx ls st (vA V 212 (vU (V 212) 1 x), G) := by
  rw [bx]
  have h : G.1 212 = (12, 0) := gsh hG 212 rfl rfl
  simp only [xs, tI, tL, tA, h]
  rfl
theorem gf212_2 (hG : Good n L G) : bx d q (.getfield 202 :: is) nx ls (xR 212 :: st) (V, G) = bx d q is nx ls (xR 213 :: st) (V, G) := by
  rw [bx]
  have h : G.1 212 = (12, 0) := gsh hG 212 rfl rfl
  have h2 : G.2.1 212 ((202 % 100 : Nat) : Int) = some 213 := hG.2.2.1 212 2 213 rfl
  simp only [xs, tA, h]
  rw [h2]; rfl
theorem gf212_3 (hG : Good n L G) : bx d q (.getfield 203 :: is) nx ls (xR 212 :: st) (V, G) = bx d q is nx ls (xR 214 :: st) (V, G) := by
  rw [bx]
  have h : G.1 212 = (12, 0) := gsh hG 212 rfl rfl
  have h2 : G.2.1 212 ((203 % 100 : Nat) : Int) = some 214 := hG.2.2.1 212 3 214 rfl
  simp only [xs, tA, h]
  rw [h2]; rfl
theorem gf212_4 (hG : Good n L G) : bx d q (.getfield 204 :: is) nx ls (xR 212 :: st) (V, G) = bx d q is nx ls (xR 215 :: st) (V, G) := by
  rw [bx]
  have h : G.1 212 = (12, 0) := gsh hG 212 rfl rfl
  have h2 : G.2.1 212 ((204 % 100 : Nat) : Int) = some 215 := hG.2.2.1 212 4 215 rfl
  simp only [xs, tA, h]
  rw [h2]; rfl
theorem gf212_5 (hG : Good n L G) : bx d q (.getfield 205 :: is) nx ls (xR 212 :: st) (V, G) = bx d q is nx ls (xR 216 :: st) (V, G) := by
  rw [bx]
  have h : G.1 212 = (12, 0) := gsh hG 212 rfl rfl
  have h2 : G.2.1 212 ((205 % 100 : Nat) : Int) = some 216 := hG.2.2.1 212 5 216 rfl
  simp only [xs, tA, h]
  rw [h2]; rfl
theorem gf217_0 (hG : Good n L G) : bx d q (.getfield 700 :: is) nx ls (xR 217 :: st) (V, G) = bx d q is nx ls (xR 5 :: st) (V, G) := by
  rw [bx]
  have h : G.1 217 = (17, 0) := gsh hG 217 rfl rfl
  have h2 : G.2.1 217 ((700 % 100 : Nat) : Int) = some 5 := hG.2.2.1 217 0 5 rfl
  simp only [xs, tA, h]
  rw [h2]; rfl
theorem gf217_1 (hG : Good n L G) : bx d q (.getfield 701 :: is) nx ls (xR 217 :: st) (V, G) = bx d q is nx ls (xR 212 :: st) (V, G) := by
  rw [bx]
  have h : G.1 217 = (17, 0) := gsh hG 217 rfl rfl
  have h2 : G.2.1 217 ((701 % 100 : Nat) : Int) = some 212 := hG.2.2.1 217 1 212 rfl
  simp only [xs, tA, h]
  rw [h2]; rfl
theorem gf217_2 (hG : Good n L G) : bx d q (.getfield 702 :: is) nx ls (xR 217 :: st) (V, G) = bx d q is nx ls (xL (V 217 2) :: st) (V, G) := by
  rw [bx]
  have h : G.1 217 = (17, 0) := gsh hG 217 rfl rfl
  simp only [xs, tA, h]
  rfl
theorem pf217_2 (hG : Good n L G) {x : Int} : bx d q (.putfield 702 :: is) nx ls (xL x :: xR 217 :: st) (V, G) = bx d q is nx ls st (vA V 217 (vU (V 217) 2 x), G) := by
  rw [bx]
  have h : G.1 217 = (17, 0) := gsh hG 217 rfl rfl
  simp only [xs, tI, tL, tA, h]
  rfl
theorem gf217_3 (hG : Good n L G) : bx d q (.getfield 703 :: is) nx ls (xR 217 :: st) (V, G) = bx d q is nx ls (xI (V 217 3) :: st) (V, G) := by
  rw [bx]
  have h : G.1 217 = (17, 0) := gsh hG 217 rfl rfl
  simp only [xs, tA, h]
  rfl
theorem pf217_3 (hG : Good n L G) {x : Int} : bx d q (.putfield 703 :: is) nx ls (xI x :: xR 217 :: st) (V, G) = bx d q is nx ls st (vA V 217 (vU (V 217) 3 x), G) := by
  rw [bx]
  have h : G.1 217 = (17, 0) := gsh hG 217 rfl rfl
  simp only [xs, tI, tL, tA, h]
  rfl
theorem gf217_4 (hG : Good n L G) : bx d q (.getfield 704 :: is) nx ls (xR 217 :: st) (V, G) = bx d q is nx ls (xR 218 :: st) (V, G) := by
  rw [bx]
  have h : G.1 217 = (17, 0) := gsh hG 217 rfl rfl
  have h2 : G.2.1 217 ((704 % 100 : Nat) : Int) = some 218 := hG.2.2.1 217 4 218 rfl
  simp only [xs, tA, h]
  rw [h2]; rfl
theorem gf217_5 (hG : Good n L G) : bx d q (.getfield 705 :: is) nx ls (xR 217 :: st) (V, G) = bx d q is nx ls (xR 259 :: st) (V, G) := by
  rw [bx]
  have h : G.1 217 = (17, 0) := gsh hG 217 rfl rfl
  have h2 : G.2.1 217 ((705 % 100 : Nat) : Int) = some 259 := hG.2.2.1 217 5 259 rfl
  simp only [xs, tA, h]
  rw [h2]; rfl
theorem gf217_6 (hG : Good n L G) : bx d q (.getfield 706 :: is) nx ls (xR 217 :: st) (V, G) = bx d q is nx ls (xR 300 :: st) (V, G) := by
  rw [bx]
  have h : G.1 217 = (17, 0) := gsh hG 217 rfl rfl
  have h2 : G.2.1 217 ((706 % 100 : Nat) : Int) = some 300 := hG.2.2.1 217 6 300 rfl
  simp only [xs, tA, h]
  rw [h2]; rfl
theorem gf217_7 (hG : Good n L G) : bx d q (.getfield 707 :: is) nx ls (xR 217 :: st) (V, G) = bx d q is nx ls (xR 341 :: st) (V, G) := by
  rw [bx]
  have h : G.1 217 = (17, 0) := gsh hG 217 rfl rfl
  have h2 : G.2.1 217 ((707 % 100 : Nat) : Int) = some 341 := hG.2.2.1 217 7 341 rfl
  simp only [xs, tA, h]
  rw [h2]; rfl
theorem gf217_8 (hG : Good n L G) : bx d q (.getfield 708 :: is) nx ls (xR 217 :: st) (V, G) = bx d q is nx ls (xR 342 :: st) (V, G) := by
  rw [bx]
  have h : G.1 217 = (17, 0) := gsh hG 217 rfl rfl
  have h2 : G.2.1 217 ((708 % 100 : Nat) : Int) = some 342 := hG.2.2.1 217 8 342 rfl
  simp only [xs, tA, h]
  rw [h2]; rfl
theorem gf217_9 (hG : Good n L G) : bx d q (.getfield 709 :: is) nx ls (xR 217 :: st) (V, G) = bx d q is nx ls (xR 343 :: st) (V, G) := by
  rw [bx]
  have h : G.1 217 = (17, 0) := gsh hG 217 rfl rfl
  have h2 : G.2.1 217 ((709 % 100 : Nat) : Int) = some 343 := hG.2.2.1 217 9 343 rfl
  simp only [xs, tA, h]
  rw [h2]; rfl
theorem gf344_0 (hG : Good n L G) : bx d q (.getfield 400 :: is) nx ls (xR 344 :: st) (V, G) = bx d q is nx ls (xR 5 :: st) (V, G) := by
  rw [bx]
  have h : G.1 344 = (14, 0) := gsh hG 344 rfl rfl
  have h2 : G.2.1 344 ((400 % 100 : Nat) : Int) = some 5 := hG.2.2.1 344 0 5 rfl
  simp only [xs, tA, h]
  rw [h2]; rfl
theorem gf344_1 (hG : Good n L G) : bx d q (.getfield 401 :: is) nx ls (xR 344 :: st) (V, G) = bx d q is nx ls (xR 212 :: st) (V, G) := by
  rw [bx]
  have h : G.1 344 = (14, 0) := gsh hG 344 rfl rfl
  have h2 : G.2.1 344 ((401 % 100 : Nat) : Int) = some 212 := hG.2.2.1 344 1 212 rfl
  simp only [xs, tA, h]
  rw [h2]; rfl
theorem gf344_2 (hG : Good n L G) : bx d q (.getfield 402 :: is) nx ls (xR 344 :: st) (V, G) = bx d q is nx ls (xI (V 344 2) :: st) (V, G) := by
  rw [bx]
  have h : G.1 344 = (14, 0) := gsh hG 344 rfl rfl
  simp only [xs, tA, h]
  rfl
theorem pf344_2 (hG : Good n L G) {x : Int} (hb : x = 0 ∨ x = 1) : bx d q (.putfield 402 :: is) nx ls (xI x :: xR 344 :: st) (V, G) = bx d q is nx ls st (vA V 344 (vU (V 344) 2 x), G) := by
  rw [bx]
  have h : G.1 344 = (14, 0) := gsh hG 344 rfl rfl
  simp only [xs, tI, tL, tA, h]
  rw [if_neg (show ¬ fT (402 / 100) (402 % 100) = 0 by decide +kernel), if_pos (show fT (402 / 100) (402 % 100) = 1 by decide +kernel), if_pos ⟨trivial, hb⟩]
  rfl
theorem gf344_3 (hG : Good n L G) : bx d q (.getfield 403 :: is) nx ls (xR 344 :: st) (V, G) = bx d q is nx ls (xI (V 344 3) :: st) (V, G) := by
  rw [bx]
  have h : G.1 344 = (14, 0) := gsh hG 344 rfl rfl
  simp only [xs, tA, h]
  rfl
theorem pf344_3 (hG : Good n L G) {x : Int} : bx d q (.putfield 403 :: is) nx ls (xI x :: xR 344 :: st) (V, G) = bx d q is nx ls st (vA V 344 (vU (V 344) 3 x), G) := by
  rw [bx]
  have h : G.1 344 = (14, 0) := gsh hG 344 rfl rfl
  simp only [xs, tI, tL, tA, h]
  rfl
theorem gf344_4 (hG : Good n L G) : bx d q (.getfield 404 :: is) nx ls (xR 344 :: st) (V, G) = bx d q is nx ls (xI (V 344 4) :: st) (V, G) := by
  rw [bx]
  have h : G.1 344 = (14, 0) := gsh hG 344 rfl rfl
  simp only [xs, tA, h]
  rfl
theorem pf344_4 (hG : Good n L G) {x : Int} : bx d q (.putfield 404 :: is) nx ls (xI x :: xR 344 :: st) (V, G) = bx d q is nx ls st (vA V 344 (vU (V 344) 4 x), G) := by
  rw [bx]
  have h : G.1 344 = (14, 0) := gsh hG 344 rfl rfl
  simp only [xs, tI, tL, tA, h]
  rfl
theorem gf344_5 (hG : Good n L G) : bx d q (.getfield 405 :: is) nx ls (xR 344 :: st) (V, G) = bx d q is nx ls (xI (V 344 5) :: st) (V, G) := by
  rw [bx]
  have h : G.1 344 = (14, 0) := gsh hG 344 rfl rfl
  simp only [xs, tA, h]
  rfl
theorem pf344_5 (hG : Good n L G) {x : Int} : bx d q (.putfield 405 :: is) nx ls (xI x :: xR 344 :: st) (V, G) = bx d q is nx ls st (vA V 344 (vU (V 344) 5 x), G) := by
  rw [bx]
  have h : G.1 344 = (14, 0) := gsh hG 344 rfl rfl
  simp only [xs, tI, tL, tA, h]
  rfl
theorem gf344_6 (hG : Good n L G) : bx d q (.getfield 406 :: is) nx ls (xR 344 :: st) (V, G) = bx d q is nx ls (xR 345 :: st) (V, G) := by
  rw [bx]
  have h : G.1 344 = (14, 0) := gsh hG 344 rfl rfl
  have h2 : G.2.1 344 ((406 % 100 : Nat) : Int) = some 345 := hG.2.2.1 344 6 345 rfl
  simp only [xs, tA, h]
  rw [h2]; rfl
theorem gf344_7 (hG : Good n L G) : bx d q (.getfield 407 :: is) nx ls (xR 344 :: st) (V, G) = bx d q is nx ls (xR 346 :: st) (V, G) := by
  rw [bx]
  have h : G.1 344 = (14, 0) := gsh hG 344 rfl rfl
  have h2 : G.2.1 344 ((407 % 100 : Nat) : Int) = some 346 := hG.2.2.1 344 7 346 rfl
  simp only [xs, tA, h]
  rw [h2]; rfl
theorem gf344_8 (hG : Good n L G) : bx d q (.getfield 408 :: is) nx ls (xR 344 :: st) (V, G) = bx d q is nx ls (xR 347 :: st) (V, G) := by
  rw [bx]
  have h : G.1 344 = (14, 0) := gsh hG 344 rfl rfl
  have h2 : G.2.1 344 ((408 % 100 : Nat) : Int) = some 347 := hG.2.2.1 344 8 347 rfl
  simp only [xs, tA, h]
  rw [h2]; rfl
theorem gf344_9 (hG : Good n L G) : bx d q (.getfield 409 :: is) nx ls (xR 344 :: st) (V, G) = bx d q is nx ls (xR 348 :: st) (V, G) := by
  rw [bx]
  have h : G.1 344 = (14, 0) := gsh hG 344 rfl rfl
  have h2 : G.2.1 344 ((409 % 100 : Nat) : Int) = some 348 := hG.2.2.1 344 9 348 rfl
  simp only [xs, tA, h]
  rw [h2]; rfl
theorem gf344_10 (hG : Good n L G) : bx d q (.getfield 410 :: is) nx ls (xR 344 :: st) (V, G) = bx d q is nx ls (xR 349 :: st) (V, G) := by
  rw [bx]
  have h : G.1 344 = (14, 0) := gsh hG 344 rfl rfl
  have h2 : G.2.1 344 ((410 % 100 : Nat) : Int) = some 349 := hG.2.2.1 344 10 349 rfl
  simp only [xs, tA, h]
  rw [h2]; rfl
theorem gf344_11 (hG : Good n L G) : bx d q (.getfield 411 :: is) nx ls (xR 344 :: st) (V, G) = bx d q is nx ls (xR 350 :: st) (V, G) := by
  rw [bx]
  have h : G.1 344 = (14, 0) := gsh hG 344 rfl rfl
  have h2 : G.2.1 344 ((411 % 100 : Nat) : Int) = some 350 := hG.2.2.1 344 11 350 rfl
  simp only [xs, tA, h]
  rw [h2]; rfl
theorem gf344_12 (hG : Good n L G) : bx d q (.getfield 412 :: is) nx ls (xR 344 :: st) (V, G) = bx d q is nx ls (xR 364 :: st) (V, G) := by
  rw [bx]
  have h : G.1 344 = (14, 0) := gsh hG 344 rfl rfl
  have h2 : G.2.1 344 ((412 % 100 : Nat) : Int) = some 364 := hG.2.2.1 344 12 364 rfl
  simp only [xs, tA, h]
  rw [h2]; rfl
theorem gf344_13 (hG : Good n L G) : bx d q (.getfield 413 :: is) nx ls (xR 344 :: st) (V, G) = bx d q is nx ls (xR 365 :: st) (V, G) := by
  rw [bx]
  have h : G.1 344 = (14, 0) := gsh hG 344 rfl rfl
  have h2 : G.2.1 344 ((413 % 100 : Nat) : Int) = some 365 := hG.2.2.1 344 13 365 rfl
  simp only [xs, tA, h]
  rw [h2]; rfl
theorem gf344_14 (hG : Good n L G) : bx d q (.getfield 414 :: is) nx ls (xR 344 :: st) (V, G) = bx d q is nx ls (xR 372 :: st) (V, G) := by
  rw [bx]
  have h : G.1 344 = (14, 0) := gsh hG 344 rfl rfl
  have h2 : G.2.1 344 ((414 % 100 : Nat) : Int) = some 372 := hG.2.2.1 344 14 372 rfl
  simp only [xs, tA, h]
  rw [h2]; rfl
theorem gf373_0 (hG : Good n L G) : bx d q (.getfield 900 :: is) nx ls (xR 373 :: st) (V, G) = bx d q is nx ls (xR 5 :: st) (V, G) := by
  rw [bx]
  have h : G.1 373 = (19, 0) := gsh hG 373 rfl rfl
  have h2 : G.2.1 373 ((900 % 100 : Nat) : Int) = some 5 := hG.2.2.1 373 0 5 rfl
  simp only [xs, tA, h]
  rw [h2]; rfl
theorem gf373_1 (hG : Good n L G) : bx d q (.getfield 901 :: is) nx ls (xR 373 :: st) (V, G) = bx d q is nx ls (xR 374 :: st) (V, G) := by
  rw [bx]
  have h : G.1 373 = (19, 0) := gsh hG 373 rfl rfl
  have h2 : G.2.1 373 ((901 % 100 : Nat) : Int) = some 374 := hG.2.2.1 373 1 374 rfl
  simp only [xs, tA, h]
  rw [h2]; rfl
theorem gf373_2 (hG : Good n L G) : bx d q (.getfield 902 :: is) nx ls (xR 373 :: st) (V, G) = bx d q is nx ls (xR 375 :: st) (V, G) := by
  rw [bx]
  have h : G.1 373 = (19, 0) := gsh hG 373 rfl rfl
  have h2 : G.2.1 373 ((902 % 100 : Nat) : Int) = some 375 := hG.2.2.1 373 2 375 rfl
  simp only [xs, tA, h]
  rw [h2]; rfl
theorem gf376_0 (hG : Good n L G) : bx d q (.getfield 1100 :: is) nx ls (xR 376 :: st) (V, G) = bx d q is nx ls (xI (V 376 0) :: st) (V, G) := by
  rw [bx]
  have h : G.1 376 = (21, 0) := gsh hG 376 rfl rfl
  simp only [xs, tA, h]
  rfl
theorem pf376_0 (hG : Good n L G) {x : Int} : bx d q (.putfield 1100 :: is) nx ls (xI x :: xR 376 :: st) (V, G) = bx d q is nx ls st (vA V 376 (vU (V 376) 0 x), G) := by
  rw [bx]
  have h : G.1 376 = (21, 0) := gsh hG 376 rfl rfl
  simp only [xs, tI, tL, tA, h]
  rfl
theorem gf376_1 (hG : Good n L G) : bx d q (.getfield 1101 :: is) nx ls (xR 376 :: st) (V, G) = bx d q is nx ls (xR 377 :: st) (V, G) := by
  rw [bx]
  have h : G.1 376 = (21, 0) := gsh hG 376 rfl rfl
  have h2 : G.2.1 376 ((1101 % 100 : Nat) : Int) = some 377 := hG.2.2.1 376 1 377 rfl
  simp only [xs, tA, h]
  rw [h2]; rfl
theorem gf376_2 (hG : Good n L G) : bx d q (.getfield 1102 :: is) nx ls (xR 376 :: st) (V, G) = bx d q is nx ls (xR 378 :: st) (V, G) := by
  rw [bx]
  have h : G.1 376 = (21, 0) := gsh hG 376 rfl rfl
  have h2 : G.2.1 376 ((1102 % 100 : Nat) : Int) = some 378 := hG.2.2.1 376 2 378 rfl
  simp only [xs, tA, h]
  rw [h2]; rfl
theorem gf376_3 (hG : Good n L G) : bx d q (.getfield 1103 :: is) nx ls (xR 376 :: st) (V, G) = bx d q is nx ls (xR 379 :: st) (V, G) := by
  rw [bx]
  have h : G.1 376 = (21, 0) := gsh hG 376 rfl rfl
  have h2 : G.2.1 376 ((1103 % 100 : Nat) : Int) = some 379 := hG.2.2.1 376 3 379 rfl
  simp only [xs, tA, h]
  rw [h2]; rfl
theorem gf376_4 (hG : Good n L G) : bx d q (.getfield 1104 :: is) nx ls (xR 376 :: st) (V, G) = bx d q is nx ls (xR 380 :: st) (V, G) := by
  rw [bx]
  have h : G.1 376 = (21, 0) := gsh hG 376 rfl rfl
  have h2 : G.2.1 376 ((1104 % 100 : Nat) : Int) = some 380 := hG.2.2.1 376 4 380 rfl
  simp only [xs, tA, h]
  rw [h2]; rfl
theorem gf376_5 (hG : Good n L G) : bx d q (.getfield 1105 :: is) nx ls (xR 376 :: st) (V, G) = bx d q is nx ls (xR 381 :: st) (V, G) := by
  rw [bx]
  have h : G.1 376 = (21, 0) := gsh hG 376 rfl rfl
  have h2 : G.2.1 376 ((1105 % 100 : Nat) : Int) = some 381 := hG.2.2.1 376 5 381 rfl
  simp only [xs, tA, h]
  rw [h2]; rfl
theorem gf376_6 (hG : Good n L G) : bx d q (.getfield 1106 :: is) nx ls (xR 376 :: st) (V, G) = bx d q is nx ls (xR 382 :: st) (V, G) := by
  rw [bx]
  have h : G.1 376 = (21, 0) := gsh hG 376 rfl rfl
  have h2 : G.2.1 376 ((1106 % 100 : Nat) : Int) = some 382 := hG.2.2.1 376 6 382 rfl
  simp only [xs, tA, h]
  rw [h2]; rfl
theorem gf376_7 (hG : Good n L G) : bx d q (.getfield 1107 :: is) nx ls (xR 376 :: st) (V, G) = bx d q is nx ls (xI (V 376 7) :: st) (V, G) := by
  rw [bx]
  have h : G.1 376 = (21, 0) := gsh hG 376 rfl rfl
  simp only [xs, tA, h]
  rfl
theorem pf376_7 (hG : Good n L G) {x : Int} : bx d q (.putfield 1107 :: is) nx ls (xI x :: xR 376 :: st) (V, G) = bx d q is nx ls st (vA V 376 (vU (V 376) 7 x), G) := by
  rw [bx]
  have h : G.1 376 = (21, 0) := gsh hG 376 rfl rfl
  simp only [xs, tI, tL, tA, h]
  rfl
theorem gf376_8 (hG : Good n L G) : bx d q (.getfield 1108 :: is) nx ls (xR 376 :: st) (V, G) = bx d q is nx ls (xR 383 :: st) (V, G) := by
  rw [bx]
  have h : G.1 376 = (21, 0) := gsh hG 376 rfl rfl
  have h2 : G.2.1 376 ((1108 % 100 : Nat) : Int) = some 383 := hG.2.2.1 376 8 383 rfl
  simp only [xs, tA, h]
  rw [h2]; rfl
theorem gf376_9 (hG : Good n L G) : bx d q (.getfield 1109 :: is) nx ls (xR 376 :: st) (V, G) = bx d q is nx ls (xR 384 :: st) (V, G) := by
  rw [bx]
  have h : G.1 376 = (21, 0) := gsh hG 376 rfl rfl
  have h2 : G.2.1 376 ((1109 % 100 : Nat) : Int) = some 384 := hG.2.2.1 376 9 384 rfl
  simp only [xs, tA, h]
  rw [h2]; rfl
theorem gf376_10 (hG : Good n L G) : bx d q (.getfield 1110 :: is) nx ls (xR 376 :: st) (V, G) = bx d q is nx ls (xR 385 :: st) (V, G) := by
  rw [bx]
  have h : G.1 376 = (21, 0) := gsh hG 376 rfl rfl
  have h2 : G.2.1 376 ((1110 % 100 : Nat) : Int) = some 385 := hG.2.2.1 376 10 385 rfl
  simp only [xs, tA, h]
  rw [h2]; rfl
theorem gf376_11 (hG : Good n L G) : bx d q (.getfield 1111 :: is) nx ls (xR 376 :: st) (V, G) = bx d q is nx ls (xR 386 :: st) (V, G) := by
  rw [bx]
  have h : G.1 376 = (21, 0) := gsh hG 376 rfl rfl
  have h2 : G.2.1 376 ((1111 % 100 : Nat) : Int) = some 386 := hG.2.2.1 376 11 386 rfl
  simp only [xs, tA, h]
  rw [h2]; rfl
theorem gf376_12 (hG : Good n L G) : bx d q (.getfield 1112 :: is) nx ls (xR 376 :: st) (V, G) = bx d q is nx ls (xR 387 :: st) (V, G) := by
  rw [bx]
  have h : G.1 376 = (21, 0) := gsh hG 376 rfl rfl
  have h2 : G.2.1 376 ((1112 % 100 : Nat) : Int) = some 387 := hG.2.2.1 376 12 387 rfl
  simp only [xs, tA, h]
  rw [h2]; rfl
theorem gf376_13 (hG : Good n L G) : bx d q (.getfield 1113 :: is) nx ls (xR 376 :: st) (V, G) = bx d q is nx ls (xR 388 :: st) (V, G) := by
  rw [bx]
  have h : G.1 376 = (21, 0) := gsh hG 376 rfl rfl
  have h2 : G.2.1 376 ((1113 % 100 : Nat) : Int) = some 388 := hG.2.2.1 376 13 388 rfl
  simp only [xs, tA, h]
  rw [h2]; rfl
theorem gf376_14 (hG : Good n L G) : bx d q (.getfield 1114 :: is) nx ls (xR 376 :: st) (V, G) = bx d q is nx ls (xR 389 :: st) (V, G) := by
  rw [bx]
  have h : G.1 376 = (21, 0) := gsh hG 376 rfl rfl
  have h2 : G.2.1 376 ((1114 % 100 : Nat) : Int) = some 389 := hG.2.2.1 376 14 389 rfl
  simp only [xs, tA, h]
  rw [h2]; rfl
theorem gf376_15 (hG : Good n L G) : bx d q (.getfield 1115 :: is) nx ls (xR 376 :: st) (V, G) = bx d q is nx ls (xR 390 :: st) (V, G) := by
  rw [bx]
  have h : G.1 376 = (21, 0) := gsh hG 376 rfl rfl
  have h2 : G.2.1 376 ((1115 % 100 : Nat) : Int) = some 390 := hG.2.2.1 376 15 390 rfl
  simp only [xs, tA, h]
  rw [h2]; rfl
theorem gf376_16 (hG : Good n L G) : bx d q (.getfield 1116 :: is) nx ls (xR 376 :: st) (V, G) = bx d q is nx ls (xI (V 376 16) :: st) (V, G) := by
  rw [bx]
  have h : G.1 376 = (21, 0) := gsh hG 376 rfl rfl
  simp only [xs, tA, h]
  rfl
theorem pf376_16 (hG : Good n L G) {x : Int} : bx d q (.putfield 1116 :: is) nx ls (xI x :: xR 376 :: st) (V, G) = bx d q is nx ls st (vA V 376 (vU (V 376) 16 x), G) := by
  rw [bx]
  have h : G.1 376 = (21, 0) := gsh hG 376 rfl rfl
  simp only [xs, tI, tL, tA, h]
  rfl
theorem gf376_17 (hG : Good n L G) : bx d q (.getfield 1117 :: is) nx ls (xR 376 :: st) (V, G) = bx d q is nx ls (xI (V 376 17) :: st) (V, G) := by
  rw [bx]
  have h : G.1 376 = (21, 0) := gsh hG 376 rfl rfl
  simp only [xs, tA, h]
  rfl
theorem pf376_17 (hG : Good n L G) {x : Int} (hb : x = 0 ∨ x = 1) : bx d q (.putfield 1117 :: is) nx ls (xI x :: xR 376 :: st) (V, G) = bx d q is nx ls st (vA V 376 (vU (V 376) 17 x), G) := by
  rw [bx]
  have h : G.1 376 = (21, 0) := gsh hG 376 rfl rfl
  simp only [xs, tI, tL, tA, h]
  rw [if_neg (show ¬ fT (1117 / 100) (1117 % 100) = 0 by decide +kernel), if_pos (show fT (1117 / 100) (1117 % 100) = 1 by decide +kernel), if_pos ⟨trivial, hb⟩]
  rfl
theorem gf376_18 (hG : Good n L G) : bx d q (.getfield 1118 :: is) nx ls (xR 376 :: st) (V, G) = bx d q is nx ls (xI (V 376 18) :: st) (V, G) := by
  rw [bx]
  have h : G.1 376 = (21, 0) := gsh hG 376 rfl rfl
  simp only [xs, tA, h]
  rfl
theorem pf376_18 (hG : Good n L G) {x : Int} (hb : x = 0 ∨ x = 1) : bx d q (.putfield 1118 :: is) nx ls (xI x :: xR 376 :: st) (V, G) = bx d q is nx ls st (vA V 376 (vU (V 376) 18 x), G) := by
  rw [bx]
  have h : G.1 376 = (21, 0) := gsh hG 376 rfl rfl
  simp only [xs, tI, tL, tA, h]
  rw [if_neg (show ¬ fT (1118 / 100) (1118 % 100) = 0 by decide +kernel), if_pos (show fT (1118 / 100) (1118 % 100) = 1 by decide +kernel), if_pos ⟨trivial, hb⟩]
  rfl
theorem gf376_19 (hG : Good n L G) : bx d q (.getfield 1119 :: is) nx ls (xR 376 :: st) (V, G) = bx d q is nx ls (xR 391 :: st) (V, G) := by
  rw [bx]
  have h : G.1 376 = (21, 0) := gsh hG 376 rfl rfl
  have h2 : G.2.1 376 ((1119 % 100 : Nat) : Int) = some 391 := hG.2.2.1 376 19 391 rfl
  simp only [xs, tA, h]
  rw [h2]; rfl
theorem gf376_20 (hG : Good n L G) : bx d q (.getfield 1120 :: is) nx ls (xR 376 :: st) (V, G) = bx d q is nx ls (xR 392 :: st) (V, G) := by
  rw [bx]
  have h : G.1 376 = (21, 0) := gsh hG 376 rfl rfl
  have h2 : G.2.1 376 ((1120 % 100 : Nat) : Int) = some 392 := hG.2.2.1 376 20 392 rfl
  simp only [xs, tA, h]
  rw [h2]; rfl
theorem gf376_21 (hG : Good n L G) : bx d q (.getfield 1121 :: is) nx ls (xR 376 :: st) (V, G) = bx d q is nx ls (xI (V 376 21) :: st) (V, G) := by
  rw [bx]
  have h : G.1 376 = (21, 0) := gsh hG 376 rfl rfl
  simp only [xs, tA, h]
  rfl
theorem pf376_21 (hG : Good n L G) {x : Int} : bx d q (.putfield 1121 :: is) nx ls (xI x :: xR 376 :: st) (V, G) = bx d q is nx ls st (vA V 376 (vU (V 376) 21 x), G) := by
  rw [bx]
  have h : G.1 376 = (21, 0) := gsh hG 376 rfl rfl
  simp only [xs, tI, tL, tA, h]
  rfl
theorem gf376_22 (hG : Good n L G) : bx d q (.getfield 1122 :: is) nx ls (xR 376 :: st) (V, G) = bx d q is nx ls (xR 393 :: st) (V, G) := by
  rw [bx]
  have h : G.1 376 = (21, 0) := gsh hG 376 rfl rfl
  have h2 : G.2.1 376 ((1122 % 100 : Nat) : Int) = some 393 := hG.2.2.1 376 22 393 rfl
  simp only [xs, tA, h]
  rw [h2]; rfl
theorem gf376_23 (hG : Good n L G) : bx d q (.getfield 1123 :: is) nx ls (xR 376 :: st) (V, G) = bx d q is nx ls (xR 394 :: st) (V, G) := by
  rw [bx]
  have h : G.1 376 = (21, 0) := gsh hG 376 rfl rfl
  have h2 : G.2.1 376 ((1123 % 100 : Nat) : Int) = some 394 := hG.2.2.1 376 23 394 rfl
  simp only [xs, tA, h]
  rw [h2]; rfl
theorem gf376_24 (hG : Good n L G) : bx d q (.getfield 1124 :: is) nx ls (xR 376 :: st) (V, G) = bx d q is nx ls (xR 395 :: st) (V, G) := by
  rw [bx]
  have h : G.1 376 = (21, 0) := gsh hG 376 rfl rfl
  have h2 : G.2.1 376 ((1124 % 100 : Nat) : Int) = some 395 := hG.2.2.1 376 24 395 rfl
  simp only [xs, tA, h]
  rw [h2]; rfl
theorem gf376_25 (hG : Good n L G) : bx d q (.getfield 1125 :: is) nx ls (xR 376 :: st) (V, G) = bx d q is nx ls (xR 396 :: st) (V, G) := by
  rw [bx]
  have h : G.1 376 = (21, 0) := gsh hG 376 rfl rfl
  have h2 : G.2.1 376 ((1125 % 100 : Nat) : Int) = some 396 := hG.2.2.1 376 25 396 rfl
  simp only [xs, tA, h]
  rw [h2]; rfl
theorem gf376_26 (hG : Good n L G) : bx d q (.getfield 1126 :: is) nx ls (xR 376 :: st) (V, G) = bx d q is nx ls (xR 397 :: st) (V, G) := by
  rw [bx]
  have h : G.1 376 = (21, 0) := gsh hG 376 rfl rfl
  have h2 : G.2.1 376 ((1126 % 100 : Nat) : Int) = some 397 := hG.2.2.1 376 26 397 rfl
  simp only [xs, tA, h]
  rw [h2]; rfl
theorem gf376_27 (hG : Good n L G) : bx d q (.getfield 1127 :: is) nx ls (xR 376 :: st) (V, G) = bx d q is nx ls (xR 398 :: st) (V, G) := by
  rw [bx]
  have h : G.1 376 = (21, 0) := gsh hG 376 rfl rfl
  have h2 : G.2.1 376 ((1127 % 100 : Nat) : Int) = some 398 := hG.2.2.1 376 27 398 rfl
  simp only [xs, tA, h]
  rw [h2]; rfl
theorem gf376_28 (hG : Good n L G) : bx d q (.getfield 1128 :: is) nx ls (xR 376 :: st) (V, G) = bx d q is nx ls (xR 399 :: st) (V, G) := by
  rw [bx]
  have h : G.1 376 = (21, 0) := gsh hG 376 rfl rfl
  have h2 : G.2.1 376 ((1128 % 100 : Nat) : Int) = some 399 := hG.2.2.1 376 28 399 rfl
  simp only [xs, tA, h]
  rw [h2]; rfl
theorem gf376_29 (hG : Good n L G) : bx d q (.getfield 1129 :: is) nx ls (xR 376 :: st) (V, G) = bx d q is nx ls (xR 400 :: st) (V, G) := by
  rw [bx]
  have h : G.1 376 = (21, 0) := gsh hG 376 rfl rfl
  have h2 : G.2.1 376 ((1129 % 100 : Nat) : Int) = some 400 := hG.2.2.1 376 29 400 rfl
  simp only [xs, tA, h]
  rw [h2]; rfl
theorem gf376_30 (hG : Good n L G) : bx d q (.getfield 1130 :: is) nx ls (xR 376 :: st) (V, G) = bx d q is nx ls (xI (V 376 30) :: st) (V, G) := by
  rw [bx]
  have h : G.1 376 = (21, 0) := gsh hG 376 rfl rfl
  simp only [xs, tA, h]
  rfl
theorem pf376_30 (hG : Good n L G) {x : Int} : bx d q (.putfield 1130 :: is) nx ls (xI x :: xR 376 :: st) (V, G) = bx d q is nx ls st (vA V 376 (vU (V 376) 30 x), G) := by
  rw [bx]
  have h : G.1 376 = (21, 0) := gsh hG 376 rfl rfl
  simp only [xs, tI, tL, tA, h]
  rfl
theorem gf376_31 (hG : Good n L G) : bx d q (.getfield 1131 :: is) nx ls (xR 376 :: st) (V, G) = bx d q is nx ls (xI (V 376 31) :: st) (V, G) := by
  rw [bx]
  have h : G.1 376 = (21, 0) := gsh hG 376 rfl rfl
  simp only [xs, tA, h]
  rfl
theorem pf376_31 (hG : Good n L G) {x : Int} : bx d q (.putfield 1131 :: is) nx ls (xI x :: xR 376 :: st) (V, G) = bx d q is nx ls st (vA V 376 (vU (V 376) 31 x), G) := by
  rw [bx]
  have h : G.1 376 = (21, 0) := gsh hG 376 rfl rfl
  simp only [xs, tI, tL, tA, h]
  rfl
theorem gf376_32 (hG : Good n L G) : bx d q (.getfield 1132 :: is) nx ls (xR 376 :: st) (V, G) = bx d q is nx ls (xI (V 376 32) :: st) (V, G) := by
  rw [bx]
  have h : G.1 376 = (21, 0) := gsh hG 376 rfl rfl
  simp only [xs, tA, h]
  rfl
theorem pf376_32 (hG : Good n L G) {x : Int} : bx d q (.putfield 1132 :: is) nx ls (xI x :: xR 376 :: st) (V, G) = bx d q is nx ls st (vA V 376 (vU (V 376) 32 x), G) := by
  rw [bx]
  have h : G.1 376 = (21, 0) := gsh hG 376 rfl rfl
  simp only [xs, tI, tL, tA, h]
  rfl
theorem gf376_33 (hG : Good n L G) : bx d q (.getfield 1133 :: is) nx ls (xR 376 :: st) (V, G) = bx d q is nx ls (xI (V 376 33) :: st) (V, G) := by
  rw [bx]
  have h : G.1 376 = (21, 0) := gsh hG 376 rfl rfl
  simp only [xs, tA, h]
  rfl
theorem pf376_33 (hG : Good n L G) {x : Int} : bx d q (.putfield 1133 :: is) nx ls (xI x :: xR 376 :: st) (V, G) = bx d q is nx ls st (vA V 376 (vU (V 376) 33 x), G) := by
  rw [bx]
  have h : G.1 376 = (21, 0) := gsh hG 376 rfl rfl
  simp only [xs, tI, tL, tA, h]
  rfl
theorem gf376_34 (hG : Good n L G) : bx d q (.getfield 1134 :: is) nx ls (xR 376 :: st) (V, G) = bx d q is nx ls (xI (V 376 34) :: st) (V, G) := by
  rw [bx]
  have h : G.1 376 = (21, 0) := gsh hG 376 rfl rfl
  simp only [xs, tA, h]
  rfl
theorem pf376_34 (hG : Good n L G) {x : Int} : bx d q (.putfield 1134 :: is) nx ls (xI x :: xR 376 :: st) (V, G) = bx d q is nx ls st (vA V 376 (vU (V 376) 34 x), G) := by
  rw [bx]
  have h : G.1 376 = (21, 0) := gsh hG 376 rfl rfl
  simp only [xs, tI, tL, tA, h]
  rfl
theorem gf376_35 (hG : Good n L G) : bx d q (.getfield 1135 :: is) nx ls (xR 376 :: st) (V, G) = bx d q is nx ls (xR 401 :: st) (V, G) := by
  rw [bx]
  have h : G.1 376 = (21, 0) := gsh hG 376 rfl rfl
  have h2 : G.2.1 376 ((1135 % 100 : Nat) : Int) = some 401 := hG.2.2.1 376 35 401 rfl
  simp only [xs, tA, h]
  rw [h2]; rfl
theorem gf376_36 (hG : Good n L G) : bx d q (.getfield 1136 :: is) nx ls (xR 376 :: st) (V, G) = bx d q is nx ls (xR 402 :: st) (V, G) := by
  rw [bx]
  have h : G.1 376 = (21, 0) := gsh hG 376 rfl rfl
  have h2 : G.2.1 376 ((1136 % 100 : Nat) : Int) = some 402 := hG.2.2.1 376 36 402 rfl
  simp only [xs, tA, h]
  rw [h2]; rfl
theorem gf376_37 (hG : Good n L G) : bx d q (.getfield 1137 :: is) nx ls (xR 376 :: st) (V, G) = bx d q is nx ls (xR 403 :: st) (V, G) := by
  rw [bx]
  have h : G.1 376 = (21, 0) := gsh hG 376 rfl rfl
  have h2 : G.2.1 376 ((1137 % 100 : Nat) : Int) = some 403 := hG.2.2.1 376 37 403 rfl
  simp only [xs, tA, h]
  rw [h2]; rfl
theorem gf376_38 (hG : Good n L G) : bx d q (.getfield 1138 :: is) nx ls (xR 376 :: st) (V, G) = bx d q is nx ls (xR 404 :: st) (V, G) := by
  rw [bx]
  have h : G.1 376 = (21, 0) := gsh hG 376 rfl rfl
  have h2 : G.2.1 376 ((1138 % 100 : Nat) : Int) = some 404 := hG.2.2.1 376 38 404 rfl
  simp only [xs, tA, h]
  rw [h2]; rfl
theorem gf376_39 (hG : Good n L G) : bx d q (.getfield 1139 :: is) nx ls (xR 376 :: st) (V, G) = bx d q is nx ls (xR 405 :: st) (V, G) := by
  rw [bx]
  have h : G.1 376 = (21, 0) := gsh hG 376 rfl rfl
  have h2 : G.2.1 376 ((1139 % 100 : Nat) : Int) = some 405 := hG.2.2.1 376 39 405 rfl
  simp only [xs, tA, h]
  rw [h2]; rfl
theorem gf376_40 (hG : Good n L G) : bx d q (.getfield 1140 :: is) nx ls (xR 376 :: st) (V, G) = bx d q is nx ls (xR 406 :: st) (V, G) := by
  rw [bx]
  have h : G.1 376 = (21, 0) := gsh hG 376 rfl rfl
  have h2 : G.2.1 376 ((1140 % 100 : Nat) : Int) = some 406 := hG.2.2.1 376 40 406 rfl
  simp only [xs, tA, h]
  rw [h2]; rfl
theorem gf376_41 (hG : Good n L G) : bx d q (.getfield 1141 :: is) nx ls (xR 376 :: st) (V, G) = bx d q is nx ls (xI (V 376 41) :: st) (V, G) := by
  rw [bx]
  have h : G.1 376 = (21, 0) := gsh hG 376 rfl rfl
  simp only [xs, tA, h]
  rfl
theorem pf376_41 (hG : Good n L G) {x : Int} : bx d q (.putfield 1141 :: is) nx ls (xI x :: xR 376 :: st) (V, G) = bx d q is nx ls st (vA V 376 (vU (V 376) 41 x), G) := by
  rw [bx]
  have h : G.1 376 = (21, 0) := gsh hG 376 rfl rfl
  simp only [xs, tI, tL, tA, h]
  rfl
theorem gf376_42 (hG : Good n L G) : bx d q (.getfield 1142 :: is) nx ls (xR 376 :: st) (V, G) = bx d q is nx ls (xI (V 376 42) :: st) (V, G) := by
  rw [bx]
  have h : G.1 376 = (21, 0) := gsh hG 376 rfl rfl
  simp only [xs, tA, h]
  rfl
theorem pf376_42 (hG : Good n L G) {x : Int} : bx d q (.putfield 1142 :: is) nx ls (xI x :: xR 376 :: st) (V, G) = bx d q is nx ls st (vA V 376 (vU (V 376) 42 x), G) := by
  rw [bx]
  have h : G.1 376 = (21, 0) := gsh hG 376 rfl rfl
  simp only [xs, tI, tL, tA, h]
  rfl
theorem gf376_43 (hG : Good n L G) : bx d q (.getfield 1143 :: is) nx ls (xR 376 :: st) (V, G) = bx d q is nx ls (xI (V 376 43) :: st) (V, G) := by
  rw [bx]
  have h : G.1 376 = (21, 0) := gsh hG 376 rfl rfl
  simp only [xs, tA, h]
  rfl
theorem pf376_43 (hG : Good n L G) {x : Int} : bx d q (.putfield 1143 :: is) nx ls (xI x :: xR 376 :: st) (V, G) = bx d q is nx ls st (vA V 376 (vU (V 376) 43 x), G) := by
  rw [bx]
  have h : G.1 376 = (21, 0) := gsh hG 376 rfl rfl
  simp only [xs, tI, tL, tA, h]
  rfl
theorem gf376_44 (hG : Good n L G) : bx d q (.getfield 1144 :: is) nx ls (xR 376 :: st) (V, G) = bx d q is nx ls (xR 407 :: st) (V, G) := by
  rw [bx]
  have h : G.1 376 = (21, 0) := gsh hG 376 rfl rfl
  have h2 : G.2.1 376 ((1144 % 100 : Nat) : Int) = some 407 := hG.2.2.1 376 44 407 rfl
  simp only [xs, tA, h]
  rw [h2]; rfl
theorem gf376_45 (hG : Good n L G) : bx d q (.getfield 1145 :: is) nx ls (xR 376 :: st) (V, G) = bx d q is nx ls (xR 408 :: st) (V, G) := by
  rw [bx]
  have h : G.1 376 = (21, 0) := gsh hG 376 rfl rfl
  have h2 : G.2.1 376 ((1145 % 100 : Nat) : Int) = some 408 := hG.2.2.1 376 45 408 rfl
  simp only [xs, tA, h]
  rw [h2]; rfl
theorem gf376_46 (hG : Good n L G) : bx d q (.getfield 1146 :: is) nx ls (xR 376 :: st) (V, G) = bx d q is nx ls (xR 409 :: st) (V, G) := by
  rw [bx]
  have h : G.1 376 = (21, 0) := gsh hG 376 rfl rfl
  have h2 : G.2.1 376 ((1146 % 100 : Nat) : Int) = some 409 := hG.2.2.1 376 46 409 rfl
  simp only [xs, tA, h]
  rw [h2]; rfl
theorem gf376_47 (hG : Good n L G) : bx d q (.getfield 1147 :: is) nx ls (xR 376 :: st) (V, G) = bx d q is nx ls (xI (V 376 47) :: st) (V, G) := by
  rw [bx]
  have h : G.1 376 = (21, 0) := gsh hG 376 rfl rfl
  simp only [xs, tA, h]
  rfl
theorem pf376_47 (hG : Good n L G) {x : Int} : bx d q (.putfield 1147 :: is) nx ls (xI x :: xR 376 :: st) (V, G) = bx d q is nx ls st (vA V 376 (vU (V 376) 47 x), G) := by
  rw [bx]
  have h : G.1 376 = (21, 0) := gsh hG 376 rfl rfl
  simp only [xs, tI, tL, tA, h]
  rfl
theorem gf376_48 (hG : Good n L G) : bx d q (.getfield 1148 :: is) nx ls (xR 376 :: st) (V, G) = bx d q is nx ls (xI (V 376 48) :: st) (V, G) := by
  rw [bx]
  have h : G.1 376 = (21, 0) := gsh hG 376 rfl rfl
  simp only [xs, tA, h]
  rfl
theorem pf376_48 (hG : Good n L G) {x : Int} : bx d q (.putfield 1148 :: is) nx ls (xI x :: xR 376 :: st) (V, G) = bx d q is nx ls st (vA V 376 (vU (V 376) 48 x), G) := by
  rw [bx]
  have h : G.1 376 = (21, 0) := gsh hG 376 rfl rfl
  simp only [xs, tI, tL, tA, h]
  rfl
theorem gf376_49 (hG : Good n L G) : bx d q (.getfield 1149 :: is) nx ls (xR 376 :: st) (V, G) = bx d q is nx ls (xI (V 376 49) :: st) (V, G) := by
  rw [bx]
  have h : G.1 376 = (21, 0) := gsh hG 376 rfl rfl
  simp only [xs, tA, h]
  rfl
theorem pf376_49 (hG : Good n L G) {x : Int} : bx d q (.putfield 1149 :: is) nx ls (xI x :: xR 376 :: st) (V, G) = bx d q is nx ls st (vA V 376 (vU (V 376) 49 x), G) := by
  rw [bx]
  have h : G.1 376 = (21, 0) := gsh hG 376 rfl rfl
  simp only [xs, tI, tL, tA, h]
  rfl
theorem gf376_50 (hG : Good n L G) : bx d q (.getfield 1150 :: is) nx ls (xR 376 :: st) (V, G) = bx d q is nx ls (xI (V 376 50) :: st) (V, G) := by
  rw [bx]
  have h : G.1 376 = (21, 0) := gsh hG 376 rfl rfl
  simp only [xs, tA, h]
  rfl
theorem pf376_50 (hG : Good n L G) {x : Int} (hb : x = 0 ∨ x = 1) : bx d q (.putfield 1150 :: is) nx ls (xI x :: xR 376 :: st) (V, G) = bx d q is nx ls st (vA V 376 (vU (V 376) 50 x), G) := by
  rw [bx]
  have h : G.1 376 = (21, 0) := gsh hG 376 rfl rfl
  simp only [xs, tI, tL, tA, h]
  rw [if_neg (show ¬ fT (1150 / 100) (1150 % 100) = 0 by decide +kernel), if_pos (show fT (1150 / 100) (1150 % 100) = 1 by decide +kernel), if_pos ⟨trivial, hb⟩]
  rfl
theorem gf376_51 (hG : Good n L G) : bx d q (.getfield 1151 :: is) nx ls (xR 376 :: st) (V, G) = bx d q is nx ls (xR 410 :: st) (V, G) := by
  rw [bx]
  have h : G.1 376 = (21, 0) := gsh hG 376 rfl rfl
  have h2 : G.2.1 376 ((1151 % 100 : Nat) : Int) = some 410 := hG.2.2.1 376 51 410 rfl
  simp only [xs, tA, h]
  rw [h2]; rfl
def isRow (r : Nat) : Prop := r = 29 ∨ (∃ k : Nat, k < 51 ∧ r = 41 + 3 * k) ∨ (∃ k : Nat, k < 6 ∧ r = 194 + 3 * k)
theorem rw_tab : ∀ r, r < 411 → (r = 29 ∨ (41 ≤ r ∧ r < 212 ∧ (r + 1) % 3 = 0)) → shL.getD r (0, 0) = (16, 0) ∧ shL.getD (r + 1) (0, 0) = (1, 10) ∧ shL.getD (r + 2) (0, 0) = (1, 10) ∧ (rfL.getD r []).getD 0 none = some (r + 1) ∧ (rfL.getD r []).getD 1 none = some (r + 2) := by decide +kernel
theorem isRow_in {r : Nat} (h : isRow r) : r < 411 ∧ (r = 29 ∨ (41 ≤ r ∧ r < 212 ∧ (r + 1) % 3 = 0)) := by
  rcases h with h | ⟨k, h1, h2⟩ | ⟨k, h1, h2⟩ <;> omega
theorem rw_sh0 (hG : Good n L G) {r : Nat} (h : isRow r) : G.1 (r + 0) = (16, 0) := by
  obtain ⟨h1, h2⟩ := isRow_in h
  have h3 := rw_tab r h1 h2
  refine gsh hG (r + 0) ?_ ?_
  · unfold okI
    rw [if_neg (by omega), if_neg (by omega), if_neg (by omega), if_neg (by omega)]
    exact decide_eq_true (by omega)
  · unfold shF
    rw [if_neg (by omega), if_neg (by omega), if_neg (by omega), if_neg (by omega), if_neg (by omega)]
    exact h3.1
theorem rw_sh1 (hG : Good n L G) {r : Nat} (h : isRow r) : G.1 (r + 1) = (1, 10) := by
  obtain ⟨h1, h2⟩ := isRow_in h
  have h3 := rw_tab r h1 h2
  refine gsh hG (r + 1) ?_ ?_
  · unfold okI
    rw [if_neg (by omega), if_neg (by omega), if_neg (by omega), if_neg (by omega)]
    exact decide_eq_true (by omega)
  · unfold shF
    rw [if_neg (by omega), if_neg (by omega), if_neg (by omega), if_neg (by omega), if_neg (by omega)]
    exact h3.2.1
theorem rw_sh2 (hG : Good n L G) {r : Nat} (h : isRow r) : G.1 (r + 2) = (1, 10) := by
  obtain ⟨h1, h2⟩ := isRow_in h
  have h3 := rw_tab r h1 h2
  refine gsh hG (r + 2) ?_ ?_
  · unfold okI
    rw [if_neg (by omega), if_neg (by omega), if_neg (by omega), if_neg (by omega)]
    exact decide_eq_true (by omega)
  · unfold shF
    rw [if_neg (by omega), if_neg (by omega), if_neg (by omega), if_neg (by omega), if_neg (by omega)]
    exact h3.2.2.1
theorem rg_lane (hG : Good n L G) {r : Nat} (hr : isRow r) : bx d q (.getfield 600 :: is) nx ls (xR r :: st) (V, G) = bx d q is nx ls (xR (r + 1) :: st) (V, G) := by
  rw [bx]
  have h : G.1 r = (16, 0) := rw_sh0 hG hr
  obtain ⟨h1, h2⟩ := isRow_in hr
  have h3 := rw_tab r h1 h2
  have h4 : G.2.1 r ((600 % 100 : Nat) : Int) = some (r + 1) := hG.2.2.1 r 0 _ h3.2.2.2.1
  simp only [xs, tA, h]
  rw [h4]; rfl
theorem ri_lane (hG : Good n L G) {r : Nat} (hr : isRow r) {j : Int} (h0 : 0 ≤ j) (h : j < 10) : bx d q (.iaload :: is) nx ls (xI j :: xR (r + 1) :: st) (V, G) = bx d q is nx ls (xI (V (r + 1) j) :: st) (V, G) := bx_iald (rw_sh1 hG hr) h0 h
theorem rs_lane (hG : Good n L G) {r : Nat} (hr : isRow r) {j x : Int} (h0 : 0 ≤ j) (h : j < 10) : bx d q (.iastore :: is) nx ls (xI x :: xI j :: xR (r + 1) :: st) (V, G) = bx d q is nx ls st (vA V (r + 1) (vU (V (r + 1)) j x), G) := bx_iast (rw_sh1 hG hr) h0 h
theorem rg_turn (hG : Good n L G) {r : Nat} (hr : isRow r) : bx d q (.getfield 601 :: is) nx ls (xR r :: st) (V, G) = bx d q is nx ls (xR (r + 2) :: st) (V, G) := by
  rw [bx]
  have h : G.1 r = (16, 0) := rw_sh0 hG hr
  obtain ⟨h1, h2⟩ := isRow_in hr
  have h3 := rw_tab r h1 h2
  have h4 : G.2.1 r ((601 % 100 : Nat) : Int) = some (r + 2) := hG.2.2.1 r 1 _ h3.2.2.2.2
  simp only [xs, tA, h]
  rw [h4]; rfl
theorem ri_turn (hG : Good n L G) {r : Nat} (hr : isRow r) {j : Int} (h0 : 0 ≤ j) (h : j < 10) : bx d q (.iaload :: is) nx ls (xI j :: xR (r + 2) :: st) (V, G) = bx d q is nx ls (xI (V (r + 2) j) :: st) (V, G) := bx_iald (rw_sh2 hG hr) h0 h
theorem rs_turn (hG : Good n L G) {r : Nat} (hr : isRow r) {j x : Int} (h0 : 0 ≤ j) (h : j < 10) : bx d q (.iastore :: is) nx ls (xI x :: xI j :: xR (r + 2) :: st) (V, G) = bx d q is nx ls st (vA V (r + 2) (vU (V (r + 2)) j x), G) := bx_iast (rw_sh2 hG hr) h0 h
theorem rg_size (hG : Good n L G) {r : Nat} (hr : isRow r) : bx d q (.getfield 602 :: is) nx ls (xR r :: st) (V, G) = bx d q is nx ls (xI (V r 2) :: st) (V, G) := by
  rw [bx]
  have h : G.1 r = (16, 0) := rw_sh0 hG hr
  simp only [xs, tA, h]
  rfl
theorem rp_size (hG : Good n L G) {r : Nat} (hr : isRow r) {x : Int} : bx d q (.putfield 602 :: is) nx ls (xI x :: xR r :: st) (V, G) = bx d q is nx ls st (vA V r (vU (V r) 2 x), G) := by
  rw [bx]
  have h : G.1 r = (16, 0) := rw_sh0 hG hr
  simp only [xs, tI, tA, h]
  rfl
theorem aa37 (hG : Good n L G) {j : Int} (h0 : 0 ≤ j) (h : j < 51) : bx d q (.aaload :: is) nx ls (xI j :: xR 37 :: st) (V, G) = bx d q is nx ls (xR (41 + 3 * j.toNat) :: st) (V, G) := bx_aald (gsh hG 37 rfl rfl) (Or.inr rfl) h0 h (hG.2.2.2 37 j (41 + 3 * j.toNat) (show (if 0 ≤ j ∧ j < (51 : Int) then some (41 + 3 * j.toNat) else none) = _ from if_pos ⟨h0, h⟩))
theorem aa39 (hG : Good n L G) {j : Int} (h0 : 0 ≤ j) (h : j < 6) : bx d q (.aaload :: is) nx ls (xI j :: xR 39 :: st) (V, G) = bx d q is nx ls (xR (194 + 3 * j.toNat) :: st) (V, G) := bx_aald (gsh hG 39 rfl rfl) (Or.inr rfl) h0 h (hG.2.2.2 39 j (194 + 3 * j.toNat) (show (if 0 ≤ j ∧ j < (6 : Int) then some (194 + 3 * j.toNat) else none) = _ from if_pos ⟨h0, h⟩))
end ST
