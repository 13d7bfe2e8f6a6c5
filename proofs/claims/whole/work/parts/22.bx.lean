/-! BLOCKS: what an instruction does to a row of instructions; conditions are for 'simp (disch := ..)' -/
def isL (v : XV) : Bool := match v with
  | .inr (.inl _) => true
  | _ => false
theorem isL_I (x : Int) : isL (xI x) = false := rfl
theorem isL_R (a : Nat) : isL (xR a) = false := rfl
theorem isL_U : isL xU = false := rfl
theorem if_ff {α : Type} (a b : α) : (if false = true then a else b) = b := rfl
section BX
variable {d q : Nat} {is : List Instr} {nx : Nat} {ls st : List XV} {μ : XM} {V : Nat → Int → Int} {G : XG}
theorem bx_nil : bx d q [] nx ls st μ = run d q nx ls st μ := by rw [bx]
theorem bx_iconst {n : Int} : bx d q (.iconst n :: is) nx ls st μ = bx d q is nx ls (xI n :: st) μ := by rw [bx]; rfl
theorem bx_bipush {n : Int} : bx d q (.bipush n :: is) nx ls st μ = bx d q is nx ls (xI n :: st) μ := by rw [bx]; rfl
theorem bx_sipush {n : Int} : bx d q (.sipush n :: is) nx ls st μ = bx d q is nx ls (xI n :: st) μ := by rw [bx]; rfl
theorem bx_ldc2 {v : Int} : bx d q (.jsr_w v :: is) nx ls st μ = bx d q is nx ls (xL v :: st) μ := by rw [bx]; rfl
theorem bx_lconst0 : bx d q (.lconst 0 :: is) nx ls st μ = bx d q is nx ls (xL 0 :: st) μ := by rw [bx]; rfl
theorem bx_lconst1 : bx d q (.lconst 1 :: is) nx ls st μ = bx d q is nx ls (xL 1 :: st) μ := by rw [bx]; rfl
theorem bx_iload_0 {x : Int} : bx d q (.iload_n 0 :: is) nx (xI x :: ls) st μ = bx d q is nx (xI x :: ls) (xI x :: st) μ := by rw [bx]; rfl
theorem bx_iload_1 {a0 : XV} {x : Int} : bx d q (.iload_n 1 :: is) nx (a0 :: xI x :: ls) st μ = bx d q is nx (a0 :: xI x :: ls) (xI x :: st) μ := by rw [bx]; rfl
theorem bx_iload_2 {a0 a1 : XV} {x : Int} : bx d q (.iload_n 2 :: is) nx (a0 :: a1 :: xI x :: ls) st μ = bx d q is nx (a0 :: a1 :: xI x :: ls) (xI x :: st) μ := by rw [bx]; rfl
theorem bx_iload_3 {a0 a1 a2 : XV} {x : Int} : bx d q (.iload_n 3 :: is) nx (a0 :: a1 :: a2 :: xI x :: ls) st μ = bx d q is nx (a0 :: a1 :: a2 :: xI x :: ls) (xI x :: st) μ := by rw [bx]; rfl
theorem bx_iload4 {a0 a1 a2 a3 : XV} {x : Int} : bx d q (.iload 4 :: is) nx (a0 :: a1 :: a2 :: a3 :: xI x :: ls) st μ = bx d q is nx (a0 :: a1 :: a2 :: a3 :: xI x :: ls) (xI x :: st) μ := by rw [bx]; rfl
theorem bx_iload5 {a0 a1 a2 a3 a4 : XV} {x : Int} : bx d q (.iload 5 :: is) nx (a0 :: a1 :: a2 :: a3 :: a4 :: xI x :: ls) st μ = bx d q is nx (a0 :: a1 :: a2 :: a3 :: a4 :: xI x :: ls) (xI x :: st) μ := by rw [bx]; rfl
theorem bx_iload6 {a0 a1 a2 a3 a4 a5 : XV} {x : Int} : bx d q (.iload 6 :: is) nx (a0 :: a1 :: a2 :: a3 :: a4 :: a5 :: xI x :: ls) st μ = bx d q is nx (a0 :: a1 :: a2 :: a3 :: a4 :: a5 :: xI x :: ls) (xI x :: st) μ := by rw [bx]; rfl
theorem bx_iload7 {a0 a1 a2 a3 a4 a5 a6 : XV} {x : Int} : bx d q (.iload 7 :: is) nx (a0 :: a1 :: a2 :: a3 :: a4 :: a5 :: a6 :: xI x :: ls) st μ = bx d q is nx (a0 :: a1 :: a2 :: a3 :: a4 :: a5 :: a6 :: xI x :: ls) (xI x :: st) μ := by rw [bx]; rfl
theorem bx_iload8 {a0 a1 a2 a3 a4 a5 a6 a7 : XV} {x : Int} : bx d q (.iload 8 :: is) nx (a0 :: a1 :: a2 :: a3 :: a4 :: a5 :: a6 :: a7 :: xI x :: ls) st μ = bx d q is nx (a0 :: a1 :: a2 :: a3 :: a4 :: a5 :: a6 :: a7 :: xI x :: ls) (xI x :: st) μ := by rw [bx]; rfl
theorem bx_iload9 {a0 a1 a2 a3 a4 a5 a6 a7 a8 : XV} {x : Int} : bx d q (.iload 9 :: is) nx (a0 :: a1 :: a2 :: a3 :: a4 :: a5 :: a6 :: a7 :: a8 :: xI x :: ls) st μ = bx d q is nx (a0 :: a1 :: a2 :: a3 :: a4 :: a5 :: a6 :: a7 :: a8 :: xI x :: ls) (xI x :: st) μ := by rw [bx]; rfl
theorem bx_iload10 {a0 a1 a2 a3 a4 a5 a6 a7 a8 a9 : XV} {x : Int} : bx d q (.iload 10 :: is) nx (a0 :: a1 :: a2 :: a3 :: a4 :: a5 :: a6 :: a7 :: a8 :: a9 :: xI x :: ls) st μ = bx d q is nx (a0 :: a1 :: a2 :: a3 :: a4 :: a5 :: a6 :: a7 :: a8 :: a9 :: xI x :: ls) (xI x :: st) μ := by rw [bx]; rfl
theorem bx_lload_0 {x : Int} : bx d q (.lload_n 0 :: is) nx (xL x :: ls) st μ = bx d q is nx (xL x :: ls) (xL x :: st) μ := by rw [bx]; rfl
theorem bx_lload_1 {a0 : XV} {x : Int} : bx d q (.lload_n 1 :: is) nx (a0 :: xL x :: ls) st μ = bx d q is nx (a0 :: xL x :: ls) (xL x :: st) μ := by rw [bx]; rfl
theorem bx_lload_2 {a0 a1 : XV} {x : Int} : bx d q (.lload_n 2 :: is) nx (a0 :: a1 :: xL x :: ls) st μ = bx d q is nx (a0 :: a1 :: xL x :: ls) (xL x :: st) μ := by rw [bx]; rfl
theorem bx_lload_3 {a0 a1 a2 : XV} {x : Int} : bx d q (.lload_n 3 :: is) nx (a0 :: a1 :: a2 :: xL x :: ls) st μ = bx d q is nx (a0 :: a1 :: a2 :: xL x :: ls) (xL x :: st) μ := by rw [bx]; rfl
theorem bx_lload4 {a0 a1 a2 a3 : XV} {x : Int} : bx d q (.lload 4 :: is) nx (a0 :: a1 :: a2 :: a3 :: xL x :: ls) st μ = bx d q is nx (a0 :: a1 :: a2 :: a3 :: xL x :: ls) (xL x :: st) μ := by rw [bx]; rfl
theorem bx_lload5 {a0 a1 a2 a3 a4 : XV} {x : Int} : bx d q (.lload 5 :: is) nx (a0 :: a1 :: a2 :: a3 :: a4 :: xL x :: ls) st μ = bx d q is nx (a0 :: a1 :: a2 :: a3 :: a4 :: xL x :: ls) (xL x :: st) μ := by rw [bx]; rfl
theorem bx_lload6 {a0 a1 a2 a3 a4 a5 : XV} {x : Int} : bx d q (.lload 6 :: is) nx (a0 :: a1 :: a2 :: a3 :: a4 :: a5 :: xL x :: ls) st μ = bx d q is nx (a0 :: a1 :: a2 :: a3 :: a4 :: a5 :: xL x :: ls) (xL x :: st) μ := by rw [bx]; rfl
theorem bx_lload7 {a0 a1 a2 a3 a4 a5 a6 : XV} {x : Int} : bx d q (.lload 7 :: is) nx (a0 :: a1 :: a2 :: a3 :: a4 :: a5 :: a6 :: xL x :: ls) st μ = bx d q is nx (a0 :: a1 :: a2 :: a3 :: a4 :: a5 :: a6 :: xL x :: ls) (xL x :: st) μ := by rw [bx]; rfl
theorem bx_lload8 {a0 a1 a2 a3 a4 a5 a6 a7 : XV} {x : Int} : bx d q (.lload 8 :: is) nx (a0 :: a1 :: a2 :: a3 :: a4 :: a5 :: a6 :: a7 :: xL x :: ls) st μ = bx d q is nx (a0 :: a1 :: a2 :: a3 :: a4 :: a5 :: a6 :: a7 :: xL x :: ls) (xL x :: st) μ := by rw [bx]; rfl
theorem bx_lload9 {a0 a1 a2 a3 a4 a5 a6 a7 a8 : XV} {x : Int} : bx d q (.lload 9 :: is) nx (a0 :: a1 :: a2 :: a3 :: a4 :: a5 :: a6 :: a7 :: a8 :: xL x :: ls) st μ = bx d q is nx (a0 :: a1 :: a2 :: a3 :: a4 :: a5 :: a6 :: a7 :: a8 :: xL x :: ls) (xL x :: st) μ := by rw [bx]; rfl
theorem bx_lload10 {a0 a1 a2 a3 a4 a5 a6 a7 a8 a9 : XV} {x : Int} : bx d q (.lload 10 :: is) nx (a0 :: a1 :: a2 :: a3 :: a4 :: a5 :: a6 :: a7 :: a8 :: a9 :: xL x :: ls) st μ = bx d q is nx (a0 :: a1 :: a2 :: a3 :: a4 :: a5 :: a6 :: a7 :: a8 :: a9 :: xL x :: ls) (xL x :: st) μ := by rw [bx]; rfl
theorem bx_aload_0 {x : Nat} : bx d q (.aload_n 0 :: is) nx (xR x :: ls) st μ = bx d q is nx (xR x :: ls) (xR x :: st) μ := by rw [bx]; rfl
theorem bx_aload_1 {a0 : XV} {x : Nat} : bx d q (.aload_n 1 :: is) nx (a0 :: xR x :: ls) st μ = bx d q is nx (a0 :: xR x :: ls) (xR x :: st) μ := by rw [bx]; rfl
theorem bx_aload_2 {a0 a1 : XV} {x : Nat} : bx d q (.aload_n 2 :: is) nx (a0 :: a1 :: xR x :: ls) st μ = bx d q is nx (a0 :: a1 :: xR x :: ls) (xR x :: st) μ := by rw [bx]; rfl
theorem bx_aload_3 {a0 a1 a2 : XV} {x : Nat} : bx d q (.aload_n 3 :: is) nx (a0 :: a1 :: a2 :: xR x :: ls) st μ = bx d q is nx (a0 :: a1 :: a2 :: xR x :: ls) (xR x :: st) μ := by rw [bx]; rfl
theorem bx_aload4 {a0 a1 a2 a3 : XV} {x : Nat} : bx d q (.aload 4 :: is) nx (a0 :: a1 :: a2 :: a3 :: xR x :: ls) st μ = bx d q is nx (a0 :: a1 :: a2 :: a3 :: xR x :: ls) (xR x :: st) μ := by rw [bx]; rfl
theorem bx_aload5 {a0 a1 a2 a3 a4 : XV} {x : Nat} : bx d q (.aload 5 :: is) nx (a0 :: a1 :: a2 :: a3 :: a4 :: xR x :: ls) st μ = bx d q is nx (a0 :: a1 :: a2 :: a3 :: a4 :: xR x :: ls) (xR x :: st) μ := by rw [bx]; rfl
theorem bx_aload6 {a0 a1 a2 a3 a4 a5 : XV} {x : Nat} : bx d q (.aload 6 :: is) nx (a0 :: a1 :: a2 :: a3 :: a4 :: a5 :: xR x :: ls) st μ = bx d q is nx (a0 :: a1 :: a2 :: a3 :: a4 :: a5 :: xR x :: ls) (xR x :: st) μ := by rw [bx]; rfl
theorem bx_aload7 {a0 a1 a2 a3 a4 a5 a6 : XV} {x : Nat} : bx d q (.aload 7 :: is) nx (a0 :: a1 :: a2 :: a3 :: a4 :: a5 :: a6 :: xR x :: ls) st μ = bx d q is nx (a0 :: a1 :: a2 :: a3 :: a4 :: a5 :: a6 :: xR x :: ls) (xR x :: st) μ := by rw [bx]; rfl
theorem bx_aload8 {a0 a1 a2 a3 a4 a5 a6 a7 : XV} {x : Nat} : bx d q (.aload 8 :: is) nx (a0 :: a1 :: a2 :: a3 :: a4 :: a5 :: a6 :: a7 :: xR x :: ls) st μ = bx d q is nx (a0 :: a1 :: a2 :: a3 :: a4 :: a5 :: a6 :: a7 :: xR x :: ls) (xR x :: st) μ := by rw [bx]; rfl
theorem bx_aload9 {a0 a1 a2 a3 a4 a5 a6 a7 a8 : XV} {x : Nat} : bx d q (.aload 9 :: is) nx (a0 :: a1 :: a2 :: a3 :: a4 :: a5 :: a6 :: a7 :: a8 :: xR x :: ls) st μ = bx d q is nx (a0 :: a1 :: a2 :: a3 :: a4 :: a5 :: a6 :: a7 :: a8 :: xR x :: ls) (xR x :: st) μ := by rw [bx]; rfl
theorem bx_aload10 {a0 a1 a2 a3 a4 a5 a6 a7 a8 a9 : XV} {x : Nat} : bx d q (.aload 10 :: is) nx (a0 :: a1 :: a2 :: a3 :: a4 :: a5 :: a6 :: a7 :: a8 :: a9 :: xR x :: ls) st μ = bx d q is nx (a0 :: a1 :: a2 :: a3 :: a4 :: a5 :: a6 :: a7 :: a8 :: a9 :: xR x :: ls) (xR x :: st) μ := by rw [bx]; rfl
theorem bx_istore_0 {b : XV} {x : Int} : bx d q (.istore_n 0 :: is) nx (b :: ls) (xI x :: st) μ = bx d q is nx (xI x :: ls) st μ := by rw [bx]; rfl
theorem bx_istore_1 {a0 b : XV} {x : Int} : bx d q (.istore_n 1 :: is) nx (a0 :: b :: ls) (xI x :: st) μ = if isL a0 = true then none else bx d q is nx (a0 :: xI x :: ls) st μ := by
  rw [bx]
  rcases a0 with y | y | y | y <;> rfl
theorem bx_istore_2 {a0 a1 b : XV} {x : Int} : bx d q (.istore_n 2 :: is) nx (a0 :: a1 :: b :: ls) (xI x :: st) μ = if isL a1 = true then none else bx d q is nx (a0 :: a1 :: xI x :: ls) st μ := by
  rw [bx]
  rcases a1 with y | y | y | y <;> rfl
theorem bx_istore_3 {a0 a1 a2 b : XV} {x : Int} : bx d q (.istore_n 3 :: is) nx (a0 :: a1 :: a2 :: b :: ls) (xI x :: st) μ = if isL a2 = true then none else bx d q is nx (a0 :: a1 :: a2 :: xI x :: ls) st μ := by
  rw [bx]
  rcases a2 with y | y | y | y <;> rfl
theorem bx_istore4 {a0 a1 a2 a3 b : XV} {x : Int} : bx d q (.istore 4 :: is) nx (a0 :: a1 :: a2 :: a3 :: b :: ls) (xI x :: st) μ = if isL a3 = true then none else bx d q is nx (a0 :: a1 :: a2 :: a3 :: xI x :: ls) st μ := by
  rw [bx]
  rcases a3 with y | y | y | y <;> rfl
theorem bx_istore5 {a0 a1 a2 a3 a4 b : XV} {x : Int} : bx d q (.istore 5 :: is) nx (a0 :: a1 :: a2 :: a3 :: a4 :: b :: ls) (xI x :: st) μ = if isL a4 = true then none else bx d q is nx (a0 :: a1 :: a2 :: a3 :: a4 :: xI x :: ls) st μ := by
  rw [bx]
  rcases a4 with y | y | y | y <;> rfl
theorem bx_istore6 {a0 a1 a2 a3 a4 a5 b : XV} {x : Int} : bx d q (.istore 6 :: is) nx (a0 :: a1 :: a2 :: a3 :: a4 :: a5 :: b :: ls) (xI x :: st) μ = if isL a5 = true then none else bx d q is nx (a0 :: a1 :: a2 :: a3 :: a4 :: a5 :: xI x :: ls) st μ := by
  rw [bx]
  rcases a5 with y | y | y | y <;> rfl
theorem bx_istore7 {a0 a1 a2 a3 a4 a5 a6 b : XV} {x : Int} : bx d q (.istore 7 :: is) nx (a0 :: a1 :: a2 :: a3 :: a4 :: a5 :: a6 :: b :: ls) (xI x :: st) μ = if isL a6 = true then none else bx d q is nx (a0 :: a1 :: a2 :: a3 :: a4 :: a5 :: a6 :: xI x :: ls) st μ := by
  rw [bx]
  rcases a6 with y | y | y | y <;> rfl
theorem bx_istore8 {a0 a1 a2 a3 a4 a5 a6 a7 b : XV} {x : Int} : bx d q (.istore 8 :: is) nx (a0 :: a1 :: a2 :: a3 :: a4 :: a5 :: a6 :: a7 :: b :: ls) (xI x :: st) μ = if isL a7 = true then none else bx d q is nx (a0 :: a1 :: a2 :: a3 :: a4 :: a5 :: a6 :: a7 :: xI x :: ls) st μ := by
  rw [bx]
  rcases a7 with y | y | y | y <;> rfl
theorem bx_istore9 {a0 a1 a2 a3 a4 a5 a6 a7 a8 b : XV} {x : Int} : bx d q (.istore 9 :: is) nx (a0 :: a1 :: a2 :: a3 :: a4 :: a5 :: a6 :: a7 :: a8 :: b :: ls) (xI x :: st) μ = if isL a8 = true then none else bx d q is nx (a0 :: a1 :: a2 :: a3 :: a4 :: a5 :: a6 :: a7 :: a8 :: xI x :: ls) st μ := by
  rw [bx]
  rcases a8 with y | y | y | y <;> rfl
theorem bx_istore10 {a0 a1 a2 a3 a4 a5 a6 a7 a8 a9 b : XV} {x : Int} : bx d q (.istore 10 :: is) nx (a0 :: a1 :: a2 :: a3 :: a4 :: a5 :: a6 :: a7 :: a8 :: a9 :: b :: ls) (xI x :: st) μ = if isL a9 = true then none else bx d q is nx (a0 :: a1 :: a2 :: a3 :: a4 :: a5 :: a6 :: a7 :: a8 :: a9 :: xI x :: ls) st μ := by
  rw [bx]
  rcases a9 with y | y | y | y <;> rfl
theorem bx_astore_0 {b : XV} {x : Nat} : bx d q (.astore_n 0 :: is) nx (b :: ls) (xR x :: st) μ = bx d q is nx (xR x :: ls) st μ := by rw [bx]; rfl
theorem bx_astore_1 {a0 b : XV} {x : Nat} : bx d q (.astore_n 1 :: is) nx (a0 :: b :: ls) (xR x :: st) μ = if isL a0 = true then none else bx d q is nx (a0 :: xR x :: ls) st μ := by
  rw [bx]
  rcases a0 with y | y | y | y <;> rfl
theorem bx_astore_2 {a0 a1 b : XV} {x : Nat} : bx d q (.astore_n 2 :: is) nx (a0 :: a1 :: b :: ls) (xR x :: st) μ = if isL a1 = true then none else bx d q is nx (a0 :: a1 :: xR x :: ls) st μ := by
  rw [bx]
  rcases a1 with y | y | y | y <;> rfl
theorem bx_astore_3 {a0 a1 a2 b : XV} {x : Nat} : bx d q (.astore_n 3 :: is) nx (a0 :: a1 :: a2 :: b :: ls) (xR x :: st) μ = if isL a2 = true then none else bx d q is nx (a0 :: a1 :: a2 :: xR x :: ls) st μ := by
  rw [bx]
  rcases a2 with y | y | y | y <;> rfl
theorem bx_astore4 {a0 a1 a2 a3 b : XV} {x : Nat} : bx d q (.astore 4 :: is) nx (a0 :: a1 :: a2 :: a3 :: b :: ls) (xR x :: st) μ = if isL a3 = true then none else bx d q is nx (a0 :: a1 :: a2 :: a3 :: xR x :: ls) st μ := by
  rw [bx]
  rcases a3 with y | y | y | y <;> rfl
theorem bx_astore5 {a0 a1 a2 a3 a4 b : XV} {x : Nat} : bx d q (.astore 5 :: is) nx (a0 :: a1 :: a2 :: a3 :: a4 :: b :: ls) (xR x :: st) μ = if isL a4 = true then none else bx d q is nx (a0 :: a1 :: a2 :: a3 :: a4 :: xR x :: ls) st μ := by
  rw [bx]
  rcases a4 with y | y | y | y <;> rfl
theorem bx_astore6 {a0 a1 a2 a3 a4 a5 b : XV} {x : Nat} : bx d q (.astore 6 :: is) nx (a0 :: a1 :: a2 :: a3 :: a4 :: a5 :: b :: ls) (xR x :: st) μ = if isL a5 = true then none else bx d q is nx (a0 :: a1 :: a2 :: a3 :: a4 :: a5 :: xR x :: ls) st μ := by
  rw [bx]
  rcases a5 with y | y | y | y <;> rfl
theorem bx_astore7 {a0 a1 a2 a3 a4 a5 a6 b : XV} {x : Nat} : bx d q (.astore 7 :: is) nx (a0 :: a1 :: a2 :: a3 :: a4 :: a5 :: a6 :: b :: ls) (xR x :: st) μ = if isL a6 = true then none else bx d q is nx (a0 :: a1 :: a2 :: a3 :: a4 :: a5 :: a6 :: xR x :: ls) st μ := by
  rw [bx]
  rcases a6 with y | y | y | y <;> rfl
theorem bx_astore8 {a0 a1 a2 a3 a4 a5 a6 a7 b : XV} {x : Nat} : bx d q (.astore 8 :: is) nx (a0 :: a1 :: a2 :: a3 :: a4 :: a5 :: a6 :: a7 :: b :: ls) (xR x :: st) μ = if isL a7 = true then none else bx d q is nx (a0 :: a1 :: a2 :: a3 :: a4 :: a5 :: a6 :: a7 :: xR x :: ls) st μ := by
  rw [bx]
  rcases a7 with y | y | y | y <;> rfl
theorem bx_astore9 {a0 a1 a2 a3 a4 a5 a6 a7 a8 b : XV} {x : Nat} : bx d q (.astore 9 :: is) nx (a0 :: a1 :: a2 :: a3 :: a4 :: a5 :: a6 :: a7 :: a8 :: b :: ls) (xR x :: st) μ = if isL a8 = true then none else bx d q is nx (a0 :: a1 :: a2 :: a3 :: a4 :: a5 :: a6 :: a7 :: a8 :: xR x :: ls) st μ := by
  rw [bx]
  rcases a8 with y | y | y | y <;> rfl
theorem bx_astore10 {a0 a1 a2 a3 a4 a5 a6 a7 a8 a9 b : XV} {x : Nat} : bx d q (.astore 10 :: is) nx (a0 :: a1 :: a2 :: a3 :: a4 :: a5 :: a6 :: a7 :: a8 :: a9 :: b :: ls) (xR x :: st) μ = if isL a9 = true then none else bx d q is nx (a0 :: a1 :: a2 :: a3 :: a4 :: a5 :: a6 :: a7 :: a8 :: a9 :: xR x :: ls) st μ := by
  rw [bx]
  rcases a9 with y | y | y | y <;> rfl
theorem bx_lstore_1 {a0 b b2 : XV} {x : Int} : bx d q (.lstore_n 1 :: is) nx (a0 :: b :: b2 :: ls) (xL x :: st) μ = if isL a0 = true then none else bx d q is nx (a0 :: xL x :: xU :: ls) st μ := by
  rw [bx]
  rcases a0 with y | y | y | y <;> rfl
theorem bx_lstore_2 {a0 a1 b b2 : XV} {x : Int} : bx d q (.lstore_n 2 :: is) nx (a0 :: a1 :: b :: b2 :: ls) (xL x :: st) μ = if isL a1 = true then none else bx d q is nx (a0 :: a1 :: xL x :: xU :: ls) st μ := by
  rw [bx]
  rcases a1 with y | y | y | y <;> rfl
theorem bx_lstore_3 {a0 a1 a2 b b2 : XV} {x : Int} : bx d q (.lstore_n 3 :: is) nx (a0 :: a1 :: a2 :: b :: b2 :: ls) (xL x :: st) μ = if isL a2 = true then none else bx d q is nx (a0 :: a1 :: a2 :: xL x :: xU :: ls) st μ := by
  rw [bx]
  rcases a2 with y | y | y | y <;> rfl
theorem bx_lstore4 {a0 a1 a2 a3 b b2 : XV} {x : Int} : bx d q (.lstore 4 :: is) nx (a0 :: a1 :: a2 :: a3 :: b :: b2 :: ls) (xL x :: st) μ = if isL a3 = true then none else bx d q is nx (a0 :: a1 :: a2 :: a3 :: xL x :: xU :: ls) st μ := by
  rw [bx]
  rcases a3 with y | y | y | y <;> rfl
theorem bx_lstore5 {a0 a1 a2 a3 a4 b b2 : XV} {x : Int} : bx d q (.lstore 5 :: is) nx (a0 :: a1 :: a2 :: a3 :: a4 :: b :: b2 :: ls) (xL x :: st) μ = if isL a4 = true then none else bx d q is nx (a0 :: a1 :: a2 :: a3 :: a4 :: xL x :: xU :: ls) st μ := by
  rw [bx]
  rcases a4 with y | y | y | y <;> rfl
theorem bx_lstore6 {a0 a1 a2 a3 a4 a5 b b2 : XV} {x : Int} : bx d q (.lstore 6 :: is) nx (a0 :: a1 :: a2 :: a3 :: a4 :: a5 :: b :: b2 :: ls) (xL x :: st) μ = if isL a5 = true then none else bx d q is nx (a0 :: a1 :: a2 :: a3 :: a4 :: a5 :: xL x :: xU :: ls) st μ := by
  rw [bx]
  rcases a5 with y | y | y | y <;> rfl
theorem bx_lstore7 {a0 a1 a2 a3 a4 a5 a6 b b2 : XV} {x : Int} : bx d q (.lstore 7 :: is) nx (a0 :: a1 :: a2 :: a3 :: a4 :: a5 :: a6 :: b :: b2 :: ls) (xL x :: st) μ = if isL a6 = true then none else bx d q is nx (a0 :: a1 :: a2 :: a3 :: a4 :: a5 :: a6 :: xL x :: xU :: ls) st μ := by
  rw [bx]
  rcases a6 with y | y | y | y <;> rfl
theorem bx_lstore8 {a0 a1 a2 a3 a4 a5 a6 a7 b b2 : XV} {x : Int} : bx d q (.lstore 8 :: is) nx (a0 :: a1 :: a2 :: a3 :: a4 :: a5 :: a6 :: a7 :: b :: b2 :: ls) (xL x :: st) μ = if isL a7 = true then none else bx d q is nx (a0 :: a1 :: a2 :: a3 :: a4 :: a5 :: a6 :: a7 :: xL x :: xU :: ls) st μ := by
  rw [bx]
  rcases a7 with y | y | y | y <;> rfl
theorem bx_lstore9 {a0 a1 a2 a3 a4 a5 a6 a7 a8 b b2 : XV} {x : Int} : bx d q (.lstore 9 :: is) nx (a0 :: a1 :: a2 :: a3 :: a4 :: a5 :: a6 :: a7 :: a8 :: b :: b2 :: ls) (xL x :: st) μ = if isL a8 = true then none else bx d q is nx (a0 :: a1 :: a2 :: a3 :: a4 :: a5 :: a6 :: a7 :: a8 :: xL x :: xU :: ls) st μ := by
  rw [bx]
  rcases a8 with y | y | y | y <;> rfl
theorem bx_iinc1 {a0 : XV} {x n : Int} (h : i32 (x + n)) : bx d q (.iinc 1 n :: is) nx (a0 :: xI x :: ls) st μ = if isL a0 = true then none else bx d q is nx (a0 :: xI (x + n) :: ls) st μ := by
  rw [bx]
  simp only [xs, ldI, List.getElem?_cons_succ, List.getElem?_cons_zero, if_pos h]
  rcases a0 with y | y | y | y <;> rfl
theorem bx_iinc2 {a0 a1 : XV} {x n : Int} (h : i32 (x + n)) : bx d q (.iinc 2 n :: is) nx (a0 :: a1 :: xI x :: ls) st μ = if isL a1 = true then none else bx d q is nx (a0 :: a1 :: xI (x + n) :: ls) st μ := by
  rw [bx]
  simp only [xs, ldI, List.getElem?_cons_succ, List.getElem?_cons_zero, if_pos h]
  rcases a1 with y | y | y | y <;> rfl
theorem bx_iinc3 {a0 a1 a2 : XV} {x n : Int} (h : i32 (x + n)) : bx d q (.iinc 3 n :: is) nx (a0 :: a1 :: a2 :: xI x :: ls) st μ = if isL a2 = true then none else bx d q is nx (a0 :: a1 :: a2 :: xI (x + n) :: ls) st μ := by
  rw [bx]
  simp only [xs, ldI, List.getElem?_cons_succ, List.getElem?_cons_zero, if_pos h]
  rcases a2 with y | y | y | y <;> rfl
theorem bx_iinc4 {a0 a1 a2 a3 : XV} {x n : Int} (h : i32 (x + n)) : bx d q (.iinc 4 n :: is) nx (a0 :: a1 :: a2 :: a3 :: xI x :: ls) st μ = if isL a3 = true then none else bx d q is nx (a0 :: a1 :: a2 :: a3 :: xI (x + n) :: ls) st μ := by
  rw [bx]
  simp only [xs, ldI, List.getElem?_cons_succ, List.getElem?_cons_zero, if_pos h]
  rcases a3 with y | y | y | y <;> rfl
theorem bx_iinc5 {a0 a1 a2 a3 a4 : XV} {x n : Int} (h : i32 (x + n)) : bx d q (.iinc 5 n :: is) nx (a0 :: a1 :: a2 :: a3 :: a4 :: xI x :: ls) st μ = if isL a4 = true then none else bx d q is nx (a0 :: a1 :: a2 :: a3 :: a4 :: xI (x + n) :: ls) st μ := by
  rw [bx]
  simp only [xs, ldI, List.getElem?_cons_succ, List.getElem?_cons_zero, if_pos h]
  rcases a4 with y | y | y | y <;> rfl
theorem bx_iinc6 {a0 a1 a2 a3 a4 a5 : XV} {x n : Int} (h : i32 (x + n)) : bx d q (.iinc 6 n :: is) nx (a0 :: a1 :: a2 :: a3 :: a4 :: a5 :: xI x :: ls) st μ = if isL a5 = true then none else bx d q is nx (a0 :: a1 :: a2 :: a3 :: a4 :: a5 :: xI (x + n) :: ls) st μ := by
  rw [bx]
  simp only [xs, ldI, List.getElem?_cons_succ, List.getElem?_cons_zero, if_pos h]
  rcases a5 with y | y | y | y <;> rfl
theorem bx_iinc7 {a0 a1 a2 a3 a4 a5 a6 : XV} {x n : Int} (h : i32 (x + n)) : bx d q (.iinc 7 n :: is) nx (a0 :: a1 :: a2 :: a3 :: a4 :: a5 :: a6 :: xI x :: ls) st μ = if isL a6 = true then none else bx d q is nx (a0 :: a1 :: a2 :: a3 :: a4 :: a5 :: a6 :: xI (x + n) :: ls) st μ := by
  rw [bx]
  simp only [xs, ldI, List.getElem?_cons_succ, List.getElem?_cons_zero, if_pos h]
  rcases a6 with y | y | y | y <;> rfl
theorem bx_iinc8 {a0 a1 a2 a3 a4 a5 a6 a7 : XV} {x n : Int} (h : i32 (x + n)) : bx d q (.iinc 8 n :: is) nx (a0 :: a1 :: a2 :: a3 :: a4 :: a5 :: a6 :: a7 :: xI x :: ls) st μ = if isL a7 = true then none else bx d q is nx (a0 :: a1 :: a2 :: a3 :: a4 :: a5 :: a6 :: a7 :: xI (x + n) :: ls) st μ := by
  rw [bx]
  simp only [xs, ldI, List.getElem?_cons_succ, List.getElem?_cons_zero, if_pos h]
  rcases a7 with y | y | y | y <;> rfl
theorem bx_iinc9 {a0 a1 a2 a3 a4 a5 a6 a7 a8 : XV} {x n : Int} (h : i32 (x + n)) : bx d q (.iinc 9 n :: is) nx (a0 :: a1 :: a2 :: a3 :: a4 :: a5 :: a6 :: a7 :: a8 :: xI x :: ls) st μ = if isL a8 = true then none else bx d q is nx (a0 :: a1 :: a2 :: a3 :: a4 :: a5 :: a6 :: a7 :: a8 :: xI (x + n) :: ls) st μ := by
  rw [bx]
  simp only [xs, ldI, List.getElem?_cons_succ, List.getElem?_cons_zero, if_pos h]
  rcases a8 with y | y | y | y <;> rfl
theorem bx_iinc10 {a0 a1 a2 a3 a4 a5 a6 a7 a8 a9 : XV} {x n : Int} (h : i32 (x + n)) : bx d q (.iinc 10 n :: is) nx (a0 :: a1 :: a2 :: a3 :: a4 :: a5 :: a6 :: a7 :: a8 :: a9 :: xI x :: ls) st μ = if isL a9 = true then none else bx d q is nx (a0 :: a1 :: a2 :: a3 :: a4 :: a5 :: a6 :: a7 :: a8 :: a9 :: xI (x + n) :: ls) st μ := by
  rw [bx]
  simp only [xs, ldI, List.getElem?_cons_succ, List.getElem?_cons_zero, if_pos h]
  rcases a9 with y | y | y | y <;> rfl
theorem bx_iadd {x y : Int} (h : i32 (x + y)) : bx d q (.iadd :: is) nx ls (xI y :: xI x :: st) μ = bx d q is nx ls (xI (x + y) :: st) μ := by rw [bx]; simp only [xs, bI, bL, tI, tL, tA, if_pos h]
theorem bx_isub {x y : Int} (h : i32 (x - y)) : bx d q (.isub :: is) nx ls (xI y :: xI x :: st) μ = bx d q is nx ls (xI (x - y) :: st) μ := by rw [bx]; simp only [xs, bI, bL, tI, tL, tA, if_pos h]
theorem bx_imul {x y : Int} (h : i32 (x * y)) : bx d q (.imul :: is) nx ls (xI y :: xI x :: st) μ = bx d q is nx ls (xI (x * y) :: st) μ := by rw [bx]; simp only [xs, bI, bL, tI, tL, tA, if_pos h]
theorem bx_idiv {x y : Int} (h : 0 < y) : bx d q (.idiv :: is) nx ls (xI y :: xI x :: st) μ = bx d q is nx ls (xI (x.tdiv y) :: st) μ := by rw [bx]; simp only [xs, bI, bL, tI, tL, tA, if_pos h]
theorem bx_irem {x y : Int} (h : 0 < y) : bx d q (.irem :: is) nx ls (xI y :: xI x :: st) μ = bx d q is nx ls (xI (x.tmod y) :: st) μ := by rw [bx]; simp only [xs, bI, bL, tI, tL, tA, if_pos h]
theorem bx_ineg {x : Int} (h : i32 (-x)) : bx d q (.ineg :: is) nx ls (xI x :: st) μ = bx d q is nx ls (xI (-x) :: st) μ := by rw [bx]; simp only [xs, bI, bL, tI, tL, tA, if_pos h]
theorem bx_iand {x y : Int} : bx d q (.iand :: is) nx ls (xI y :: xI x :: st) μ = bx d q is nx ls (xI (b32 (fun a b => a &&& b) x y) :: st) μ := by rw [bx]; rfl
theorem bx_ior {x y : Int} : bx d q (.ior :: is) nx ls (xI y :: xI x :: st) μ = bx d q is nx ls (xI (b32 (fun a b => a ||| b) x y) :: st) μ := by rw [bx]; rfl
theorem bx_ixor {x y : Int} : bx d q (.ixor :: is) nx ls (xI y :: xI x :: st) μ = bx d q is nx ls (xI (b32 (fun a b => a ^^^ b) x y) :: st) μ := by rw [bx]; rfl
theorem bx_ishl {x y : Int} : bx d q (.ishl :: is) nx ls (xI y :: xI x :: st) μ = bx d q is nx ls (xI (b32 (fun a b => a <<< (b &&& 31)) x y) :: st) μ := by rw [bx]; rfl
theorem bx_ishr {x y : Int} : bx d q (.ishr :: is) nx ls (xI y :: xI x :: st) μ = bx d q is nx ls (xI (b32 (fun a b => a >>> (b &&& 31)) x y) :: st) μ := by rw [bx]; rfl
theorem bx_i2l {x : Int} : bx d q (.i2l :: is) nx ls (xI x :: st) μ = bx d q is nx ls (xL x :: st) μ := by rw [bx]; rfl
theorem bx_l2i {x : Int} : bx d q (.l2i :: is) nx ls (xL x :: st) μ = bx d q is nx ls (xI (Int64.ofInt x).toInt32.toInt :: st) μ := by rw [bx]; rfl
theorem bx_lmul {x y : Int} (h : i64 (x * y)) : bx d q (.lmul :: is) nx ls (xL y :: xL x :: st) μ = bx d q is nx ls (xL (x * y) :: st) μ := by rw [bx]; simp only [xs, bI, bL, tI, tL, tA, if_pos h]
theorem bx_ldiv {x y : Int} (h : 0 < y) : bx d q (.ldiv :: is) nx ls (xL y :: xL x :: st) μ = bx d q is nx ls (xL (x.tdiv y) :: st) μ := by rw [bx]; simp only [xs, bI, bL, tI, tL, tA, if_pos h]
theorem bx_lrem {x y : Int} (h : 0 < y) : bx d q (.lrem :: is) nx ls (xL y :: xL x :: st) μ = bx d q is nx ls (xL (x.tmod y) :: st) μ := by rw [bx]; simp only [xs, bI, bL, tI, tL, tA, if_pos h]
theorem bx_land {x y : Int} : bx d q (.land :: is) nx ls (xL y :: xL x :: st) μ = bx d q is nx ls (xL (b64 (fun a b => a &&& b) x y) :: st) μ := by rw [bx]; rfl
theorem bx_lor {x y : Int} : bx d q (.lor :: is) nx ls (xL y :: xL x :: st) μ = bx d q is nx ls (xL (b64 (fun a b => a ||| b) x y) :: st) μ := by rw [bx]; rfl
theorem bx_lshl {x y : Int} : bx d q (.lshl :: is) nx ls (xI y :: xL x :: st) μ = bx d q is nx ls (xL (s64 (fun a b => a <<< (b.toInt64 &&& 63)) x y) :: st) μ := by rw [bx]; rfl
theorem bx_lshr {x y : Int} : bx d q (.lshr :: is) nx ls (xI y :: xL x :: st) μ = bx d q is nx ls (xL (s64 (fun a b => a >>> (b.toInt64 &&& 63)) x y) :: st) μ := by rw [bx]; rfl
theorem bx_lushr {x y : Int} : bx d q (.lushr :: is) nx ls (xI y :: xL x :: st) μ = bx d q is nx ls (xL (s64 (fun a b => (a.toUInt64 >>> (b.toInt64.toUInt64 &&& Int64.toUInt64 63)).toInt64) x y) :: st) μ := by rw [bx]; rfl
theorem bx_lcmp {x y : Int} : bx d q (.lcmp :: is) nx ls (xL y :: xL x :: st) μ = bx d q is nx ls (xI (if x < y then -1 else if x = y then 0 else 1) :: st) μ := by rw [bx]; rfl
theorem bx_dupI {x : Int} : bx d q (.dup :: is) nx ls (xI x :: st) μ = bx d q is nx ls (xI x :: xI x :: st) μ := by rw [bx]; rfl
theorem bx_dupR {x : Nat} : bx d q (.dup :: is) nx ls (xR x :: st) μ = bx d q is nx ls (xR x :: xR x :: st) μ := by rw [bx]; rfl
theorem bx_dup_x1 {x : Int} {a : Nat} : bx d q (.dup_x1 :: is) nx ls (xI x :: xR a :: st) μ = bx d q is nx ls (xI x :: xR a :: xI x :: st) μ := by rw [bx]; rfl
theorem bx_dup2 {x : Int} {a : Nat} : bx d q (.dup2 :: is) nx ls (xI x :: xR a :: st) μ = bx d q is nx ls (xI x :: xR a :: xI x :: xR a :: st) μ := by rw [bx]; rfl
theorem bx_if_eq {x t : Int} : bx d q (.ifCond .eq t :: is) nx ls (xI x :: st) μ = if x = 0 then run d q t.toNat ls st μ else bx d q is nx ls st μ := by
  rw [bx]
  simp only [xs, bI, tI, br]
  by_cases h : x = 0
  · simp only [if_pos h]
  · simp only [if_neg h]
theorem bx_ic_eq {x y t : Int} : bx d q (.if_icmp .eq t :: is) nx ls (xI y :: xI x :: st) μ = if x = y then run d q t.toNat ls st μ else bx d q is nx ls st μ := by
  rw [bx]
  simp only [xs, bI, tI, br]
  by_cases h : x = y
  · simp only [if_pos h]
  · simp only [if_neg h]
theorem bx_if_ne {x t : Int} : bx d q (.ifCond .ne t :: is) nx ls (xI x :: st) μ = if x = 0 then bx d q is nx ls st μ else run d q t.toNat ls st μ := by
  rw [bx]
  simp only [xs, bI, tI, br]
  by_cases h : x = 0
  · simp only [if_pos h]
  · simp only [if_neg h]
theorem bx_ic_ne {x y t : Int} : bx d q (.if_icmp .ne t :: is) nx ls (xI y :: xI x :: st) μ = if x = y then bx d q is nx ls st μ else run d q t.toNat ls st μ := by
  rw [bx]
  simp only [xs, bI, tI, br]
  by_cases h : x = y
  · simp only [if_pos h]
  · simp only [if_neg h]
theorem bx_if_lt {x t : Int} : bx d q (.ifCond .lt t :: is) nx ls (xI x :: st) μ = if x < 0 then run d q t.toNat ls st μ else bx d q is nx ls st μ := by
  rw [bx]
  simp only [xs, bI, tI, br]
  by_cases h : x < 0
  · simp only [if_pos h]
  · simp only [if_neg h]
theorem bx_ic_lt {x y t : Int} : bx d q (.if_icmp .lt t :: is) nx ls (xI y :: xI x :: st) μ = if x < y then run d q t.toNat ls st μ else bx d q is nx ls st μ := by
  rw [bx]
  simp only [xs, bI, tI, br]
  by_cases h : x < y
  · simp only [if_pos h]
  · simp only [if_neg h]
theorem bx_if_ge {x t : Int} : bx d q (.ifCond .ge t :: is) nx ls (xI x :: st) μ = if 0 ≤ x then run d q t.toNat ls st μ else bx d q is nx ls st μ := by
  rw [bx]
  simp only [xs, bI, tI, br]
  by_cases h : 0 ≤ x
  · simp only [if_pos h]
  · simp only [if_neg h]
theorem bx_ic_ge {x y t : Int} : bx d q (.if_icmp .ge t :: is) nx ls (xI y :: xI x :: st) μ = if y ≤ x then run d q t.toNat ls st μ else bx d q is nx ls st μ := by
  rw [bx]
  simp only [xs, bI, tI, br]
  by_cases h : y ≤ x
  · simp only [if_pos h]
  · simp only [if_neg h]
theorem bx_if_gt {x t : Int} : bx d q (.ifCond .gt t :: is) nx ls (xI x :: st) μ = if 0 < x then run d q t.toNat ls st μ else bx d q is nx ls st μ := by
  rw [bx]
  simp only [xs, bI, tI, br]
  by_cases h : 0 < x
  · simp only [if_pos h]
  · simp only [if_neg h]
theorem bx_ic_gt {x y t : Int} : bx d q (.if_icmp .gt t :: is) nx ls (xI y :: xI x :: st) μ = if y < x then run d q t.toNat ls st μ else bx d q is nx ls st μ := by
  rw [bx]
  simp only [xs, bI, tI, br]
  by_cases h : y < x
  · simp only [if_pos h]
  · simp only [if_neg h]
theorem bx_if_le {x t : Int} : bx d q (.ifCond .le t :: is) nx ls (xI x :: st) μ = if x ≤ 0 then run d q t.toNat ls st μ else bx d q is nx ls st μ := by
  rw [bx]
  simp only [xs, bI, tI, br]
  by_cases h : x ≤ 0
  · simp only [if_pos h]
  · simp only [if_neg h]
theorem bx_ic_le {x y t : Int} : bx d q (.if_icmp .le t :: is) nx ls (xI y :: xI x :: st) μ = if x ≤ y then run d q t.toNat ls st μ else bx d q is nx ls st μ := by
  rw [bx]
  simp only [xs, bI, tI, br]
  by_cases h : x ≤ y
  · simp only [if_pos h]
  · simp only [if_neg h]
theorem bx_goto {t : Int} : bx d q (.goto t :: is) nx ls st μ = run d q t.toNat ls st μ := by rw [bx]; rfl
theorem bx_iret {x : Int} : bx d q (.ireturn :: is) nx ls [xI x] μ = some (some (xI x), μ) := by rw [bx]; rfl
theorem bx_zret {x : Int} (h : x = 0 ∨ x = 1) : bx d q (.freturn :: is) nx ls [xI x] μ = some (some (xI x), μ) := by rw [bx]; simp only [xs, if_pos h]
theorem bx_aret {a : Nat} : bx d q (.areturn :: is) nx ls [xR a] μ = some (some (xR a), μ) := by rw [bx]; rfl
theorem bx_vret : bx d q (.return_ :: is) nx ls [] μ = some (none, μ) := by rw [bx]; rfl
theorem bx_alen {a k n : Nat} (hs : G.1 a = (k, n)) (h : (k = 1 ∨ k = 3 ∨ k = 9) ∧ n ≤ 100000) : bx d q (.arraylength :: is) nx ls (xR a :: st) (V, G) = bx d q is nx ls (xI (n : Nat) :: st) (V, G) := by
  rw [bx]
  simp only [xs, tA, hs, if_pos h]
theorem bx_iald {a n : Nat} {j : Int} (hs : G.1 a = (1, n)) (h0 : 0 ≤ j) (h : j < n) : bx d q (.iaload :: is) nx ls (xI j :: xR a :: st) (V, G) = bx d q is nx ls (xI (V a j) :: st) (V, G) := by
  rw [bx]
  simp only [xs, tI, tA, hs]
  rw [if_pos ⟨Or.inl trivial, h0, h⟩]
theorem bx_sald {a n : Nat} {j : Int} (hs : G.1 a = (9, n)) (h0 : 0 ≤ j) (h : j < n) : bx d q (.iaload :: is) nx ls (xI j :: xR a :: st) (V, G) = bx d q is nx ls (xI (V a j) :: st) (V, G) := by
  rw [bx]
  simp only [xs, tI, tA, hs]
  rw [if_pos ⟨Or.inr trivial, h0, h⟩]
theorem bx_zald {a n : Nat} {j : Int} (hs : G.1 a = (2, n)) (h0 : 0 ≤ j) (h : j < n) : bx d q (.baload :: is) nx ls (xI j :: xR a :: st) (V, G) = bx d q is nx ls (xI (V a j) :: st) (V, G) := by
  rw [bx]
  simp only [xs, tI, tA, hs]
  rw [if_pos ⟨trivial, h0, h⟩]
theorem bx_lald {a n : Nat} {j : Int} (hs : G.1 a = (3, n)) (h0 : 0 ≤ j) (h : j < n) : bx d q (.laload :: is) nx ls (xI j :: xR a :: st) (V, G) = bx d q is nx ls (xL (V a j) :: st) (V, G) := by
  rw [bx]
  simp only [xs, tI, tA, hs]
  rw [if_pos ⟨trivial, h0, h⟩]
theorem bx_iast {a n : Nat} {j x : Int} (hs : G.1 a = (1, n)) (h0 : 0 ≤ j) (h : j < n) : bx d q (.iastore :: is) nx ls (xI x :: xI j :: xR a :: st) (V, G) = bx d q is nx ls st (vA V a (vU (V a) j x), G) := by
  rw [bx]
  simp only [xs, tI, tL, tA, hs]
  rw [if_pos ⟨trivial, h0, h⟩]
theorem bx_zast {a n : Nat} {j x : Int} (hs : G.1 a = (2, n)) (hb : x = 0 ∨ x = 1) (h0 : 0 ≤ j) (h : j < n) : bx d q (.bastore :: is) nx ls (xI x :: xI j :: xR a :: st) (V, G) = bx d q is nx ls st (vA V a (vU (V a) j x), G) := by
  rw [bx]
  simp only [xs, tI, tL, tA, hs]
  rw [if_pos ⟨⟨trivial, hb⟩, h0, h⟩]
theorem bx_last {a n : Nat} {j x : Int} (hs : G.1 a = (3, n)) (h0 : 0 ≤ j) (h : j < n) : bx d q (.lastore :: is) nx ls (xL x :: xI j :: xR a :: st) (V, G) = bx d q is nx ls st (vA V a (vU (V a) j x), G) := by
  rw [bx]
  simp only [xs, tI, tL, tA, hs]
  rw [if_pos ⟨trivial, h0, h⟩]
theorem bx_aald {a b n k : Nat} {j : Int} (hs : G.1 a = (k, n)) (hk : k = 4 ∨ k = 5) (h0 : 0 ≤ j) (h : j < n) (hb : G.2.1 a j = some b) : bx d q (.aaload :: is) nx ls (xI j :: xR a :: st) (V, G) = bx d q is nx ls (xR b :: st) (V, G) := by
  rw [bx]
  simp only [xs, tI, tA, hs, hb]
  rw [if_pos ⟨hk, h0, h⟩]
theorem bx_copy {a b na nb : Nat} {n dp sp : Int} (ha : G.1 a = (1, na)) (hb : G.1 b = (1, nb)) (hne : a ≠ b) (h1 : 0 ≤ n ∧ 0 ≤ sp ∧ 0 ≤ dp) (h2 : sp + n ≤ nb) (h3 : dp + n ≤ na) (h4 : st.length ≤ 4) : bx d q (.monitorenter :: is) nx ls (xI n :: xI dp :: xR a :: xI sp :: xR b :: st) (V, G) = bx d q is nx ls st (vA V a (fun j => if dp ≤ j ∧ j < dp + n then V b (sp + (j - dp)) else V a j), G) := by
  rw [bx]
  simp only [xs, tI, tA, ha, hb]
  rw [if_pos ⟨⟨trivial, trivial, hne⟩, h1, h2, h3, h4⟩]
theorem bx_obj {a : Nat} (h : st.length ≤ 4) : bx d q (.monitorexit :: is) nx ls (xR a :: st) μ = bx d q is nx ls st μ := by rw [bx]; simp only [xs, tA, if_pos h]
theorem bx_look {dd : Int} {ps : Array (Int × Int)} {x : Int} : bx d q (.lookupswitch dd ps :: is) nx ls (xI x :: st) μ = run d q (lkp ps.toList dd x).toNat ls st μ := by rw [bx]; rfl
theorem bx_tabO {dd lo hi : Int} {offs : Array Int} {x : Int} (h : x < lo ∨ hi < x) : bx d q (.tableswitch dd lo hi offs :: is) nx ls (xI x :: st) μ = run d q dd.toNat ls st μ := by rw [bx]; simp only [xs, tI, if_pos h]
theorem bx_tabI {dd lo hi : Int} {offs : Array Int} {x t : Int} (h : ¬ (x < lo ∨ hi < x)) (ht : offs[(x - lo).toNat]? = some t) : bx d q (.tableswitch dd lo hi offs :: is) nx ls (xI x :: st) μ = run d q t.toNat ls st μ := by rw [bx]; simp only [xs, tI, if_neg h, ht]
/-- what a call is made of -/
theorem bx_callv {w : Nat} {as rest : List XV} {a : Nat} {as' : List XV} (e : as = xR a :: as') (hst : st = as.reverse ++ rest) (hn : nP w = as.length) (hk : (μ.2.1 a).1 = 10 + w / 100) (hr : rest.length ≤ 4) (hl : (as.flatMap xw).length ≤ mL w) : bx (d + 1) q (.invokevirtual w :: is) nx ls st μ = (run d w 0 (en w as) [] μ).bind fun o => bx (d + 1) q is nx ls (o.1.toList ++ rest) o.2 := by
  subst hst
  have h1 : (as.reverse ++ rest).take (nP w) = as.reverse := by rw [hn, ← List.length_reverse, List.take_left']; rfl
  have h2 : (as.reverse ++ rest).drop (nP w) = rest := by rw [hn, ← List.length_reverse, List.drop_left']; rfl
  rw [bx]
  simp only [xs, h1, h2, List.reverse_reverse]
  rw [if_pos ⟨by rw [hn]; simp, hr, hl⟩]
  subst e
  simp only [if_pos hk]
  cases run d w 0 (en w (xR a :: as')) [] μ <;> rfl
theorem bx_calls {w : Nat} {as rest : List XV} (hst : st = as.reverse ++ rest) (hn : nP w = as.length) (hr : rest.length ≤ 4) (hl : (as.flatMap xw).length ≤ mL w) : bx (d + 1) q (.invokestatic w :: is) nx ls st μ = (run d w 0 (en w as) [] μ).bind fun o => bx (d + 1) q is nx ls (o.1.toList ++ rest) o.2 := by
  subst hst
  have h1 : (as.reverse ++ rest).take (nP w) = as.reverse := by rw [hn, ← List.length_reverse, List.take_left']; rfl
  have h2 : (as.reverse ++ rest).drop (nP w) = rest := by rw [hn, ← List.length_reverse, List.drop_left']; rfl
  rw [bx]
  simp only [xs, h1, h2, List.reverse_reverse]
  rw [if_pos ⟨by rw [hn]; simp, hr, hl⟩]
  simp only [rC]
  cases run d w 0 (en w as) [] μ <;> rfl
theorem bx_calli {w : Nat} {as rest : List XV} {a : Nat} {as' : List XV} (e : as = xR a :: as') (hst : st = as.reverse ++ rest) (hn : nP w = as.length) (hr : rest.length ≤ 4) (hl : (as.flatMap xw).length ≤ mL w) : bx (d + 1) q (.invokespecial w :: is) nx ls st μ = (run d w 0 (en w as) [] μ).bind fun o => bx (d + 1) q is nx ls (o.1.toList ++ rest) o.2 := by
  subst hst
  have h1 : (as.reverse ++ rest).take (nP w) = as.reverse := by rw [hn, ← List.length_reverse, List.take_left']; rfl
  have h2 : (as.reverse ++ rest).drop (nP w) = rest := by rw [hn, ← List.length_reverse, List.drop_left']; rfl
  rw [bx]
  simp only [xs, h1, h2, List.reverse_reverse]
  rw [if_pos ⟨by rw [hn]; simp, hr, hl⟩]
  subst e
  simp only [rC]
  cases run d w 0 (en w (xR a :: as')) [] μ <;> rfl
theorem bind_some {o : Option XV × XM} {f : Option XV × XM → XO} : (some o).bind f = f o := rfl
theorem tl_some {v : XV} : (some v).toList ++ st = v :: st := rfl
theorem tl_none : (none : Option XV).toList ++ st = st := rfl
end BX
