/-! new int[n][k] -/
theorem any_iff {N b : Nat} {f : Nat → Nat} : ((List.range N).any fun j => b == f j) = true ↔ ∃ j, j < N ∧ b = f j := by
  simp [List.any_eq_true, List.mem_range]
section XMna
variable {p : Program} {l : Launch} {ev : Env} {R : Room} {s : State} {m : MethodId} {args : Array Value} {below : List Frame} {meth : Method} {c : Code} {Q : State → Prop} {ad : Nat → Nat} {dC : Nat → ClassId} {dI : Nat → Nat → Nat} {B n0 s0 : Nat} {q : Nat} {r : MR} {pc : Nat} {ls st : List XV} {μ : XM}
theorem xP.mna {U : State} {H H' : Heap} {n k0 : Int} {cA comp : ClassId} (h : xP ad dC dI B U H μ) (z : H'.size = H.size + 1 + n.toNat) (o : ∀ q, q < H.size → H'[q]? = H[q]?) (e1 : H'[H.size]? = some (arrV cA n.toNat (fun j => va_rf (if j < n.toNat then some (H.size + 1 + j) else none)))) (t1 : ArrOfT U cA (.array .int)) (e2 : ∀ j, j < n.toNat → H'[H.size + 1 + j]? = some (arrV comp k0.toNat (fun _ => .int 0))) (t2 : ArrOfT U comp .int) : xP ad dC dI B U H' ((fun b => if (List.range (1 + n.toNat)).any (fun j => b == μ.2.2.2.2.2 (μ.2.2.2.1 + j)) then fun _ => 0 else μ.1 b),
       (fun b => if b = μ.2.2.2.2.2 μ.2.2.2.1 then (4, n.toNat) else if (List.range n.toNat).any (fun j => b == μ.2.2.2.2.2 (μ.2.2.2.1 + 1 + j)) then (1, k0.toNat) else μ.2.1 b),
       (fun b => if b = μ.2.2.2.2.2 μ.2.2.2.1 then (fun j => if 0 ≤ j ∧ j < n then some (μ.2.2.2.2.2 (μ.2.2.2.1 + 1 + j.toNat)) else none) else μ.2.2.1 b),
       μ.2.2.2.1 + 1 + n.toNat, μ.2.2.2.2.1 + n.toNat + n.toNat * k0.toNat, μ.2.2.2.2.2) := by
  have hz := h.2.2.1
  have hiv := h.2.2.2.1
  have inj : ∀ i j, μ.2.2.2.2.2 i = μ.2.2.2.2.2 j → i = j := fun i j e => by
    have h1 := hiv i
    have h2 := hiv j
    rw [e] at h1
    omega
  have old : ∀ b, (μ.2.1 b).1 ≠ 0 → ∀ j, b ≠ μ.2.2.2.2.2 (μ.2.2.2.1 + j) := fun b hb j e => hb (by rw [e]; exact h.free (by omega))
  have lt : ∀ b, (μ.2.1 b).1 ≠ 0 → ad b < H.size := fun b hb => by
    rcases h.2.2.2.2 b hb with ⟨-, -, l⟩ | ⟨-, j, hj, e3⟩
    · omega
    · rw [e3, hiv]; omega
  have sh0 : ∀ b, b ≠ μ.2.2.2.2.2 μ.2.2.2.1 → ¬ ((List.range n.toNat).any (fun j => b == μ.2.2.2.2.2 (μ.2.2.2.1 + 1 + j)) = true) → ¬ ((List.range (1 + n.toNat)).any (fun j => b == μ.2.2.2.2.2 (μ.2.2.2.1 + j)) = true) := by
    intro b h1 h2 h3
    obtain ⟨j, hj, e⟩ := any_iff.mp h3
    cases j with
    | zero => exact h1 e
    | succ j => exact h2 (any_iff.mpr ⟨j, by omega, by rw [e, show μ.2.2.2.1 + (j + 1) = μ.2.2.2.1 + 1 + j by omega]⟩)
  refine ⟨fun b => ?_, fun b i => ?_, ?_, ?_, ?_⟩
  · by_cases hb0 : b = μ.2.2.2.2.2 μ.2.2.2.1
    · unfold cR
      simp only [if_pos hb0]
      refine ⟨cA, ?_, t1⟩
      have ea : ad b = H.size := by rw [hb0, hiv, hz]
      rw [ea, e1]
      congr 2
      funext j
      by_cases hj : j < n.toNat
      · have hj2 : 0 ≤ (j : Int) ∧ (j : Int) < n := by omega
        simp only [if_pos hj, if_pos hj2, Option.map_some, hiv, hz, Int.toNat_natCast]
        rw [show B + μ.2.2.2.1 + 1 + j = B + (μ.2.2.2.1 + 1 + j) by omega]
      · have hj2 : ¬ (0 ≤ (j : Int) ∧ (j : Int) < n) := by omega
        simp only [if_neg hj, if_neg hj2, Option.map_none]
    · by_cases hb1 : (List.range n.toNat).any (fun j => b == μ.2.2.2.2.2 (μ.2.2.2.1 + 1 + j)) = true
      · obtain ⟨j, hj, eb⟩ := any_iff.mp hb1
        have hb2 : (List.range (1 + n.toNat)).any (fun j => b == μ.2.2.2.2.2 (μ.2.2.2.1 + j)) = true := any_iff.mpr ⟨1 + j, by omega, by rw [eb, show μ.2.2.2.1 + (1 + j) = μ.2.2.2.1 + 1 + j by omega]⟩
        unfold cR
        simp only [if_neg hb0, if_pos hb1, if_pos hb2]
        refine ⟨comp, ?_, t2⟩
        rw [show ad b = H.size + 1 + j by rw [eb, hiv, hz]; omega, e2 j hj]
        rfl
      · have hb2 := sh0 b hb0 hb1
        refine cR_kept (μ := μ) ?_ ?_ ?_ (fun hb => o _ (lt b hb)) (h.1 b)
        · simp only [if_neg hb0, if_neg hb1]
        · simp only [if_neg hb2]
        · simp only [if_neg hb0]
  · by_cases hb0 : b = μ.2.2.2.2.2 μ.2.2.2.1
    · unfold okC
      simp only [if_pos hb0]
    · by_cases hb1 : (List.range n.toNat).any (fun j => b == μ.2.2.2.2.2 (μ.2.2.2.1 + 1 + j)) = true
      · obtain ⟨j, hj, eb⟩ := any_iff.mp hb1
        have hb2 : (List.range (1 + n.toNat)).any (fun j => b == μ.2.2.2.2.2 (μ.2.2.2.1 + j)) = true := any_iff.mpr ⟨1 + j, by omega, by rw [eb, show μ.2.2.2.1 + (1 + j) = μ.2.2.2.1 + 1 + j by omega]⟩
        unfold okC
        simp only [if_neg hb0, if_pos hb1, if_pos hb2]
        decide
      · refine okC_kept (μ := μ) ?_ ?_ (h.2.1 b i)
        · simp only [if_neg hb0, if_neg hb1]
        · simp only [if_neg (sh0 b hb0 hb1)]
  · simp only
    omega
  · exact hiv
  · intro b hb
    simp only at hb ⊢
    by_cases hb0 : b = μ.2.2.2.2.2 μ.2.2.2.1
    · simp only [if_pos hb0]
      exact Or.inr ⟨by decide, μ.2.2.2.1, by omega, hb0⟩
    · by_cases hb1 : (List.range n.toNat).any (fun j => b == μ.2.2.2.2.2 (μ.2.2.2.1 + 1 + j)) = true
      · obtain ⟨j, hj, eb⟩ := any_iff.mp hb1
        simp only [if_neg hb0, if_pos hb1]
        exact Or.inr ⟨by decide, μ.2.2.2.1 + 1 + j, by omega, eb⟩
      · simp only [if_neg hb0, if_neg hb1] at hb ⊢
        rcases h.2.2.2.2 b hb with hl | ⟨h1, j, hj, e3⟩
        · exact Or.inl hl
        · exact Or.inr ⟨h1, j, by omega, e3⟩
theorem xw_mna {n k0 : Int} {idx : Nat} (C : XC p s m args meth c dC dI q r) (hd : decode r.1.2.1 pc = .ok (.multianewarray idx 2, 4)) (hl : (Cond.classLink (cN (q / 100)) idx "[[I").before args s = true) (hn : 0 ≤ n ∧ n ≤ 10000) (hk : 0 ≤ k0 ∧ k0 ≤ 10000) (hc : μ.2.2.2.1 + 1 + n.toNat - n0 ≤ R.cells) (hs : μ.2.2.2.2.1 + n.toNat + n.toNat * k0.toNat - s0 ≤ R.slots)
    (k : XW p l ev R s m args below meth c Q ad dC dI B n0 s0 (pc + 4) ls (xR (μ.2.2.2.2.2 μ.2.2.2.1) :: st) ((fun b => if (List.range (1 + n.toNat)).any (fun j => b == μ.2.2.2.2.2 (μ.2.2.2.1 + j)) then fun _ => 0 else μ.1 b),
       (fun b => if b = μ.2.2.2.2.2 μ.2.2.2.1 then (4, n.toNat) else if (List.range n.toNat).any (fun j => b == μ.2.2.2.2.2 (μ.2.2.2.1 + 1 + j)) then (1, k0.toNat) else μ.2.1 b),
       (fun b => if b = μ.2.2.2.2.2 μ.2.2.2.1 then (fun j => if 0 ≤ j ∧ j < n then some (μ.2.2.2.2.2 (μ.2.2.2.1 + 1 + j.toNat)) else none) else μ.2.2.1 b),
       μ.2.2.2.1 + 1 + n.toNat, μ.2.2.2.2.1 + n.toNat + n.toNat * k0.toNat, μ.2.2.2.2.2)) : XW p l ev R s m args below meth c Q ad dC dI B n0 s0 pc ls (xI k0 :: xI n :: st) μ := by
  intro H locs lsA h1 h2 h3 h4 h5 h6 h7 h8
  have hk32 : i32 k0 := (okc.mp h4).1
  have hn32 : i32 n := (okc.mp (okc.mp h4).2).1
  have h4 := (okc.mp (okc.mp h4).2).2
  have hov0 : (Cond.arrayOver (.array .int)).before #[] s = true := C.2.2.2.2.2.2.2.2.2.2 _ (by simp [oW])
  have hov : (Cond.arrayOver (.array .int)).before args s = true := hov0
  have cn := cl32 hn32
  have ck := cl32 hk32
  intro T hT Xs
  obtain ⟨vm₁, cA, comp, hAr, hAi, X', step⟩ := mu_law (g := F0 m pc lsA (.int (Int32.ofInt k0) :: .int (Int32.ofInt n) :: st.map (tv ad))) Xs C.2.1 C.2.2.2.2.2.1 hl hov (C.2.2.2.2.2.2.1 _ ac_int) rfl (by rw [C.2.2.1]; exact hd) rfl (by rw [← o32, lt32 hn32 z32]; omega) (by rw [← o32, lt32 hk32 z32]; omega) (by rw [cn]; omega) (by rw [ck]; omega) (by rw [cn]; omega) (by rw [cn, ck]; omega)
  rw [cn, ck] at X' step
  generalize hF : mu_st (T.setVm vm₁) cA comp n.toNat k0.toNat n.toNat = F at X' step
  have hTh : (T.setVm vm₁).heap = H := hT
  have f1 := mu_size (T.setVm vm₁) cA comp n.toNat k0.toNat n.toNat
  rw [hF, hTh] at f1
  have f2 := mu_head (T.setVm vm₁) cA comp n.toNat k0.toNat n.toNat
  rw [hF, hTh] at f2
  have hold : ∀ x : Nat, x < H.size → F.heap[x]? = H[x]? := fun x hx => by
    have := mu_old (T.setVm vm₁) cA comp n.toNat k0.toNat (q := x) (by rw [hTh]; exact hx) n.toNat
    rw [hF, hTh] at this
    exact this
  have hrow : ∀ j : Nat, j < n.toNat → F.heap[H.size + 1 + j]? = some (arrV comp k0.toNat (fun _ => .int 0)) := fun j hj => by
    have := mu_rows (T.setVm vm₁) cA comp n.toNat k0.toNat n.toNat hj
    rw [hF, hTh] at this
    exact this
  have hP := h5.mna (n := n) (k0 := k0) f1 hold f2 hAr hrow hAi
  have hh : H.size = ad (μ.2.2.2.2.2 μ.2.2.2.1) := by rw [h5.2.2.1, h5.2.2.2.1]
  have K := k F.heap locs lsA h1 h2 h3 (okc.mpr ⟨trivial, h4⟩) hP (xS_new h6 (by omega) hold) (by simp only; omega) (by simp only; omega)
  simp only at K
  rw [show μ.2.2.2.1 + 1 + n.toNat - n0 = μ.2.2.2.1 - n0 + 1 + n.toNat by omega, show μ.2.2.2.2.1 + n.toNat + n.toNat * k0.toNat - s0 = μ.2.2.2.2.1 - s0 + n.toNat + n.toNat * k0.toNat by omega] at K
  obtain ⟨t, a1, b1⟩ := K F rfl X'
  refine ⟨t, step t ?_, b1⟩
  rw [hT, hh]
  exact a1
end XMna
