/-! LOOPS of the plain machine -/
section IT
variable {D q pc : Nat}
theorem it_up {loc : Int → List XV} {F : Int → XM} {hi : Int} : ∀ (m : Nat) (lo : Int), lo + m = hi → (∀ k, lo ≤ k → k < hi → run D q pc (loc k) [] (F k) = run D q pc (loc (k + 1)) [] (F (k + 1))) → run D q pc (loc lo) [] (F lo) = run D q pc (loc hi) [] (F hi)
  | 0, lo, h, _ => by
    have : lo = hi := by omega
    rw [this]
  | m + 1, lo, h, hs => by
    rw [hs lo (by omega) (by omega)]
    exact it_up m (lo + 1) (by omega) (fun k h1 h2 => hs k (by omega) h2)
theorem it_dn {loc : Int → List XV} {F : Int → XM} {lo : Int} : ∀ (m : Nat) (hi : Int), lo + m = hi → (∀ k, lo < k → k ≤ hi → run D q pc (loc k) [] (F k) = run D q pc (loc (k - 1)) [] (F (k - 1))) → run D q pc (loc hi) [] (F hi) = run D q pc (loc lo) [] (F lo)
  | 0, hi, h, _ => by
    have : hi = lo := by omega
    rw [this]
  | m + 1, hi, h, hs => by
    rw [hs hi (by omega) (by omega)]
    exact it_dn m (hi - 1) (by omega) (fun k h1 h2 => hs k h1 (by omega))
theorem it_ex {loc : Int → List XV} {F : Int → XM} {res : Int → XO} (p : Int → Bool) {hi : Int} : ∀ (m : Nat) (lo : Int), lo + m = hi → (∀ k, lo ≤ k → k < hi → p k = false → run D q pc (loc k) [] (F k) = run D q pc (loc (k + 1)) [] (F (k + 1))) → (∀ k, lo ≤ k → k < hi → p k = true → run D q pc (loc k) [] (F k) = res k) → run D q pc (loc lo) [] (F lo) = (match lstF p m lo with
    | some k => res k
    | none => run D q pc (loc hi) [] (F hi))
  | 0, lo, h, _, _ => by
    have : lo = hi := by omega
    rw [this]
    rfl
  | m + 1, lo, h, hs, he => by
    unfold lstF
    by_cases hp : p lo = true
    · rw [he lo (by omega) (by omega) hp, if_pos hp]
    · rw [hs lo (by omega) (by omega) (by simpa using hp), if_neg hp]
      exact it_ex p m (lo + 1) (by omega) (fun k h1 h2 => hs k (by omega) h2) (fun k h1 h2 => he k (by omega) h2)
theorem it_inv {I : Int → List XV → XM → Prop} {Q : XO → Prop} {hi : Int} (he : ∀ ls μ, I hi ls μ → Q (run D q pc ls [] μ)) : ∀ (m : Nat) (lo : Int), lo + m = hi → (∀ k ls μ, lo ≤ k → k < hi → I k ls μ → (∃ ls' μ', I (k + 1) ls' μ' ∧ run D q pc ls [] μ = run D q pc ls' [] μ') ∨ Q (run D q pc ls [] μ)) → ∀ ls μ, I lo ls μ → Q (run D q pc ls [] μ)
  | 0, lo, h, _, ls, μ, hI => by
    have : lo = hi := by omega
    rw [this] at hI
    exact he ls μ hI
  | m + 1, lo, h, hs, ls, μ, hI => by
    rcases hs lo ls μ (by omega) (by omega) hI with ⟨ls', μ', h1, h2⟩ | h1
    · rw [h2]
      exact it_inv he m (lo + 1) (by omega) (fun k ls μ g1 g2 => hs k ls μ (by omega) g2) ls' μ' h1
    · exact h1
end IT
/-- f, with g in lo .. hi - 1 -/
def fl (f g : Int → Int) (lo hi : Int) : Int → Int := fun j => if lo ≤ j ∧ j < hi then g j else f j
theorem fl_nil {f g : Int → Int} {lo : Int} : fl f g lo lo = f := by
  funext j; unfold fl; rw [if_neg (by omega)]
theorem fl_up {f g : Int → Int} {lo k : Int} (h : lo ≤ k) : vU (fl f g lo k) k (g k) = fl f g lo (k + 1) := by
  funext j
  unfold fl vU
  by_cases e : j = k
  · subst e
    rw [if_pos rfl, if_pos (by omega)]
  · rw [if_neg e]
    show (if lo ≤ j ∧ j < k then g j else f j) = _
    by_cases h2 : lo ≤ j ∧ j < k
    · rw [if_pos h2, if_pos (by omega)]
    · rw [if_neg h2, if_neg (by omega)]
theorem fl_in {f g : Int → Int} {lo hi j : Int} (h1 : lo ≤ j) (h2 : j < hi) : fl f g lo hi j = g j := if_pos ⟨h1, h2⟩
theorem fl_out {f g : Int → Int} {lo hi j : Int} (h : ¬ (lo ≤ j ∧ j < hi)) : fl f g lo hi j = f j := if_neg h
theorem lstF_some {p : Int → Bool} : ∀ (m : Nat) (k : Int) {r : Int}, lstF p m k = some r → (k ≤ r ∧ r < k + m) ∧ p r = true ∧ ∀ j, k ≤ j → j < r → p j = false
  | 0, k, r, h => by cases h
  | m + 1, k, r, h => by
    unfold lstF at h
    by_cases hp : p k = true
    · rw [if_pos hp] at h
      cases h
      exact ⟨by omega, hp, fun j h1 h2 => by omega⟩
    · rw [if_neg hp] at h
      obtain ⟨h1, h2, h3⟩ := lstF_some m (k + 1) h
      refine ⟨by omega, h2, fun j g1 g2 => ?_⟩
      by_cases e : j = k
      · rw [e]; simpa using hp
      · exact h3 j (by omega) g2
theorem lstF_none {p : Int → Bool} : ∀ (m : Nat) (k : Int), lstF p m k = none → ∀ j, k ≤ j → j < k + m → p j = false
  | 0, k, h => fun j h1 h2 => by omega
  | m + 1, k, h => fun j h1 h2 => by
    unfold lstF at h
    by_cases hp : p k = true
    · rw [if_pos hp] at h; cases h
    · rw [if_neg hp] at h
      by_cases e : j = k
      · rw [e]; simpa using hp
      · exact lstF_none m (k + 1) h j (by omega) (by omega)
theorem lstF_cong {p p' : Int → Bool} : ∀ (m : Nat) (k : Int), (∀ j, k ≤ j → j < k + m → p j = p' j) → lstF p m k = lstF p' m k
  | 0, k, h => rfl
  | m + 1, k, h => by
    unfold lstF
    rw [h k (by omega) (by omega), lstF_cong m (k + 1) (fun j h1 h2 => h j (by omega) (by omega))]
theorem cntF_cong {p p' : Int → Bool} : ∀ (m : Nat) (k : Int), (∀ j, k ≤ j → j < k + m → p j = p' j) → cntF p m k = cntF p' m k
  | 0, k, h => rfl
  | m + 1, k, h => by
    unfold cntF
    rw [h k (by omega) (by omega), cntF_cong m (k + 1) (fun j h1 h2 => h j (by omega) (by omega))]
theorem cntF_bd {p : Int → Bool} : ∀ (m : Nat) (k : Int), 0 ≤ cntF p m k ∧ cntF p m k ≤ m
  | 0, k => by simp [cntF]
  | m + 1, k => by
    unfold cntF
    have := cntF_bd (p := p) m (k + 1)
    split <;> omega
theorem cntF_add {p : Int → Bool} : ∀ (a b : Nat) (k : Int), cntF p (a + b) k = cntF p a k + cntF p b (k + a)
  | 0, b, k => by simp [cntF]
  | a + 1, b, k => by
    rw [show a + 1 + b = (a + b) + 1 by omega]
    show (if p k = true then 1 else 0) + cntF p (a + b) (k + 1) = (if p k = true then 1 else 0) + cntF p a (k + 1) + cntF p b (k + ((a + 1 : Nat) : Int))
    rw [cntF_add a b (k + 1), show k + 1 + (a : Int) = k + ((a + 1 : Nat) : Int) by omega]
    omega
