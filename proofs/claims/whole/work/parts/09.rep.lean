/-! HOW THE PLAIN MACHINE STANDS IN THE REAL ONE -/
def tv (ad : Nat → Nat) (v : XV) : Value := match v with
  | .inl x => .int (Int32.ofInt x)
  | .inr (.inl x) => .long (Int64.ofInt x)
  | .inr (.inr (.inl a)) => .ref (ad a)
  | _ => .null
def okV (v : XV) : Prop := match v with
  | .inl x => i32 x
  | .inr (.inl x) => i64 x
  | _ => True
theorem okc {v : XV} {st : List XV} : (∀ w ∈ v :: st, okV w) ↔ okV v ∧ ∀ w ∈ st, okV w := List.forall_mem_cons
def lvl (ad : Nat → Nat) : List XV → Nat → List (Nat × Value)
  | [], _ => []
  | .inr (.inr (.inr _)) :: vs, i => lvl ad vs (i + 1)
  | .inl x :: vs, i => (i, tv ad (.inl x)) :: lvl ad vs (i + 1)
  | .inr (.inl x) :: vs, i => (i, tv ad (.inr (.inl x))) :: lvl ad vs (i + 1)
  | .inr (.inr (.inl x)) :: vs, i => (i, tv ad (.inr (.inr (.inl x)))) :: lvl ad vs (i + 1)
theorem lvl_mem {ad : Nat → Nat} : ∀ {ls : List XV} {i : Nat} {q : Nat × Value}, q ∈ lvl ad ls i ↔ ∃ k v, ls[k]? = some v ∧ v ≠ xU ∧ q = (i + k, tv ad v) := by
  intro ls
  induction ls with
  | nil => intro i q; simp [lvl]
  | cons v vs ih =>
    intro i q
    have tail : (q ∈ lvl ad vs (i + 1)) ↔ ∃ k w, (v :: vs)[k + 1]? = some w ∧ w ≠ xU ∧ q = (i + (k + 1), tv ad w) := by
      rw [ih]
      constructor
      · rintro ⟨k, w, h1, h2, h3⟩
        exact ⟨k, w, by simpa using h1, h2, by rw [h3]; congr 1; omega⟩
      · rintro ⟨k, w, h1, h2, h3⟩
        exact ⟨k, w, by simpa using h1, h2, by rw [h3]; congr 1; omega⟩
    have key : (∃ k w, (v :: vs)[k]? = some w ∧ w ≠ xU ∧ q = (i + k, tv ad w)) ↔ (v ≠ xU ∧ q = (i, tv ad v)) ∨ ∃ k w, (v :: vs)[k + 1]? = some w ∧ w ≠ xU ∧ q = (i + (k + 1), tv ad w) := by
      constructor
      · rintro ⟨k, w, h1, h2, h3⟩
        cases k with
        | zero =>
          have e : v = w := by simpa using h1
          subst e
          exact Or.inl ⟨h2, h3⟩
        | succ k => exact Or.inr ⟨k, w, h1, h2, h3⟩
      · rintro (⟨h1, h2⟩ | ⟨k, w, h1, h2, h3⟩)
        · exact ⟨0, v, rfl, h1, h2⟩
        · exact ⟨k + 1, w, h1, h2, h3⟩
    rw [key, ← tail]
    rcases v with x | x | x | x
    · simp [lvl]
    · simp [lvl]
    · simp [lvl]
    · simp [lvl]
theorem has_sub {ls : Array Slot} {n : Nat} {l l' : List (Nat × Value)} (h : lv_has ls n l) (hs : ∀ q ∈ l', q ∈ l) : lv_has ls n l' := ⟨h.1, h.2.1, fun q hq => h.2.2 q (hs q hq)⟩
theorem has_at {ad : Nat → Nat} {lsA : Array Slot} {n : Nat} {ls : List XV} (h : lv_has lsA n (lvl ad ls 0)) {i : Nat} {v : XV} (hv : ls[i]? = some v) (hu : v ≠ xU) : lsA[i]? = some (.val (tv ad v)) := by
  have h1 : (i, tv ad v) ∈ lvl ad ls 0 := lvl_mem.mpr ⟨i, v, hv, hu, by rw [Nat.zero_add]⟩
  exact h.2.2 _ h1
theorem lgB_cat {ad : Nat → Nat} {ls : List XV} {i k : Nat} {w : XV} (h : lgB ls i = false) (hk : k + 1 = i) (hw : ls[k]? = some w) : (tv ad w).category ≠ 2 := by
  subst hk
  simp only [lgB, hw] at h
  rcases w with x | x | x | x
  · simp [tv, Value.category]
  · simp at h
  · simp [tv, Value.category]
  · simp [tv, Value.category]
theorem lvl_set1 {ad : Nat → Nat} {ls : List XV} {i : Nat} {v : XV} (hl : lgB ls i = false) : ∀ q ∈ lvl ad (ls.set i v) 0, q ∈ (i, tv ad v) :: (lvl ad ls 0).filter (fun q => !(q.1 == i) && !(q.1 + 1 == i && q.2.category == 2)) := by
  intro q hq
  obtain ⟨k, w, h1, h2, rfl⟩ := lvl_mem.mp hq
  rw [Nat.zero_add]
  by_cases hk : k = i
  · subst hk
    have hlt : k < ls.length := by
      have := (List.getElem?_eq_some_iff.mp h1).1
      simpa using this
    rw [List.getElem?_set_self hlt] at h1
    cases h1
    exact List.mem_cons_self
  · rw [List.getElem?_set_ne (Ne.symm hk)] at h1
    refine List.mem_cons_of_mem _ (List.mem_filter.mpr ⟨lvl_mem.mpr ⟨k, w, h1, h2, by rw [Nat.zero_add]⟩, ?_⟩)
    by_cases hk1 : k + 1 = i
    · have := lgB_cat (ad := ad) hl hk1 h1
      simp [hk, this]
    · simp [hk, hk1]
theorem lvl_set2 {ad : Nat → Nat} {ls : List XV} {i : Nat} {v : XV} (hl : lgB ls i = false) : ∀ q ∈ lvl ad ((ls.set i v).set (i + 1) xU) 0, q ∈ (i, tv ad v) :: (lvl ad ls 0).filter (fun q => !(q.1 == i) && (!(q.1 == i + 1) && !(q.1 + 1 == i && q.2.category == 2))) := by
  intro q hq
  obtain ⟨k, w, h1, h2, rfl⟩ := lvl_mem.mp hq
  rw [Nat.zero_add]
  have hk2 : k ≠ i + 1 := by
    intro hk
    subst hk
    have hlt : i + 1 < (ls.set i v).length := by
      have := (List.getElem?_eq_some_iff.mp h1).1
      simpa using this
    rw [List.getElem?_set_self hlt] at h1
    cases h1
    exact h2 rfl
  rw [List.getElem?_set_ne (Ne.symm hk2)] at h1
  by_cases hk : k = i
  · subst hk
    have hlt : k < ls.length := by
      have := (List.getElem?_eq_some_iff.mp h1).1
      simpa using this
    rw [List.getElem?_set_self hlt] at h1
    cases h1
    exact List.mem_cons_self
  · rw [List.getElem?_set_ne (Ne.symm hk)] at h1
    refine List.mem_cons_of_mem _ (List.mem_filter.mpr ⟨lvl_mem.mpr ⟨k, w, h1, h2, by rw [Nat.zero_add]⟩, ?_⟩)
    by_cases hk1 : k + 1 = i
    · have := lgB_cat (ad := ad) hl hk1 h1
      simp [hk, hk2, this]
    · simp [hk, hk2, hk1]
theorem ok_set {ls : List XV} (h : ∀ v ∈ ls, okV v) {i : Nat} {v : XV} (hv : okV v) : ∀ w ∈ ls.set i v, okV w := by
  intro w hw
  rcases List.mem_or_eq_of_mem_set hw with h1 | h1
  · exact h w h1
  · rw [h1]; exact hv
theorem ok_at {ls : List XV} (h : ∀ v ∈ ls, okV v) {i : Nat} {v : XV} (hv : ls[i]? = some v) : okV v := h v (List.mem_of_getElem? hv)
/-- what field k of object a of class c holds -/
def fV (ad : Nat → Nat) (μ : XM) (a c k : Nat) : Value := if fT c k = 2 then .long (Int64.ofInt (μ.1 a k)) else if fT c k = 3 then va_rf ((μ.2.2.1 a k).map ad) else .int (Int32.ofInt (μ.1 a k))
/-- the real cell of our cell a -/
def cR (ad : Nat → Nat) (dC : Nat → ClassId) (dI : Nat → Nat → Nat) (U : State) (H : Heap) (μ : XM) (a : Nat) : Prop := match (μ.2.1 a).1 with
  | 0 => True
  | 1 => ∃ cA, H[ad a]? = some (arrV cA (μ.2.1 a).2 (fun j => .int (Int32.ofInt (μ.1 a j)))) ∧ ArrOfT U cA .int
  | 2 => ∃ cA, H[ad a]? = some (arrV cA (μ.2.1 a).2 (fun j => .int (Int32.ofInt (μ.1 a j)))) ∧ ArrOfT U cA .boolean
  | 3 => ∃ cA, H[ad a]? = some (arrV cA (μ.2.1 a).2 (fun j => .long (Int64.ofInt (μ.1 a j)))) ∧ ArrOfT U cA .long
  | 4 => ∃ cA, H[ad a]? = some (arrV cA (μ.2.1 a).2 (fun j => va_rf ((μ.2.2.1 a j).map ad))) ∧ ArrOfT U cA (.array .int)
  | 5 => ∃ cA, H[ad a]? = some (arrV cA (μ.2.1 a).2 (fun j => va_rf ((μ.2.2.1 a j).map ad))) ∧ ArrOfT U cA (.object "LightPlate$Row") ∧ va_RA U cA (.object "LightPlate$Row")
  | 6 => False
  | 7 => False
  | 8 => False
  | 9 => ∃ scr : Cell, H[ad a]? = some scr ∧ U.isArrayOf scr .int ∧ scr.vm ≠ .unknown ∧ scr.slots.size = (μ.2.1 a).2 ∧ ∀ j : Nat, j < (μ.2.1 a).2 → scr.slots[j]? = some (.int (Int32.ofInt (μ.1 a j)))
  | k + 10 => ∃ q : vw_C, clX[k]? = some q ∧ t_OB (ad a) (dC k) q.2.2 (dI k) H (fun j => fV ad μ a k j)
/-- the numbers of our cell a are in their ranges -/
def okC (μ : XM) (a : Nat) (i : Int) : Prop := match (μ.2.1 a).1 with
  | 1 => i32 (μ.1 a i)
  | 2 => μ.1 a i = 0 ∨ μ.1 a i = 1
  | 3 => i64 (μ.1 a i)
  | 9 => i32 (μ.1 a i)
  | k + 10 => (fT k i.toNat = 0 → i32 (μ.1 a i)) ∧ (fT k i.toNat = 1 → μ.1 a i = 0 ∨ μ.1 a i = 1) ∧ (fT k i.toNat = 2 → i64 (μ.1 a i))
  | _ => True
def xP (ad : Nat → Nat) (dC : Nat → ClassId) (dI : Nat → Nat → Nat) (B : Nat) (U : State) (H : Heap) (μ : XM) : Prop :=
  (∀ a, cR ad dC dI U H μ a) ∧ (∀ a i, okC μ a i) ∧ H.size = B + μ.2.2.2.1 ∧ (∀ j, ad (μ.2.2.2.2.2 j) = B + j) ∧ (∀ a, (μ.2.1 a).1 ≠ 0 → ((μ.2.1 a).1 = 9 ∧ a = 0 ∧ ad a < B) ∨ ((μ.2.1 a).1 ≠ 9 ∧ ∃ j, j < μ.2.2.2.1 ∧ a = μ.2.2.2.2.2 j))
section XRep
variable {ad : Nat → Nat} {dC : Nat → ClassId} {dI : Nat → Nat → Nat} {B : Nat} {U : State} {H H' : Heap} {μ μ' : XM} {a b : Nat}
theorem cR_kept (hs : μ'.2.1 b = μ.2.1 b) (hv : μ'.1 b = μ.1 b) (hr : μ'.2.2.1 b = μ.2.2.1 b) (hh : (μ.2.1 b).1 ≠ 0 → H'[ad b]? = H[ad b]?) (h : cR ad dC dI U H μ b) : cR ad dC dI U H' μ' b := by
  by_cases h0 : (μ.2.1 b).1 = 0
  · unfold cR
    rw [hs, h0]
    trivial
  · have hh := hh h0
    have hf : ∀ k j, fV ad μ' b k j = fV ad μ b k j := fun k j => by simp only [fV, hv, hr]
    unfold cR at h ⊢
    rw [hs, hv, hr]
    generalize hk : (μ.2.1 b).1 = k at h ⊢
    match k, h with
    | 0, _ => trivial
    | 1, ⟨cA, h1, h2⟩ => exact ⟨cA, hh.trans h1, h2⟩
    | 2, ⟨cA, h1, h2⟩ => exact ⟨cA, hh.trans h1, h2⟩
    | 3, ⟨cA, h1, h2⟩ => exact ⟨cA, hh.trans h1, h2⟩
    | 4, ⟨cA, h1, h2⟩ => exact ⟨cA, hh.trans h1, h2⟩
    | 5, ⟨cA, h1, h2⟩ => exact ⟨cA, hh.trans h1, h2⟩
    | 9, ⟨scr, h1, h2⟩ => exact ⟨scr, hh.trans h1, h2⟩
    | k + 10, ⟨q, h1, h2⟩ => exact ⟨q, h1, (h2.kept hh).to (fun j _ => (hf k j).symm)⟩
theorem cR_moved {U' : State} (hvm : U.vm.Alike U'.vm) (h : cR ad dC dI U H μ b) : cR ad dC dI U' H μ b := by
  unfold cR at h ⊢
  generalize hk : (μ.2.1 b).1 = k at h ⊢
  match k, h with
  | 0, _ => trivial
  | 1, ⟨cA, h1, h2⟩ => exact ⟨cA, h1, arrOfT_moved hvm h2⟩
  | 2, ⟨cA, h1, h2⟩ => exact ⟨cA, h1, arrOfT_moved hvm h2⟩
  | 3, ⟨cA, h1, h2⟩ => exact ⟨cA, h1, arrOfT_moved hvm h2⟩
  | 4, ⟨cA, h1, h2⟩ => exact ⟨cA, h1, arrOfT_moved hvm h2⟩
  | 5, ⟨cA, h1, h2, h3⟩ => exact ⟨cA, h1, arrOfT_moved hvm h2, h3.moved hvm⟩
  | 9, ⟨scr, h1, h2, h3⟩ => exact ⟨scr, h1, State.isArrayOf_alike hvm h2, h3⟩
  | k + 10, h => exact h
theorem xP.moved {U' : State} (hvm : U.vm.Alike U'.vm) (h : xP ad dC dI B U H μ) : xP ad dC dI B U' H μ := ⟨fun a => cR_moved hvm (h.1 a), h.2⟩
theorem xP.apart (h : xP ad dC dI B U H μ) (ha : (μ.2.1 a).1 ≠ 0) (hb : (μ.2.1 b).1 ≠ 0) (hne : b ≠ a) : ad b ≠ ad a := by
  obtain ⟨-, -, -, h4, h5⟩ := h
  intro e
  rcases h5 a ha with ⟨-, e1, l1⟩ | ⟨-, j, hj, e1⟩ <;> rcases h5 b hb with ⟨-, e2, l2⟩ | ⟨-, k, hk, e2⟩
  · exact hne (e2.trans e1.symm)
  · have := h4 k
    rw [← e2] at this
    omega
  · have := h4 j
    rw [← e1] at this
    omega
  · have h1 := h4 j
    have h2 := h4 k
    rw [← e1] at h1
    rw [← e2] at h2
    have : j = k := by omega
    subst this
    exact hne (e2.trans e1.symm)
theorem xP.low (h : xP ad dC dI B U H μ) (ha : (μ.2.1 a).1 ≠ 0) (h9 : (μ.2.1 a).1 ≠ 9) : B ≤ ad a := by
  obtain ⟨-, -, -, h4, h5⟩ := h
  rcases h5 a ha with ⟨e, -⟩ | ⟨-, j, hj, e1⟩
  · exact absurd e h9
  · have := h4 j
    rw [← e1] at this
    omega
theorem okC_kept (hs : μ'.2.1 b = μ.2.1 b) (hv : μ'.1 b = μ.1 b) {i : Int} (h : okC μ b i) : okC μ' b i := by
  unfold okC at h ⊢
  rw [hs, hv]
  exact h
/-- one of our cells is written -/
theorem xP.put (h : xP ad dC dI B U H μ) (ha : (μ.2.1 a).1 ≠ 0) (hs : μ'.2.1 = μ.2.1) (hn : μ'.2.2.2 = μ.2.2.2) (hv : ∀ b, b ≠ a → μ'.1 b = μ.1 b) (hr : ∀ b, b ≠ a → μ'.2.2.1 b = μ.2.2.1 b) (hz : H'.size = H.size) (ho : ∀ q, q ≠ ad a → H'[q]? = H[q]?) (hc : cR ad dC dI U H' μ' a) (hk : ∀ i, okC μ' a i) : xP ad dC dI B U H' μ' := by
  refine ⟨fun b => ?_, fun b i => ?_, ?_, ?_, ?_⟩
  · by_cases e : b = a
    · subst e; exact hc
    · exact cR_kept (by rw [hs]) (hv b e) (hr b e) (fun hb => ho _ (h.apart ha hb e)) (h.1 b)
  · by_cases e : b = a
    · subst e; exact hk i
    · exact okC_kept (by rw [hs]) (hv b e) (h.2.1 b i)
  · rw [hz, hn]; exact h.2.2.1
  · rw [hn]; exact h.2.2.2.1
  · rw [hn, hs]; exact h.2.2.2.2
/-- the next number is free -/
theorem xP.free (h : xP ad dC dI B U H μ) {k : Nat} (hk : μ.2.2.2.1 ≤ k) : (μ.2.1 (μ.2.2.2.2.2 k)).1 = 0 := by
  obtain ⟨-, -, -, h4, h5⟩ := h
  by_cases h0 : (μ.2.1 (μ.2.2.2.2.2 k)).1 = 0
  · exact h0
  · have h1 := h4 k
    rcases h5 _ h0 with ⟨-, -, l1⟩ | ⟨-, j, hj, e1⟩
    · omega
    · have h2 := h4 j
      rw [← e1] at h2
      omega
theorem xP.new (h : xP ad dC dI B U H μ) {sh : Nat × Nat} {n : Nat} (h0 : sh.1 ≠ 0) (h9 : sh.1 ≠ 9) (hz : H'.size = H.size + 1) (ho : ∀ q, q < H.size → H'[q]? = H[q]?)
    (hc : cR ad dC dI U H' (vA μ.1 (μ.2.2.2.2.2 μ.2.2.2.1) (fun _ => 0), gN μ.2 (μ.2.2.2.2.2 μ.2.2.2.1) sh n) (μ.2.2.2.2.2 μ.2.2.2.1)) : xP ad dC dI B U H' (vA μ.1 (μ.2.2.2.2.2 μ.2.2.2.1) (fun _ => 0), gN μ.2 (μ.2.2.2.2.2 μ.2.2.2.1) sh n) := by
  have hf := h.free (Nat.le_refl _)
  generalize ha : μ.2.2.2.2.2 μ.2.2.2.1 = a at hc hf ⊢
  have e1 : ∀ b, b ≠ a → (gN μ.2 a sh n).1 b = μ.2.1 b := fun b e => by simp [gN, e]
  have e2 : (gN μ.2 a sh n).1 a = sh := by simp [gN]
  refine ⟨fun b => ?_, fun b i => ?_, ?_, ?_, ?_⟩
  · by_cases e : b = a
    · rw [e]; exact hc
    · refine cR_kept (e1 b e) (by simp [vA, e]) (by simp [gN, e]) (fun hb => ho _ ?_) (h.1 b)
      rcases h.2.2.2.2 b hb with ⟨-, -, l⟩ | ⟨-, j, hj, e3⟩
      · rw [h.2.2.1]; omega
      · rw [e3, h.2.2.2.1, h.2.2.1]; omega
  · by_cases e : b = a
    · subst e
      unfold okC
      simp only [e2, vA, if_pos]
      split <;> first | trivial | decide | (exact Or.inl rfl) | skip
      exact ⟨fun _ => by decide, fun _ => by simp, fun _ => by decide⟩
    · exact okC_kept (e1 b e) (by simp [vA, e]) (h.2.1 b i)
  · rw [hz, h.2.2.1]; simp [gN]; omega
  · exact h.2.2.2.1
  · intro b hb
    by_cases e : b = a
    · subst e
      refine Or.inr ⟨by rw [e2]; exact h9, μ.2.2.2.1, by simp [gN], ?_⟩
      simp [gN]; exact ha.symm
    · rw [e1 b e] at hb ⊢
      rcases h.2.2.2.2 b hb with hl | ⟨h1, j, hj, e3⟩
      · exact Or.inl hl
      · exact Or.inr ⟨h1, j, by simp [gN]; omega, by simp [gN]; exact e3⟩
end XRep
