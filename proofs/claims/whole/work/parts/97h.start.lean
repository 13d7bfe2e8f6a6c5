/-! BOTH OBJECTS MADE: what holds at the start -/
def V0 (xs : Nat → Int32) : Nat → Int → Int := fun a j => if a = 0 then (xs j.toNat).toInt else 0
def WV (n : Nat) (V : Nat → Int → Int) : Nat → Int → Int := vA (vA (vA (vA (vA (XV10 n V) 376 (vU (vU zF 7 99) 0 n)) 377 cF) 378 sF) 380 (mF 72)) 381 (mF 72)
def WR (n : Nat) : Nat → Int → Option Nat := rA (XR10 n (fun _ => noR)) 376 mG
theorem WV_ne {n b : Nat} {V : Nat → Int → Int} (h : (b ≠ 3 ∧ b ≠ 4 ∧ b ≠ 5 ∧ b ≠ 6 ∧ b ≠ 8) ∧ (b ≠ 12 ∧ b ≠ 35 ∧ b ≠ 217 ∧ b ≠ 374) ∧ (b ≠ 376 ∧ b ≠ 377 ∧ b ≠ 378 ∧ b ≠ 380 ∧ b ≠ 381)) : WV n V b = V b := by
  unfold WV XV10 XV9 XV8 XV7 XV6 XV5 XV4 XV3 XV2 XV1
  repeat rw [vA_ne (by omega)]
theorem V0_z {xs : Nat → Int32} {b : Nat} (h : 1 ≤ b) : V0 xs b = zF := by
  funext j
  unfold V0
  rw [if_neg (by omega)]; rfl
theorem WV_z {n b : Nat} {xs : Nat → Int32} (h1 : 1 ≤ b) (h : (b ≠ 3 ∧ b ≠ 4 ∧ b ≠ 5 ∧ b ≠ 6 ∧ b ≠ 8) ∧ (b ≠ 12 ∧ b ≠ 35 ∧ b ≠ 217 ∧ b ≠ 374) ∧ (b ≠ 376 ∧ b ≠ 377 ∧ b ≠ 378 ∧ b ≠ 380 ∧ b ≠ 381)) : WV n (V0 xs) b = zF := by
  rw [WV_ne h, V0_z h1]
theorem plc_c {n : Nat} {X M : Int → Int} {z lo hi : Int} (hX : ∀ c, 0 ≤ c → c < 36 → X c = z) (hM : ∀ c, 0 ≤ c → c < 72 → M c = z) (h : lo ≤ z ∧ z ≤ hi) : plcP n X M z lo hi := by
  refine ⟨fun c c0 c1 => ?_, fun l i l0 l1 i0 i1 _ => hM _ (by omega) (by omega), fun k k0 k1 => ?_⟩
  · rw [hX c c0 c1, hM _ (ix_bd ⟨c0, c1⟩).1 (ix_bd ⟨c0, c1⟩).2]
  · rw [hM k k0 k1]; exact h
theorem mF_in {N j : Int} (h0 : 0 ≤ j) (h1 : j < N) : mF N j = -1 := if_pos ⟨h0, h1⟩
theorem no01 {P : Prop} (h : (0 : Int) = 1) : P := by omega
theorem no00 {P : Prop} {i : Int} (h0 : 0 ≤ i) (h : i < 0) : P := by omega
theorem inv_0 {n : Nat} {xs : Nat → Int32} (hn : 2 ≤ n ∧ n ≤ 6) : Inv n (WV n (V0 xs)) := by
  refine ⟨hn, rfl, rfl, rfl, rfl, rfl, rfl, rfl, ?_, ?_, ?_, ?_, ?_, ?_, ?_, ⟨rfl, (by decide : (1 : Int) ≤ 99), (by decide : (99 : Int) ≤ 99)⟩, fun _ _ _ => rfl, ?_, ?_, ?_, ?_, ?_, ?_, ⟨rfl, Int.le_refl 0, (by decide : (0 : Int) ≤ 60)⟩, ?_, ?_, ?_⟩
  · intro k k0 k1
    show 0 ≤ cF k ∧ cF k ≤ 96
    unfold cF
    rw [fl_in k0 k1]; exact (csF_bd _).1
  · intro k k0 k1
    show 0 ≤ sF k ∧ sF k ≤ 96
    unfold sF
    rw [fl_in k0 k1]; exact (csF_bd _).2
  · intro c c0 c1
    exact fl_in (f := zF) (g := lnF n) c0 c1
  · exact plc_c (fun _ _ _ => rfl) (fun _ _ _ => rfl) (by omega)
  · exact plc_c (X := mF 36) (M := mF 72) (fun _ a b => mF_in a b) (fun _ a b => mF_in a b) (by omega)
  · exact plc_c (fun _ _ _ => rfl) (fun _ _ _ => rfl) (by omega)
  · exact plc_c (X := mF 36) (M := mF 72) (fun _ a b => mF_in a b) (fun _ a b => mF_in a b) (by omega)
  · intro r c a1 a2 a3 a4
    rw [WV_z (by omega) (by omega), WV_z (b := 386) (by omega) (by omega)]
    exact ⟨rfl, Int.le_refl 0, (by decide : (0 : Int) ≤ 96)⟩
  · exact ⟨rfl, ⟨Int.le_refl 0, (by decide : (0 : Int) ≤ 15)⟩, fun i h0 h1 => no00 h0 h1⟩
  · exact ⟨Or.inl rfl, Or.inl rfl, Or.inl rfl, ⟨fun h => no01 h, fun h => no01 h.1⟩, fun _ => rfl⟩
  · exact fun h => no01 h
  · exact ⟨rfl, ⟨Int.le_refl 0, (by decide : (0 : Int) ≤ 10)⟩, fun i h0 h1 => no00 h0 h1⟩
  · exact ⟨rfl, ⟨Int.le_refl 0, (by decide : (0 : Int) ≤ 100)⟩, fun i h0 h1 => no00 h0 h1⟩
  · exact ⟨rfl, ⟨Int.le_refl 0, Int.le_refl 0⟩, fun i h0 h1 => no00 h0 h1⟩
  · exact ⟨rfl, ⟨Int.le_refl 0, (by decide : (0 : Int) ≤ 40)⟩, fun i h0 h1 => no00 h0 h1, fun r hr l l0 l1 => by rw [WV_z (by omega) (by omega)]; rfl⟩
  · exact ⟨rfl, Or.inl rfl, fun h => no01 h⟩
def chkW (f : Int → Option Nat) : List (Option Nat) → Nat → Bool
  | [], _ => true
  | none :: l, k => chkW f l (k + 1)
  | some b :: l, k => decide (f (k : Int) = some b) && chkW f l (k + 1)
def chkA (R : Nat → Int → Option Nat) : List (List (Option Nat)) → Nat → Bool
  | [], _ => true
  | r :: l, a => chkW (R a) r 0 && chkA R l (a + 1)
theorem chkW_ok {f : Int → Option Nat} : ∀ (l : List (Option Nat)) (k0 k b : Nat), chkW f l k0 = true → l.getD k none = some b → f ((k0 + k : Nat) : Int) = some b
  | [], _, k, b, _, h => by simp at h
  | none :: l, k0, 0, b, _, h => by simp at h
  | none :: l, k0, k + 1, b, hc, h => by
    have := chkW_ok l (k0 + 1) k b hc (by simpa using h)
    rw [show k0 + (k + 1) = k0 + 1 + k by omega]; exact this
  | some c :: l, k0, 0, b, hc, h => by
    have h1 := (Bool.and_eq_true _ _ ▸ hc : _ ∧ _).1
    have h2 : c = b := by simpa using h
    rw [← h2]; exact of_decide_eq_true h1
  | some c :: l, k0, k + 1, b, hc, h => by
    have h1 := (Bool.and_eq_true _ _ ▸ hc : _ ∧ _).2
    have := chkW_ok l (k0 + 1) k b h1 (by simpa using h)
    rw [show k0 + (k + 1) = k0 + 1 + k by omega]; exact this
theorem chkA_ok {R : Nat → Int → Option Nat} : ∀ (l : List (List (Option Nat))) (a0 a k b : Nat), chkA R l a0 = true → (l.getD a []).getD k none = some b → R (a0 + a) ((k : Nat) : Int) = some b
  | [], _, a, k, b, _, h => by simp at h
  | r :: l, a0, 0, k, b, hc, h => by
    have h1 := (Bool.and_eq_true _ _ ▸ hc : _ ∧ _).1
    have := chkW_ok r 0 k b h1 (by simpa using h)
    simpa using this
  | r :: l, a0, a + 1, k, b, hc, h => by
    have h1 := (Bool.and_eq_true _ _ ▸ hc : _ ∧ _).2
    have := chkA_ok l (a0 + 1) a k b h1 (by simpa using h)
    rw [show a0 + (a + 1) = a0 + 1 + a by omega]; exact this
theorem ref_0 {n : Nat} (hn : 2 ≤ n ∧ n ≤ 6) : chkA (WR n) rfL 0 = true := by
  have : n = 2 ∨ n = 3 ∨ n = 4 ∨ n = 5 ∨ n = 6 := by omega
  rcases this with h | h | h | h | h <;> subst h <;> decide +kernel
theorem good_0 {n L s : Nat} (hn : 2 ≤ n ∧ n ≤ 6) : Good n L (GA n L 411 (WR n) s) := by
  refine ⟨rfl, fun a ha => ?_, fun a k b h => ?_, fun a i b h => ?_⟩
  · have h1 := (okI_iff hn.2).mp ha
    exact shJ_in hn.2 ha (o_lt hn.2 ha (Or.inr rfl) (by omega))
  · have := chkA_ok rfL 0 a k b (ref_0 hn) h
    rw [Nat.zero_add] at this
    exact this
  · unfold rfA at h
    by_cases e : a = 15
    · rw [if_pos e] at h; subst e; exact h
    rw [if_neg e] at h; clear e
    by_cases e : a = 22
    · rw [if_pos e] at h; subst e; exact h
    rw [if_neg e] at h; clear e
    by_cases e : a = 218
    · rw [if_pos e] at h; subst e; exact h
    rw [if_neg e] at h; clear e
    by_cases e : a = 259
    · rw [if_pos e] at h; subst e; exact h
    rw [if_neg e] at h; clear e
    by_cases e : a = 300
    · rw [if_pos e] at h; subst e; exact h
    rw [if_neg e] at h; clear e
    by_cases e : a = 350
    · rw [if_pos e] at h; subst e; exact h
    rw [if_neg e] at h; clear e
    by_cases e : a = 365
    · rw [if_pos e] at h; subst e; exact h
    rw [if_neg e] at h; clear e
    by_cases e : a = 37
    · rw [if_pos e] at h; subst e; exact h
    rw [if_neg e] at h; clear e
    by_cases e : a = 39
    · rw [if_pos e] at h; subst e; exact h
    rw [if_neg e] at h; cases h
