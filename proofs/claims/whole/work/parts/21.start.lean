/-! THE LAW's START: its run in the plain machine gives the walk -/
def m0 (L : Nat) (xs : Nat → Int32) (iv : Nat → Nat) : XM := (fun a j => if a = 0 then (xs j.toNat).toInt else 0, (fun a => if a = 0 then (9, L) else (0, 0)), (fun _ _ => none), 0, 0, iv)
theorem kn_all {s : State} {args : Array Value} (hts : ∀ w ∈ gW, w.before args s = true) : ∃ (dC : Nat → ClassId) (dI : Nat → Nat → Nat), va_K (dC, dI) clX [] s := by
  have h : ∀ c : Nat, ∃ z : ClassId × (Nat → Nat), ∀ q, clX[c]? = some q → u_Kn s q.1 q.2.1 q.2.2 z.1 z.2 := by
    intro c
    cases hc : clX[c]? with
    | none => exact ⟨(0, fun _ => 0), fun q h => by cases h⟩
    | some q =>
      obtain ⟨cC, iS, h⟩ := u_known hts (u_in c q hc) (hts _ (u_ins c q hc).1)
      exact ⟨(cC, iS), fun q' h' => by cases h'; exact h⟩
  obtain ⟨f, hf⟩ := Classical.axiomOfChoice h
  exact ⟨fun c => (f c).1, fun c => (f c).2, fun c q hq => hf c q hq, fun k q hk => by cases hk⟩
theorem start_of {p : Program} {e : Env} {s : State} {m : MethodId} {below : List Frame} {meth : Method} {c : Code} (l : Launch) {b L : Nat} {xs : Nat → Int32} (C0 : lw_At p s m meth c b L xs) {iv o : Nat → Nat} (ho : ∀ j, o (iv j) = j) (hi : ∀ j, iv j ≠ 0) {μ' : XM} (hrun : run 800 1201 0 (en 1201 [xR 0]) [] (m0 L xs iv) = some (some (xI 1), μ')) (hc : μ'.2.2.2.1 ≤ 600000) (hs : μ'.2.2.2.2.1 ≤ 7302250) :
    W p l e room_1 s m #[Value.ref b] below meth c s.heap [] 0 0 (lw_Z below #[Value.ref b] s) (entryFrame m ([Value.ref b] : List Value).toArray 4) := by
  obtain ⟨hx, hb, hr, hml, hown, hts0, hX, hbl, hlocks, hgv⟩ := C0
  obtain ⟨f, hex⟩ := run_iff.mp hrun
  have hts : ∀ w ∈ gW, w.before #[Value.ref b] s = true := fun w hw => hts0 w (List.mem_filter.mp hw).1
  have hE : xE s := by
    intro w hw
    have h1 := hts0 w (oW_in w hw)
    simp only [oW, List.mem_cons, List.not_mem_nil, or_false] at hw
    rcases hw with rfl | rfl | rfl | rfl | rfl
    · exact h1
    · exact va_AO.of h1
    · exact va_Nw.of rfl h1
    · exact va_Nw.of rfl h1
    · exact va_Nw.of rfl h1
  obtain ⟨dC, dI, hK⟩ := kn_all hts
  have hC : XC p s m #[Value.ref b] meth c dC dI 1201 kr1201 := ⟨rfl, hx, hb, hr, hml, hown, hts, hlocks, fun h => absurd h (by decide), hK, hE⟩
  have hP : xP (fun a => if a = 0 then b else s.heap.size + o a) dC dI s.heap.size s s.heap (m0 L xs iv) := by
    refine ⟨fun a => ?_, fun a i => ?_, rfl, fun j => ?_, fun a ha => ?_⟩
    · by_cases h0 : a = 0
      · subst h0
        obtain ⟨scr, g1, g2, g3, g4, g5⟩ := hX
        refine (cR_9 (μ := m0 L xs iv) rfl).mpr ⟨scr, g1, g2, g3, g4, fun j hj => ?_⟩
        rw [g5 j hj]
        show _ = some (Value.int (Int32.ofInt (xs j).toInt))
        rw [Int32.ofInt_toInt]
      · unfold cR
        simp only [m0, if_neg h0]
    · by_cases h0 : a = 0
      · subst h0
        exact (okC_9 (μ := m0 L xs iv) rfl).mpr (n32i _)
      · unfold okC
        simp only [m0, if_neg h0]
    · show (if iv j = 0 then b else s.heap.size + o (iv j)) = _
      rw [if_neg (hi j), ho]
    · by_cases h0 : a = 0
      · subst h0
        exact Or.inl ⟨rfl, rfl, hbl⟩
      · exact absurd (by simp only [m0, if_neg h0]) ha
  have K := sound f 800 1201 0 (en 1201 [xR 0]) [] (m0 L xs iv) (some (xI 1)) μ' hex p l e room_1 s m #[Value.ref b] below meth c (lw_Z below #[Value.ref b] s) (fun a => if a = 0 then b else s.heap.size + o a) dC dI s.heap.size 0 0 kr1201 hC (by decide) (by decide) (by show μ'.2.2.2.1 - 0 ≤ 600000; omega) (by show μ'.2.2.2.2.1 - 0 ≤ 7302250; omega) ?_
  · have hent := lv_entry ([Value.ref b]) (n := 4) (Nat.le_of_ble_eq_true rfl)
    rw [lg_entry_eq]
    generalize (lg_sl ([Value.ref b]) ++ List.replicate (4 - (lg_sl ([Value.ref b])).length) Slot.unset).toArray = lsA at hent ⊢
    exact K s.heap [] lsA (by rw [hml]; exact hent) (by rw [hml]; rfl) (fun v hv => by
      have hv2 : v ∈ [xR 0, xU, xU, xU] := hv
      have : v = xR 0 ∨ v = xU := by simpa using hv2
      rcases this with rfl | rfl <;> trivial) (fun _ h => by cases h) hP va_S.rf (Nat.le_refl _) (Nat.le_refl _)
  · intro pc lsA H locs hret hvok hP2 hS h7 h8
    rcases hret with ⟨hdg, x, hv, -⟩ | ⟨-, ⟨a, hv⟩, -⟩ | ⟨-, hv, -⟩
    · refine va_forget (fun q hq => hS.2.2 q hq) ?_
      refine W.widen (k := 600000) (n := 7302250) (by omega) (by omega) ?_
      exact lw_ret hx hb hr hlocks hdg
    · cases hv
    · cases hv
