/-! WHAT HOLDS BETWEEN two calls of both objects -/
def tldP (n : Nat) (V : Nat → Int → Int) : Prop := ∀ r c, 0 ≤ r → r < (n : Int) → 0 ≤ c → c < (n : Int) → V (16 + c.toNat) r = V 386 (6 * r + c) ∧ 0 ≤ V 386 (6 * r + c) ∧ V 386 (6 * r + c) ≤ 96
def stpP (n : Nat) (V : Nat → Int → Int) : Prop := V 376 16 = V 12 6 ∧ (0 ≤ V 12 6 ∧ V 12 6 ≤ 15) ∧ ∀ i, 0 ≤ i → i < V 12 6 → V 13 i = V 388 i ∧ V 14 i = V 389 i ∧ (0 ≤ V 388 i ∧ V 388 i + 1 < n) ∧ (0 ≤ V 389 i ∧ V 389 i ≤ 95)
def splP (V : Nat → Int → Int) : Prop := (V 12 7 = 0 ∨ V 12 7 = 1) ∧ (V 376 17 = 0 ∨ V 376 17 = 1) ∧ (V 376 18 = 0 ∨ V 376 18 = 1) ∧ (V 12 7 = 1 ↔ V 376 17 = 1 ∧ V 376 18 = 0) ∧ (V 376 17 = 0 → V 12 6 = 0)
def sgnP (n : Nat) (V : Nat → Int → Int) : Prop := V 12 7 = 1 → ∀ i, 0 ≤ i → i < (n : Int) → V (23 + i.toNat) i = V 390 i
def wrkP (n : Nat) (V : Nat → Int → Int) : Prop := V 376 21 = V 29 2 ∧ (0 ≤ V 29 2 ∧ V 29 2 ≤ 10) ∧ ∀ w, 0 ≤ w → w < V 29 2 → V 30 w = V 391 w ∧ V 31 w = V 392 w ∧ (0 ≤ V 391 w ∧ V 391 w + 1 < n) ∧ (0 ≤ V 392 w ∧ V 392 w ≤ 95)
def tapP (V : Nat → Int → Int) : Prop := V 376 30 = V 35 1 ∧ (0 ≤ V 35 1 ∧ V 35 1 ≤ 100) ∧ ∀ i, 0 ≤ i → i < V 35 1 → V 394 i = V 36 i ∧ 0 ≤ V 36 i ∧ V 36 i ≤ 255
def fndP (n : Nat) (V : Nat → Int → Int) : Prop := V 376 43 = V 212 1 ∧ (0 ≤ V 212 1 ∧ V 212 1 ≤ V 212 0) ∧ ∀ e, 0 ≤ e → e < V 212 1 → (0 ≤ V 213 e ∧ V 213 e < 36) ∧ lnF n (V 213 e) ≠ -1 ∧ V 404 e = ix (V 213 e) ∧ V 405 e = V 214 e ∧ (-8 ≤ V 214 e ∧ V 214 e ≤ 8) ∧ V 406 e = V 215 e ∧ 0 ≤ V 215 e
def runP1 (n : Nat) (V : Nat → Int → Int) (r : Int) : Prop := (∀ l, 0 ≤ l → l < (n : Int) → V (219 + r.toNat) l = V 402 (6 * r + l) ∧ V (260 + r.toNat) l = V 401 (6 * r + l) ∧ 0 ≤ V 401 (6 * r + l) ∧ V 401 (6 * r + l) ≤ 96) ∧ (∀ l, (n : Int) ≤ l → l < 6 → V (260 + r.toNat) l = 0) ∧ cRl (V (301 + r.toNat)) (fun k => V 403 (72 * r + k)) ∧ cZ n (fun k => V 403 (72 * r + k)) 0 ∧ rg (fun k => V 403 (72 * r + k)) 72 0 95
def runP (n : Nat) (V : Nat → Int → Int) : Prop := V 376 41 = V 217 3 ∧ (0 ≤ V 217 3 ∧ V 217 3 ≤ 40) ∧ (∀ r, 0 ≤ r → r < V 217 3 → runP1 n V r) ∧ ∀ r : Nat, r < 40 → ∀ l, (n : Int) ≤ l → l < 6 → V (260 + r) l = 0
/-- a hypothesis but the first: its cell and how much more -/
def hypP (n : Nat) (V : Nat → Int → Int) (a b : Int) : Prop := (0 ≤ V 345 (1 + 4 * a + b) ∧ V 345 (1 + 4 * a + b) < 36) ∧ lnF n (V 345 (1 + 4 * a + b)) ≠ -1 ∧ V 407 a = ix (V 345 (1 + 4 * a + b)) ∧ V 346 (1 + 4 * a + b) = (if b < 2 then b - 2 else b - 1)
def prbP (n : Nat) (V : Nat → Int → Int) : Prop := V 376 50 = V 344 2 ∧ (V 344 2 = 0 ∨ V 344 2 = 1) ∧ (V 344 2 = 1 → V 376 48 = V 344 3 ∧ V 376 49 = V 344 4 ∧ (0 ≤ V 344 4 ∧ V 344 4 ≤ 20) ∧ (0 ≤ V 376 47 ∧ V 376 47 ≤ 36) ∧ V 344 3 = 1 + 4 * V 376 47 ∧ V 345 0 = -1 ∧ (∀ a b, 0 ≤ a → a < V 376 47 → 0 ≤ b → b < 4 → hypP n V a b) ∧ (∀ h, 0 ≤ h → h < V 344 3 → V 409 h = V 347 h ∧ (V 347 h = 0 ∨ V 347 h = 1)) ∧ V 344 5 = cntF (fun h => decide (V 347 h = 1)) (V 344 3).toNat 0)
def plcP (n : Nat) (X M : Int → Int) (z lo hi : Int) : Prop := cRl X M ∧ cZ n M z ∧ rg M 72 lo hi
def Inv (n : Nat) (V : Nat → Int → Int) : Prop := (2 ≤ n ∧ n ≤ 6) ∧ (V 5 0 = n) ∧ (V 12 0 = n) ∧ (V 35 0 = n) ∧ (V 376 0 = n) ∧ (V 217 2 = 97 ^ n) ∧ (V 377 = V 3) ∧ (V 378 = V 4) ∧ (rg (V 3) 96 0 96) ∧ (rg (V 4) 96 0 96) ∧ (lanOK n (V 6)) ∧ (plcP n (V 7) (V 379) 0 0 95) ∧ (plcP n (V 8) (V 380) (-1) (-1) 95) ∧ (plcP n (V 9) (V 382) 0 (-8) 8) ∧ (plcP n (V 374) (V 381) (-1) (-1) 1) ∧ (V 376 7 = V 5 6 ∧ 1 ≤ V 5 6 ∧ V 5 6 ≤ 99) ∧ (∀ j, (n : Int) ≤ j → j < 6 → V 385 j = 0) ∧ (tldP n V) ∧ (stpP n V) ∧ (splP V) ∧ (sgnP n V) ∧ (wrkP n V) ∧ (tapP V) ∧ (V 376 42 = V 212 0 ∧ 0 ≤ V 212 0 ∧ V 212 0 ≤ 60) ∧ (fndP n V) ∧ (runP n V) ∧ (prbP n V)
theorem Inv.nn {n : Nat} {V : Nat → Int → Int} (h : Inv n V) : 2 ≤ n ∧ n ≤ 6 := h.1
theorem Inv.l5 {n : Nat} {V : Nat → Int → Int} (h : Inv n V) : V 5 0 = n := h.2.1
theorem Inv.l12 {n : Nat} {V : Nat → Int → Int} (h : Inv n V) : V 12 0 = n := h.2.2.1
theorem Inv.l35 {n : Nat} {V : Nat → Int → Int} (h : Inv n V) : V 35 0 = n := h.2.2.2.1
theorem Inv.lm {n : Nat} {V : Nat → Int → Int} (h : Inv n V) : V 376 0 = n := h.2.2.2.2.1
theorem Inv.lim {n : Nat} {V : Nat → Int → Int} (h : Inv n V) : V 217 2 = 97 ^ n := h.2.2.2.2.2.1
theorem Inv.cc {n : Nat} {V : Nat → Int → Int} (h : Inv n V) : V 377 = V 3 := h.2.2.2.2.2.2.1
theorem Inv.ss {n : Nat} {V : Nat → Int → Int} (h : Inv n V) : V 378 = V 4 := h.2.2.2.2.2.2.2.1
theorem Inv.rC {n : Nat} {V : Nat → Int → Int} (h : Inv n V) : rg (V 3) 96 0 96 := h.2.2.2.2.2.2.2.2.1
theorem Inv.rS {n : Nat} {V : Nat → Int → Int} (h : Inv n V) : rg (V 4) 96 0 96 := h.2.2.2.2.2.2.2.2.2.1
theorem Inv.lan {n : Nat} {V : Nat → Int → Int} (h : Inv n V) : lanOK n (V 6) := h.2.2.2.2.2.2.2.2.2.2.1
theorem Inv.set {n : Nat} {V : Nat → Int → Int} (h : Inv n V) : plcP n (V 7) (V 379) 0 0 95 := h.2.2.2.2.2.2.2.2.2.2.2.1
theorem Inv.stk {n : Nat} {V : Nat → Int → Int} (h : Inv n V) : plcP n (V 8) (V 380) (-1) (-1) 95 := h.2.2.2.2.2.2.2.2.2.2.2.2.1
theorem Inv.off {n : Nat} {V : Nat → Int → Int} (h : Inv n V) : plcP n (V 9) (V 382) 0 (-8) 8 := h.2.2.2.2.2.2.2.2.2.2.2.2.2.1
theorem Inv.own {n : Nat} {V : Nat → Int → Int} (h : Inv n V) : plcP n (V 374) (V 381) (-1) (-1) 1 := h.2.2.2.2.2.2.2.2.2.2.2.2.2.2.1
theorem Inv.cre {n : Nat} {V : Nat → Int → Int} (h : Inv n V) : V 376 7 = V 5 6 ∧ 1 ≤ V 5 6 ∧ V 5 6 ≤ 99 := h.2.2.2.2.2.2.2.2.2.2.2.2.2.2.2.1
theorem Inv.lig {n : Nat} {V : Nat → Int → Int} (h : Inv n V) : ∀ j, (n : Int) ≤ j → j < 6 → V 385 j = 0 := h.2.2.2.2.2.2.2.2.2.2.2.2.2.2.2.2.1
theorem Inv.tld {n : Nat} {V : Nat → Int → Int} (h : Inv n V) : tldP n V := h.2.2.2.2.2.2.2.2.2.2.2.2.2.2.2.2.2.1
theorem Inv.stp {n : Nat} {V : Nat → Int → Int} (h : Inv n V) : stpP n V := h.2.2.2.2.2.2.2.2.2.2.2.2.2.2.2.2.2.2.1
theorem Inv.spl {n : Nat} {V : Nat → Int → Int} (h : Inv n V) : splP V := h.2.2.2.2.2.2.2.2.2.2.2.2.2.2.2.2.2.2.2.1
theorem Inv.sgn {n : Nat} {V : Nat → Int → Int} (h : Inv n V) : sgnP n V := h.2.2.2.2.2.2.2.2.2.2.2.2.2.2.2.2.2.2.2.2.1
theorem Inv.wrk {n : Nat} {V : Nat → Int → Int} (h : Inv n V) : wrkP n V := h.2.2.2.2.2.2.2.2.2.2.2.2.2.2.2.2.2.2.2.2.2.1
theorem Inv.tap {n : Nat} {V : Nat → Int → Int} (h : Inv n V) : tapP V := h.2.2.2.2.2.2.2.2.2.2.2.2.2.2.2.2.2.2.2.2.2.2.1
theorem Inv.ent {n : Nat} {V : Nat → Int → Int} (h : Inv n V) : V 376 42 = V 212 0 ∧ 0 ≤ V 212 0 ∧ V 212 0 ≤ 60 := h.2.2.2.2.2.2.2.2.2.2.2.2.2.2.2.2.2.2.2.2.2.2.2.1
theorem Inv.fnd {n : Nat} {V : Nat → Int → Int} (h : Inv n V) : fndP n V := h.2.2.2.2.2.2.2.2.2.2.2.2.2.2.2.2.2.2.2.2.2.2.2.2.1
theorem Inv.rns {n : Nat} {V : Nat → Int → Int} (h : Inv n V) : runP n V := h.2.2.2.2.2.2.2.2.2.2.2.2.2.2.2.2.2.2.2.2.2.2.2.2.2.1
theorem Inv.prb {n : Nat} {V : Nat → Int → Int} (h : Inv n V) : prbP n V := h.2.2.2.2.2.2.2.2.2.2.2.2.2.2.2.2.2.2.2.2.2.2.2.2.2.2
theorem tldP_tr {n : Nat} {V V' : Nat → Int → Int} (h6 : n ≤ 6) (h : tldP n V) (h1 : ∀ c, c < 6 → V' (16 + c) = V (16 + c)) (h2 : V' 386 = V 386) : tldP n V' := by
  intro r c a1 a2 a3 a4
  rw [h2, h1 c.toNat (by omega)]
  exact h r c a1 a2 a3 a4
theorem sgnP_tr {n : Nat} {V V' : Nat → Int → Int} (h6 : n ≤ 6) (h : sgnP n V) (h1 : ∀ c, c < 6 → V' (23 + c) = V (23 + c)) (h2 : V' 390 = V 390) (h3 : V' 12 = V 12) : sgnP n V' := by
  intro hw i a1 a2
  rw [h2, h1 i.toNat (by omega)]
  rw [h3] at hw
  exact h hw i a1 a2
theorem runP1_tr {n : Nat} {V V' : Nat → Int → Int} {r : Int} (hr : 0 ≤ r ∧ r < 40) (h : runP1 n V r) (h1 : ∀ c, c < 40 → V' (219 + c) = V (219 + c) ∧ V' (260 + c) = V (260 + c) ∧ V' (301 + c) = V (301 + c)) (h2 : V' 402 = V 402 ∧ V' 401 = V 401 ∧ V' 403 = V 403) : runP1 n V' r := by
  obtain ⟨e1, e2, e3⟩ := h1 r.toNat (by omega)
  unfold runP1
  rw [e1, e2, e3, h2.1, h2.2.1, h2.2.2]
  exact h
theorem runP_tr {n : Nat} {V V' : Nat → Int → Int} (h : runP n V) (h1 : ∀ c, c < 40 → V' (219 + c) = V (219 + c) ∧ V' (260 + c) = V (260 + c) ∧ V' (301 + c) = V (301 + c)) (h2 : V' 402 = V 402 ∧ V' 401 = V 401 ∧ V' 403 = V 403) (h3 : (fun V : Nat → Int → Int => (V 376 41, V 217 3)) V' = (fun V : Nat → Int → Int => (V 376 41, V 217 3)) V) : runP n V' := by
  have h4 := congrArg Prod.fst h3
  have h5 := congrArg Prod.snd h3
  simp only at h4 h5
  unfold runP
  rw [h4, h5]
  exact ⟨h.1, h.2.1, fun r a b => runP1_tr ⟨a, by have := h.2.1; omega⟩ (h.2.2.1 r a b) h1 h2, fun r hr l l0 l1 => by rw [(h1 r hr).2.1]; exact h.2.2.2 r hr l l0 l1⟩
/-- a cell of a place is changed on both sides -/
theorem plcP_up {n : Nat} {X M : Int → Int} {z lo hi l i k : Int} (h6 : n ≤ 6) (h : plcP n X M z lo hi) (hc : isC n l i) (hk : lo ≤ k ∧ k ≤ hi) : plcP n (vU X (xi l i) k) (vU M (6 * l + i) k) z lo hi := by
  have hx := xi_in (by omega) hc
  have ei := ix_xi (by omega) hc
  obtain ⟨h1, h2, h3⟩ := h
  refine ⟨fun c c0 c1 => ?_, fun a b g1 g2 g3 g4 g5 => ?_, fun j g1 g2 => ?_⟩
  · by_cases e : c = xi l i
    · rw [e, vU_at, ei, vU_at]
    · rw [vU_ne e, vU_ne ?_, h1 c c0 c1]
      rw [← ei]
      intro e2
      apply e
      unfold ix at e2
      unfold xi at *
      omega
  · have e : 6 * a + b ≠ 6 * l + i := by
      intro e
      have hc' := hc
      unfold isC at hc'
      have e1 : a = l := by omega
      have e2 : b = i := by omega
      subst e1; subst e2
      exact g5 hc
    rw [vU_ne e]
    exact h2 a b g1 g2 g3 g4 g5
  · by_cases e : j = 6 * l + i
    · rw [e, vU_at]; exact hk
    · rw [vU_ne e]; exact h3 j g1 g2
theorem plcP_cong {n : Nat} {X M M' : Int → Int} {z lo hi : Int} (h : plcP n X M z lo hi) (e : ∀ k, 0 ≤ k → k < 72 → M' k = M k) : plcP n X M' z lo hi := by
  refine ⟨fun c c0 c1 => ?_, fun a b g1 g2 g3 g4 g5 => ?_, fun j g1 g2 => ?_⟩
  · rw [e _ (ix_bd ⟨c0, c1⟩).1 (ix_bd ⟨c0, c1⟩).2]; exact h.1 c c0 c1
  · rw [e _ (by omega) (by omega)]; exact h.2.1 a b g1 g2 g3 g4 g5
  · rw [e j g1 g2]; exact h.2.2 j g1 g2
theorem plcP_rg {n : Nat} {X M : Int → Int} {z lo hi : Int} (h : plcP n X M z lo hi) : rg X 36 lo hi := by
  intro c c0 c1
  rw [h.1 c c0 c1]
  exact h.2.2 _ (ix_bd ⟨c0, c1⟩).1 (ix_bd ⟨c0, c1⟩).2
theorem rg_wide {f : Int → Int} {N lo hi lo' hi' : Int} (h : rg f N lo hi) (h1 : lo' ≤ lo) (h2 : hi ≤ hi') : rg f N lo' hi' := by
  intro k a b
  have := h k a b
  omega
/-- both objects answer a call alike, and what holds between calls holds then -/
def pair (n : Nat) (G : XG) (V : Nat → Int → Int) (qx qm : Nat) (lx lm : List XV) : Prop := ∃ r V' V'', run 799 qx 0 lx [] (V, G) = some (some (xI r), (V', G)) ∧ run 799 qm 0 lm [] (V', G) = some (some (xI r), (V'', G)) ∧ Inv n V''
theorem mkpair {n : Nat} {G : XG} {V : Nat → Int → Int} {qx qm : Nat} {lx lm : List XV} {r : Int} {V' V'' : Nat → Int → Int} (hx : run 799 qx 0 lx [] (V, G) = some (some (xI r), (V', G))) (hm : run 799 qm 0 lm [] (V', G) = some (some (xI r), (V'', G))) (h : Inv n V'') : pair n G V qx qm lx lm := ⟨r, V', V'', hx, hm, h⟩
section PR
variable {n L : Nat} {G : XG} {V : Nat → Int → Int}
theorem Inv.xy {l i : Int} (h : Inv n V) (hc : isC n l i) {X M : Int → Int} {z lo hi : Int} (hp : plcP n X M z lo hi) : X (xi l i) = M (6 * l + i) ∧ lo ≤ M (6 * l + i) ∧ M (6 * l + i) ≤ hi := by
  have hn := h.nn
  have hx := xi_in (by omega) hc
  have hi := isC_ix (by omega) hc
  rw [hp.1 _ hx.1 hx.2, ix_xi (by omega) hc]
  exact ⟨rfl, hp.2.2 _ hi.1 hi.2⟩
theorem pr_turn {k w : Int} (hG : Good n L G) (hk : i32 k) (h : Inv n V) : pair n G V 1001 1102 [xR 1, xI k, xI w, xU] [xR 376, xI k, xI w] := by
  refine mkpair (xp_turn hG hk) ?_ h
  have e : turnXa V k w = turnM V k w := by unfold turnXa turnM; rw [h.cc, h.ss]
  rw [e]
  exact mp_turn hG
end PR
