/-! CONSTRUCTORS: Circle, Plate, Told, Row, Layout, Log -/
def csF : Nat → Int × Int
  | 0 => (1, 0)
  | k + 1 => (((csF k).1 * 22 - (csF k).2 * 83) % 97, ((csF k).2 * 22 + (csF k).1 * 83) % 97)
theorem csF_bd : ∀ k, (0 ≤ (csF k).1 ∧ (csF k).1 ≤ 96) ∧ (0 ≤ (csF k).2 ∧ (csF k).2 ≤ 96)
  | 0 => by simp [csF]
  | k + 1 => by unfold csF; omega
def cF : Int → Int := fl zF (fun k => (csF k.toNat).1) 0 96
def sF : Int → Int := fl zF (fun k => (csF k.toNat).2) 0 96
theorem vA_4 (V : Nat → Int → Int) {a b : Nat} (f g h k : Int → Int) (e : a ≠ b) : vA (vA (vA (vA V a f) b g) a h) b k = vA (vA V a h) b k := by
  funext c
  simp only [vA_ap]
  by_cases e1 : c = b
  · simp only [e1, if_true]
  · by_cases e2 : c = a
    · simp only [e2, if_true]
    · simp only [e1, e2, if_false]
section CC
variable {n L d a s : Nat} {V : Nat → Int → Int} {R : Nat → Int → Option Nat}
set_option maxRecDepth 8000 in
theorem c_circle (h6 : n ≤ 6) (hz : zV 2 V) (hr : zR 2 R) : run (d + 1) 0 0 [xR 2, xU] [] (V, GA n L 3 R s) = some (none, (vA (vA V 3 cF) 4 sF, GA n L 5 (rA R 2 (uR (uR noR 0 3) 1 4)) (s + 96 + 96))) := by
  have hr2 := hr 2 (by omega)
  have hz3 := hz 3 (by omega)
  have hz4 := hz 4 (by omega)
  obtain ⟨R', hR'⟩ : ∃ R', R' = rA R 2 (uR (uR noR 0 3) 1 4) := ⟨_, rfl⟩
  have r0 : R' 2 0 = some 3 := by rw [hR']; rfl
  have r1 : R' 2 1 = some 4 := by rw [hR']; rfl
  have hst : run (d + 1) 0 0 [xR 2, xU] [] (V, GA n L 3 R s) = run (d + 1) 0 29 [xR 2, xI 1] [] (vA V 3 (vU zF 0 1), GA n L 5 R' (s + 96 + 96)) := by
    simp (disch := first | omega | assumption | (with_unfolding_all exact (id rfl)) | (simp only [rA_ap, uR_ap, eq_self, if_true, if_false, Int.reduceEq, Nat.reduceEqDiff]; done) | (with_unfolding_all exact Or.inl rfl) | exact hz _ (by omega) | exact hr _ (by omega) | (simp only [rA_ap, Nat.reduceEqDiff, if_false]; exact hr _ (by omega)) | (simp only [vA_ap, Nat.reduceEqDiff, if_false]; exact hz _ (by omega)) | ((repeat (first | exact zV_up hz (by omega) | refine zV_w ?_ (by omega))); done) | ((repeat (first | exact zR_up hr (by omega) | refine zR_w ?_ (by omega))); done) | (refine zRa ?_; (repeat (first | exact zR_up hr (by omega) | refine zR_w ?_ (by omega) | refine zR_rw ?_ (by omega) (by omega))); done) | ((repeat (first | exact zR_up hr (by omega) | refine zR_w ?_ (by omega) | refine zR_rw ?_ (by omega) (by omega))); done) | exact Nat.le_of_ble_eq_true rfl) only [bk0_0, bk0_107, Int.reduceToNat, vA_ap, rA_ap, rA_rA, rA_s2, rA2_eq, vA_vA, Nat.reduceEqDiff, Nat.reduceAdd, if_true, if_false, bx_nil, isL_I, isL_R, isL_U, if_ff, bind_some, tl_some, tl_none, bx_obj, bx_dupR, bx_aload_0, bx_bipush, c_arrI (n := n) (L := L) (a := 3) (len := 96) (x := 96) h6 (by omega) rfl rfl rfl (by omega), pfR' 2 0 0 rfl h6 rfl rfl rfl, c_arrI (n := n) (L := L) (a := 4) (len := 96) (x := 96) h6 (by omega) rfl rfl rfl (by omega), pfR' 2 1 1 rfl h6 rfl rfl rfl, gfR' 2 0 0 3 rfl h6 rfl rfl rfl, bx_iconst, bx_istore_1, bx_iload_1, bx_ic_ge, bx_isub, bx_imul, gfR' 2 1 1 4 rfl h6 rfl rfl rfl, cl1300, bx_iadd, bx_irem, bx_iinc1, bx_goto, bx_vret, iast' 3 96 h6 rfl rfl]
    rw [hR', hr2, hz3]
  have h := it_up (D := d + 1) (q := 0) (pc := 29) (loc := fun k => [xR 2, xI k]) (F := fun k => (vA (vA V 3 (fl zF (fun k => (csF k.toNat).1) 0 k)) 4 (fl zF (fun k => (csF k.toNat).2) 0 k), GA n L 5 R' (s + 96 + 96))) (hi := 96) 95 1 (by omega) (fun k k0 k1 => by
    have e1 : fl zF (fun k => (csF k.toNat).1) 0 k (k - 1) = (csF (k - 1).toNat).1 := fl_in (by omega) (by omega)
    have e2 : fl zF (fun k => (csF k.toNat).2) 0 k (k - 1) = (csF (k - 1).toNat).2 := fl_in (by omega) (by omega)
    have hb := csF_bd (k - 1).toNat
    have e3 : csF k.toNat = (((csF (k - 1).toNat).1 * 22 - (csF (k - 1).toNat).2 * 83) % 97, ((csF (k - 1).toNat).2 * 22 + (csF (k - 1).toNat).1 * 83) % 97) := by
      rw [show k.toNat = (k - 1).toNat + 1 by omega]; rfl
    rw [bk0_29, ← fl_up (by omega), ← fl_up (by omega)]
    have e4 : vU (fl zF (fun k => (csF k.toNat).1) 0 k) k ((csF k.toNat).1) (k - 1) = (csF (k - 1).toNat).1 := by rw [vU_ne (by omega)]; exact e1
    rw [e3] at *
    generalize csF (k - 1).toNat = p at *
    simp (disch := first | omega | assumption | (with_unfolding_all exact (id rfl)) | (simp only [rA_ap, uR_ap, eq_self, if_true, if_false, Int.reduceEq, Nat.reduceEqDiff]; done) | (with_unfolding_all exact Or.inl rfl) | exact hz _ (by omega) | exact hr _ (by omega) | (simp only [rA_ap, Nat.reduceEqDiff, if_false]; exact hr _ (by omega)) | (simp only [vA_ap, Nat.reduceEqDiff, if_false]; exact hz _ (by omega)) | ((repeat (first | exact zV_up hz (by omega) | refine zV_w ?_ (by omega))); done) | ((repeat (first | exact zR_up hr (by omega) | refine zR_w ?_ (by omega))); done) | (refine zRa ?_; (repeat (first | exact zR_up hr (by omega) | refine zR_w ?_ (by omega) | refine zR_rw ?_ (by omega) (by omega))); done) | ((repeat (first | exact zR_up hr (by omega) | refine zR_w ?_ (by omega) | refine zR_rw ?_ (by omega) (by omega))); done) | exact Nat.le_of_ble_eq_true rfl) only [bk0_0, bk0_107, Int.reduceToNat, vA_ap, rA_ap, rA_rA, rA_s2, rA2_eq, vA_vA, Nat.reduceEqDiff, Nat.reduceAdd, if_true, if_false, bx_nil, isL_I, isL_R, isL_U, if_ff, bind_some, tl_some, tl_none, bx_obj, bx_dupR, bx_aload_0, bx_bipush, c_arrI (n := n) (L := L) (a := 3) (len := 96) (x := 96) h6 (by omega) rfl rfl rfl (by omega), pfR' 2 0 0 rfl h6 rfl rfl rfl, c_arrI (n := n) (L := L) (a := 4) (len := 96) (x := 96) h6 (by omega) rfl rfl rfl (by omega), pfR' 2 1 1 rfl h6 rfl rfl rfl, gfR' 2 0 0 3 rfl h6 rfl rfl rfl, bx_iconst, bx_istore_1, bx_iload_1, bx_ic_ge, bx_isub, bx_imul, gfR' 2 1 1 4 rfl h6 rfl rfl rfl, cl1300, bx_iadd, bx_irem, bx_iinc1, bx_goto, bx_vret, r0, r1, iald' 3 96 h6 rfl rfl, iald' 4 96 h6 rfl rfl, iast' 3 96 h6 rfl rfl, iast' 4 96 h6 rfl rfl, if_neg (show ¬ 96 ≤ k by omega), e1, e2, e4, vA_4, j_floorMod (show i32 (p.1 * 22 - p.2 * 83) from ⟨by omega, by omega⟩), tm_pos (show 0 ≤ p.2 * 22 + p.1 * 83 by omega) (show (0 : Int) < 97 by omega)]
    skip)
  rw [hst]
  have e0 : (vA (vA V 3 (fl zF (fun k => (csF k.toNat).1) 0 1)) 4 (fl zF (fun k => (csF k.toNat).2) 0 1)) = vA V 3 (vU zF 0 1) := by
    have e1 : fl zF (fun k => (csF k.toNat).1) 0 1 = vU zF 0 1 := by
      rw [show (1 : Int) = 0 + 1 from rfl, ← fl_up (by omega), fl_nil]; rfl
    have e2 : fl zF (fun k => (csF k.toNat).2) 0 1 = zF := by
      rw [show (1 : Int) = 0 + 1 from rfl, ← fl_up (by omega), fl_nil]
      funext j; unfold vU zF; split <;> rfl
    rw [e1, e2]
    funext b
    by_cases e : b = 4
    · rw [e, vA_same, vA_ne (by omega), hz4]
    · rw [vA_ne e]
  rw [← e0]
  refine h.trans ?_
  show run (d + 1) 0 29 [xR 2, xI 96] [] (vA (vA V 3 cF) 4 sF, GA n L 5 R' (s + 96 + 96)) = _
  rw [bk0_29, ← hR']
  simp (disch := first | omega | assumption | (with_unfolding_all exact (id rfl)) | (simp only [rA_ap, uR_ap, eq_self, if_true, if_false, Int.reduceEq, Nat.reduceEqDiff]; done) | (with_unfolding_all exact Or.inl rfl) | exact hz _ (by omega) | exact hr _ (by omega) | (simp only [rA_ap, Nat.reduceEqDiff, if_false]; exact hr _ (by omega)) | (simp only [vA_ap, Nat.reduceEqDiff, if_false]; exact hz _ (by omega)) | ((repeat (first | exact zV_up hz (by omega) | refine zV_w ?_ (by omega))); done) | ((repeat (first | exact zR_up hr (by omega) | refine zR_w ?_ (by omega))); done) | (refine zRa ?_; (repeat (first | exact zR_up hr (by omega) | refine zR_w ?_ (by omega) | refine zR_rw ?_ (by omega) (by omega))); done) | ((repeat (first | exact zR_up hr (by omega) | refine zR_w ?_ (by omega) | refine zR_rw ?_ (by omega) (by omega))); done) | exact Nat.le_of_ble_eq_true rfl) only [bk0_0, bk0_107, Int.reduceToNat, vA_ap, rA_ap, rA_rA, rA_s2, rA2_eq, vA_vA, Nat.reduceEqDiff, Nat.reduceAdd, if_true, if_false, bx_nil, isL_I, isL_R, isL_U, if_ff, bind_some, tl_some, tl_none, bx_obj, bx_dupR, bx_aload_0, bx_bipush, c_arrI (n := n) (L := L) (a := 3) (len := 96) (x := 96) h6 (by omega) rfl rfl rfl (by omega), pfR' 2 0 0 rfl h6 rfl rfl rfl, c_arrI (n := n) (L := L) (a := 4) (len := 96) (x := 96) h6 (by omega) rfl rfl rfl (by omega), pfR' 2 1 1 rfl h6 rfl rfl rfl, gfR' 2 0 0 3 rfl h6 rfl rfl rfl, bx_iconst, bx_istore_1, bx_iload_1, bx_ic_ge, bx_isub, bx_imul, gfR' 2 1 1 4 rfl h6 rfl rfl rfl, cl1300, bx_iadd, bx_irem, bx_iinc1, bx_goto, bx_vret, Int.le_refl, if_true]
end CC
