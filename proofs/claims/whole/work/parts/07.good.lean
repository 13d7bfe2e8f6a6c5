/-! the words that stay through a call by themselves (gW), and others that we carry along (oW) -/
def gW : List Cond := lw_tbl.filter goodWord
theorem gW_in {w : Cond} (h : w ∈ lw_tbl) (hg : goodWord w = true) : w ∈ gW := List.mem_filter.mpr ⟨h, hg⟩
theorem gW_at {w : Cond} {k : Nat} (h : lw_tbl[k]? = some w) (hg : goodWord w = true) : w ∈ gW := gW_in (List.mem_of_getElem? h) hg
def oW : List Cond := [.arrayOver (.array .int), .arrayOver (.object "LightPlate$Row"), .methodLinkNest "LightPlate" 40 ⟨"LightPlate$Row", "<init>", "()V"⟩ "LightPlate", .methodLinkNest "LightPlate$Reader" 35 ⟨"LightPlate$Row", "<init>", "()V"⟩ "LightPlate", .methodLinkNest "LightPlate" 65 ⟨"LightPlate$Log", "<init>", "()V"⟩ "LightPlate"]
theorem oW_in : ∀ w ∈ oW, w ∈ lw_tbl := by decide +kernel
def xE (U : State) : Prop := ∀ w ∈ oW, w.before #[] U = true
theorem xE.warm {s U : State} (hW : s.WarmedH U.vm) (h : xE s) : xE U := by
  intro w hw
  have h1 := h w hw
  simp only [oW, List.mem_cons, List.not_mem_nil, or_false] at hw
  rcases hw with rfl | rfl | rfl | rfl | rfl
  · exact over_moved hW.alike h1
  · exact va_AO.moved hW.alike h1
  · exact va_Nw.warmM hW h1
  · exact va_Nw.warmM hW h1
  · exact va_Nw.warmM hW h1
