/-! ===== words of the tables that keep, and what else is held of the start ===== -/
def sp_tb : List Cond := lw_tbl.filter goodWord
theorem sp_mem {w : Cond} (i : Nat) (h : lw_tbl[i]? = some w) (hg : goodWord w = true) : w ∈ sp_tb := List.mem_filter.mpr ⟨List.mem_of_getElem? h, hg⟩
