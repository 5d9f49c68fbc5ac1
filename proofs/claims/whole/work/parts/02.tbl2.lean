/-- the words that stay: those that every method may lean on -/
def om_tbl : List Cond := lw_tbl.filter goodWord
theorem om_mem {i : Nat} {w : Cond} (h : lw_tbl[i]? = some w) (g : goodWord w = true) : w ∈ om_tbl := List.mem_filter.mpr ⟨List.mem_of_getElem? h, g⟩
theorem om_good : GoodIn om_tbl om_tbl := fun w h => ⟨h, good_of_word (List.mem_filter.mp h).2⟩
theorem om_sub {w : Cond} (h : w ∈ om_tbl) : w ∈ lw_tbl := (List.mem_filter.mp h).1
