/-- the words of the tables that stay true, whatever the machine notes down -/
def GW : List Cond := lw_tbl.filter goodWord
theorem GW_in {w : Cond} (h : w ∈ lw_tbl) (hg : goodWord w = true) : w ∈ GW := List.mem_filter.mpr ⟨h, hg⟩
theorem GW_t {w : Cond} {i : Nat} (h : tables_1[i]? = some w) (hg : goodWord w = true) : w ∈ GW := GW_in (List.mem_append_right _ (List.mem_of_getElem? h)) hg
theorem GW_p {w : Cond} {i : Nat} (h : (k2_sels lw_privs)[i]? = some w) (hg : goodWord w = true) : w ∈ GW := GW_in (List.mem_append_left _ (List.mem_of_getElem? h)) hg
theorem GW_good {w : Cond} (h : w ∈ GW) : (w.onTables && w.keeps) = true ∨ ∃ ty, w = .arrayClass ty := good_of_word (List.mem_filter.mp h).2
theorem GW_call {w : Cond} (h : w ∈ GW) : GoodIn GW (w :: GW) := fun x hx => (List.mem_cons.mp hx).elim (fun q => by rw [q]; exact ⟨h, GW_good h⟩) (fun q => ⟨q, GW_good q⟩)
