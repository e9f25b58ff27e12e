/-! the words that ride along: all of the tables that keep -/
def vv_Tg : List Cond := lw_tbl.filter goodWord
theorem vv_t {w : Cond} (i : Nat) (h : tables_1[i]? = some w) (g : goodWord w = true) : w ∈ vv_Tg := List.mem_filter.mpr ⟨List.mem_append_right _ (List.mem_of_getElem? h), g⟩
theorem vv_s {w : Cond} (i : Nat) (h : (k2_sels lw_privs)[i]? = some w) (g : goodWord w = true) : w ∈ vv_Tg := List.mem_filter.mpr ⟨List.mem_append_left _ (List.mem_of_getElem? h), g⟩
theorem vv_good {w : Cond} (h : w ∈ vv_Tg) : w ∈ vv_Tg ∧ ((w.onTables && w.keeps) = true ∨ ∃ ty, w = .arrayClass ty) := ⟨h, good_of_word (List.mem_filter.mp h).2⟩
theorem vv_goodIn {w : Cond} (h : w ∈ vv_Tg) : GoodIn vv_Tg (w :: vv_Tg) := fun v hv => (List.mem_cons.mp hv).elim (fun e => e ▸ vv_good h) (fun h2 => vv_good h2)
