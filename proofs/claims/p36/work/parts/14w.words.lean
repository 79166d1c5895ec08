/-! WORDS, by their places -/
theorem wb_of {w : Cond} (h : w ∈ lw_tbl) (g : goodWord w = true) : w ∈ WB := List.mem_filter.mpr ⟨h, g⟩
theorem wb_t {w : Cond} (h : w ∈ tables_1) (g : goodWord w = true) : w ∈ WB := wb_of (List.mem_append_right _ h) g
theorem wb_1 {w : Cond} (i : Nat) (h : tables_1_1[i]? = some w) (g : goodWord w = true) : w ∈ WB := wb_t (List.mem_append_left _ (List.mem_of_getElem? h)) g
theorem wb_2 {w : Cond} (i : Nat) (h : tables_1_2[i]? = some w) (g : goodWord w = true) : w ∈ WB := wb_t (List.mem_append_right _ (List.mem_append_left _ (List.mem_of_getElem? h))) g
theorem wb_p {y : MethodName} {n : Nat} (h : (y, n) ∈ lw_privs) (g : goodWord (Cond.selects y.cls y y) = true) : Cond.selects y.cls y y ∈ WB := wb_of (List.mem_append_left _ (List.mem_map.mpr ⟨(y, n), h, rfl⟩)) g
theorem wb_p1 {y : MethodName} (i : Nat) {n : Nat} (h : lw_privs_1[i]? = some (y, n)) (g : goodWord (Cond.selects y.cls y y) = true) : Cond.selects y.cls y y ∈ WB := wb_p (List.mem_append_left _ (List.mem_of_getElem? h)) g
theorem wb_3 {w : Cond} (i : Nat) (h : tables_1_3[i]? = some w) (g : goodWord w = true) : w ∈ WB := wb_t (List.mem_append_right _ (List.mem_append_right _ (List.mem_of_getElem? h))) g
theorem wb_p2 {y : MethodName} (i : Nat) {n : Nat} (h : lw_privs_2[i]? = some (y, n)) (g : goodWord (Cond.selects y.cls y y) = true) : Cond.selects y.cls y y ∈ WB := wb_p (List.mem_append_right _ (List.mem_of_getElem? h)) g
