/-! Printed by my own program (wip/whole/gen_entries.py), cut: one row of it is heavy -/
theorem ve_w45 : ve_word ve_e45 ∈ tables_1 := List.mem_of_getElem? (i := 1371) (by decide +kernel)
