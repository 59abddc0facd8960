theorem um {w : Cond} (i : Nat) (h : lw_tbl[i]? = some w) (g : goodWord w = true) : w ∈ mU := List.mem_filter.mpr ⟨List.mem_of_getElem? h, g⟩
set_option maxRecDepth 100000 in
theorem t_a0 : Cond.instantiable RX11 18 ∈ mU := um 168 rfl rfl
set_option maxRecDepth 100000 in
theorem t_a1 : Cond.fieldLink "java/lang/String" 15 "java/lang/String" "coder" "B" ∈ mU := um 2329 rfl rfl
set_option maxRecDepth 100000 in
theorem t_a2 : Cond.fieldLink "java/lang/String" 15 "java/lang/String" "coder" "B" ∈ mU := um 2329 (by decide +kernel) (by decide +kernel)
set_option maxRecDepth 100000 in
theorem t_a3 : Cond.fieldLink "java/lang/String" 15 "java/lang/String" "coder" "B" ∈ mU := um 2329 (by exact (Eq.refl _ : lw_tbl[2329]? = lw_tbl[2329]?)) rfl
