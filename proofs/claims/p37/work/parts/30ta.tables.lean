set_option maxRecDepth 100000 in
theorem tb_0 : ∀ w ∈ bwl0, w ∈ lw_tbl := by decide +kernel
set_option maxRecDepth 100000 in
theorem tb_1 : ∀ w ∈ bwl1, w ∈ lw_tbl := by decide +kernel
set_option maxRecDepth 100000 in
theorem tb_2 : ∀ w ∈ bwl2, w ∈ lw_tbl := by decide +kernel
set_option maxRecDepth 100000 in
theorem tb_3 : ∀ w ∈ bwl3, w ∈ lw_tbl := by decide +kernel
set_option maxRecDepth 100000 in
theorem tb_4 : ∀ w ∈ bwl4, w ∈ lw_tbl := by decide +kernel
