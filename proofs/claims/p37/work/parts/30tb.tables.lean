set_option maxRecDepth 100000 in
theorem tb_5_0 : ∀ w ∈ (bwl5.drop 0).take 12, w ∈ lw_tbl := by decide +kernel
set_option maxRecDepth 100000 in
theorem tb_5_1 : ∀ w ∈ (bwl5.drop 12).take 12, w ∈ lw_tbl := by decide +kernel
set_option maxRecDepth 100000 in
theorem tb_5_2 : ∀ w ∈ (bwl5.drop 24).take 12, w ∈ lw_tbl := by decide +kernel
set_option maxRecDepth 100000 in
theorem tb_5_3 : ∀ w ∈ (bwl5.drop 36).take 12, w ∈ lw_tbl := by decide +kernel
set_option maxRecDepth 100000 in
theorem tb_5_4 : ∀ w ∈ (bwl5.drop 48).take 12, w ∈ lw_tbl := by decide +kernel
theorem tb_5 : ∀ w ∈ bwl5, w ∈ lw_tbl := by
  intro w h
  rw [show bwl5 = (bwl5.drop 0).take 12 ++ ((bwl5.drop 12).take 12 ++ ((bwl5.drop 24).take 12 ++ ((bwl5.drop 36).take 12 ++ (bwl5.drop 48).take 12))) from rfl] at h
  rcases List.mem_append.mp h with h | h
  · exact tb_5_0 w h
  rcases List.mem_append.mp h with h | h
  · exact tb_5_1 w h
  rcases List.mem_append.mp h with h | h
  · exact tb_5_2 w h
  rcases List.mem_append.mp h with h | h
  · exact tb_5_3 w h
  · exact tb_5_4 w h
set_option maxRecDepth 100000 in
theorem tb_6_0 : ∀ w ∈ (bwl6.drop 0).take 12, w ∈ lw_tbl := by decide +kernel
set_option maxRecDepth 100000 in
theorem tb_6_1 : ∀ w ∈ (bwl6.drop 12).take 12, w ∈ lw_tbl := by decide +kernel
set_option maxRecDepth 100000 in
theorem tb_6_2 : ∀ w ∈ (bwl6.drop 24).take 12, w ∈ lw_tbl := by decide +kernel
set_option maxRecDepth 100000 in
theorem tb_6_3 : ∀ w ∈ (bwl6.drop 36).take 12, w ∈ lw_tbl := by decide +kernel
set_option maxRecDepth 100000 in
theorem tb_6_4 : ∀ w ∈ (bwl6.drop 48).take 12, w ∈ lw_tbl := by decide +kernel
theorem tb_6 : ∀ w ∈ bwl6, w ∈ lw_tbl := by
  intro w h
  rw [show bwl6 = (bwl6.drop 0).take 12 ++ ((bwl6.drop 12).take 12 ++ ((bwl6.drop 24).take 12 ++ ((bwl6.drop 36).take 12 ++ (bwl6.drop 48).take 12))) from rfl] at h
  rcases List.mem_append.mp h with h | h
  · exact tb_6_0 w h
  rcases List.mem_append.mp h with h | h
  · exact tb_6_1 w h
  rcases List.mem_append.mp h with h | h
  · exact tb_6_2 w h
  rcases List.mem_append.mp h with h | h
  · exact tb_6_3 w h
  · exact tb_6_4 w h
