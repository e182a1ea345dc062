set_option maxRecDepth 100000 in
theorem tb_7_0 : ∀ w ∈ (bwl7.drop 0).take 12, w ∈ lw_tbl := by decide +kernel
set_option maxRecDepth 100000 in
theorem tb_7_1 : ∀ w ∈ (bwl7.drop 12).take 12, w ∈ lw_tbl := by decide +kernel
set_option maxRecDepth 100000 in
theorem tb_7_2 : ∀ w ∈ (bwl7.drop 24).take 12, w ∈ lw_tbl := by decide +kernel
set_option maxRecDepth 100000 in
theorem tb_7_3 : ∀ w ∈ (bwl7.drop 36).take 12, w ∈ lw_tbl := by decide +kernel
set_option maxRecDepth 100000 in
theorem tb_7_4 : ∀ w ∈ (bwl7.drop 48).take 12, w ∈ lw_tbl := by decide +kernel
theorem tb_7 : ∀ w ∈ bwl7, w ∈ lw_tbl := by
  intro w h
  rw [show bwl7 = (bwl7.drop 0).take 12 ++ ((bwl7.drop 12).take 12 ++ ((bwl7.drop 24).take 12 ++ ((bwl7.drop 36).take 12 ++ (bwl7.drop 48).take 12))) from rfl] at h
  rcases List.mem_append.mp h with h | h
  · exact tb_7_0 w h
  rcases List.mem_append.mp h with h | h
  · exact tb_7_1 w h
  rcases List.mem_append.mp h with h | h
  · exact tb_7_2 w h
  rcases List.mem_append.mp h with h | h
  · exact tb_7_3 w h
  · exact tb_7_4 w h
set_option maxRecDepth 100000 in
theorem tb_8 : ∀ w ∈ wsX00, w ∈ lw_tbl := by decide +kernel
set_option maxRecDepth 100000 in
theorem tb_9 : ∀ w ∈ wsX10, w ∈ lw_tbl := by decide +kernel
set_option maxRecDepth 100000 in
theorem tb_10 : ∀ w ∈ wsX20, w ∈ lw_tbl := by decide +kernel
set_option maxRecDepth 100000 in
theorem tb_11 : ∀ w ∈ wsX30, w ∈ lw_tbl := by decide +kernel
set_option maxRecDepth 100000 in
theorem tb_12 : ∀ w ∈ wsX40, w ∈ lw_tbl := by decide +kernel
theorem bw_tbl : ∀ w ∈ bw, w ∈ lw_tbl := fun w h => (List.mem_append.mp h).elim (fun h => tb_0 w h) (fun h => (List.mem_append.mp h).elim (fun h => tb_1 w h) (fun h => (List.mem_append.mp h).elim (fun h => tb_2 w h) (fun h => (List.mem_append.mp h).elim (fun h => tb_3 w h) (fun h => (List.mem_append.mp h).elim (fun h => tb_4 w h) (fun h => (List.mem_append.mp h).elim (fun h => tb_5 w h) (fun h => (List.mem_append.mp h).elim (fun h => tb_6 w h) (fun h => (List.mem_append.mp h).elim (fun h => tb_7 w h) (fun h => (List.mem_append.mp h).elim (fun h => tb_8 w h) (fun h => (List.mem_append.mp h).elim (fun h => tb_9 w h) (fun h => (List.mem_append.mp h).elim (fun h => tb_10 w h) (fun h => (List.mem_append.mp h).elim (fun h => tb_11 w h) (fun h => tb_12 w h))))))))))))
set_option maxRecDepth 100000 in
theorem nests_tbl : ∀ w ∈ nests, w ∈ lw_tbl := by decide +kernel
theorem nests_on : nests.all Cond.onTables = true := by decide +kernel
