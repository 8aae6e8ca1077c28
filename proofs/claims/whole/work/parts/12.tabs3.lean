set_option maxRecDepth 100000 in
theorem TB_tbl : ∀ w ∈ TB, w ∈ lw_tbl := by decide +kernel
