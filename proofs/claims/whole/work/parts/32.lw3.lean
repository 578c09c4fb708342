set_option maxRecDepth 20000 in
theorem in_wsL_law_r37 : ∀ w ∈ wsL_law_r37, w ∈ lw_tbl := by decide +kernel
