set_option maxRecDepth 20000 in
theorem in_wsL_law_r13 : ∀ w ∈ wsL_law_r13, w ∈ lw_tbl := by decide +kernel
set_option maxRecDepth 20000 in
theorem in_wsL_law_r14 : ∀ w ∈ wsL_law_r14, w ∈ lw_tbl := by decide +kernel
set_option maxRecDepth 20000 in
theorem in_wsL_law_r15 : ∀ w ∈ wsL_law_r15, w ∈ lw_tbl := by decide +kernel
set_option maxRecDepth 20000 in
theorem in_wsL_law_r16 : ∀ w ∈ wsL_law_r16, w ∈ lw_tbl := by decide +kernel
set_option maxRecDepth 20000 in
theorem in_wsL_law_r17 : ∀ w ∈ wsL_law_r17, w ∈ lw_tbl := by decide +kernel
set_option maxRecDepth 20000 in
theorem in_wsL_law_r18 : ∀ w ∈ wsL_law_r18, w ∈ lw_tbl := by decide +kernel
set_option maxRecDepth 20000 in
theorem in_wsL_law_r19 : ∀ w ∈ wsL_law_r19, w ∈ lw_tbl := by decide +kernel
set_option maxRecDepth 20000 in
theorem in_wsL_law_r20 : ∀ w ∈ wsL_law_r20, w ∈ lw_tbl := by decide +kernel
set_option maxRecDepth 20000 in
theorem in_wsL_law_r21 : ∀ w ∈ wsL_law_r21, w ∈ lw_tbl := by decide +kernel
set_option maxRecDepth 20000 in
theorem in_wsL_law_r22 : ∀ w ∈ wsL_law_r22, w ∈ lw_tbl := by decide +kernel
set_option maxRecDepth 20000 in
theorem in_wsL_law_r23 : ∀ w ∈ wsL_law_r23, w ∈ lw_tbl := by decide +kernel
set_option maxRecDepth 20000 in
theorem in_wsL_law_r24 : ∀ w ∈ wsL_law_r24, w ∈ lw_tbl := by decide +kernel
