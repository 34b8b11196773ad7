set_option maxRecDepth 20000 in
theorem in_wsL_law_r21 : ∀ w ∈ wsL_law_r21, w ∈ lw_tbl := in_by _ [333, 334, 336, 341, 343, 7, 344, 345, 346, 350, 364, 371, 375, 383, 399, 454] (by decide +kernel)
set_option maxRecDepth 20000 in
theorem in_wsX50 : ∀ w ∈ wsX50, w ∈ lw_tbl := in_by _ [155, 157, 159, 161, 163] (by decide +kernel)
set_option maxRecDepth 20000 in
theorem in_wsX30 : ∀ w ∈ wsX30, w ∈ lw_tbl := in_by _ [43, 45, 47] (by decide +kernel)
set_option maxRecDepth 20000 in
theorem in_wsX20 : ∀ w ∈ wsX20, w ∈ lw_tbl := in_by _ [82, 84, 86, 88, 90, 92, 94, 96, 98, 100, 102, 104] (by decide +kernel)
