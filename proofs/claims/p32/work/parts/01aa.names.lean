set_option maxRecDepth 20000 in
theorem in_wsL_law_r1 : ∀ w ∈ wsL_law_r1, w ∈ lw_tbl := in_by _ [25, 26, 16, 597, 27, 28, 29, 30, 31, 32, 33, 34, 17, 150, 52, 53, 18, 151, 108, 109, 19, 152, 153, 127] (by decide +kernel)
set_option maxRecDepth 20000 in
theorem in_wsL_law_r2 : ∀ w ∈ wsL_law_r2, w ∈ lw_tbl := in_by _ [128, 20, 154, 36, 37, 38, 50, 39, 51, 40, 55, 56, 57, 58, 107, 59, 60, 111, 112, 113, 114, 116, 130, 131] (by decide +kernel)
set_option maxRecDepth 20000 in
theorem in_wsL_law_r3 : ∀ w ∈ wsL_law_r3, w ∈ lw_tbl := in_by _ [132, 133, 134, 135, 310, 311, 312, 313, 314, 315, 316, 317, 117, 118, 260, 206, 207, 208, 209, 211, 210, 21, 62, 65] (by decide +kernel)
set_option maxRecDepth 20000 in
theorem in_wsL_law_r4 : ∀ w ∈ wsL_law_r4, w ∈ lw_tbl := in_by _ [67, 69, 71, 73, 76, 78, 80, 306, 307, 308, 309, 197, 198, 199, 200, 186, 187, 188, 189, 41, 190, 191, 192, 193] (by decide +kernel)
