set_option maxRecDepth 20000 in
theorem in_wsL_law_r5 : ∀ w ∈ wsL_law_r5, w ∈ lw_tbl := in_by _ [195, 196, 201, 202, 203, 204, 205, 212, 214, 0, 215, 216, 217, 218, 219, 220, 222, 1, 223, 224, 225, 22, 226, 228] (by decide +kernel)
set_option maxRecDepth 20000 in
theorem in_wsL_law_r6 : ∀ w ∈ wsL_law_r6, w ∈ lw_tbl := in_by _ [229, 230, 231, 232, 233, 234, 235, 236, 237, 238, 239, 241, 2, 242, 243, 244, 245, 246, 247, 248, 249, 250, 251, 252] (by decide +kernel)
set_option maxRecDepth 20000 in
theorem in_wsL_law_r7 : ∀ w ∈ wsL_law_r7, w ∈ lw_tbl := in_by _ [253, 254, 255, 256, 257, 258, 261, 262, 23, 263, 264, 265, 266, 267, 178, 179, 180, 181, 272, 273, 274, 275, 276, 277] (by decide +kernel)
set_option maxRecDepth 20000 in
theorem in_wsL_law_r8 : ∀ w ∈ wsL_law_r8, w ∈ lw_tbl := in_by _ [278, 279, 280, 281, 282, 283, 284, 285, 286, 288, 3, 289, 290, 291, 292, 293, 294, 296, 4, 297, 298, 300, 5, 301] (by decide +kernel)
