set_option maxRecDepth 20000 in
theorem in_wsL_law_r9 : ∀ w ∈ wsL_law_r9, w ∈ lw_tbl := in_by _ [302, 303, 304, 305, 182, 183, 184, 185, 174, 175, 176, 177, 533, 534, 15, 535, 470, 328, 329, 330, 536, 355, 356, 357] (by decide +kernel)
set_option maxRecDepth 20000 in
theorem in_wsL_law_r10 : ∀ w ∈ wsL_law_r10, w ∈ lw_tbl := in_by _ [358, 359, 24, 360, 361, 362, 363, 537, 372, 373, 374, 538, 347, 348, 349, 497, 337, 338, 339, 335, 340, 539, 365, 366] (by decide +kernel)
set_option maxRecDepth 20000 in
theorem in_wsL_law_r11 : ∀ w ∈ wsL_law_r11, w ∈ lw_tbl := in_by _ [367, 368, 369, 370, 540, 376, 377, 378, 379, 380, 381, 382, 541, 351, 352, 353, 542, 543, 544, 545, 546, 547, 548, 549] (by decide +kernel)
set_option maxRecDepth 20000 in
theorem in_wsL_law_r12 : ∀ w ∈ wsL_law_r12, w ∈ lw_tbl := in_by _ [550, 551, 398, 552, 553, 554, 555, 556, 420, 421, 557, 400, 401, 402, 403, 405, 8, 406, 407, 408, 409, 410, 396, 397] (by decide +kernel)
