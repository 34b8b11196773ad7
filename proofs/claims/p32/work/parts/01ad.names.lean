set_option maxRecDepth 20000 in
theorem in_wsL_law_r13 : ∀ w ∈ wsL_law_r13, w ∈ lw_tbl := in_by _ [412, 413, 414, 415, 136, 138, 417, 418, 419, 422, 393, 394, 423, 425, 9, 426, 427, 428, 429, 430, 431, 432, 433, 434] (by decide +kernel)
set_option maxRecDepth 20000 in
theorem in_wsL_law_r14 : ∀ w ∈ wsL_law_r14, w ∈ lw_tbl := in_by _ [435, 436, 437, 438, 439, 441, 10, 442, 443, 444, 445, 446, 447, 448, 449, 450, 451, 452, 453, 558, 559, 560, 561, 516] (by decide +kernel)
set_option maxRecDepth 20000 in
theorem in_wsL_law_r15 : ∀ w ∈ wsL_law_r15, w ∈ lw_tbl := in_by _ [518, 11, 519, 520, 521, 522, 523, 524, 525, 526, 527, 528, 530, 12, 531, 532, 506, 458, 459, 460, 461, 562, 384, 385] (by decide +kernel)
set_option maxRecDepth 20000 in
theorem in_wsL_law_r16 : ∀ w ∈ wsL_law_r16, w ∈ lw_tbl := in_by _ [386, 387, 388, 389, 390, 391, 392, 563, 564, 565, 566, 567, 569, 13, 570, 571, 572, 573, 574, 354, 575, 576, 577, 578] (by decide +kernel)
