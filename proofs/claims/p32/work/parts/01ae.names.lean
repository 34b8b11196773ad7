set_option maxRecDepth 20000 in
theorem in_wsL_law_r17 : ∀ w ∈ wsL_law_r17, w ∈ lw_tbl := in_by _ [579, 455, 456, 457, 462, 463, 464, 465, 466, 467, 468, 469, 471, 472, 473, 474, 475, 476, 477, 478, 479, 480, 481, 482] (by decide +kernel)
set_option maxRecDepth 20000 in
theorem in_wsL_law_r18 : ∀ w ∈ wsL_law_r18, w ∈ lw_tbl := in_by _ [166, 167, 168, 169, 170, 171, 172, 173, 483, 484, 485, 486, 487, 488, 489, 490, 491, 268, 269, 270, 271, 492, 493, 494] (by decide +kernel)
set_option maxRecDepth 20000 in
theorem in_wsL_law_r19 : ∀ w ∈ wsL_law_r19, w ∈ lw_tbl := in_by _ [495, 496, 498, 499, 500, 501, 502, 503, 504, 505, 507, 508, 509, 510, 511, 512, 513, 514, 515, 580, 581, 582, 583, 584] (by decide +kernel)
set_option maxRecDepth 20000 in
theorem in_wsL_law_r20 : ∀ w ∈ wsL_law_r20, w ∈ lw_tbl := in_by _ [585, 586, 587, 588, 589, 590, 591, 593, 14, 594, 595, 596, 318, 319, 320, 321, 322, 323, 325, 6, 326, 327, 331, 332] (by decide +kernel)
