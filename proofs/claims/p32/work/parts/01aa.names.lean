set_option maxRecDepth 20000 in
theorem in_wsL_law_r1 : ∀ w ∈ wsL_law_r1, w ∈ lw_tbl := in_by _ [25, 26, 16, 597, 27, 28, 29, 30, 31, 32, 33, 34, 17, 150, 52, 53, 18, 151, 108, 109, 19, 152, 153, 127] rfl
set_option maxRecDepth 20000 in
theorem in_wsL_law_r2 : ∀ w ∈ wsL_law_r2, w ∈ lw_tbl := in_by _ [128, 20, 154, 36, 37, 38, 50, 39, 51, 40, 55, 56, 57, 58, 107, 59, 60, 111, 112, 113, 114, 116, 130, 131] rfl
set_option maxRecDepth 20000 in
theorem in_wsL_law_r3 : ∀ w ∈ wsL_law_r3, w ∈ lw_tbl := in_by _ [132, 133, 134, 135, 310, 311, 312, 313, 314, 315, 316, 317, 117, 118, 260, 206, 207, 208, 209, 211, 210, 21, 62, 65] rfl
set_option maxRecDepth 20000 in
theorem in_wsL_law_r4 : ∀ w ∈ wsL_law_r4, w ∈ lw_tbl := in_by _ [67, 69, 71, 73, 76, 78, 80, 306, 307, 308, 309, 197, 198, 199, 200, 186, 187, 188, 189, 41, 190, 191, 192, 193] rfl
set_option maxRecDepth 20000 in
theorem in_wsL_law_r5 : ∀ w ∈ wsL_law_r5, w ∈ lw_tbl := in_by _ [195, 196, 201, 202, 203, 204, 205, 212, 214, 0, 215, 216, 217, 218, 219, 220, 222, 1, 223, 224, 225, 22, 226, 228] rfl
set_option maxRecDepth 20000 in
theorem in_wsL_law_r6 : ∀ w ∈ wsL_law_r6, w ∈ lw_tbl := in_by _ [229, 230, 231, 232, 233, 234, 235, 236, 237, 238, 239, 241, 2, 242, 243, 244, 245, 246, 247, 248, 249, 250, 251, 252] rfl
set_option maxRecDepth 20000 in
theorem in_wsL_law_r7 : ∀ w ∈ wsL_law_r7, w ∈ lw_tbl := in_by _ [253, 254, 255, 256, 257, 258, 261, 262, 23, 263, 264, 265, 266, 267, 178, 179, 180, 181, 272, 273, 274, 275, 276, 277] rfl
set_option maxRecDepth 20000 in
theorem in_wsL_law_r8 : ∀ w ∈ wsL_law_r8, w ∈ lw_tbl := in_by _ [278, 279, 280, 281, 282, 283, 284, 285, 286, 288, 3, 289, 290, 291, 292, 293, 294, 296, 4, 297, 298, 300, 5, 301] rfl
set_option maxRecDepth 20000 in
theorem in_wsL_law_r9 : ∀ w ∈ wsL_law_r9, w ∈ lw_tbl := in_by _ [302, 303, 304, 305, 182, 183, 184, 185, 174, 175, 176, 177, 533, 534, 15, 535, 470, 328, 329, 330, 536, 355, 356, 357] rfl
set_option maxRecDepth 20000 in
theorem in_wsL_law_r10 : ∀ w ∈ wsL_law_r10, w ∈ lw_tbl := in_by _ [358, 359, 24, 360, 361, 362, 363, 537, 372, 373, 374, 538, 347, 348, 349, 497, 337, 338, 339, 335, 340, 539, 365, 366] rfl
set_option maxRecDepth 20000 in
theorem in_wsL_law_r11 : ∀ w ∈ wsL_law_r11, w ∈ lw_tbl := in_by _ [367, 368, 369, 370, 540, 376, 377, 378, 379, 380, 381, 382, 541, 351, 352, 353, 542, 543, 544, 545, 546, 547, 548, 549] rfl
set_option maxRecDepth 20000 in
theorem in_wsL_law_r12 : ∀ w ∈ wsL_law_r12, w ∈ lw_tbl := in_by _ [550, 551, 398, 552, 553, 554, 555, 556, 420, 421, 557, 400, 401, 402, 403, 405, 8, 406, 407, 408, 409, 410, 396, 397] rfl
set_option maxRecDepth 20000 in
theorem in_wsL_law_r13 : ∀ w ∈ wsL_law_r13, w ∈ lw_tbl := in_by _ [412, 413, 414, 415, 136, 138, 417, 418, 419, 422, 393, 394, 423, 425, 9, 426, 427, 428, 429, 430, 431, 432, 433, 434] rfl
set_option maxRecDepth 20000 in
theorem in_wsL_law_r14 : ∀ w ∈ wsL_law_r14, w ∈ lw_tbl := in_by _ [435, 436, 437, 438, 439, 441, 10, 442, 443, 444, 445, 446, 447, 448, 449, 450, 451, 452, 453, 558, 559, 560, 561, 516] rfl
set_option maxRecDepth 20000 in
theorem in_wsL_law_r15 : ∀ w ∈ wsL_law_r15, w ∈ lw_tbl := in_by _ [518, 11, 519, 520, 521, 522, 523, 524, 525, 526, 527, 528, 530, 12, 531, 532, 506, 458, 459, 460, 461, 562, 384, 385] rfl
set_option maxRecDepth 20000 in
theorem in_wsL_law_r16 : ∀ w ∈ wsL_law_r16, w ∈ lw_tbl := in_by _ [386, 387, 388, 389, 390, 391, 392, 563, 564, 565, 566, 567, 569, 13, 570, 571, 572, 573, 574, 354, 575, 576, 577, 578] rfl
set_option maxRecDepth 20000 in
theorem in_wsL_law_r17 : ∀ w ∈ wsL_law_r17, w ∈ lw_tbl := in_by _ [579, 455, 456, 457, 462, 463, 464, 465, 466, 467, 468, 469, 471, 472, 473, 474, 475, 476, 477, 478, 479, 480, 481, 482] rfl
set_option maxRecDepth 20000 in
theorem in_wsL_law_r18 : ∀ w ∈ wsL_law_r18, w ∈ lw_tbl := in_by _ [166, 167, 168, 169, 170, 171, 172, 173, 483, 484, 485, 486, 487, 488, 489, 490, 491, 268, 269, 270, 271, 492, 493, 494] rfl
set_option maxRecDepth 20000 in
theorem in_wsL_law_r19 : ∀ w ∈ wsL_law_r19, w ∈ lw_tbl := in_by _ [495, 496, 498, 499, 500, 501, 502, 503, 504, 505, 507, 508, 509, 510, 511, 512, 513, 514, 515, 580, 581, 582, 583, 584] rfl
set_option maxRecDepth 20000 in
theorem in_wsL_law_r20 : ∀ w ∈ wsL_law_r20, w ∈ lw_tbl := in_by _ [585, 586, 587, 588, 589, 590, 591, 593, 14, 594, 595, 596, 318, 319, 320, 321, 322, 323, 325, 6, 326, 327, 331, 332] rfl
set_option maxRecDepth 20000 in
theorem in_wsL_law_r21 : ∀ w ∈ wsL_law_r21, w ∈ lw_tbl := in_by _ [333, 334, 336, 341, 343, 7, 344, 345, 346, 350, 364, 371, 375, 383, 399, 454] rfl
set_option maxRecDepth 20000 in
theorem in_wsX50 : ∀ w ∈ wsX50, w ∈ lw_tbl := in_by _ [155, 157, 159, 161, 163] rfl
set_option maxRecDepth 20000 in
theorem in_wsX30 : ∀ w ∈ wsX30, w ∈ lw_tbl := in_by _ [43, 45, 47] rfl
set_option maxRecDepth 20000 in
theorem in_wsX20 : ∀ w ∈ wsX20, w ∈ lw_tbl := in_by _ [82, 84, 86, 88, 90, 92, 94, 96, 98, 100, 102, 104] rfl
set_option maxRecDepth 20000 in
theorem in_wsX10 : ∀ w ∈ wsX10, w ∈ lw_tbl := in_by _ [120, 122, 124] rfl
set_option maxRecDepth 20000 in
theorem in_wsX00 : ∀ w ∈ wsX00, w ∈ lw_tbl := in_by _ [139, 141, 143, 145, 147] rfl
theorem wsL_law_in : ∀ w ∈ wsL_law, w ∈ lw_tbl := (List.forall_mem_append.mpr ⟨(List.forall_mem_append.mpr ⟨(List.forall_mem_append.mpr ⟨(List.forall_mem_append.mpr ⟨(List.forall_mem_append.mpr ⟨(List.forall_mem_append.mpr ⟨(List.forall_mem_append.mpr ⟨in_wsL_law_r1, (List.forall_mem_append.mpr ⟨in_wsL_law_r2, (List.forall_mem_append.mpr ⟨in_wsL_law_r3, (List.forall_mem_append.mpr ⟨in_wsL_law_r4, (List.forall_mem_append.mpr ⟨in_wsL_law_r5, (List.forall_mem_append.mpr ⟨in_wsL_law_r6, (List.forall_mem_append.mpr ⟨in_wsL_law_r7, (List.forall_mem_append.mpr ⟨in_wsL_law_r8, (List.forall_mem_append.mpr ⟨in_wsL_law_r9, (List.forall_mem_append.mpr ⟨in_wsL_law_r10, (List.forall_mem_append.mpr ⟨in_wsL_law_r11, (List.forall_mem_append.mpr ⟨in_wsL_law_r12, (List.forall_mem_append.mpr ⟨in_wsL_law_r13, (List.forall_mem_append.mpr ⟨in_wsL_law_r14, (List.forall_mem_append.mpr ⟨in_wsL_law_r15, (List.forall_mem_append.mpr ⟨in_wsL_law_r16, (List.forall_mem_append.mpr ⟨in_wsL_law_r17, (List.forall_mem_append.mpr ⟨in_wsL_law_r18, (List.forall_mem_append.mpr ⟨in_wsL_law_r19, (List.forall_mem_append.mpr ⟨in_wsL_law_r20, in_wsL_law_r21⟩)⟩)⟩)⟩)⟩)⟩)⟩)⟩)⟩)⟩)⟩)⟩)⟩)⟩)⟩)⟩)⟩)⟩)⟩)⟩), in_wsX50⟩), in_wsX30⟩), in_wsX20⟩), in_wsX10⟩), in_wsX00⟩), (fun _ h => absurd h List.not_mem_nil)⟩)
