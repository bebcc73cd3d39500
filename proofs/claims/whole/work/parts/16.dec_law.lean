set_option maxRecDepth 20000 in
theorem wsL_law_r1_in : ∀ w ∈ wsL_law_r1, w ∈ lw_tbl := fun w h => (goodIn_r wsL_law_r1 [47, 48, 39, 439, 440, 44, 49, 50, 51, 52, 53, 54, 55, 56, 40, 137, 71, 72, 41, 138, 96, 97, 42, 139] rfl (by decide +kernel) w h).1
set_option maxRecDepth 20000 in
theorem wsL_law_r2_in : ∀ w ∈ wsL_law_r2, w ∈ lw_tbl := fun w h => (goodIn_r wsL_law_r2 [140, 141, 123, 124, 43, 142, 143, 70, 144, 145, 171, 146, 147, 58, 59, 60, 61, 63, 74, 75, 76, 77, 79, 83] rfl (by decide +kernel) w h).1
set_option maxRecDepth 20000 in
theorem wsL_law_r3_in : ∀ w ∈ wsL_law_r3, w ∈ lw_tbl := fun w h => (goodIn_r wsL_law_r3 [85, 99, 100, 101, 102, 104, 106, 108, 110, 126, 127, 128, 129, 130, 441, 442, 443, 444, 446, 449, 450, 451, 453, 454] rfl (by decide +kernel) w h).1
set_option maxRecDepth 20000 in
theorem wsL_law_r4_in : ∀ w ∈ wsL_law_r4, w ∈ lw_tbl := fun w h => (goodIn_r wsL_law_r4 [455, 456, 457, 459, 460, 463, 464, 465, 466, 172, 173, 174, 175, 64, 62, 515, 516, 517, 518, 445, 519, 520, 521, 176] rfl (by decide +kernel) w h).1
set_option maxRecDepth 20000 in
theorem wsL_law_r5_in : ∀ w ∈ wsL_law_r5, w ∈ lw_tbl := fun w h => (goodIn_r wsL_law_r5 [177, 178, 179, 522, 523, 524, 525, 180, 181, 182, 183, 184, 185, 186, 187, 188, 190, 0, 191, 192, 193, 194, 195, 197] rfl (by decide +kernel) w h).1
set_option maxRecDepth 20000 in
theorem wsL_law_r6_in : ∀ w ∈ wsL_law_r6, w ∈ lw_tbl := fun w h => (goodIn_r wsL_law_r6 [1, 198, 199, 201, 2, 202, 526, 527, 528, 529, 530, 532, 14, 533, 534, 536, 15, 537, 538, 540, 16, 541, 542, 544] rfl (by decide +kernel) w h).1
set_option maxRecDepth 20000 in
theorem wsL_law_r7_in : ∀ w ∈ wsL_law_r7, w ∈ lw_tbl := fun w h => (goodIn_r wsL_law_r7 [17, 545, 203, 204, 205, 206, 84, 207, 208, 209, 210, 211, 212, 213, 214, 215, 216, 217, 218, 219, 220, 221, 222, 223] rfl (by decide +kernel) w h).1
set_option maxRecDepth 20000 in
theorem wsL_law_r8_in : ∀ w ∈ wsL_law_r8, w ∈ lw_tbl := fun w h => (goodIn_r wsL_law_r8 [224, 225, 226, 227, 228, 229, 230, 231, 232, 233, 234, 235, 236, 237, 238, 239, 240, 242, 3, 243, 244, 245, 246, 247] rfl (by decide +kernel) w h).1
set_option maxRecDepth 20000 in
theorem wsL_law_r9_in : ∀ w ∈ wsL_law_r9, w ∈ lw_tbl := fun w h => (goodIn_r wsL_law_r9 [248, 249, 250, 546, 547, 548, 549, 447, 448, 452, 461, 550, 552, 18, 553, 554, 556, 19, 557, 251, 252, 253, 254, 78] rfl (by decide +kernel) w h).1
set_option maxRecDepth 20000 in
theorem wsL_law_r10_in : ∀ w ∈ wsL_law_r10, w ∈ lw_tbl := fun w h => (goodIn_r wsL_law_r10 [255, 256, 257, 258, 558, 559, 560, 561, 562, 564, 20, 565, 259, 260, 261, 262, 82, 263, 264, 265, 266, 267, 268, 566] rfl (by decide +kernel) w h).1
set_option maxRecDepth 20000 in
theorem wsL_law_r11_in : ∀ w ∈ wsL_law_r11, w ∈ lw_tbl := fun w h => (goodIn_r wsL_law_r11 [567, 568, 569, 570, 572, 21, 573, 269, 270, 271, 272, 103, 574, 575, 576, 577, 273, 274, 275, 276, 578, 579, 580, 581] rfl (by decide +kernel) w h).1
set_option maxRecDepth 20000 in
theorem wsL_law_r12_in : ∀ w ∈ wsL_law_r12, w ∈ lw_tbl := fun w h => (goodIn_r wsL_law_r12 [277, 278, 279, 280, 111, 109, 582, 583, 584, 585, 281, 282, 283, 284, 285, 286, 287, 288, 586, 587, 588, 589, 590, 592] rfl (by decide +kernel) w h).1
set_option maxRecDepth 20000 in
theorem wsL_law_r13_in : ∀ w ∈ wsL_law_r13, w ∈ lw_tbl := fun w h => (goodIn_r wsL_law_r13 [22, 593, 289, 290, 291, 292, 293, 294, 295, 296, 81, 297, 298, 299, 300, 301, 594, 595, 596, 597, 598, 600, 23, 601] rfl (by decide +kernel) w h).1
set_option maxRecDepth 20000 in
theorem wsL_law_r14_in : ∀ w ∈ wsL_law_r14, w ∈ lw_tbl := fun w h => (goodIn_r wsL_law_r14 [602, 604, 24, 605, 302, 303, 304, 305, 306, 308, 4, 309, 310, 311, 313, 5, 314, 315, 317, 6, 318, 606, 607, 608] rfl (by decide +kernel) w h).1
set_option maxRecDepth 20000 in
theorem wsL_law_r15_in : ∀ w ∈ wsL_law_r15, w ∈ lw_tbl := fun w h => (goodIn_r wsL_law_r15 [609, 610, 612, 25, 613, 319, 320, 321, 322, 105, 614, 615, 616, 617, 323, 324, 325, 326, 107, 618, 619, 620, 621, 327] rfl (by decide +kernel) w h).1
set_option maxRecDepth 20000 in
theorem wsL_law_r16_in : ∀ w ∈ wsL_law_r16, w ∈ lw_tbl := fun w h => (goodIn_r wsL_law_r16 [328, 329, 330, 86, 331, 332, 333, 334, 335, 337, 336, 45, 338, 339, 340, 341, 80, 342, 343, 344, 345, 346, 347, 622] rfl (by decide +kernel) w h).1
set_option maxRecDepth 20000 in
theorem wsL_law_r17_in : ∀ w ∈ wsL_law_r17, w ∈ lw_tbl := fun w h => (goodIn_r wsL_law_r17 [623, 624, 625, 626, 628, 26, 629, 630, 632, 27, 633, 634, 636, 28, 637, 348, 349, 350, 351, 352, 354, 7, 355, 131] rfl (by decide +kernel) w h).1
set_option maxRecDepth 20000 in
theorem wsL_law_r18_in : ∀ w ∈ wsL_law_r18, w ∈ lw_tbl := fun w h => (goodIn_r wsL_law_r18 [638, 639, 640, 641, 642, 644, 29, 645, 646, 648, 30, 649, 356, 357, 358, 359, 360, 361, 362, 363, 364, 366, 8, 367] rfl (by decide +kernel) w h).1
set_option maxRecDepth 20000 in
theorem wsL_law_r19_in : ∀ w ∈ wsL_law_r19, w ∈ lw_tbl := fun w h => (goodIn_r wsL_law_r19 [368, 369, 371, 9, 372, 373, 650, 651, 652, 653, 654, 656, 31, 657, 658, 660, 32, 661, 662, 458, 663, 665, 33, 666] rfl (by decide +kernel) w h).1
set_option maxRecDepth 20000 in
theorem wsL_law_r20_in : ∀ w ∈ wsL_law_r20, w ∈ lw_tbl := fun w h => (goodIn_r wsL_law_r20 [374, 375, 376, 377, 667, 668, 669, 670, 378, 379, 380, 381, 382, 383, 384, 386, 10, 387, 388, 389, 390, 391, 392, 393] rfl (by decide +kernel) w h).1
set_option maxRecDepth 20000 in
theorem wsL_law_r21_in : ∀ w ∈ wsL_law_r21, w ∈ lw_tbl := fun w h => (goodIn_r wsL_law_r21 [671, 672, 673, 674, 675, 694, 676, 678, 34, 679, 680, 682, 35, 683, 684, 685, 46, 686, 690, 692, 691, 46, 693, 687] rfl (by decide +kernel) w h).1
set_option maxRecDepth 20000 in
theorem wsL_law_r22_in : ∀ w ∈ wsL_law_r22, w ∈ lw_tbl := fun w h => (goodIn_r wsL_law_r22 [688, 689, 394, 395, 396, 397, 398, 399, 400, 401, 402, 695, 696, 697, 698, 462, 403, 404, 405, 406, 699, 700, 701, 702] rfl (by decide +kernel) w h).1
set_option maxRecDepth 20000 in
theorem wsL_law_r23_in : ∀ w ∈ wsL_law_r23, w ∈ lw_tbl := fun w h => (goodIn_r wsL_law_r23 [407, 408, 409, 410, 703, 704, 705, 706, 411, 412, 413, 414, 707, 708, 709, 710, 415, 416, 417, 418, 419, 420, 421, 422] rfl (by decide +kernel) w h).1
set_option maxRecDepth 20000 in
theorem wsL_law_r24_in : ∀ w ∈ wsL_law_r24, w ∈ lw_tbl := fun w h => (goodIn_r wsL_law_r24 [423, 424, 426, 11, 427, 428, 429, 430, 432, 12, 433, 434, 435, 437, 13, 438, 711, 712, 713, 714, 715, 467, 716, 718] rfl (by decide +kernel) w h).1
set_option maxRecDepth 20000 in
theorem wsL_law_r25_in : ∀ w ∈ wsL_law_r25, w ∈ lw_tbl := fun w h => (goodIn_r wsL_law_r25 [36, 719, 720, 721, 723, 37, 724] rfl (by decide +kernel) w h).1
set_option maxRecDepth 20000 in
theorem wsX40_lin : ∀ w ∈ wsX40, w ∈ lw_tbl := fun w h => (goodIn_r wsX40 [148, 150, 152, 154, 156, 158, 160, 162, 164, 166, 168] rfl (by decide +kernel) w h).1
set_option maxRecDepth 20000 in
theorem wsX50_lin : ∀ w ∈ wsX50, w ∈ lw_tbl := fun w h => (goodIn_r wsX50 [468, 470, 472, 474, 476, 478, 480, 482, 484, 486, 488, 490, 492, 494, 496, 498, 500, 502, 504, 506, 508, 510, 512] rfl (by decide +kernel) w h).1
set_option maxRecDepth 20000 in
theorem wsX10_lin : ∀ w ∈ wsX10, w ∈ lw_tbl := fun w h => (goodIn_r wsX10 [65, 67] rfl (by decide +kernel) w h).1
set_option maxRecDepth 20000 in
theorem wsX00_lin : ∀ w ∈ wsX00, w ∈ lw_tbl := fun w h => (goodIn_r wsX00 [87, 89, 91, 93] rfl (by decide +kernel) w h).1
set_option maxRecDepth 20000 in
theorem wsX30_lin : ∀ w ∈ wsX30, w ∈ lw_tbl := fun w h => (goodIn_r wsX30 [112, 114, 116, 118, 120] rfl (by decide +kernel) w h).1
set_option maxRecDepth 20000 in
theorem wsX20_lin : ∀ w ∈ wsX20, w ∈ lw_tbl := fun w h => (goodIn_r wsX20 [132, 134] rfl (by decide +kernel) w h).1
theorem wsL_law_in : ∀ w ∈ wsL_law, w ∈ lw_tbl := List.forall_mem_append.mpr ⟨List.forall_mem_append.mpr ⟨List.forall_mem_append.mpr ⟨List.forall_mem_append.mpr ⟨List.forall_mem_append.mpr ⟨List.forall_mem_append.mpr ⟨List.forall_mem_append.mpr ⟨List.forall_mem_append.mpr ⟨wsL_law_r1_in, List.forall_mem_append.mpr ⟨wsL_law_r2_in, List.forall_mem_append.mpr ⟨wsL_law_r3_in, List.forall_mem_append.mpr ⟨wsL_law_r4_in, List.forall_mem_append.mpr ⟨wsL_law_r5_in, List.forall_mem_append.mpr ⟨wsL_law_r6_in, List.forall_mem_append.mpr ⟨wsL_law_r7_in, List.forall_mem_append.mpr ⟨wsL_law_r8_in, List.forall_mem_append.mpr ⟨wsL_law_r9_in, List.forall_mem_append.mpr ⟨wsL_law_r10_in, List.forall_mem_append.mpr ⟨wsL_law_r11_in, List.forall_mem_append.mpr ⟨wsL_law_r12_in, List.forall_mem_append.mpr ⟨wsL_law_r13_in, List.forall_mem_append.mpr ⟨wsL_law_r14_in, List.forall_mem_append.mpr ⟨wsL_law_r15_in, List.forall_mem_append.mpr ⟨wsL_law_r16_in, List.forall_mem_append.mpr ⟨wsL_law_r17_in, List.forall_mem_append.mpr ⟨wsL_law_r18_in, List.forall_mem_append.mpr ⟨wsL_law_r19_in, List.forall_mem_append.mpr ⟨wsL_law_r20_in, List.forall_mem_append.mpr ⟨wsL_law_r21_in, List.forall_mem_append.mpr ⟨wsL_law_r22_in, List.forall_mem_append.mpr ⟨wsL_law_r23_in, List.forall_mem_append.mpr ⟨wsL_law_r24_in, wsL_law_r25_in⟩⟩⟩⟩⟩⟩⟩⟩⟩⟩⟩⟩⟩⟩⟩⟩⟩⟩⟩⟩⟩⟩⟩⟩, wsX40_lin⟩, wsX50_lin⟩, wsX10_lin⟩, wsX00_lin⟩, wsX30_lin⟩, wsX20_lin⟩, fun _ h => absurd h List.not_mem_nil⟩
theorem inlX0 : ∀ w ∈ wsX00, w ∈ wsL_law := fun _ h => List.mem_append_left _ (List.mem_append_left _ (List.mem_append_left _ (List.mem_append_right _ h)))
theorem inX0 : ∀ w ∈ wsX00, w ∈ lw_tbl := fun w h => wsL_law_in w (inlX0 w h)
theorem inlX1 : ∀ w ∈ wsX10, w ∈ wsL_law := fun _ h => List.mem_append_left _ (List.mem_append_left _ (List.mem_append_left _ (List.mem_append_left _ (List.mem_append_right _ h))))
theorem inX1 : ∀ w ∈ wsX10, w ∈ lw_tbl := fun w h => wsL_law_in w (inlX1 w h)
theorem inlX2 : ∀ w ∈ wsX20, w ∈ wsL_law := fun _ h => List.mem_append_left _ (List.mem_append_right _ h)
theorem inX2 : ∀ w ∈ wsX20, w ∈ lw_tbl := fun w h => wsL_law_in w (inlX2 w h)
theorem inlX3 : ∀ w ∈ wsX30, w ∈ wsL_law := fun _ h => List.mem_append_left _ (List.mem_append_left _ (List.mem_append_right _ h))
theorem inX3 : ∀ w ∈ wsX30, w ∈ lw_tbl := fun w h => wsL_law_in w (inlX3 w h)
theorem inlX4 : ∀ w ∈ wsX40, w ∈ wsL_law := fun _ h => List.mem_append_left _ (List.mem_append_left _ (List.mem_append_left _ (List.mem_append_left _ (List.mem_append_left _ (List.mem_append_left _ (List.mem_append_right _ h))))))
theorem inX4 : ∀ w ∈ wsX40, w ∈ lw_tbl := fun w h => wsL_law_in w (inlX4 w h)
theorem inlX5 : ∀ w ∈ wsX50, w ∈ wsL_law := fun _ h => List.mem_append_left _ (List.mem_append_left _ (List.mem_append_left _ (List.mem_append_left _ (List.mem_append_left _ (List.mem_append_right _ h)))))
theorem inX5 : ∀ w ∈ wsX50, w ∈ lw_tbl := fun w h => wsL_law_in w (inlX5 w h)
theorem inJxe99ae : ∀ w ∈ wsJxe99ae0, w ∈ lw_tbl := by decide +kernel
theorem inJ10 : ∀ w ∈ wsJ100, w ∈ lw_tbl := by decide +kernel
set_option maxRecDepth 20000 in
theorem ggL_law_X4_init : GoodIn wsL_law wsX4_init := goodIn_r _ [8, 9, 10, 11, 12, 13, 14, 15, 16, 17, 18, 19, 20, 21, 22, 23, 24, 25, 26, 27, 28, 29, 30, 31, 32, 33, 34, 35, 36, 37, 38, 39, 40, 41, 42, 43, 44, 45, 46, 47, 48, 49, 50, 51, 52, 53, 54, 55, 56, 57, 58, 59, 60, 61, 617, 618, 583, 584, 585, 586, 587, 588, 589, 590, 591, 592, 593, 619, 620, 621, 622, 623, 624, 625, 626, 627, 628, 629] rfl (by decide +kernel)
set_option maxRecDepth 20000 in
theorem gL_law_X4_init : GoodIn wsL_law (wsX4_init) := ggL_law_X4_init
set_option maxRecDepth 20000 in
theorem ggL_law_X5_init : GoodIn wsL_law wsX5_init := goodIn_r _ [64, 65, 10, 11, 31, 66, 67, 68, 69, 70, 71, 72, 73, 74, 34, 75, 76, 77, 78, 79, 80, 594, 595, 596, 597, 598, 599, 600, 601, 602, 603, 604, 605, 606, 607, 608, 609, 610, 611, 612, 613, 614, 615, 616] rfl (by decide +kernel)
set_option maxRecDepth 20000 in
theorem gL_law_X5_init : GoodIn wsL_law (wsX5_init) := ggL_law_X5_init
set_option maxRecDepth 20000 in
theorem ggL_law_X4_append : GoodIn wsL_law wsX4_append := goodIn_r _ [84, 15, 85, 86, 583, 584, 585, 586, 587, 588, 589, 590, 591, 592, 593, 617, 618] rfl (by decide +kernel)
set_option maxRecDepth 20000 in
theorem gL_law_X4_append : GoodIn wsL_law (wsV RL 13 RX4 yX4_append wsX4_append) := goodIn_app (goodIn_of _ (by decide +kernel)) ggL_law_X4_append
set_option maxRecDepth 20000 in
theorem ggL_law_X5_append : GoodIn wsL_law wsX5_append := goodIn_r _ [90, 91, 66, 92, 93, 5, 94, 594, 595, 596, 597, 598, 599, 600, 601, 602, 603, 604, 605, 606, 607, 608, 609, 610, 611, 612, 613, 614, 615, 616] rfl (by decide +kernel)
set_option maxRecDepth 20000 in
theorem gL_law_X5_append : GoodIn wsL_law (wsV RL 17 RX5 yX5_append wsX5_append) := goodIn_app (goodIn_of _ (by decide +kernel)) ggL_law_X5_append
set_option maxRecDepth 20000 in
theorem ggL_law_X4_clearInput : GoodIn wsL_law wsX4_clearInput := goodIn_r _ [98, 15, 85, 583, 584, 585, 586, 587, 588, 589, 590, 591, 592, 593, 617, 618] rfl (by decide +kernel)
set_option maxRecDepth 20000 in
theorem gL_law_X4_clearInput : GoodIn wsL_law (wsV RL 18 RX4 yX4_clearInput wsX4_clearInput) := goodIn_app (goodIn_of _ (by decide +kernel)) ggL_law_X4_clearInput
set_option maxRecDepth 20000 in
theorem ggL_law_X5_clearInput : GoodIn wsL_law wsX5_clearInput := goodIn_r _ [102, 91, 594, 595, 596, 597, 598, 599, 600, 601, 602, 603, 604, 605, 606, 607, 608, 609, 610, 611, 612, 613, 614, 615, 616] rfl (by decide +kernel)
set_option maxRecDepth 20000 in
theorem gL_law_X5_clearInput : GoodIn wsL_law (wsV RL 22 RX5 yX5_clearInput wsX5_clearInput) := goodIn_app (goodIn_of _ (by decide +kernel)) ggL_law_X5_clearInput
set_option maxRecDepth 20000 in
theorem ggL_law_X4_firstError : GoodIn wsL_law wsX4_firstError := goodIn_r _ [106, 15, 107, 108, 109, 14, 110, 41, 111, 112, 113, 114, 40, 115, 116, 117, 118, 119, 120, 121, 122, 123, 124, 125, 583, 584, 585, 586, 587, 588, 589, 590, 591, 592, 593, 617, 618] rfl (by decide +kernel)
set_option maxRecDepth 20000 in
theorem gL_law_X4_firstError : GoodIn wsL_law (wsV RL 23 RX4 yX4_firstError wsX4_firstError) := goodIn_app (goodIn_of _ (by decide +kernel)) ggL_law_X4_firstError
set_option maxRecDepth 20000 in
theorem ggL_law_X5_firstError : GoodIn wsL_law wsX5_firstError := goodIn_r _ [129, 130, 131, 132, 5, 133, 91, 134, 135, 136, 137, 66, 92, 93, 94, 138, 139, 140, 141, 142, 143, 144, 145, 594, 595, 596, 597, 598, 599, 600, 601, 602, 603, 604, 605, 606, 607, 608, 609, 610, 611, 612, 613, 614, 615, 616] rfl (by decide +kernel)
set_option maxRecDepth 20000 in
theorem gL_law_X5_firstError : GoodIn wsL_law (wsV RL 26 RX5 yX5_firstError wsX5_firstError) := goodIn_app (goodIn_of _ (by decide +kernel)) ggL_law_X5_firstError
set_option maxRecDepth 20000 in
theorem ggL_law_X4_load : GoodIn wsL_law wsX4_load := goodIn_r _ [149, 15, 19, 23, 25, 85, 150, 151, 152, 153, 14, 154, 41, 115, 116, 117, 155, 108, 109, 110, 111, 112, 113, 114, 40, 118, 119, 120, 121, 122, 123, 124, 125, 156, 157, 158, 159, 160, 161, 162, 163, 164, 165, 166, 167, 168, 169, 170, 171, 172, 173, 174, 175, 176, 177, 178, 18, 179, 47, 48, 45, 180, 181, 182, 183, 184, 185, 186, 187, 46, 188, 189, 190, 191, 192, 193, 22, 194, 52, 53, 54, 56, 583, 584, 585, 586, 587, 588, 589, 590, 591, 592, 593, 617, 618, 619, 620, 621, 622, 623, 624, 625, 626, 627] rfl (by decide +kernel)
set_option maxRecDepth 20000 in
theorem gL_law_X4_load : GoodIn wsL_law (wsV RL 27 RX4 yX4_load wsX4_load) := goodIn_app (goodIn_of _ (by decide +kernel)) ggL_law_X4_load
set_option maxRecDepth 20000 in
theorem ggL_law_X5_load : GoodIn wsL_law wsX5_load := goodIn_r _ [198, 91, 66, 199, 200, 72, 68, 69, 71, 201, 202, 130, 131, 132, 5, 133, 134, 135, 136, 137, 92, 93, 94, 138, 139, 140, 141, 142, 143, 144, 145, 203, 204, 205, 206, 207, 208, 209, 210, 67, 594, 595, 596, 597, 598, 599, 600, 601, 602, 603, 604, 605, 606, 607, 608, 609, 610, 611, 612, 613, 614, 615, 616] rfl (by decide +kernel)
set_option maxRecDepth 20000 in
theorem gL_law_X5_load : GoodIn wsL_law (wsV RL 30 RX5 yX5_load wsX5_load) := goodIn_app (goodIn_of _ (by decide +kernel)) ggL_law_X5_load
set_option maxRecDepth 20000 in
theorem ggL_law_X4_degree : GoodIn wsL_law wsX4_degree := goodIn_r _ [214, 19, 215, 216, 217, 218, 18, 219, 47, 583, 584, 585, 586, 587, 588, 589, 590, 591, 592, 593, 619, 620, 621, 622] rfl (by decide +kernel)
set_option maxRecDepth 20000 in
theorem gL_law_X4_degree : GoodIn wsL_law (wsV RL 31 RX4 yX4_degree wsX4_degree) := goodIn_app (goodIn_of _ (by decide +kernel)) ggL_law_X4_degree
set_option maxRecDepth 20000 in
theorem ggL_law_X5_degree : GoodIn wsL_law wsX5_degree := goodIn_r _ [223, 68, 224, 225, 226, 5, 227, 199, 92, 93, 94, 594, 595, 596, 597, 598, 599, 600, 601, 602, 603, 604, 605, 606, 607, 608, 609, 610, 611, 612, 613, 614, 615, 616] rfl (by decide +kernel)
set_option maxRecDepth 20000 in
theorem gL_law_X5_degree : GoodIn wsL_law (wsV RL 34 RX5 yX5_degree wsX5_degree) := goodIn_app (goodIn_of _ (by decide +kernel)) ggL_law_X5_degree
set_option maxRecDepth 20000 in
theorem ggL_law_X4_neighbor : GoodIn wsL_law wsX4_neighbor := goodIn_r _ [231, 19, 232, 233, 234, 235, 18, 236, 45, 237, 217, 218, 219, 47, 238, 189, 190, 583, 584, 585, 586, 587, 588, 589, 590, 591, 592, 593, 619, 620, 621, 622] rfl (by decide +kernel)
set_option maxRecDepth 20000 in
theorem gL_law_X4_neighbor : GoodIn wsL_law (wsV RL 35 RX4 yX4_neighbor wsX4_neighbor) := goodIn_app (goodIn_of _ (by decide +kernel)) ggL_law_X4_neighbor
set_option maxRecDepth 20000 in
theorem ggL_law_X5_neighbor : GoodIn wsL_law wsX5_neighbor := goodIn_r _ [242, 67, 243, 244, 245, 5, 246, 68, 224, 225, 226, 227, 199, 92, 93, 94, 594, 595, 596, 597, 598, 599, 600, 601, 602, 603, 604, 605, 606, 607, 608, 609, 610, 611, 612, 613, 614, 615, 616] rfl (by decide +kernel)
set_option maxRecDepth 20000 in
theorem gL_law_X5_neighbor : GoodIn wsL_law (wsV RL 39 RX5 yX5_neighbor wsX5_neighbor) := goodIn_app (goodIn_of _ (by decide +kernel)) ggL_law_X5_neighbor
set_option maxRecDepth 20000 in
theorem ggL_law_X4_rotor : GoodIn wsL_law wsX4_rotor := goodIn_r _ [250, 19, 23, 251, 216, 217, 218, 18, 219, 47, 583, 584, 585, 586, 587, 588, 589, 590, 591, 592, 593, 623, 624, 625, 626, 627, 619, 620, 621, 622] rfl (by decide +kernel)
set_option maxRecDepth 20000 in
theorem gL_law_X4_rotor : GoodIn wsL_law (wsV RL 40 RX4 yX4_rotor wsX4_rotor) := goodIn_app (goodIn_of _ (by decide +kernel)) ggL_law_X4_rotor
set_option maxRecDepth 20000 in
theorem ggL_law_X5_rotor : GoodIn wsL_law wsX5_rotor := goodIn_r _ [255, 69, 224, 225, 226, 5, 227, 199, 92, 93, 94, 594, 595, 596, 597, 598, 599, 600, 601, 602, 603, 604, 605, 606, 607, 608, 609, 610, 611, 612, 613, 614, 615, 616] rfl (by decide +kernel)
set_option maxRecDepth 20000 in
theorem gL_law_X5_rotor : GoodIn wsL_law (wsV RL 43 RX5 yX5_rotor wsX5_rotor) := goodIn_app (goodIn_of _ (by decide +kernel)) ggL_law_X5_rotor
set_option maxRecDepth 20000 in
theorem ggL_law_X4_setRotor : GoodIn wsL_law wsX4_setRotor := goodIn_r _ [259, 19, 23, 251, 233, 234, 235, 18, 236, 45, 237, 217, 218, 219, 47, 583, 584, 585, 586, 587, 588, 589, 590, 591, 592, 593, 623, 624, 625, 626, 627, 619, 620, 621, 622] rfl (by decide +kernel)
set_option maxRecDepth 20000 in
theorem gL_law_X4_setRotor : GoodIn wsL_law (wsV RL 44 RX4 yX4_setRotor wsX4_setRotor) := goodIn_app (goodIn_of _ (by decide +kernel)) ggL_law_X4_setRotor
set_option maxRecDepth 20000 in
theorem ggL_law_X5_setRotor : GoodIn wsL_law wsX5_setRotor := goodIn_r _ [263, 69, 243, 244, 245, 5, 246, 68, 224, 225, 226, 227, 199, 92, 93, 94, 594, 595, 596, 597, 598, 599, 600, 601, 602, 603, 604, 605, 606, 607, 608, 609, 610, 611, 612, 613, 614, 615, 616] rfl (by decide +kernel)
set_option maxRecDepth 20000 in
theorem gL_law_X5_setRotor : GoodIn wsL_law (wsV RL 47 RX5 yX5_setRotor wsX5_setRotor) := goodIn_app (goodIn_of _ (by decide +kernel)) ggL_law_X5_setRotor
set_option maxRecDepth 20000 in
theorem ggL_law_X4_addWalker : GoodIn wsL_law wsX4_addWalker := goodIn_r _ [267, 19, 23, 268, 269, 216, 217, 218, 18, 219, 47, 583, 584, 585, 586, 587, 588, 589, 590, 591, 592, 593, 623, 624, 625, 626, 627, 619, 620, 621, 622] rfl (by decide +kernel)
set_option maxRecDepth 20000 in
theorem gL_law_X4_addWalker : GoodIn wsL_law (wsV RL 48 RX4 yX4_addWalker wsX4_addWalker) := goodIn_app (goodIn_of _ (by decide +kernel)) ggL_law_X4_addWalker
set_option maxRecDepth 20000 in
theorem ggL_law_X5_addWalker : GoodIn wsL_law wsX5_addWalker := goodIn_r _ [273, 201, 70, 224, 225, 226, 5, 227, 199, 92, 93, 94, 594, 595, 596, 597, 598, 599, 600, 601, 602, 603, 604, 605, 606, 607, 608, 609, 610, 611, 612, 613, 614, 615, 616] rfl (by decide +kernel)
set_option maxRecDepth 20000 in
theorem gL_law_X5_addWalker : GoodIn wsL_law (wsV RL 51 RX5 yX5_addWalker wsX5_addWalker) := goodIn_app (goodIn_of _ (by decide +kernel)) ggL_law_X5_addWalker
set_option maxRecDepth 20000 in
theorem ggL_law_X4_position : GoodIn wsL_law wsX4_position := goodIn_r _ [277, 23, 269, 278, 279, 280, 22, 281, 56, 583, 584, 585, 586, 587, 588, 589, 590, 591, 592, 593, 623, 624, 625, 626, 627] rfl (by decide +kernel)
set_option maxRecDepth 20000 in
theorem gL_law_X4_position : GoodIn wsL_law (wsV RL 52 RX4 yX4_position wsX4_position) := goodIn_app (goodIn_of _ (by decide +kernel)) ggL_law_X4_position
set_option maxRecDepth 20000 in
theorem ggL_law_X5_position : GoodIn wsL_law wsX5_position := goodIn_r _ [285, 70, 286, 287, 288, 5, 289, 201, 92, 93, 94, 594, 595, 596, 597, 598, 599, 600, 601, 602, 603, 604, 605, 606, 607, 608, 609, 610, 611, 612, 613, 614, 615, 616] rfl (by decide +kernel)
set_option maxRecDepth 20000 in
theorem gL_law_X5_position : GoodIn wsL_law (wsV RL 55 RX5 yX5_position wsX5_position) := goodIn_app (goodIn_of _ (by decide +kernel)) ggL_law_X5_position
set_option maxRecDepth 20000 in
theorem ggL_law_X4_step : GoodIn wsL_law wsX4_step := goodIn_r _ [293, 23, 19, 269, 278, 279, 280, 22, 281, 56, 294, 295, 296, 297, 55, 52, 298, 54, 53, 299, 189, 18, 190, 300, 301, 302, 303, 45, 583, 584, 585, 586, 587, 588, 589, 590, 591, 592, 593, 623, 624, 625, 626, 627, 619, 620, 621, 622] rfl (by decide +kernel)
set_option maxRecDepth 20000 in
theorem gL_law_X4_step : GoodIn wsL_law (wsV RL 56 RX4 yX4_step wsX4_step) := goodIn_app (goodIn_of _ (by decide +kernel)) ggL_law_X4_step
set_option maxRecDepth 20000 in
theorem ggL_law_X5_step : GoodIn wsL_law wsX5_step := goodIn_r _ [307, 70, 286, 287, 288, 5, 289, 201, 92, 93, 94, 308, 309, 310, 311, 72, 69, 71, 312, 313, 314, 315, 67, 68, 594, 595, 596, 597, 598, 599, 600, 601, 602, 603, 604, 605, 606, 607, 608, 609, 610, 611, 612, 613, 614, 615, 616] rfl (by decide +kernel)
set_option maxRecDepth 20000 in
theorem gL_law_X5_step : GoodIn wsL_law (wsV RL 59 RX5 yX5_step wsX5_step) := goodIn_app (goodIn_of _ (by decide +kernel)) ggL_law_X5_step
set_option maxRecDepth 20000 in
theorem ggL_law_X4_absorb : GoodIn wsL_law wsX4_absorb := goodIn_r _ [319, 19, 216, 217, 218, 18, 219, 47, 320, 321, 322, 2, 323, 324, 325, 326, 327, 328, 23, 268, 269, 294, 295, 296, 22, 297, 55, 52, 298, 54, 53, 299, 189, 190, 300, 301, 302, 303, 45, 329, 330, 331, 332, 583, 584, 585, 586, 587, 588, 589, 590, 591, 592, 593, 619, 620, 621, 622, 623, 624, 625, 626, 627] rfl (by decide +kernel)
set_option maxRecDepth 20000 in
theorem gL_law_X4_absorb : GoodIn wsL_law (wsV RL 60 RX4 yX4_absorb wsX4_absorb) := goodIn_app (goodIn_of _ (by decide +kernel)) ggL_law_X4_absorb
set_option maxRecDepth 20000 in
theorem ggL_law_X5_absorb : GoodIn wsL_law wsX5_absorb := goodIn_r _ [336, 201, 70, 224, 225, 226, 5, 227, 199, 92, 93, 94, 308, 309, 310, 311, 72, 69, 71, 312, 313, 314, 315, 67, 68, 337, 338, 339, 340, 594, 595, 596, 597, 598, 599, 600, 601, 602, 603, 604, 605, 606, 607, 608, 609, 610, 611, 612, 613, 614, 615, 616] rfl (by decide +kernel)
set_option maxRecDepth 20000 in
theorem gL_law_X5_absorb : GoodIn wsL_law (wsV RL 64 RX5 yX5_absorb wsX5_absorb) := goodIn_app (goodIn_of _ (by decide +kernel)) ggL_law_X5_absorb
set_option maxRecDepth 20000 in
theorem ggL_law_X4_arrivals : GoodIn wsL_law wsX4_arrivals := goodIn_r _ [344, 19, 23, 345, 216, 217, 218, 18, 219, 47, 583, 584, 585, 586, 587, 588, 589, 590, 591, 592, 593, 623, 624, 625, 626, 627, 619, 620, 621, 622] rfl (by decide +kernel)
set_option maxRecDepth 20000 in
theorem gL_law_X4_arrivals : GoodIn wsL_law (wsV RL 65 RX4 yX4_arrivals wsX4_arrivals) := goodIn_app (goodIn_of _ (by decide +kernel)) ggL_law_X4_arrivals
set_option maxRecDepth 20000 in
theorem ggL_law_X5_arrivals : GoodIn wsL_law wsX5_arrivals := goodIn_r _ [349, 71, 224, 225, 226, 5, 227, 199, 92, 93, 94, 594, 595, 596, 597, 598, 599, 600, 601, 602, 603, 604, 605, 606, 607, 608, 609, 610, 611, 612, 613, 614, 615, 616] rfl (by decide +kernel)
set_option maxRecDepth 20000 in
theorem gL_law_X5_arrivals : GoodIn wsL_law (wsV RL 68 RX5 yX5_arrivals wsX5_arrivals) := goodIn_app (goodIn_of _ (by decide +kernel)) ggL_law_X5_arrivals
set_option maxRecDepth 20000 in
theorem ggL_law_X4_departures : GoodIn wsL_law wsX4_departures := goodIn_r _ [353, 19, 23, 354, 233, 234, 235, 18, 236, 45, 237, 217, 218, 219, 47, 238, 189, 190, 583, 584, 585, 586, 587, 588, 589, 590, 591, 592, 593, 623, 624, 625, 626, 627, 619, 620, 621, 622] rfl (by decide +kernel)
set_option maxRecDepth 20000 in
theorem gL_law_X4_departures : GoodIn wsL_law (wsV RL 69 RX4 yX4_departures wsX4_departures) := goodIn_app (goodIn_of _ (by decide +kernel)) ggL_law_X4_departures
set_option maxRecDepth 20000 in
theorem ggL_law_X5_departures : GoodIn wsL_law wsX5_departures := goodIn_r _ [358, 72, 243, 244, 245, 5, 246, 68, 224, 225, 226, 227, 199, 92, 93, 94, 594, 595, 596, 597, 598, 599, 600, 601, 602, 603, 604, 605, 606, 607, 608, 609, 610, 611, 612, 613, 614, 615, 616] rfl (by decide +kernel)
set_option maxRecDepth 20000 in
theorem gL_law_X5_departures : GoodIn wsL_law (wsV RL 72 RX5 yX5_departures wsX5_departures) := goodIn_app (goodIn_of _ (by decide +kernel)) ggL_law_X5_departures
set_option maxRecDepth 20000 in
theorem ggL_law_X4_stepsToCycle : GoodIn wsL_law wsX4_stepsToCycle := goodIn_r _ [362, 23, 19, 363, 29, 269, 251, 30, 324, 150, 278, 279, 280, 22, 281, 56, 364, 365, 366, 28, 367, 61, 60, 368, 369, 370, 371, 372, 373, 374, 375, 376, 377, 189, 18, 190, 378, 301, 302, 303, 45, 379, 380, 381, 382, 583, 584, 585, 586, 587, 588, 589, 590, 591, 592, 593, 619, 620, 621, 622, 623, 624, 625, 626, 627, 628, 629] rfl (by decide +kernel)
set_option maxRecDepth 20000 in
theorem gL_law_X4_stepsToCycle : GoodIn wsL_law (wsV RL 73 RX4 yX4_stepsToCycle wsX4_stepsToCycle) := goodIn_app (goodIn_of _ (by decide +kernel)) ggL_law_X4_stepsToCycle
set_option maxRecDepth 20000 in
theorem ggL_law_X5_stepsToCycle : GoodIn wsL_law wsX5_stepsToCycle := goodIn_r _ [386, 286, 287, 288, 5, 289, 201, 92, 93, 94, 387, 388, 389, 390, 69, 73, 74, 70, 200, 391, 392, 393, 394, 312, 313, 314, 315, 67, 68, 395, 396, 397, 398, 199, 594, 595, 596, 597, 598, 599, 600, 601, 602, 603, 604, 605, 606, 607, 608, 609, 610, 611, 612, 613, 614, 615, 616] rfl (by decide +kernel)
set_option maxRecDepth 20000 in
theorem gL_law_X5_stepsToCycle : GoodIn wsL_law (wsV RL 76 RX5 yX5_stepsToCycle wsX5_stepsToCycle) := goodIn_app (goodIn_of _ (by decide +kernel)) ggL_law_X5_stepsToCycle
set_option maxRecDepth 20000 in
theorem ggL_law_X4_coverTime : GoodIn wsL_law wsX4_coverTime := goodIn_r _ [402, 23, 324, 269, 251, 278, 279, 280, 22, 281, 56, 403, 404, 405, 2, 406, 29, 19, 150, 407, 364, 365, 366, 28, 367, 61, 60, 368, 369, 370, 371, 372, 373, 374, 375, 376, 377, 189, 18, 190, 378, 301, 302, 303, 45, 583, 584, 585, 586, 587, 588, 589, 590, 591, 592, 593, 623, 624, 625, 626, 627, 619, 620, 621, 622, 628, 629] rfl (by decide +kernel)
set_option maxRecDepth 20000 in
theorem gL_law_X4_coverTime : GoodIn wsL_law (wsV RL 77 RX4 yX4_coverTime wsX4_coverTime) := goodIn_app (goodIn_of _ (by decide +kernel)) ggL_law_X4_coverTime
set_option maxRecDepth 20000 in
theorem ggL_law_X5_coverTime : GoodIn wsL_law wsX5_coverTime := goodIn_r _ [411, 286, 287, 288, 5, 289, 201, 92, 93, 94, 412, 413, 414, 415, 69, 73, 70, 391, 392, 393, 394, 416, 417, 418, 419, 199, 312, 313, 314, 315, 67, 68, 594, 595, 596, 597, 598, 599, 600, 601, 602, 603, 604, 605, 606, 607, 608, 609, 610, 611, 612, 613, 614, 615, 616] rfl (by decide +kernel)
set_option maxRecDepth 20000 in
theorem gL_law_X5_coverTime : GoodIn wsL_law (wsV RL 80 RX5 yX5_coverTime wsX5_coverTime) := goodIn_app (goodIn_of _ (by decide +kernel)) ggL_law_X5_coverTime
set_option maxRecDepth 20000 in
theorem ggL_law_X4_leastCoverTime : GoodIn wsL_law wsX4_leastCoverTime := goodIn_r _ [423, 19, 216, 217, 218, 18, 219, 47, 424, 425, 426, 427, 45, 428, 429, 430, 2, 431, 150, 32, 324, 33, 432, 369, 370, 371, 403, 404, 405, 406, 29, 407, 364, 365, 366, 28, 367, 61, 60, 368, 372, 373, 374, 375, 376, 377, 189, 190, 378, 301, 302, 303, 433, 434, 435, 436, 437, 583, 584, 585, 586, 587, 588, 589, 590, 591, 592, 593, 619, 620, 621, 622, 628, 629] rfl (by decide +kernel)
set_option maxRecDepth 20000 in
theorem gL_law_X4_leastCoverTime : GoodIn wsL_law (wsV RL 81 RX4 yX4_leastCoverTime wsX4_leastCoverTime) := goodIn_app (goodIn_of _ (by decide +kernel)) ggL_law_X4_leastCoverTime
set_option maxRecDepth 20000 in
theorem ggL_law_X5_leastCoverTime : GoodIn wsL_law wsX5_leastCoverTime := goodIn_r _ [441, 224, 225, 226, 5, 227, 199, 92, 93, 94, 442, 443, 444, 445, 68, 446, 447, 448, 449, 450, 451, 452, 453, 454, 455, 73, 416, 417, 418, 419, 312, 313, 314, 315, 67, 594, 595, 596, 597, 598, 599, 600, 601, 602, 603, 604, 605, 606, 607, 608, 609, 610, 611, 612, 613, 614, 615, 616] rfl (by decide +kernel)
set_option maxRecDepth 20000 in
theorem gL_law_X5_leastCoverTime : GoodIn wsL_law (wsV RL 84 RX5 yX5_leastCoverTime wsX5_leastCoverTime) := goodIn_app (goodIn_of _ (by decide +kernel)) ggL_law_X5_leastCoverTime
set_option maxRecDepth 20000 in
theorem ggL_law_X4_bestRotor : GoodIn wsL_law wsX4_bestRotor := goodIn_r _ [459, 19, 33, 216, 217, 218, 18, 219, 47, 424, 425, 426, 427, 45, 428, 429, 430, 2, 431, 150, 32, 324, 432, 369, 370, 371, 403, 404, 405, 406, 29, 407, 364, 365, 366, 28, 367, 61, 60, 368, 372, 373, 374, 375, 376, 377, 189, 190, 378, 301, 302, 303, 433, 434, 435, 436, 437, 583, 584, 585, 586, 587, 588, 589, 590, 591, 592, 593, 619, 620, 621, 622, 628, 629] rfl (by decide +kernel)
set_option maxRecDepth 20000 in
theorem gL_law_X4_bestRotor : GoodIn wsL_law (wsV RL 85 RX4 yX4_bestRotor wsX4_bestRotor) := goodIn_app (goodIn_of _ (by decide +kernel)) ggL_law_X4_bestRotor
set_option maxRecDepth 20000 in
theorem ggL_law_X5_bestRotor : GoodIn wsL_law wsX5_bestRotor := goodIn_r _ [463, 451, 73, 224, 225, 226, 5, 227, 199, 92, 93, 94, 442, 443, 444, 445, 68, 446, 447, 448, 449, 450, 452, 453, 454, 455, 416, 417, 418, 419, 312, 313, 314, 315, 67, 594, 595, 596, 597, 598, 599, 600, 601, 602, 603, 604, 605, 606, 607, 608, 609, 610, 611, 612, 613, 614, 615, 616] rfl (by decide +kernel)
set_option maxRecDepth 20000 in
theorem gL_law_X5_bestRotor : GoodIn wsL_law (wsV RL 88 RX5 yX5_bestRotor wsX5_bestRotor) := goodIn_app (goodIn_of _ (by decide +kernel)) ggL_law_X5_bestRotor
set_option maxRecDepth 20000 in
theorem ggL_law_X4_expectedArrivals : GoodIn wsL_law wsX4_expectedArrivals := goodIn_r _ [467, 19, 468, 469, 150, 35, 216, 217, 218, 18, 219, 47, 470, 471, 472, 2, 473, 36, 215, 232, 238, 189, 190, 474, 475, 476, 477, 478, 479, 583, 584, 585, 586, 587, 588, 589, 590, 591, 592, 593, 619, 620, 621, 622] rfl (by decide +kernel)
set_option maxRecDepth 20000 in
theorem gL_law_X4_expectedArrivals : GoodIn wsL_law (wsV RL 89 RX4 yX4_expectedArrivals wsX4_expectedArrivals) := goodIn_app (goodIn_of _ (by decide +kernel)) ggL_law_X4_expectedArrivals
set_option maxRecDepth 20000 in
theorem ggL_law_X5_expectedArrivals : GoodIn wsL_law wsX5_expectedArrivals := goodIn_r _ [483, 484, 485, 224, 225, 226, 5, 227, 199, 92, 93, 94, 486, 487, 488, 489, 75, 490, 491, 492, 493, 76, 68, 67, 494, 495, 496, 497, 498, 499, 500, 501, 502, 503, 504, 505, 594, 595, 596, 597, 598, 599, 600, 601, 602, 603, 604, 605, 606, 607, 608, 609, 610, 611, 612, 613, 614, 615, 616] rfl (by decide +kernel)
set_option maxRecDepth 20000 in
theorem gL_law_X5_expectedArrivals : GoodIn wsL_law (wsV RL 93 RX5 yX5_expectedArrivals wsX5_expectedArrivals) := goodIn_app (goodIn_of _ (by decide +kernel)) ggL_law_X5_expectedArrivals
set_option maxRecDepth 20000 in
theorem ggL_law_X4_snapshot : GoodIn wsL_law wsX4_snapshot := goodIn_r _ [509, 19, 150, 24, 23, 25, 268, 510, 511, 512, 22, 513, 52, 514, 369, 370, 371, 53, 54, 55, 56, 583, 584, 585, 586, 587, 588, 589, 590, 591, 592, 593, 619, 620, 621, 622, 623, 624, 625, 626, 627] rfl (by decide +kernel)
set_option maxRecDepth 20000 in
theorem gL_law_X4_snapshot : GoodIn wsL_law (wsV RL 94 RX4 yX4_snapshot wsX4_snapshot) := goodIn_app (goodIn_of _ (by decide +kernel)) ggL_law_X4_snapshot
set_option maxRecDepth 20000 in
theorem ggL_law_X5_snapshot : GoodIn wsL_law wsX5_snapshot := goodIn_r _ [518, 199, 202, 201, 519, 69, 77, 71, 79, 78, 70, 80, 72, 391, 392, 393, 5, 394, 594, 595, 596, 597, 598, 599, 600, 601, 602, 603, 604, 605, 606, 607, 608, 609, 610, 611, 612, 613, 614, 615, 616] rfl (by decide +kernel)
set_option maxRecDepth 20000 in
theorem gL_law_X5_snapshot : GoodIn wsL_law (wsV RL 97 RX5 yX5_snapshot wsX5_snapshot) := goodIn_app (goodIn_of _ (by decide +kernel)) ggL_law_X5_snapshot
set_option maxRecDepth 20000 in
theorem ggL_law_X4_restore : GoodIn wsL_law wsX4_restore := goodIn_r _ [523, 25, 23, 24, 268, 510, 511, 512, 22, 513, 52, 514, 369, 370, 371, 53, 54, 55, 56, 583, 584, 585, 586, 587, 588, 589, 590, 591, 592, 593, 623, 624, 625, 626, 627] rfl (by decide +kernel)
set_option maxRecDepth 20000 in
theorem gL_law_X4_restore : GoodIn wsL_law (wsV RL 98 RX4 yX4_restore wsX4_restore) := goodIn_app (goodIn_of _ (by decide +kernel)) ggL_law_X4_restore
set_option maxRecDepth 20000 in
theorem ggL_law_X5_restore : GoodIn wsL_law wsX5_restore := goodIn_r _ [527, 202, 519, 201, 77, 69, 79, 71, 70, 78, 72, 80, 391, 392, 393, 5, 394, 594, 595, 596, 597, 598, 599, 600, 601, 602, 603, 604, 605, 606, 607, 608, 609, 610, 611, 612, 613, 614, 615, 616] rfl (by decide +kernel)
set_option maxRecDepth 20000 in
theorem gL_law_X5_restore : GoodIn wsL_law (wsV RL 101 RX5 yX5_restore wsX5_restore) := goodIn_app (goodIn_of _ (by decide +kernel)) ggL_law_X5_restore
set_option maxRecDepth 20000 in
theorem ggL_law_X4_walkerCount : GoodIn wsL_law wsX4_walkerCount := goodIn_r _ [531, 23, 268, 583, 584, 585, 586, 587, 588, 589, 590, 591, 592, 593, 623, 624, 625, 626, 627] rfl (by decide +kernel)
set_option maxRecDepth 20000 in
theorem gL_law_X4_walkerCount : GoodIn wsL_law (wsV RL 102 RX4 yX4_walkerCount wsX4_walkerCount) := goodIn_app (goodIn_of _ (by decide +kernel)) ggL_law_X4_walkerCount
set_option maxRecDepth 20000 in
theorem ggL_law_X5_walkerCount : GoodIn wsL_law wsX5_walkerCount := goodIn_r _ [535, 201, 594, 595, 596, 597, 598, 599, 600, 601, 602, 603, 604, 605, 606, 607, 608, 609, 610, 611, 612, 613, 614, 615, 616] rfl (by decide +kernel)
set_option maxRecDepth 20000 in
theorem gL_law_X5_walkerCount : GoodIn wsL_law (wsV RL 105 RX5 yX5_walkerCount wsX5_walkerCount) := goodIn_app (goodIn_of _ (by decide +kernel)) ggL_law_X5_walkerCount
set_option maxRecDepth 20000 in
theorem ggL_law_X4_linkCount : GoodIn wsL_law wsX4_linkCount := goodIn_r _ [539, 19, 363, 583, 584, 585, 586, 587, 588, 589, 590, 591, 592, 593, 619, 620, 621, 622] rfl (by decide +kernel)
set_option maxRecDepth 20000 in
theorem gL_law_X4_linkCount : GoodIn wsL_law (wsV RL 106 RX4 yX4_linkCount wsX4_linkCount) := goodIn_app (goodIn_of _ (by decide +kernel)) ggL_law_X4_linkCount
set_option maxRecDepth 20000 in
theorem ggL_law_X5_linkCount : GoodIn wsL_law wsX5_linkCount := goodIn_r _ [543, 200, 594, 595, 596, 597, 598, 599, 600, 601, 602, 603, 604, 605, 606, 607, 608, 609, 610, 611, 612, 613, 614, 615, 616] rfl (by decide +kernel)
set_option maxRecDepth 20000 in
theorem gL_law_X5_linkCount : GoodIn wsL_law (wsV RL 109 RX5 yX5_linkCount wsX5_linkCount) := goodIn_app (goodIn_of _ (by decide +kernel)) ggL_law_X5_linkCount
set_option maxRecDepth 20000 in
theorem ggL_law_X4_digest : GoodIn wsL_law wsX4_digest := goodIn_r _ [547, 548, 19, 150, 363, 23, 268, 269, 549, 550, 2, 551, 552, 553, 554, 555, 556, 215, 251, 345, 232, 354, 238, 189, 18, 190, 557, 360, 361, 362, 29, 30, 324, 278, 279, 280, 22, 281, 56, 364, 365, 366, 28, 367, 61, 60, 368, 369, 370, 371, 372, 373, 374, 375, 376, 377, 378, 301, 302, 303, 45, 379, 380, 381, 382, 558, 400, 401, 402, 403, 404, 405, 406, 407, 559, 560, 561, 562, 424, 425, 426, 427, 47, 428, 429, 430, 431, 32, 33, 432, 433, 434, 435, 436, 437, 563, 465, 466, 467, 468, 469, 35, 216, 217, 218, 219, 470, 471, 472, 473, 36, 474, 475, 476, 477, 478, 479, 564, 565, 566, 567, 15, 85, 86, 583, 584, 585, 586, 587, 588, 589, 590, 591, 592, 593, 619, 620, 621, 622, 623, 624, 625, 626, 627, 628, 629, 617, 618] rfl (by decide +kernel)
set_option maxRecDepth 20000 in
theorem gL_law_X4_digest : GoodIn wsL_law (wsV RL 110 RX4 yX4_digest wsX4_digest) := goodIn_app (goodIn_of _ (by decide +kernel)) ggL_law_X4_digest
set_option maxRecDepth 20000 in
theorem ggL_law_X5_digest : GoodIn wsL_law wsX5_digest := goodIn_r _ [571, 572, 573, 199, 200, 201, 70, 91, 66, 574, 575, 576, 5, 577, 578, 579, 580, 581, 582, 68, 69, 71, 67, 72, 387, 388, 389, 390, 73, 74, 391, 392, 393, 394, 312, 313, 314, 315, 395, 396, 397, 398, 412, 413, 414, 415, 416, 417, 418, 419, 442, 443, 444, 445, 446, 447, 448, 449, 450, 451, 452, 453, 454, 455, 486, 487, 488, 489, 75, 490, 491, 492, 493, 76, 494, 495, 496, 497, 498, 499, 500, 501, 502, 503, 504, 505, 594, 595, 596, 597, 598, 599, 600, 601, 602, 603, 604, 605, 606, 607, 608, 609, 610, 611, 612, 613, 614, 615, 616] rfl (by decide +kernel)
set_option maxRecDepth 20000 in
theorem gL_law_X5_digest : GoodIn wsL_law (wsV RL 114 RX5 yX5_digest wsX5_digest) := goodIn_app (goodIn_of _ (by decide +kernel)) ggL_law_X5_digest
theorem dL_law_0 : decode cL_law 0 = .ok (.new 7, 3) := by decide +kernel
theorem dL_law_3 : decode cL_law 3 = .ok (.dup, 1) := by decide +kernel
theorem dL_law_4 : decode cL_law 4 = .ok (.invokespecial 9, 3) := by decide +kernel
theorem dL_law_7 : decode cL_law 7 = .ok (.astore_n 1, 1) := by decide +kernel
theorem dL_law_8 : decode cL_law 8 = .ok (.new 10, 3) := by decide +kernel
theorem dL_law_11 : decode cL_law 11 = .ok (.dup, 1) := by decide +kernel
theorem dL_law_12 : decode cL_law 12 = .ok (.invokespecial 12, 3) := by decide +kernel
theorem dL_law_15 : decode cL_law 15 = .ok (.astore_n 2, 1) := by decide +kernel
theorem dL_law_16 : decode cL_law 16 = .ok (.iconst 0, 1) := by decide +kernel
theorem dL_law_17 : decode cL_law 17 = .ok (.istore_n 3, 1) := by decide +kernel
theorem dL_law_18 : decode cL_law 18 = .ok (.iload_n 3, 1) := by decide +kernel
theorem dL_law_19 : decode cL_law 19 = .ok (.aload_n 0, 1) := by decide +kernel
theorem dL_law_20 : decode cL_law 20 = .ok (.arraylength, 1) := by decide +kernel
theorem dL_law_21 : decode cL_law 21 = .ok (.iconst 4, 1) := by decide +kernel
theorem dL_law_22 : decode cL_law 22 = .ok (.isub, 1) := by decide +kernel
theorem dL_law_23 : decode cL_law 23 = .ok (.if_icmp .gt 697, 3) := by decide +kernel
theorem dL_law_26 : decode cL_law 26 = .ok (.aload_n 0, 1) := by decide +kernel
theorem dL_law_27 : decode cL_law 27 = .ok (.iload_n 3, 1) := by decide +kernel
theorem dL_law_28 : decode cL_law 28 = .ok (.iaload, 1) := by decide +kernel
theorem dL_law_29 : decode cL_law 29 = .ok (.bipush 31, 2) := by decide +kernel
theorem dL_law_31 : decode cL_law 31 = .ok (.iand, 1) := by decide +kernel
theorem dL_law_32 : decode cL_law 32 = .ok (.tableswitch 682 0 23 #[112, 135, 148, 161, 174, 197, 230, 253, 286, 309, 332, 365, 414, 437, 470, 493, 516, 539, 572, 616, 629, 642, 655, 668], 112) := by decide +kernel
theorem dL_law_144 : decode cL_law 144 = .ok (.aload_n 1, 1) := by decide +kernel
theorem dL_law_145 : decode cL_law 145 = .ok (.aload_n 0, 1) := by decide +kernel
theorem dL_law_146 : decode cL_law 146 = .ok (.iload_n 3, 1) := by decide +kernel
theorem dL_law_147 : decode cL_law 147 = .ok (.iconst 1, 1) := by decide +kernel
theorem dL_law_148 : decode cL_law 148 = .ok (.iadd, 1) := by decide +kernel
theorem dL_law_149 : decode cL_law 149 = .ok (.iaload, 1) := by decide +kernel
theorem dL_law_150 : decode cL_law 150 = .ok (.invokevirtual 13, 3) := by decide +kernel
theorem dL_law_153 : decode cL_law 153 = .ok (.aload_n 2, 1) := by decide +kernel
theorem dL_law_154 : decode cL_law 154 = .ok (.aload_n 0, 1) := by decide +kernel
theorem dL_law_155 : decode cL_law 155 = .ok (.iload_n 3, 1) := by decide +kernel
theorem dL_law_156 : decode cL_law 156 = .ok (.iconst 1, 1) := by decide +kernel
theorem dL_law_157 : decode cL_law 157 = .ok (.iadd, 1) := by decide +kernel
theorem dL_law_158 : decode cL_law 158 = .ok (.iaload, 1) := by decide +kernel
theorem dL_law_159 : decode cL_law 159 = .ok (.invokevirtual 17, 3) := by decide +kernel
theorem dL_law_162 : decode cL_law 162 = .ok (.if_icmp .eq 552, 3) := by decide +kernel
theorem dL_law_165 : decode cL_law 165 = .ok (.iconst 0, 1) := by decide +kernel
theorem dL_law_166 : decode cL_law 166 = .ok (.ireturn, 1) := by decide +kernel
theorem dL_law_167 : decode cL_law 167 = .ok (.aload_n 1, 1) := by decide +kernel
theorem dL_law_168 : decode cL_law 168 = .ok (.invokevirtual 18, 3) := by decide +kernel
theorem dL_law_171 : decode cL_law 171 = .ok (.aload_n 2, 1) := by decide +kernel
theorem dL_law_172 : decode cL_law 172 = .ok (.invokevirtual 22, 3) := by decide +kernel
theorem dL_law_175 : decode cL_law 175 = .ok (.if_icmp .eq 539, 3) := by decide +kernel
theorem dL_law_178 : decode cL_law 178 = .ok (.iconst 0, 1) := by decide +kernel
theorem dL_law_179 : decode cL_law 179 = .ok (.ireturn, 1) := by decide +kernel
theorem dL_law_180 : decode cL_law 180 = .ok (.aload_n 1, 1) := by decide +kernel
theorem dL_law_181 : decode cL_law 181 = .ok (.invokevirtual 23, 3) := by decide +kernel
theorem dL_law_184 : decode cL_law 184 = .ok (.aload_n 2, 1) := by decide +kernel
theorem dL_law_185 : decode cL_law 185 = .ok (.invokevirtual 26, 3) := by decide +kernel
theorem dL_law_188 : decode cL_law 188 = .ok (.if_icmp .eq 526, 3) := by decide +kernel
theorem dL_law_191 : decode cL_law 191 = .ok (.iconst 0, 1) := by decide +kernel
theorem dL_law_192 : decode cL_law 192 = .ok (.ireturn, 1) := by decide +kernel
theorem dL_law_193 : decode cL_law 193 = .ok (.aload_n 1, 1) := by decide +kernel
theorem dL_law_194 : decode cL_law 194 = .ok (.invokevirtual 27, 3) := by decide +kernel
theorem dL_law_197 : decode cL_law 197 = .ok (.aload_n 2, 1) := by decide +kernel
theorem dL_law_198 : decode cL_law 198 = .ok (.invokevirtual 30, 3) := by decide +kernel
theorem dL_law_201 : decode cL_law 201 = .ok (.if_icmp .eq 513, 3) := by decide +kernel
theorem dL_law_204 : decode cL_law 204 = .ok (.iconst 0, 1) := by decide +kernel
theorem dL_law_205 : decode cL_law 205 = .ok (.ireturn, 1) := by decide +kernel
theorem dL_law_206 : decode cL_law 206 = .ok (.aload_n 1, 1) := by decide +kernel
theorem dL_law_207 : decode cL_law 207 = .ok (.aload_n 0, 1) := by decide +kernel
theorem dL_law_208 : decode cL_law 208 = .ok (.iload_n 3, 1) := by decide +kernel
theorem dL_law_209 : decode cL_law 209 = .ok (.iconst 1, 1) := by decide +kernel
theorem dL_law_210 : decode cL_law 210 = .ok (.iadd, 1) := by decide +kernel
theorem dL_law_211 : decode cL_law 211 = .ok (.iaload, 1) := by decide +kernel
theorem dL_law_212 : decode cL_law 212 = .ok (.invokevirtual 31, 3) := by decide +kernel
theorem dL_law_215 : decode cL_law 215 = .ok (.aload_n 2, 1) := by decide +kernel
theorem dL_law_216 : decode cL_law 216 = .ok (.aload_n 0, 1) := by decide +kernel
theorem dL_law_217 : decode cL_law 217 = .ok (.iload_n 3, 1) := by decide +kernel
theorem dL_law_218 : decode cL_law 218 = .ok (.iconst 1, 1) := by decide +kernel
theorem dL_law_219 : decode cL_law 219 = .ok (.iadd, 1) := by decide +kernel
theorem dL_law_220 : decode cL_law 220 = .ok (.iaload, 1) := by decide +kernel
theorem dL_law_221 : decode cL_law 221 = .ok (.invokevirtual 34, 3) := by decide +kernel
theorem dL_law_224 : decode cL_law 224 = .ok (.if_icmp .eq 490, 3) := by decide +kernel
theorem dL_law_227 : decode cL_law 227 = .ok (.iconst 0, 1) := by decide +kernel
theorem dL_law_228 : decode cL_law 228 = .ok (.ireturn, 1) := by decide +kernel
theorem dL_law_229 : decode cL_law 229 = .ok (.aload_n 1, 1) := by decide +kernel
theorem dL_law_230 : decode cL_law 230 = .ok (.aload_n 0, 1) := by decide +kernel
theorem dL_law_231 : decode cL_law 231 = .ok (.iload_n 3, 1) := by decide +kernel
theorem dL_law_232 : decode cL_law 232 = .ok (.iconst 1, 1) := by decide +kernel
theorem dL_law_233 : decode cL_law 233 = .ok (.iadd, 1) := by decide +kernel
theorem dL_law_234 : decode cL_law 234 = .ok (.iaload, 1) := by decide +kernel
theorem dL_law_235 : decode cL_law 235 = .ok (.aload_n 0, 1) := by decide +kernel
theorem dL_law_236 : decode cL_law 236 = .ok (.iload_n 3, 1) := by decide +kernel
theorem dL_law_237 : decode cL_law 237 = .ok (.iconst 2, 1) := by decide +kernel
theorem dL_law_238 : decode cL_law 238 = .ok (.iadd, 1) := by decide +kernel
theorem dL_law_239 : decode cL_law 239 = .ok (.iaload, 1) := by decide +kernel
theorem dL_law_240 : decode cL_law 240 = .ok (.invokevirtual 35, 3) := by decide +kernel
theorem dL_law_243 : decode cL_law 243 = .ok (.aload_n 2, 1) := by decide +kernel
theorem dL_law_244 : decode cL_law 244 = .ok (.aload_n 0, 1) := by decide +kernel
theorem dL_law_245 : decode cL_law 245 = .ok (.iload_n 3, 1) := by decide +kernel
theorem dL_law_246 : decode cL_law 246 = .ok (.iconst 1, 1) := by decide +kernel
theorem dL_law_247 : decode cL_law 247 = .ok (.iadd, 1) := by decide +kernel
theorem dL_law_248 : decode cL_law 248 = .ok (.iaload, 1) := by decide +kernel
theorem dL_law_249 : decode cL_law 249 = .ok (.aload_n 0, 1) := by decide +kernel
theorem dL_law_250 : decode cL_law 250 = .ok (.iload_n 3, 1) := by decide +kernel
theorem dL_law_251 : decode cL_law 251 = .ok (.iconst 2, 1) := by decide +kernel
theorem dL_law_252 : decode cL_law 252 = .ok (.iadd, 1) := by decide +kernel
theorem dL_law_253 : decode cL_law 253 = .ok (.iaload, 1) := by decide +kernel
theorem dL_law_254 : decode cL_law 254 = .ok (.invokevirtual 39, 3) := by decide +kernel
theorem dL_law_257 : decode cL_law 257 = .ok (.if_icmp .eq 457, 3) := by decide +kernel
theorem dL_law_260 : decode cL_law 260 = .ok (.iconst 0, 1) := by decide +kernel
theorem dL_law_261 : decode cL_law 261 = .ok (.ireturn, 1) := by decide +kernel
theorem dL_law_262 : decode cL_law 262 = .ok (.aload_n 1, 1) := by decide +kernel
theorem dL_law_263 : decode cL_law 263 = .ok (.aload_n 0, 1) := by decide +kernel
theorem dL_law_264 : decode cL_law 264 = .ok (.iload_n 3, 1) := by decide +kernel
theorem dL_law_265 : decode cL_law 265 = .ok (.iconst 1, 1) := by decide +kernel
theorem dL_law_266 : decode cL_law 266 = .ok (.iadd, 1) := by decide +kernel
theorem dL_law_267 : decode cL_law 267 = .ok (.iaload, 1) := by decide +kernel
theorem dL_law_268 : decode cL_law 268 = .ok (.invokevirtual 40, 3) := by decide +kernel
theorem dL_law_271 : decode cL_law 271 = .ok (.aload_n 2, 1) := by decide +kernel
theorem dL_law_272 : decode cL_law 272 = .ok (.aload_n 0, 1) := by decide +kernel
theorem dL_law_273 : decode cL_law 273 = .ok (.iload_n 3, 1) := by decide +kernel
theorem dL_law_274 : decode cL_law 274 = .ok (.iconst 1, 1) := by decide +kernel
theorem dL_law_275 : decode cL_law 275 = .ok (.iadd, 1) := by decide +kernel
theorem dL_law_276 : decode cL_law 276 = .ok (.iaload, 1) := by decide +kernel
theorem dL_law_277 : decode cL_law 277 = .ok (.invokevirtual 43, 3) := by decide +kernel
theorem dL_law_280 : decode cL_law 280 = .ok (.if_icmp .eq 434, 3) := by decide +kernel
theorem dL_law_283 : decode cL_law 283 = .ok (.iconst 0, 1) := by decide +kernel
theorem dL_law_284 : decode cL_law 284 = .ok (.ireturn, 1) := by decide +kernel
theorem dL_law_285 : decode cL_law 285 = .ok (.aload_n 1, 1) := by decide +kernel
theorem dL_law_286 : decode cL_law 286 = .ok (.aload_n 0, 1) := by decide +kernel
theorem dL_law_287 : decode cL_law 287 = .ok (.iload_n 3, 1) := by decide +kernel
theorem dL_law_288 : decode cL_law 288 = .ok (.iconst 1, 1) := by decide +kernel
theorem dL_law_289 : decode cL_law 289 = .ok (.iadd, 1) := by decide +kernel
theorem dL_law_290 : decode cL_law 290 = .ok (.iaload, 1) := by decide +kernel
theorem dL_law_291 : decode cL_law 291 = .ok (.aload_n 0, 1) := by decide +kernel
theorem dL_law_292 : decode cL_law 292 = .ok (.iload_n 3, 1) := by decide +kernel
theorem dL_law_293 : decode cL_law 293 = .ok (.iconst 2, 1) := by decide +kernel
theorem dL_law_294 : decode cL_law 294 = .ok (.iadd, 1) := by decide +kernel
theorem dL_law_295 : decode cL_law 295 = .ok (.iaload, 1) := by decide +kernel
theorem dL_law_296 : decode cL_law 296 = .ok (.invokevirtual 44, 3) := by decide +kernel
theorem dL_law_299 : decode cL_law 299 = .ok (.aload_n 2, 1) := by decide +kernel
theorem dL_law_300 : decode cL_law 300 = .ok (.aload_n 0, 1) := by decide +kernel
theorem dL_law_301 : decode cL_law 301 = .ok (.iload_n 3, 1) := by decide +kernel
theorem dL_law_302 : decode cL_law 302 = .ok (.iconst 1, 1) := by decide +kernel
theorem dL_law_303 : decode cL_law 303 = .ok (.iadd, 1) := by decide +kernel
theorem dL_law_304 : decode cL_law 304 = .ok (.iaload, 1) := by decide +kernel
theorem dL_law_305 : decode cL_law 305 = .ok (.aload_n 0, 1) := by decide +kernel
theorem dL_law_306 : decode cL_law 306 = .ok (.iload_n 3, 1) := by decide +kernel
theorem dL_law_307 : decode cL_law 307 = .ok (.iconst 2, 1) := by decide +kernel
theorem dL_law_308 : decode cL_law 308 = .ok (.iadd, 1) := by decide +kernel
theorem dL_law_309 : decode cL_law 309 = .ok (.iaload, 1) := by decide +kernel
theorem dL_law_310 : decode cL_law 310 = .ok (.invokevirtual 47, 3) := by decide +kernel
theorem dL_law_313 : decode cL_law 313 = .ok (.if_icmp .eq 401, 3) := by decide +kernel
theorem dL_law_316 : decode cL_law 316 = .ok (.iconst 0, 1) := by decide +kernel
theorem dL_law_317 : decode cL_law 317 = .ok (.ireturn, 1) := by decide +kernel
theorem dL_law_318 : decode cL_law 318 = .ok (.aload_n 1, 1) := by decide +kernel
theorem dL_law_319 : decode cL_law 319 = .ok (.aload_n 0, 1) := by decide +kernel
theorem dL_law_320 : decode cL_law 320 = .ok (.iload_n 3, 1) := by decide +kernel
theorem dL_law_321 : decode cL_law 321 = .ok (.iconst 1, 1) := by decide +kernel
theorem dL_law_322 : decode cL_law 322 = .ok (.iadd, 1) := by decide +kernel
theorem dL_law_323 : decode cL_law 323 = .ok (.iaload, 1) := by decide +kernel
theorem dL_law_324 : decode cL_law 324 = .ok (.invokevirtual 48, 3) := by decide +kernel
theorem dL_law_327 : decode cL_law 327 = .ok (.aload_n 2, 1) := by decide +kernel
theorem dL_law_328 : decode cL_law 328 = .ok (.aload_n 0, 1) := by decide +kernel
theorem dL_law_329 : decode cL_law 329 = .ok (.iload_n 3, 1) := by decide +kernel
theorem dL_law_330 : decode cL_law 330 = .ok (.iconst 1, 1) := by decide +kernel
theorem dL_law_331 : decode cL_law 331 = .ok (.iadd, 1) := by decide +kernel
theorem dL_law_332 : decode cL_law 332 = .ok (.iaload, 1) := by decide +kernel
theorem dL_law_333 : decode cL_law 333 = .ok (.invokevirtual 51, 3) := by decide +kernel
theorem dL_law_336 : decode cL_law 336 = .ok (.if_icmp .eq 378, 3) := by decide +kernel
theorem dL_law_339 : decode cL_law 339 = .ok (.iconst 0, 1) := by decide +kernel
theorem dL_law_340 : decode cL_law 340 = .ok (.ireturn, 1) := by decide +kernel
theorem dL_law_341 : decode cL_law 341 = .ok (.aload_n 1, 1) := by decide +kernel
theorem dL_law_342 : decode cL_law 342 = .ok (.aload_n 0, 1) := by decide +kernel
theorem dL_law_343 : decode cL_law 343 = .ok (.iload_n 3, 1) := by decide +kernel
theorem dL_law_344 : decode cL_law 344 = .ok (.iconst 1, 1) := by decide +kernel
theorem dL_law_345 : decode cL_law 345 = .ok (.iadd, 1) := by decide +kernel
theorem dL_law_346 : decode cL_law 346 = .ok (.iaload, 1) := by decide +kernel
theorem dL_law_347 : decode cL_law 347 = .ok (.invokevirtual 52, 3) := by decide +kernel
theorem dL_law_350 : decode cL_law 350 = .ok (.aload_n 2, 1) := by decide +kernel
theorem dL_law_351 : decode cL_law 351 = .ok (.aload_n 0, 1) := by decide +kernel
theorem dL_law_352 : decode cL_law 352 = .ok (.iload_n 3, 1) := by decide +kernel
theorem dL_law_353 : decode cL_law 353 = .ok (.iconst 1, 1) := by decide +kernel
theorem dL_law_354 : decode cL_law 354 = .ok (.iadd, 1) := by decide +kernel
theorem dL_law_355 : decode cL_law 355 = .ok (.iaload, 1) := by decide +kernel
theorem dL_law_356 : decode cL_law 356 = .ok (.invokevirtual 55, 3) := by decide +kernel
theorem dL_law_359 : decode cL_law 359 = .ok (.if_icmp .eq 355, 3) := by decide +kernel
theorem dL_law_362 : decode cL_law 362 = .ok (.iconst 0, 1) := by decide +kernel
theorem dL_law_363 : decode cL_law 363 = .ok (.ireturn, 1) := by decide +kernel
theorem dL_law_364 : decode cL_law 364 = .ok (.aload_n 1, 1) := by decide +kernel
theorem dL_law_365 : decode cL_law 365 = .ok (.aload_n 0, 1) := by decide +kernel
theorem dL_law_366 : decode cL_law 366 = .ok (.iload_n 3, 1) := by decide +kernel
theorem dL_law_367 : decode cL_law 367 = .ok (.iconst 1, 1) := by decide +kernel
theorem dL_law_368 : decode cL_law 368 = .ok (.iadd, 1) := by decide +kernel
theorem dL_law_369 : decode cL_law 369 = .ok (.iaload, 1) := by decide +kernel
theorem dL_law_370 : decode cL_law 370 = .ok (.aload_n 0, 1) := by decide +kernel
theorem dL_law_371 : decode cL_law 371 = .ok (.iload_n 3, 1) := by decide +kernel
theorem dL_law_372 : decode cL_law 372 = .ok (.iconst 2, 1) := by decide +kernel
theorem dL_law_373 : decode cL_law 373 = .ok (.iadd, 1) := by decide +kernel
theorem dL_law_374 : decode cL_law 374 = .ok (.iaload, 1) := by decide +kernel
theorem dL_law_375 : decode cL_law 375 = .ok (.invokevirtual 56, 3) := by decide +kernel
theorem dL_law_378 : decode cL_law 378 = .ok (.aload_n 2, 1) := by decide +kernel
theorem dL_law_379 : decode cL_law 379 = .ok (.aload_n 0, 1) := by decide +kernel
theorem dL_law_380 : decode cL_law 380 = .ok (.iload_n 3, 1) := by decide +kernel
theorem dL_law_381 : decode cL_law 381 = .ok (.iconst 1, 1) := by decide +kernel
theorem dL_law_382 : decode cL_law 382 = .ok (.iadd, 1) := by decide +kernel
theorem dL_law_383 : decode cL_law 383 = .ok (.iaload, 1) := by decide +kernel
theorem dL_law_384 : decode cL_law 384 = .ok (.aload_n 0, 1) := by decide +kernel
theorem dL_law_385 : decode cL_law 385 = .ok (.iload_n 3, 1) := by decide +kernel
theorem dL_law_386 : decode cL_law 386 = .ok (.iconst 2, 1) := by decide +kernel
theorem dL_law_387 : decode cL_law 387 = .ok (.iadd, 1) := by decide +kernel
theorem dL_law_388 : decode cL_law 388 = .ok (.iaload, 1) := by decide +kernel
theorem dL_law_389 : decode cL_law 389 = .ok (.invokevirtual 59, 3) := by decide +kernel
theorem dL_law_392 : decode cL_law 392 = .ok (.if_icmp .eq 322, 3) := by decide +kernel
theorem dL_law_395 : decode cL_law 395 = .ok (.iconst 0, 1) := by decide +kernel
theorem dL_law_396 : decode cL_law 396 = .ok (.ireturn, 1) := by decide +kernel
theorem dL_law_397 : decode cL_law 397 = .ok (.aload_n 1, 1) := by decide +kernel
theorem dL_law_398 : decode cL_law 398 = .ok (.aload_n 0, 1) := by decide +kernel
theorem dL_law_399 : decode cL_law 399 = .ok (.iload_n 3, 1) := by decide +kernel
theorem dL_law_400 : decode cL_law 400 = .ok (.iconst 1, 1) := by decide +kernel
theorem dL_law_401 : decode cL_law 401 = .ok (.iadd, 1) := by decide +kernel
theorem dL_law_402 : decode cL_law 402 = .ok (.iaload, 1) := by decide +kernel
theorem dL_law_403 : decode cL_law 403 = .ok (.aload_n 0, 1) := by decide +kernel
theorem dL_law_404 : decode cL_law 404 = .ok (.iload_n 3, 1) := by decide +kernel
theorem dL_law_405 : decode cL_law 405 = .ok (.iconst 2, 1) := by decide +kernel
theorem dL_law_406 : decode cL_law 406 = .ok (.iadd, 1) := by decide +kernel
theorem dL_law_407 : decode cL_law 407 = .ok (.iaload, 1) := by decide +kernel
theorem dL_law_408 : decode cL_law 408 = .ok (.ifCond .eq 7, 3) := by decide +kernel
theorem dL_law_411 : decode cL_law 411 = .ok (.iconst 1, 1) := by decide +kernel
theorem dL_law_412 : decode cL_law 412 = .ok (.goto 4, 3) := by decide +kernel
theorem dL_law_415 : decode cL_law 415 = .ok (.iconst 0, 1) := by decide +kernel
theorem dL_law_416 : decode cL_law 416 = .ok (.invokevirtual 60, 3) := by decide +kernel
theorem dL_law_419 : decode cL_law 419 = .ok (.aload_n 2, 1) := by decide +kernel
theorem dL_law_420 : decode cL_law 420 = .ok (.aload_n 0, 1) := by decide +kernel
theorem dL_law_421 : decode cL_law 421 = .ok (.iload_n 3, 1) := by decide +kernel
theorem dL_law_422 : decode cL_law 422 = .ok (.iconst 1, 1) := by decide +kernel
theorem dL_law_423 : decode cL_law 423 = .ok (.iadd, 1) := by decide +kernel
theorem dL_law_424 : decode cL_law 424 = .ok (.iaload, 1) := by decide +kernel
theorem dL_law_425 : decode cL_law 425 = .ok (.aload_n 0, 1) := by decide +kernel
theorem dL_law_426 : decode cL_law 426 = .ok (.iload_n 3, 1) := by decide +kernel
theorem dL_law_427 : decode cL_law 427 = .ok (.iconst 2, 1) := by decide +kernel
theorem dL_law_428 : decode cL_law 428 = .ok (.iadd, 1) := by decide +kernel
theorem dL_law_429 : decode cL_law 429 = .ok (.iaload, 1) := by decide +kernel
theorem dL_law_430 : decode cL_law 430 = .ok (.ifCond .eq 7, 3) := by decide +kernel
theorem dL_law_433 : decode cL_law 433 = .ok (.iconst 1, 1) := by decide +kernel
theorem dL_law_434 : decode cL_law 434 = .ok (.goto 4, 3) := by decide +kernel
theorem dL_law_437 : decode cL_law 437 = .ok (.iconst 0, 1) := by decide +kernel
theorem dL_law_438 : decode cL_law 438 = .ok (.invokevirtual 64, 3) := by decide +kernel
theorem dL_law_441 : decode cL_law 441 = .ok (.if_icmp .eq 273, 3) := by decide +kernel
theorem dL_law_444 : decode cL_law 444 = .ok (.iconst 0, 1) := by decide +kernel
theorem dL_law_445 : decode cL_law 445 = .ok (.ireturn, 1) := by decide +kernel
theorem dL_law_446 : decode cL_law 446 = .ok (.aload_n 1, 1) := by decide +kernel
theorem dL_law_447 : decode cL_law 447 = .ok (.aload_n 0, 1) := by decide +kernel
theorem dL_law_448 : decode cL_law 448 = .ok (.iload_n 3, 1) := by decide +kernel
theorem dL_law_449 : decode cL_law 449 = .ok (.iconst 1, 1) := by decide +kernel
theorem dL_law_450 : decode cL_law 450 = .ok (.iadd, 1) := by decide +kernel
theorem dL_law_451 : decode cL_law 451 = .ok (.iaload, 1) := by decide +kernel
theorem dL_law_452 : decode cL_law 452 = .ok (.invokevirtual 65, 3) := by decide +kernel
theorem dL_law_455 : decode cL_law 455 = .ok (.aload_n 2, 1) := by decide +kernel
theorem dL_law_456 : decode cL_law 456 = .ok (.aload_n 0, 1) := by decide +kernel
theorem dL_law_457 : decode cL_law 457 = .ok (.iload_n 3, 1) := by decide +kernel
theorem dL_law_458 : decode cL_law 458 = .ok (.iconst 1, 1) := by decide +kernel
theorem dL_law_459 : decode cL_law 459 = .ok (.iadd, 1) := by decide +kernel
theorem dL_law_460 : decode cL_law 460 = .ok (.iaload, 1) := by decide +kernel
theorem dL_law_461 : decode cL_law 461 = .ok (.invokevirtual 68, 3) := by decide +kernel
theorem dL_law_464 : decode cL_law 464 = .ok (.if_icmp .eq 250, 3) := by decide +kernel
theorem dL_law_467 : decode cL_law 467 = .ok (.iconst 0, 1) := by decide +kernel
theorem dL_law_468 : decode cL_law 468 = .ok (.ireturn, 1) := by decide +kernel
theorem dL_law_469 : decode cL_law 469 = .ok (.aload_n 1, 1) := by decide +kernel
theorem dL_law_470 : decode cL_law 470 = .ok (.aload_n 0, 1) := by decide +kernel
theorem dL_law_471 : decode cL_law 471 = .ok (.iload_n 3, 1) := by decide +kernel
theorem dL_law_472 : decode cL_law 472 = .ok (.iconst 1, 1) := by decide +kernel
theorem dL_law_473 : decode cL_law 473 = .ok (.iadd, 1) := by decide +kernel
theorem dL_law_474 : decode cL_law 474 = .ok (.iaload, 1) := by decide +kernel
theorem dL_law_475 : decode cL_law 475 = .ok (.aload_n 0, 1) := by decide +kernel
theorem dL_law_476 : decode cL_law 476 = .ok (.iload_n 3, 1) := by decide +kernel
theorem dL_law_477 : decode cL_law 477 = .ok (.iconst 2, 1) := by decide +kernel
theorem dL_law_478 : decode cL_law 478 = .ok (.iadd, 1) := by decide +kernel
theorem dL_law_479 : decode cL_law 479 = .ok (.iaload, 1) := by decide +kernel
theorem dL_law_480 : decode cL_law 480 = .ok (.invokevirtual 69, 3) := by decide +kernel
theorem dL_law_483 : decode cL_law 483 = .ok (.aload_n 2, 1) := by decide +kernel
theorem dL_law_484 : decode cL_law 484 = .ok (.aload_n 0, 1) := by decide +kernel
theorem dL_law_485 : decode cL_law 485 = .ok (.iload_n 3, 1) := by decide +kernel
theorem dL_law_486 : decode cL_law 486 = .ok (.iconst 1, 1) := by decide +kernel
theorem dL_law_487 : decode cL_law 487 = .ok (.iadd, 1) := by decide +kernel
theorem dL_law_488 : decode cL_law 488 = .ok (.iaload, 1) := by decide +kernel
theorem dL_law_489 : decode cL_law 489 = .ok (.aload_n 0, 1) := by decide +kernel
theorem dL_law_490 : decode cL_law 490 = .ok (.iload_n 3, 1) := by decide +kernel
theorem dL_law_491 : decode cL_law 491 = .ok (.iconst 2, 1) := by decide +kernel
theorem dL_law_492 : decode cL_law 492 = .ok (.iadd, 1) := by decide +kernel
theorem dL_law_493 : decode cL_law 493 = .ok (.iaload, 1) := by decide +kernel
theorem dL_law_494 : decode cL_law 494 = .ok (.invokevirtual 72, 3) := by decide +kernel
theorem dL_law_497 : decode cL_law 497 = .ok (.if_icmp .eq 217, 3) := by decide +kernel
theorem dL_law_500 : decode cL_law 500 = .ok (.iconst 0, 1) := by decide +kernel
theorem dL_law_501 : decode cL_law 501 = .ok (.ireturn, 1) := by decide +kernel
theorem dL_law_502 : decode cL_law 502 = .ok (.aload_n 1, 1) := by decide +kernel
theorem dL_law_503 : decode cL_law 503 = .ok (.aload_n 0, 1) := by decide +kernel
theorem dL_law_504 : decode cL_law 504 = .ok (.iload_n 3, 1) := by decide +kernel
theorem dL_law_505 : decode cL_law 505 = .ok (.iconst 1, 1) := by decide +kernel
theorem dL_law_506 : decode cL_law 506 = .ok (.iadd, 1) := by decide +kernel
theorem dL_law_507 : decode cL_law 507 = .ok (.iaload, 1) := by decide +kernel
theorem dL_law_508 : decode cL_law 508 = .ok (.invokevirtual 73, 3) := by decide +kernel
theorem dL_law_511 : decode cL_law 511 = .ok (.aload_n 2, 1) := by decide +kernel
theorem dL_law_512 : decode cL_law 512 = .ok (.aload_n 0, 1) := by decide +kernel
theorem dL_law_513 : decode cL_law 513 = .ok (.iload_n 3, 1) := by decide +kernel
theorem dL_law_514 : decode cL_law 514 = .ok (.iconst 1, 1) := by decide +kernel
theorem dL_law_515 : decode cL_law 515 = .ok (.iadd, 1) := by decide +kernel
theorem dL_law_516 : decode cL_law 516 = .ok (.iaload, 1) := by decide +kernel
theorem dL_law_517 : decode cL_law 517 = .ok (.invokevirtual 76, 3) := by decide +kernel
theorem dL_law_520 : decode cL_law 520 = .ok (.if_icmp .eq 194, 3) := by decide +kernel
theorem dL_law_523 : decode cL_law 523 = .ok (.iconst 0, 1) := by decide +kernel
theorem dL_law_524 : decode cL_law 524 = .ok (.ireturn, 1) := by decide +kernel
theorem dL_law_525 : decode cL_law 525 = .ok (.aload_n 1, 1) := by decide +kernel
theorem dL_law_526 : decode cL_law 526 = .ok (.aload_n 0, 1) := by decide +kernel
theorem dL_law_527 : decode cL_law 527 = .ok (.iload_n 3, 1) := by decide +kernel
theorem dL_law_528 : decode cL_law 528 = .ok (.iconst 1, 1) := by decide +kernel
theorem dL_law_529 : decode cL_law 529 = .ok (.iadd, 1) := by decide +kernel
theorem dL_law_530 : decode cL_law 530 = .ok (.iaload, 1) := by decide +kernel
theorem dL_law_531 : decode cL_law 531 = .ok (.invokevirtual 77, 3) := by decide +kernel
theorem dL_law_534 : decode cL_law 534 = .ok (.aload_n 2, 1) := by decide +kernel
theorem dL_law_535 : decode cL_law 535 = .ok (.aload_n 0, 1) := by decide +kernel
theorem dL_law_536 : decode cL_law 536 = .ok (.iload_n 3, 1) := by decide +kernel
theorem dL_law_537 : decode cL_law 537 = .ok (.iconst 1, 1) := by decide +kernel
theorem dL_law_538 : decode cL_law 538 = .ok (.iadd, 1) := by decide +kernel
theorem dL_law_539 : decode cL_law 539 = .ok (.iaload, 1) := by decide +kernel
theorem dL_law_540 : decode cL_law 540 = .ok (.invokevirtual 80, 3) := by decide +kernel
theorem dL_law_543 : decode cL_law 543 = .ok (.if_icmp .eq 171, 3) := by decide +kernel
theorem dL_law_546 : decode cL_law 546 = .ok (.iconst 0, 1) := by decide +kernel
theorem dL_law_547 : decode cL_law 547 = .ok (.ireturn, 1) := by decide +kernel
theorem dL_law_548 : decode cL_law 548 = .ok (.aload_n 1, 1) := by decide +kernel
theorem dL_law_549 : decode cL_law 549 = .ok (.aload_n 0, 1) := by decide +kernel
theorem dL_law_550 : decode cL_law 550 = .ok (.iload_n 3, 1) := by decide +kernel
theorem dL_law_551 : decode cL_law 551 = .ok (.iconst 1, 1) := by decide +kernel
theorem dL_law_552 : decode cL_law 552 = .ok (.iadd, 1) := by decide +kernel
theorem dL_law_553 : decode cL_law 553 = .ok (.iaload, 1) := by decide +kernel
theorem dL_law_554 : decode cL_law 554 = .ok (.invokevirtual 81, 3) := by decide +kernel
theorem dL_law_557 : decode cL_law 557 = .ok (.aload_n 2, 1) := by decide +kernel
theorem dL_law_558 : decode cL_law 558 = .ok (.aload_n 0, 1) := by decide +kernel
theorem dL_law_559 : decode cL_law 559 = .ok (.iload_n 3, 1) := by decide +kernel
theorem dL_law_560 : decode cL_law 560 = .ok (.iconst 1, 1) := by decide +kernel
theorem dL_law_561 : decode cL_law 561 = .ok (.iadd, 1) := by decide +kernel
theorem dL_law_562 : decode cL_law 562 = .ok (.iaload, 1) := by decide +kernel
theorem dL_law_563 : decode cL_law 563 = .ok (.invokevirtual 84, 3) := by decide +kernel
theorem dL_law_566 : decode cL_law 566 = .ok (.if_icmp .eq 148, 3) := by decide +kernel
theorem dL_law_569 : decode cL_law 569 = .ok (.iconst 0, 1) := by decide +kernel
theorem dL_law_570 : decode cL_law 570 = .ok (.ireturn, 1) := by decide +kernel
theorem dL_law_571 : decode cL_law 571 = .ok (.aload_n 1, 1) := by decide +kernel
theorem dL_law_572 : decode cL_law 572 = .ok (.aload_n 0, 1) := by decide +kernel
theorem dL_law_573 : decode cL_law 573 = .ok (.iload_n 3, 1) := by decide +kernel
theorem dL_law_574 : decode cL_law 574 = .ok (.iconst 1, 1) := by decide +kernel
theorem dL_law_575 : decode cL_law 575 = .ok (.iadd, 1) := by decide +kernel
theorem dL_law_576 : decode cL_law 576 = .ok (.iaload, 1) := by decide +kernel
theorem dL_law_577 : decode cL_law 577 = .ok (.aload_n 0, 1) := by decide +kernel
theorem dL_law_578 : decode cL_law 578 = .ok (.iload_n 3, 1) := by decide +kernel
theorem dL_law_579 : decode cL_law 579 = .ok (.iconst 2, 1) := by decide +kernel
theorem dL_law_580 : decode cL_law 580 = .ok (.iadd, 1) := by decide +kernel
theorem dL_law_581 : decode cL_law 581 = .ok (.iaload, 1) := by decide +kernel
theorem dL_law_582 : decode cL_law 582 = .ok (.invokevirtual 85, 3) := by decide +kernel
theorem dL_law_585 : decode cL_law 585 = .ok (.aload_n 2, 1) := by decide +kernel
theorem dL_law_586 : decode cL_law 586 = .ok (.aload_n 0, 1) := by decide +kernel
theorem dL_law_587 : decode cL_law 587 = .ok (.iload_n 3, 1) := by decide +kernel
theorem dL_law_588 : decode cL_law 588 = .ok (.iconst 1, 1) := by decide +kernel
theorem dL_law_589 : decode cL_law 589 = .ok (.iadd, 1) := by decide +kernel
theorem dL_law_590 : decode cL_law 590 = .ok (.iaload, 1) := by decide +kernel
theorem dL_law_591 : decode cL_law 591 = .ok (.aload_n 0, 1) := by decide +kernel
theorem dL_law_592 : decode cL_law 592 = .ok (.iload_n 3, 1) := by decide +kernel
theorem dL_law_593 : decode cL_law 593 = .ok (.iconst 2, 1) := by decide +kernel
theorem dL_law_594 : decode cL_law 594 = .ok (.iadd, 1) := by decide +kernel
theorem dL_law_595 : decode cL_law 595 = .ok (.iaload, 1) := by decide +kernel
theorem dL_law_596 : decode cL_law 596 = .ok (.invokevirtual 88, 3) := by decide +kernel
theorem dL_law_599 : decode cL_law 599 = .ok (.if_icmp .eq 115, 3) := by decide +kernel
theorem dL_law_602 : decode cL_law 602 = .ok (.iconst 0, 1) := by decide +kernel
theorem dL_law_603 : decode cL_law 603 = .ok (.ireturn, 1) := by decide +kernel
theorem dL_law_604 : decode cL_law 604 = .ok (.aload_n 1, 1) := by decide +kernel
theorem dL_law_605 : decode cL_law 605 = .ok (.aload_n 0, 1) := by decide +kernel
theorem dL_law_606 : decode cL_law 606 = .ok (.iload_n 3, 1) := by decide +kernel
theorem dL_law_607 : decode cL_law 607 = .ok (.iconst 1, 1) := by decide +kernel
theorem dL_law_608 : decode cL_law 608 = .ok (.iadd, 1) := by decide +kernel
theorem dL_law_609 : decode cL_law 609 = .ok (.iaload, 1) := by decide +kernel
theorem dL_law_610 : decode cL_law 610 = .ok (.aload_n 0, 1) := by decide +kernel
theorem dL_law_611 : decode cL_law 611 = .ok (.iload_n 3, 1) := by decide +kernel
theorem dL_law_612 : decode cL_law 612 = .ok (.iconst 2, 1) := by decide +kernel
theorem dL_law_613 : decode cL_law 613 = .ok (.iadd, 1) := by decide +kernel
theorem dL_law_614 : decode cL_law 614 = .ok (.iaload, 1) := by decide +kernel
theorem dL_law_615 : decode cL_law 615 = .ok (.aload_n 0, 1) := by decide +kernel
theorem dL_law_616 : decode cL_law 616 = .ok (.iload_n 3, 1) := by decide +kernel
theorem dL_law_617 : decode cL_law 617 = .ok (.iconst 3, 1) := by decide +kernel
theorem dL_law_618 : decode cL_law 618 = .ok (.iadd, 1) := by decide +kernel
theorem dL_law_619 : decode cL_law 619 = .ok (.iaload, 1) := by decide +kernel
theorem dL_law_620 : decode cL_law 620 = .ok (.invokevirtual 89, 3) := by decide +kernel
theorem dL_law_623 : decode cL_law 623 = .ok (.aload_n 2, 1) := by decide +kernel
theorem dL_law_624 : decode cL_law 624 = .ok (.aload_n 0, 1) := by decide +kernel
theorem dL_law_625 : decode cL_law 625 = .ok (.iload_n 3, 1) := by decide +kernel
theorem dL_law_626 : decode cL_law 626 = .ok (.iconst 1, 1) := by decide +kernel
theorem dL_law_627 : decode cL_law 627 = .ok (.iadd, 1) := by decide +kernel
theorem dL_law_628 : decode cL_law 628 = .ok (.iaload, 1) := by decide +kernel
theorem dL_law_629 : decode cL_law 629 = .ok (.aload_n 0, 1) := by decide +kernel
theorem dL_law_630 : decode cL_law 630 = .ok (.iload_n 3, 1) := by decide +kernel
theorem dL_law_631 : decode cL_law 631 = .ok (.iconst 2, 1) := by decide +kernel
theorem dL_law_632 : decode cL_law 632 = .ok (.iadd, 1) := by decide +kernel
theorem dL_law_633 : decode cL_law 633 = .ok (.iaload, 1) := by decide +kernel
theorem dL_law_634 : decode cL_law 634 = .ok (.aload_n 0, 1) := by decide +kernel
theorem dL_law_635 : decode cL_law 635 = .ok (.iload_n 3, 1) := by decide +kernel
theorem dL_law_636 : decode cL_law 636 = .ok (.iconst 3, 1) := by decide +kernel
theorem dL_law_637 : decode cL_law 637 = .ok (.iadd, 1) := by decide +kernel
theorem dL_law_638 : decode cL_law 638 = .ok (.iaload, 1) := by decide +kernel
theorem dL_law_639 : decode cL_law 639 = .ok (.invokevirtual 93, 3) := by decide +kernel
theorem dL_law_642 : decode cL_law 642 = .ok (.lcmp, 1) := by decide +kernel
theorem dL_law_643 : decode cL_law 643 = .ok (.ifCond .eq 71, 3) := by decide +kernel
theorem dL_law_646 : decode cL_law 646 = .ok (.iconst 0, 1) := by decide +kernel
theorem dL_law_647 : decode cL_law 647 = .ok (.ireturn, 1) := by decide +kernel
theorem dL_law_648 : decode cL_law 648 = .ok (.aload_n 1, 1) := by decide +kernel
theorem dL_law_649 : decode cL_law 649 = .ok (.invokevirtual 94, 3) := by decide +kernel
theorem dL_law_652 : decode cL_law 652 = .ok (.aload_n 2, 1) := by decide +kernel
theorem dL_law_653 : decode cL_law 653 = .ok (.invokevirtual 97, 3) := by decide +kernel
theorem dL_law_656 : decode cL_law 656 = .ok (.if_icmp .eq 58, 3) := by decide +kernel
theorem dL_law_659 : decode cL_law 659 = .ok (.iconst 0, 1) := by decide +kernel
theorem dL_law_660 : decode cL_law 660 = .ok (.ireturn, 1) := by decide +kernel
theorem dL_law_661 : decode cL_law 661 = .ok (.aload_n 1, 1) := by decide +kernel
theorem dL_law_662 : decode cL_law 662 = .ok (.invokevirtual 98, 3) := by decide +kernel
theorem dL_law_665 : decode cL_law 665 = .ok (.aload_n 2, 1) := by decide +kernel
theorem dL_law_666 : decode cL_law 666 = .ok (.invokevirtual 101, 3) := by decide +kernel
theorem dL_law_669 : decode cL_law 669 = .ok (.if_icmp .eq 45, 3) := by decide +kernel
theorem dL_law_672 : decode cL_law 672 = .ok (.iconst 0, 1) := by decide +kernel
theorem dL_law_673 : decode cL_law 673 = .ok (.ireturn, 1) := by decide +kernel
theorem dL_law_674 : decode cL_law 674 = .ok (.aload_n 1, 1) := by decide +kernel
theorem dL_law_675 : decode cL_law 675 = .ok (.invokevirtual 102, 3) := by decide +kernel
theorem dL_law_678 : decode cL_law 678 = .ok (.aload_n 2, 1) := by decide +kernel
theorem dL_law_679 : decode cL_law 679 = .ok (.invokevirtual 105, 3) := by decide +kernel
theorem dL_law_682 : decode cL_law 682 = .ok (.if_icmp .eq 32, 3) := by decide +kernel
theorem dL_law_685 : decode cL_law 685 = .ok (.iconst 0, 1) := by decide +kernel
theorem dL_law_686 : decode cL_law 686 = .ok (.ireturn, 1) := by decide +kernel
theorem dL_law_687 : decode cL_law 687 = .ok (.aload_n 1, 1) := by decide +kernel
theorem dL_law_688 : decode cL_law 688 = .ok (.invokevirtual 106, 3) := by decide +kernel
theorem dL_law_691 : decode cL_law 691 = .ok (.aload_n 2, 1) := by decide +kernel
theorem dL_law_692 : decode cL_law 692 = .ok (.invokevirtual 109, 3) := by decide +kernel
theorem dL_law_695 : decode cL_law 695 = .ok (.if_icmp .eq 19, 3) := by decide +kernel
theorem dL_law_698 : decode cL_law 698 = .ok (.iconst 0, 1) := by decide +kernel
theorem dL_law_699 : decode cL_law 699 = .ok (.ireturn, 1) := by decide +kernel
theorem dL_law_700 : decode cL_law 700 = .ok (.aload_n 1, 1) := by decide +kernel
theorem dL_law_701 : decode cL_law 701 = .ok (.invokevirtual 110, 3) := by decide +kernel
theorem dL_law_704 : decode cL_law 704 = .ok (.aload_n 2, 1) := by decide +kernel
theorem dL_law_705 : decode cL_law 705 = .ok (.invokevirtual 114, 3) := by decide +kernel
theorem dL_law_708 : decode cL_law 708 = .ok (.lcmp, 1) := by decide +kernel
theorem dL_law_709 : decode cL_law 709 = .ok (.ifCond .eq 5, 3) := by decide +kernel
theorem dL_law_712 : decode cL_law 712 = .ok (.iconst 0, 1) := by decide +kernel
theorem dL_law_713 : decode cL_law 713 = .ok (.ireturn, 1) := by decide +kernel
theorem dL_law_714 : decode cL_law 714 = .ok (.iinc 3 4, 3) := by decide +kernel
theorem dL_law_717 : decode cL_law 717 = .ok (.goto (-699), 3) := by decide +kernel
theorem dL_law_720 : decode cL_law 720 = .ok (.iconst 1, 1) := by decide +kernel
theorem dL_law_721 : decode cL_law 721 = .ok (.ireturn, 1) := by decide +kernel
