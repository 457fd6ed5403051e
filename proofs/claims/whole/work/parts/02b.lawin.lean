theorem zL_app {a b c : List Cond} (ha : ∀ w ∈ a, w ∈ c) (hb : ∀ w ∈ b, w ∈ c) : ∀ w ∈ a ++ b, w ∈ c := fun w h => (List.mem_append.mp h).elim (ha w) (hb w)
set_option maxRecDepth 20000 in
theorem wsL_in_r1 : ∀ w ∈ wsL_law_r1, w ∈ lw_tbl := fun w h => (goodIn_r (big := lw_tbl) wsL_law_r1 [55, 56, 48, 411, 412, 51, 57, 58, 59, 60, 61, 62, 63, 64, 49, 118, 119, 120, 121, 98, 122, 99, 100, 50] (by decide +kernel) (by decide +kernel) w h).1
set_option maxRecDepth 20000 in
theorem wsL_in_r2 : ∀ w ∈ wsL_law_r2, w ∈ lw_tbl := fun w h => (goodIn_r (big := lw_tbl) wsL_law_r2 [123, 124, 66, 67, 68, 69, 71, 73, 75, 77, 79, 81, 102, 103, 104, 105, 107, 109, 413, 414, 415, 416, 417, 418] (by decide +kernel) (by decide +kernel) w h).1
set_option maxRecDepth 20000 in
theorem wsL_in_r3 : ∀ w ∈ wsL_law_r3, w ∈ lw_tbl := fun w h => (goodIn_r (big := lw_tbl) wsL_law_r3 [439, 419, 420, 421, 422, 140, 141, 142, 143, 144, 145, 146, 147, 440, 441, 442, 443, 444, 445, 446, 148, 149, 150, 151] (by decide +kernel) (by decide +kernel) w h).1
set_option maxRecDepth 20000 in
theorem wsL_in_r4 : ∀ w ∈ wsL_law_r4, w ∈ lw_tbl := fun w h => (goodIn_r (big := lw_tbl) wsL_law_r4 [447, 448, 449, 450, 152, 153, 154, 155, 164, 165, 156, 158, 0, 159, 160, 162, 1, 163, 166, 168, 2, 169, 170, 171] (by decide +kernel) (by decide +kernel) w h).1
set_option maxRecDepth 20000 in
theorem wsL_in_r5 : ∀ w ∈ wsL_law_r5, w ∈ lw_tbl := fun w h => (goodIn_r (big := lw_tbl) wsL_law_r5 [173, 3, 174, 175, 176, 177, 451, 452, 453, 454, 463, 464, 455, 457, 26, 458, 459, 461, 27, 462, 465, 467, 28, 468] (by decide +kernel) (by decide +kernel) w h).1
set_option maxRecDepth 20000 in
theorem wsL_in_r6 : ∀ w ∈ wsL_law_r6, w ∈ lw_tbl := fun w h => (goodIn_r (big := lw_tbl) wsL_law_r6 [469, 470, 472, 29, 473, 474, 475, 476, 178, 179, 180, 181, 182, 184, 4, 185, 186, 188, 5, 189, 477, 478, 479, 480] (by decide +kernel) (by decide +kernel) w h).1
set_option maxRecDepth 20000 in
theorem wsL_in_r7 : ∀ w ∈ wsL_law_r7, w ∈ lw_tbl := fun w h => (goodIn_r (big := lw_tbl) wsL_law_r7 [481, 483, 30, 484, 485, 487, 31, 488, 190, 191, 192, 193, 194, 196, 6, 197, 198, 200, 7, 201, 202, 203, 52, 204] (by decide +kernel) (by decide +kernel) w h).1
set_option maxRecDepth 20000 in
theorem wsL_in_r8 : ∀ w ∈ wsL_law_r8, w ∈ lw_tbl := fun w h => (goodIn_r (big := lw_tbl) wsL_law_r8 [205, 206, 207, 489, 490, 491, 492, 493, 495, 32, 496, 497, 499, 33, 500, 501, 502, 503, 208, 209, 210, 211, 504, 505] (by decide +kernel) (by decide +kernel) w h).1
set_option maxRecDepth 20000 in
theorem wsL_in_r9 : ∀ w ∈ wsL_law_r9, w ∈ lw_tbl := fun w h => (goodIn_r (big := lw_tbl) wsL_law_r9 [506, 507, 212, 213, 214, 215, 216, 217, 218, 219, 508, 509, 510, 511, 512, 514, 34, 515, 516, 517, 518, 221, 222, 223] (by decide +kernel) (by decide +kernel) w h).1
set_option maxRecDepth 20000 in
theorem wsL_in_r10 : ∀ w ∈ wsL_law_r10, w ∈ lw_tbl := fun w h => (goodIn_r (big := lw_tbl) wsL_law_r10 [224, 225, 227, 8, 228, 229, 230, 231, 519, 520, 521, 522, 523, 525, 35, 526, 232, 233, 234, 235, 236, 238, 9, 239] (by decide +kernel) (by decide +kernel) w h).1
set_option maxRecDepth 20000 in
theorem wsL_in_r11 : ∀ w ∈ wsL_law_r11, w ∈ lw_tbl := fun w h => (goodIn_r (big := lw_tbl) wsL_law_r11 [240, 241, 53, 242, 243, 245, 10, 246, 247, 249, 11, 250, 251, 253, 12, 254, 255, 256, 257, 258, 259, 260, 527, 528] (by decide +kernel) (by decide +kernel) w h).1
set_option maxRecDepth 20000 in
theorem wsL_in_r12 : ∀ w ∈ wsL_law_r12, w ∈ lw_tbl := fun w h => (goodIn_r (big := lw_tbl) wsL_law_r12 [529, 530, 261, 262, 263, 264, 265, 266, 531, 532, 533, 534, 535, 536, 267, 268, 269, 270, 537, 538, 539, 540, 271, 272] (by decide +kernel) (by decide +kernel) w h).1
set_option maxRecDepth 20000 in
theorem wsL_in_r13 : ∀ w ∈ wsL_law_r13, w ∈ lw_tbl := fun w h => (goodIn_r (big := lw_tbl) wsL_law_r13 [273, 274, 541, 542, 543, 544, 275, 276, 277, 278, 279, 281, 13, 282, 283, 285, 14, 286, 287, 289, 288, 54, 290, 292] (by decide +kernel) (by decide +kernel) w h).1
set_option maxRecDepth 20000 in
theorem wsL_in_r14 : ∀ w ∈ wsL_law_r14, w ∈ lw_tbl := fun w h => (goodIn_r (big := lw_tbl) wsL_law_r14 [15, 293, 294, 295, 296, 297, 298, 299, 300, 302, 16, 303, 545, 546, 547, 548, 549, 551, 36, 552, 553, 555, 37, 556] (by decide +kernel) (by decide +kernel) w h).1
set_option maxRecDepth 20000 in
theorem wsL_in_r15 : ∀ w ∈ wsL_law_r15, w ∈ lw_tbl := fun w h => (goodIn_r (big := lw_tbl) wsL_law_r15 [557, 558, 559, 560, 561, 562, 304, 305, 306, 307, 308, 310, 17, 311, 312, 313, 314, 315, 317, 18, 318, 319, 320, 321] (by decide +kernel) (by decide +kernel) w h).1
set_option maxRecDepth 20000 in
theorem wsL_in_r16 : ∀ w ∈ wsL_law_r16, w ∈ lw_tbl := fun w h => (goodIn_r (big := lw_tbl) wsL_law_r16 [322, 323, 563, 564, 565, 566, 567, 569, 38, 570, 571, 573, 39, 574, 575, 577, 40, 578, 579, 581, 41, 582, 324, 325] (by decide +kernel) (by decide +kernel) w h).1
set_option maxRecDepth 20000 in
theorem wsL_in_r17 : ∀ w ∈ wsL_law_r17, w ∈ lw_tbl := fun w h => (goodIn_r (big := lw_tbl) wsL_law_r17 [326, 327, 583, 584, 585, 586, 328, 329, 330, 331, 332, 334, 19, 335, 336, 337, 338, 339, 340, 341, 342, 343, 344, 346] (by decide +kernel) (by decide +kernel) w h).1
set_option maxRecDepth 20000 in
theorem wsL_in_r18 : ∀ w ∈ wsL_law_r18, w ∈ lw_tbl := fun w h => (goodIn_r (big := lw_tbl) wsL_law_r18 [20, 347, 348, 350, 21, 351, 352, 353, 354, 355, 356, 357, 358, 359, 360, 361, 587, 588, 589, 590, 423, 591, 593, 42] (by decide +kernel) (by decide +kernel) w h).1
set_option maxRecDepth 20000 in
theorem wsL_in_r19 : ∀ w ∈ wsL_law_r19, w ∈ lw_tbl := fun w h => (goodIn_r (big := lw_tbl) wsL_law_r19 [594, 595, 597, 43, 598, 599, 601, 44, 602, 603, 605, 45, 606, 362, 363, 364, 365, 366, 368, 22, 369, 607, 608, 609] (by decide +kernel) (by decide +kernel) w h).1
set_option maxRecDepth 20000 in
theorem wsL_in_r20 : ∀ w ∈ wsL_law_r20, w ∈ lw_tbl := fun w h => (goodIn_r (big := lw_tbl) wsL_law_r20 [610, 370, 371, 372, 373, 611, 612, 613, 614, 374, 375, 376, 377, 615, 616, 617, 618, 619, 621, 46, 622, 378, 379, 380] (by decide +kernel) (by decide +kernel) w h).1
set_option maxRecDepth 20000 in
theorem wsL_in_r21 : ∀ w ∈ wsL_law_r21, w ∈ lw_tbl := fun w h => (goodIn_r (big := lw_tbl) wsL_law_r21 [381, 382, 384, 23, 385, 623, 624, 625, 626, 386, 387, 388, 389, 390, 392, 24, 393, 394, 395, 396, 397, 398, 627, 628] (by decide +kernel) (by decide +kernel) w h).1
set_option maxRecDepth 20000 in
theorem wsL_in_r22 : ∀ w ∈ wsL_law_r22, w ∈ lw_tbl := fun w h => (goodIn_r (big := lw_tbl) wsL_law_r22 [629, 630, 399, 400, 401, 402, 631, 632, 633, 634, 403, 404, 405, 406, 407, 409, 25, 410, 635, 636, 637, 638] (by decide +kernel) (by decide +kernel) w h).1
set_option maxRecDepth 20000 in
theorem wsL_in_wsX20 : ∀ w ∈ wsX20, w ∈ lw_tbl := fun w h => (goodIn_r (big := lw_tbl) wsX20 [125, 127, 129, 131, 133, 135, 137] (by decide +kernel) (by decide +kernel) w h).1
set_option maxRecDepth 20000 in
theorem wsL_in_wsX30 : ∀ w ∈ wsX30, w ∈ lw_tbl := fun w h => (goodIn_r (big := lw_tbl) wsX30 [424, 426, 428, 430, 432, 434, 436] (by decide +kernel) (by decide +kernel) w h).1
set_option maxRecDepth 20000 in
theorem wsL_in_wsX00 : ∀ w ∈ wsX00, w ∈ lw_tbl := fun w h => (goodIn_r (big := lw_tbl) wsX00 [83, 85, 87, 89, 91, 93, 95] (by decide +kernel) (by decide +kernel) w h).1
set_option maxRecDepth 20000 in
theorem wsL_in_wsX10 : ∀ w ∈ wsX10, w ∈ lw_tbl := fun w h => (goodIn_r (big := lw_tbl) wsX10 [111, 113, 115] (by decide +kernel) (by decide +kernel) w h).1
theorem wsL_law_in : ∀ w ∈ wsL_law, w ∈ lw_tbl := zL_app (zL_app (zL_app (zL_app (zL_app (zL_app (wsL_in_r1) (zL_app (wsL_in_r2) (zL_app (wsL_in_r3) (zL_app (wsL_in_r4) (zL_app (wsL_in_r5) (zL_app (wsL_in_r6) (zL_app (wsL_in_r7) (zL_app (wsL_in_r8) (zL_app (wsL_in_r9) (zL_app (wsL_in_r10) (zL_app (wsL_in_r11) (zL_app (wsL_in_r12) (zL_app (wsL_in_r13) (zL_app (wsL_in_r14) (zL_app (wsL_in_r15) (zL_app (wsL_in_r16) (zL_app (wsL_in_r17) (zL_app (wsL_in_r18) (zL_app (wsL_in_r19) (zL_app (wsL_in_r20) (zL_app (wsL_in_r21) (wsL_in_r22)))))))))))))))))))))) (wsL_in_wsX20)) (wsL_in_wsX30)) (wsL_in_wsX00)) (wsL_in_wsX10)) (fun _ h => absurd h List.not_mem_nil)
