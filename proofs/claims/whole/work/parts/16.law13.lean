set_option maxRecDepth 20000 in
theorem gL_law_X7_bound : GoodIn wsL_law (wsV RL 54 RX7 yX7_bound wsX7_bound) := goodIn_app (goodIn_of _ (by decide +kernel)) ggL_law_X7_bound
set_option maxRecDepth 20000 in
theorem ggL_law_X6_seek_c : GoodIn wsL_law [Cond.code yX6_seek cX6_seek 11 (some .int)] := goodIn_r _ [460] (by decide +kernel) (by decide +kernel)
set_option maxRecDepth 20000 in
theorem ggL_law_X6_seek_r1 : GoodIn wsL_law wsX6_seek_r1 := goodIn_r _ [26, 385, 161, 162, 163, 2, 164, 165, 19, 131, 132, 133, 134, 13, 166, 167, 168, 18, 169, 170, 171, 172, 173, 174] (by decide +kernel) (by decide +kernel)
set_option maxRecDepth 20000 in
theorem ggL_law_X6_seek_r2 : GoodIn wsL_law wsX6_seek_r2 := goodIn_r _ [175, 176, 177, 178, 179, 180, 35, 37, 181, 182, 183, 34, 184, 48, 41, 45, 46, 47, 185, 186, 187, 188, 189, 190] (by decide +kernel) (by decide +kernel)
set_option maxRecDepth 20000 in
theorem ggL_law_X6_seek_r3 : GoodIn wsL_law wsX6_seek_r3 := goodIn_r _ [44, 191, 52, 53, 54, 192, 193, 194, 195, 196, 197, 198, 199, 200, 201, 202, 203, 204, 205, 206, 207, 208, 209, 210] (by decide +kernel) (by decide +kernel)
set_option maxRecDepth 20000 in
theorem ggL_law_X6_seek_r4 : GoodIn wsL_law wsX6_seek_r4 := goodIn_r _ [211, 95, 212, 108, 109, 213, 214, 215, 216, 217, 218, 219, 220, 221, 222, 223, 224, 225, 226, 227, 228, 229, 105, 106] (by decide +kernel) (by decide +kernel)
set_option maxRecDepth 20000 in
theorem ggL_law_X6_seek_r5 : GoodIn wsL_law wsX6_seek_r5 := goodIn_r _ [107, 461, 462, 463, 464, 268, 465, 466, 467, 468, 448, 422, 423, 424, 425, 312, 313, 314, 426, 274, 275, 276, 469, 445] (by decide +kernel) (by decide +kernel)
set_option maxRecDepth 20000 in
theorem ggL_law_X6_seek_r6 : GoodIn wsL_law wsX6_seek_r6 := goodIn_r _ [446, 447, 470, 471, 472, 389, 390, 391, 392, 15, 14, 393, 394, 27, 23, 395, 396, 397, 398, 10, 11, 399, 400, 401] (by decide +kernel) (by decide +kernel)
set_option maxRecDepth 20000 in
theorem ggL_law_X6_seek_r7 : GoodIn wsL_law wsX6_seek_r7 := goodIn_r _ [402, 403, 404, 405, 406, 407, 408, 409, 410, 411, 412, 413, 414, 415, 416, 417, 418, 419, 420, 307, 308, 22, 309, 310] (by decide +kernel) (by decide +kernel)
set_option maxRecDepth 20000 in
theorem ggL_law_X6_seek_r8 : GoodIn wsL_law wsX6_seek_r8 := goodIn_r _ [311, 69, 61, 62, 63, 315, 316, 317, 318, 319, 320, 321, 58, 59, 60, 322, 323, 324, 325, 326, 327, 328, 329, 330] (by decide +kernel) (by decide +kernel)
set_option maxRecDepth 20000 in
theorem ggL_law_X6_seek_r9 : GoodIn wsL_law wsX6_seek_r9 := goodIn_r _ [331, 421, 427, 428, 429, 430, 431, 333, 334, 335, 70, 65, 64, 336, 337, 338, 339, 340, 341, 342, 343, 344, 345, 346] (by decide +kernel) (by decide +kernel)
set_option maxRecDepth 20000 in
theorem ggL_law_X6_seek_r10 : GoodIn wsL_law wsX6_seek_r10 := goodIn_r _ [347, 348, 349, 350, 68, 351, 67, 66, 352, 353, 354, 355, 356, 357, 358] (by decide +kernel) (by decide +kernel)
set_option maxRecDepth 20000 in
theorem ggL_law_X6_seek_X6 : GoodIn wsL_law wsX60 := goodIn_r _ [538, 539, 540, 541, 542, 543, 544, 545] (by decide +kernel) (by decide +kernel)
set_option maxRecDepth 20000 in
theorem ggL_law_X6_seek_X1 : GoodIn wsL_law wsX10 := goodIn_r _ [599, 600, 601, 602, 603, 604, 605, 606, 607] (by decide +kernel) (by decide +kernel)
set_option maxRecDepth 20000 in
theorem ggL_law_X6_seek_X0 : GoodIn wsL_law wsX00 := goodIn_r _ [590, 591, 592, 593, 594, 595, 596, 597, 598] (by decide +kernel) (by decide +kernel)
set_option maxRecDepth 20000 in
theorem ggL_law_X6_seek_X5 : GoodIn wsL_law wsX50 := goodIn_r _ [567, 568] (by decide +kernel) (by decide +kernel)
set_option maxRecDepth 20000 in
theorem ggL_law_X6_seek_X3 : GoodIn wsL_law wsX30 := goodIn_r _ [582, 583, 584, 585, 586] (by decide +kernel) (by decide +kernel)
set_option maxRecDepth 20000 in
theorem ggL_law_X6_seek_X4 : GoodIn wsL_law wsX40 := goodIn_r _ [587, 588, 589] (by decide +kernel) (by decide +kernel)
set_option maxRecDepth 20000 in
theorem ggL_law_X6_seek_X2 : GoodIn wsL_law wsX20 := goodIn_r _ [569, 570, 571, 572, 573, 574, 575, 576, 577, 578, 579, 580, 581] (by decide +kernel) (by decide +kernel)
theorem ggL_law_X6_seek : GoodIn wsL_law wsX6_seek := gi_cons ggL_law_X6_seek_c (goodIn_app (goodIn_app (goodIn_app (goodIn_app (goodIn_app (goodIn_app (goodIn_app (goodIn_app ggL_law_X6_seek_r1 (goodIn_app ggL_law_X6_seek_r2 (goodIn_app ggL_law_X6_seek_r3 (goodIn_app ggL_law_X6_seek_r4 (goodIn_app ggL_law_X6_seek_r5 (goodIn_app ggL_law_X6_seek_r6 (goodIn_app ggL_law_X6_seek_r7 (goodIn_app ggL_law_X6_seek_r8 (goodIn_app ggL_law_X6_seek_r9 ggL_law_X6_seek_r10))))))))) ggL_law_X6_seek_X6) ggL_law_X6_seek_X1) ggL_law_X6_seek_X0) ggL_law_X6_seek_X5) ggL_law_X6_seek_X3) ggL_law_X6_seek_X4) ggL_law_X6_seek_X2)
set_option maxRecDepth 20000 in
theorem gL_law_X6_seek : GoodIn wsL_law (wsV RL 55 RX6 yX6_seek wsX6_seek) := goodIn_app (goodIn_of _ (by decide +kernel)) ggL_law_X6_seek
