set_option maxRecDepth 20000 in
theorem ggL_law_X7_thin : GoodIn wsL_law wsX7_thin := goodIn_r _ [263, 116, 78, 151, 152, 153, 5, 154, 117, 148, 149, 150, 144, 145, 146, 147, 234, 235, 236, 237, 75, 238, 239, 240, 241, 80, 79, 242, 243, 244, 245, 246, 247, 248, 249, 250, 251, 252, 253, 254, 255, 546, 547, 548, 549, 550, 551, 552, 553, 554, 555, 556, 557, 558, 559, 560, 561, 562, 563, 564, 565, 566] (by decide +kernel) (by decide +kernel)
set_option maxRecDepth 20000 in
theorem gL_law_X7_thin : GoodIn wsL_law (wsV RL 32 RX7 yX7_thin wsX7_thin) := goodIn_app (goodIn_of _ (by decide +kernel)) ggL_law_X7_thin
set_option maxRecDepth 20000 in
theorem ggL_law_X6_mark_c : GoodIn wsL_law [Cond.code yX6_mark cX6_mark 5 (some .int)] := goodIn_r _ [267] (by decide +kernel) (by decide +kernel)
set_option maxRecDepth 20000 in
theorem ggL_law_X6_mark_r1 : GoodIn wsL_law wsX6_mark_r1 := goodIn_r _ [268, 269, 270, 271, 272, 161, 162, 163, 2, 164, 165, 19, 131, 132, 133, 134, 26, 13, 166, 167, 168, 18, 169, 170] (by decide +kernel) (by decide +kernel)
set_option maxRecDepth 20000 in
theorem ggL_law_X6_mark_r2 : GoodIn wsL_law wsX6_mark_r2 := goodIn_r _ [171, 172, 173, 174, 175, 176, 177, 178, 179, 180, 35, 37, 181, 182, 183, 34, 184, 48, 41, 45, 46, 47, 185, 186] (by decide +kernel) (by decide +kernel)
set_option maxRecDepth 20000 in
theorem ggL_law_X6_mark_r3 : GoodIn wsL_law wsX6_mark_r3 := goodIn_r _ [187, 188, 189, 190, 44, 191, 52, 53, 54, 192, 193, 194, 195, 196, 197, 198, 199, 200, 201, 202, 203, 204, 205, 206] (by decide +kernel) (by decide +kernel)
set_option maxRecDepth 20000 in
theorem ggL_law_X6_mark_r4 : GoodIn wsL_law wsX6_mark_r4 := goodIn_r _ [207, 208, 209, 210, 211, 95, 212, 108, 109, 213, 214, 215, 216, 217, 218, 219, 220, 221, 222, 223, 224, 225, 226, 227] (by decide +kernel) (by decide +kernel)
set_option maxRecDepth 20000 in
theorem ggL_law_X6_mark_r5 : GoodIn wsL_law wsX6_mark_r5 := goodIn_r _ [228, 229, 105, 106, 107, 273, 274, 275, 276] (by decide +kernel) (by decide +kernel)
set_option maxRecDepth 20000 in
theorem ggL_law_X6_mark_X0 : GoodIn wsL_law wsX00 := goodIn_r _ [590, 591, 592, 593, 594, 595, 596, 597, 598] (by decide +kernel) (by decide +kernel)
set_option maxRecDepth 20000 in
theorem ggL_law_X6_mark_X6 : GoodIn wsL_law wsX60 := goodIn_r _ [538, 539, 540, 541, 542, 543, 544, 545] (by decide +kernel) (by decide +kernel)
set_option maxRecDepth 20000 in
theorem ggL_law_X6_mark_X5 : GoodIn wsL_law wsX50 := goodIn_r _ [567, 568] (by decide +kernel) (by decide +kernel)
set_option maxRecDepth 20000 in
theorem ggL_law_X6_mark_X3 : GoodIn wsL_law wsX30 := goodIn_r _ [582, 583, 584, 585, 586] (by decide +kernel) (by decide +kernel)
set_option maxRecDepth 20000 in
theorem ggL_law_X6_mark_X4 : GoodIn wsL_law wsX40 := goodIn_r _ [587, 588, 589] (by decide +kernel) (by decide +kernel)
theorem ggL_law_X6_mark : GoodIn wsL_law wsX6_mark := gi_cons ggL_law_X6_mark_c (goodIn_app (goodIn_app (goodIn_app (goodIn_app (goodIn_app (goodIn_app ggL_law_X6_mark_r1 (goodIn_app ggL_law_X6_mark_r2 (goodIn_app ggL_law_X6_mark_r3 (goodIn_app ggL_law_X6_mark_r4 ggL_law_X6_mark_r5)))) ggL_law_X6_mark_X0) ggL_law_X6_mark_X6) ggL_law_X6_mark_X5) ggL_law_X6_mark_X3) ggL_law_X6_mark_X4)
