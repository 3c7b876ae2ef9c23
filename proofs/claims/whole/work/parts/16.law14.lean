set_option maxRecDepth 20000 in
theorem ggL_law_X7_seek_c : GoodIn wsL_law [Cond.code yX7_seek cX7_seek 9 (some .int)] := goodIn_r _ [476] (by decide +kernel) (by decide +kernel)
set_option maxRecDepth 20000 in
theorem ggL_law_X7_seek_r1 : GoodIn wsL_law wsX7_seek_r1 := goodIn_r _ [116, 281, 117, 89, 81, 436, 151, 152, 153, 5, 154, 148, 149, 150, 282, 283, 284, 285, 78, 80, 82, 83, 84, 234] (by decide +kernel) (by decide +kernel)
set_option maxRecDepth 20000 in
theorem ggL_law_X7_seek_r2 : GoodIn wsL_law wsX7_seek_r2 := goodIn_r _ [235, 236, 237, 75, 238, 239, 240, 241, 79, 242, 243, 244, 245, 246, 247, 248, 249, 250, 251, 144, 145, 146, 147, 252] (by decide +kernel) (by decide +kernel)
set_option maxRecDepth 20000 in
theorem ggL_law_X7_seek_r3 : GoodIn wsL_law wsX7_seek_r3 := goodIn_r _ [253, 254, 255, 453, 454, 455, 456, 286, 287, 288, 289, 440, 441, 442, 443, 437, 438, 439, 365, 366, 367, 368, 76, 85] (by decide +kernel) (by decide +kernel)
set_option maxRecDepth 20000 in
theorem ggL_law_X7_seek_r4 : GoodIn wsL_law wsX7_seek_r4 := goodIn_r _ [369, 370, 371, 372, 86, 373, 374, 375, 376, 87, 88, 377, 378, 379, 380] (by decide +kernel) (by decide +kernel)
set_option maxRecDepth 20000 in
theorem ggL_law_X7_seek_X7 : GoodIn wsL_law wsX70 := goodIn_r _ [546, 547, 548, 549, 550, 551, 552, 553, 554, 555, 556, 557, 558, 559, 560, 561, 562, 563, 564, 565, 566] (by decide +kernel) (by decide +kernel)
theorem ggL_law_X7_seek : GoodIn wsL_law wsX7_seek := gi_cons ggL_law_X7_seek_c (goodIn_app (goodIn_app ggL_law_X7_seek_r1 (goodIn_app ggL_law_X7_seek_r2 (goodIn_app ggL_law_X7_seek_r3 ggL_law_X7_seek_r4))) ggL_law_X7_seek_X7)
set_option maxRecDepth 20000 in
theorem gL_law_X7_seek : GoodIn wsL_law (wsV RL 58 RX7 yX7_seek wsX7_seek) := goodIn_app (goodIn_of _ (by decide +kernel)) ggL_law_X7_seek
set_option maxRecDepth 20000 in
theorem ggL_law_X6_chance : GoodIn wsL_law wsX6_chance := goodIn_r _ [480, 481, 25, 482, 483, 484, 2, 485, 538, 539, 540, 541, 542, 543, 544, 545] (by decide +kernel) (by decide +kernel)
