set_option maxRecDepth 20000 in
theorem gL_law_X6_best : GoodIn wsL_law (wsV RL 47 RX6 yX6_best wsX6_best) := goodIn_app (goodIn_of _ (by decide +kernel)) ggL_law_X6_best
set_option maxRecDepth 20000 in
theorem ggL_law_X7_best_c : GoodIn wsL_law [Cond.code yX7_best cX7_best 4 (some .int)] := goodIn_r _ [435] (by decide +kernel) (by decide +kernel)
set_option maxRecDepth 20000 in
theorem ggL_law_X7_best_r1 : GoodIn wsL_law wsX7_best_r1 := goodIn_r _ [116, 298, 436, 437, 438, 439, 151, 152, 153, 5, 154, 117, 148, 149, 150, 282, 283, 284, 285, 81, 78, 80, 82, 83] (by decide +kernel) (by decide +kernel)
set_option maxRecDepth 20000 in
theorem ggL_law_X7_best_r2 : GoodIn wsL_law wsX7_best_r2 := goodIn_r _ [84, 234, 235, 236, 237, 75, 238, 239, 240, 241, 79, 242, 243, 244, 245, 246, 247, 248, 249, 250, 251, 144, 145, 146] (by decide +kernel) (by decide +kernel)
set_option maxRecDepth 20000 in
theorem ggL_law_X7_best_r3 : GoodIn wsL_law wsX7_best_r3 := goodIn_r _ [147, 252, 253, 254, 255, 440, 441, 442, 443, 365, 366, 367, 368, 76, 85, 369, 370, 371, 372, 86, 373, 374, 375, 376] (by decide +kernel) (by decide +kernel)
set_option maxRecDepth 20000 in
theorem ggL_law_X7_best_r4 : GoodIn wsL_law wsX7_best_r4 := goodIn_r _ [87, 88, 377, 378, 379, 380] (by decide +kernel) (by decide +kernel)
set_option maxRecDepth 20000 in
theorem ggL_law_X7_best_X7 : GoodIn wsL_law wsX70 := goodIn_r _ [546, 547, 548, 549, 550, 551, 552, 553, 554, 555, 556, 557, 558, 559, 560, 561, 562, 563, 564, 565, 566] (by decide +kernel) (by decide +kernel)
theorem ggL_law_X7_best : GoodIn wsL_law wsX7_best := gi_cons ggL_law_X7_best_c (goodIn_app (goodIn_app ggL_law_X7_best_r1 (goodIn_app ggL_law_X7_best_r2 (goodIn_app ggL_law_X7_best_r3 ggL_law_X7_best_r4))) ggL_law_X7_best_X7)
set_option maxRecDepth 20000 in
theorem gL_law_X7_best : GoodIn wsL_law (wsV RL 50 RX7 yX7_best wsX7_best) := goodIn_app (goodIn_of _ (by decide +kernel)) ggL_law_X7_best
