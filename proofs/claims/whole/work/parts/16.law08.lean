set_option maxRecDepth 20000 in
theorem ggL_law_X6_within : GoodIn wsL_law wsX6_within := goodIn_r _ [293, 28, 27, 96, 97, 98, 2, 99, 538, 539, 540, 541, 542, 543, 544, 545] (by decide +kernel) (by decide +kernel)
set_option maxRecDepth 20000 in
theorem gL_law_X6_within : GoodIn wsL_law (wsV RL 37 RX6 yX6_within wsX6_within) := goodIn_app (goodIn_of _ (by decide +kernel)) ggL_law_X6_within
set_option maxRecDepth 20000 in
theorem ggL_law_X7_within : GoodIn wsL_law wsX7_within := goodIn_r _ [297, 116, 298, 76, 148, 149, 5, 150, 118, 119, 120, 121, 122, 546, 547, 548, 549, 550, 551, 552, 553, 554, 555, 556, 557, 558, 559, 560, 561, 562, 563, 564, 565, 566] (by decide +kernel) (by decide +kernel)
