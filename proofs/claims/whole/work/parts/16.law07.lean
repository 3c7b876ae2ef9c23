set_option maxRecDepth 20000 in
theorem gL_law_X6_mark : GoodIn wsL_law (wsV RL 33 RX6 yX6_mark wsX6_mark) := goodIn_app (goodIn_of _ (by decide +kernel)) ggL_law_X6_mark
set_option maxRecDepth 20000 in
theorem ggL_law_X7_mark : GoodIn wsL_law wsX7_mark := goodIn_r _ [280, 116, 281, 81, 82, 83, 84, 151, 152, 153, 5, 154, 117, 148, 149, 150, 282, 283, 284, 285, 78, 80, 234, 235, 236, 237, 75, 238, 239, 240, 241, 79, 242, 243, 244, 245, 246, 247, 248, 249, 250, 251, 144, 145, 146, 147, 252, 253, 254, 255, 286, 287, 288, 289, 546, 547, 548, 549, 550, 551, 552, 553, 554, 555, 556, 557, 558, 559, 560, 561, 562, 563, 564, 565, 566] (by decide +kernel) (by decide +kernel)
set_option maxRecDepth 20000 in
theorem gL_law_X7_mark : GoodIn wsL_law (wsV RL 36 RX7 yX7_mark wsX7_mark) := goodIn_app (goodIn_of _ (by decide +kernel)) ggL_law_X7_mark
