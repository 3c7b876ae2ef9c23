set_option maxRecDepth 20000 in
theorem gL_law_X7_init : GoodIn wsL_law (wsX7_init) := ggL_law_X7_init
set_option maxRecDepth 20000 in
theorem ggL_law_X6_print : GoodIn wsL_law wsX6_print := goodIn_r _ [93, 26, 28, 13, 12, 94, 95, 96, 97, 98, 2, 99, 100, 101, 102, 10, 11, 36, 103, 104, 105, 106, 107, 108, 109, 110, 111, 538, 539, 540, 541, 542, 543, 544, 545, 590, 591, 592, 593, 594, 595, 596, 597, 598] (by decide +kernel) (by decide +kernel)
set_option maxRecDepth 20000 in
theorem gL_law_X6_print : GoodIn wsL_law (wsV RL 13 RX6 yX6_print wsX6_print) := goodIn_app (goodIn_of _ (by decide +kernel)) ggL_law_X6_print
