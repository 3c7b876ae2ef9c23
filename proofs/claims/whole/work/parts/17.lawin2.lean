set_option maxRecDepth 20000 in
theorem g_wsL_law_r9 : ∀ w ∈ wsL_law_r9, w ∈ lw_tbl := fun w h => (goodIn_p wsL_law_r9 [290, 294, 298, 302, 306] (by decide +kernel) (by decide +kernel) w h).1
set_option maxRecDepth 20000 in
theorem g_wsL_law_r10 : ∀ w ∈ wsL_law_r10, w ∈ lw_tbl := fun w h => (goodIn_p wsL_law_r10 [310, 314, 318, 322, 621, 625] (by decide +kernel) (by decide +kernel) w h).1
set_option maxRecDepth 20000 in
theorem g_wsL_law_r11 : ∀ w ∈ wsL_law_r11, w ∈ lw_tbl := fun w h => (goodIn_p wsL_law_r11 [629, 633, 636, 639, 643, 326, 647] (by decide +kernel) (by decide +kernel) w h).1
set_option maxRecDepth 20000 in
theorem g_wsL_law_r12 : ∀ w ∈ wsL_law_r12, w ∈ lw_tbl := fun w h => (goodIn_p wsL_law_r12 [330, 334, 651, 656] (by decide +kernel) (by decide +kernel) w h).1
