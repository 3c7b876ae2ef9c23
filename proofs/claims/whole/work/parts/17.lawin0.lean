set_option maxRecDepth 20000 in
theorem g_wsL_law_r1 : ∀ w ∈ wsL_law_r1, w ∈ lw_tbl := fun w h => (goodIn_p wsL_law_r1 [48, 51] (by decide +kernel) (by decide +kernel) w h).1
set_option maxRecDepth 20000 in
theorem g_wsL_law_r2 : ∀ w ∈ wsL_law_r2, w ∈ lw_tbl := fun w h => (goodIn_p wsL_law_r2 [60, 66] (by decide +kernel) (by decide +kernel) w h).1
set_option maxRecDepth 20000 in
theorem g_wsL_law_r3 : ∀ w ∈ wsL_law_r3, w ∈ lw_tbl := fun w h => (goodIn_p wsL_law_r3 [72, 114] (by decide +kernel) (by decide +kernel) w h).1
set_option maxRecDepth 20000 in
theorem g_wsL_law_r4 : ∀ w ∈ wsL_law_r4, w ∈ lw_tbl := fun w h => (goodIn_p wsL_law_r4 [527, 185] (by decide +kernel) (by decide +kernel) w h).1
