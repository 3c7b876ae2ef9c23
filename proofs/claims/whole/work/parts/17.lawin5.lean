set_option maxRecDepth 20000 in
theorem g_wsL_law_r21 : ∀ w ∈ wsL_law_r21, w ∈ lw_tbl := fun w h => (goodIn_p wsL_law_r21 [485, 490, 711, 494, 498] (by decide +kernel) (by decide +kernel) w h).1
set_option maxRecDepth 20000 in
theorem g_wsL_law_r22 : ∀ w ∈ wsL_law_r22, w ∈ lw_tbl := fun w h => (goodIn_p wsL_law_r22 [502, 718, 508, 512, 515] (by decide +kernel) (by decide +kernel) w h).1
set_option maxRecDepth 20000 in
theorem g_wsL_law_r23 : ∀ w ∈ wsL_law_r23, w ∈ lw_tbl := fun w h => (goodIn_p wsL_law_r23 [722, 522, 726] (by decide +kernel) (by decide +kernel) w h).1
