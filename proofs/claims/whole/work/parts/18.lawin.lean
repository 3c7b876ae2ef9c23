theorem la_app {a b c : List Cond} (h1 : ∀ w ∈ a, w ∈ c) (h2 : ∀ w ∈ b, w ∈ c) : ∀ w ∈ a ++ b, w ∈ c := fun w h => (List.mem_append.mp h).elim (h1 w) (h2 w)
set_option maxRecDepth 20000 in
theorem g_tailX6 : ∀ w ∈ wsX60, w ∈ lw_tbl := by decide +kernel
theorem g_tailX7 : ∀ w ∈ wsX70, w ∈ lw_tbl := by decide +kernel
theorem g_tailX5 : ∀ w ∈ wsX50, w ∈ lw_tbl := by decide +kernel
theorem g_tailX2 : ∀ w ∈ wsX20, w ∈ lw_tbl := by decide +kernel
theorem g_tailX3 : ∀ w ∈ wsX30, w ∈ lw_tbl := by decide +kernel
theorem g_tailX4 : ∀ w ∈ wsX40, w ∈ lw_tbl := by decide +kernel
theorem g_tailX0 : ∀ w ∈ wsX00, w ∈ lw_tbl := by decide +kernel
theorem g_tailX1 : ∀ w ∈ wsX10, w ∈ lw_tbl := by decide +kernel
theorem wsL_law_in : ∀ w ∈ wsL_law, w ∈ lw_tbl := (la_app (la_app (la_app (la_app (la_app (la_app (la_app (la_app (la_app (la_app g_wsL_law_r1 (la_app g_wsL_law_r2 (la_app g_wsL_law_r3 (la_app g_wsL_law_r4 (la_app g_wsL_law_r5 (la_app g_wsL_law_r6 (la_app g_wsL_law_r7 (la_app g_wsL_law_r8 (la_app g_wsL_law_r9 (la_app g_wsL_law_r10 (la_app g_wsL_law_r11 (la_app g_wsL_law_r12 (la_app g_wsL_law_r13 (la_app g_wsL_law_r14 (la_app g_wsL_law_r15 (la_app g_wsL_law_r16 (la_app g_wsL_law_r17 (la_app g_wsL_law_r18 (la_app g_wsL_law_r19 (la_app g_wsL_law_r20 (la_app g_wsL_law_r21 (la_app g_wsL_law_r22 g_wsL_law_r23)))))))))))))))))))))) g_tailX6) g_tailX7) g_tailX5) g_tailX2) g_tailX3) g_tailX4) g_tailX0) g_tailX1) (fun _ h => absurd h List.not_mem_nil))
