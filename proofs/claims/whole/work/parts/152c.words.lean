set_option maxRecDepth 20000 in
theorem wsL_law0_r35_in : ∀ w ∈ wsL_law0_r35, w ∈ lw_tbl := fun w h => (goodIn_p wsL_law0_r35 [664, 668, 672, 677, 681, 1230] (by decide +kernel) (by decide +kernel) w h).1
set_option maxRecDepth 20000 in
theorem wsL_law0_r36_in : ∀ w ∈ wsL_law0_r36, w ∈ lw_tbl := fun w h => (goodIn_p wsL_law0_r36 [1234, 685, 1238, 689, 1242, 693] (by decide +kernel) (by decide +kernel) w h).1
set_option maxRecDepth 20000 in
theorem wsL_law0_r37_in : ∀ w ∈ wsL_law0_r37, w ∈ lw_tbl := fun w h => (goodIn_p wsL_law0_r37 [697, 1246, 1250, 1254, 701, 705] (by decide +kernel) (by decide +kernel) w h).1
set_option maxRecDepth 20000 in
theorem wsL_law0_r38_in : ∀ w ∈ wsL_law0_r38, w ∈ lw_tbl := fun w h => (goodIn_p wsL_law0_r38 [709, 714, 719, 723, 1258, 1262] (by decide +kernel) (by decide +kernel) w h).1
set_option maxRecDepth 20000 in
theorem wsL_law0_r39_in : ∀ w ∈ wsL_law0_r39, w ∈ lw_tbl := fun w h => (goodIn_p wsL_law0_r39 [742, 1266, 1270, 727, 1275, 731] (by decide +kernel) (by decide +kernel) w h).1
set_option maxRecDepth 20000 in
theorem wsL_law0_r40_in : ∀ w ∈ wsL_law0_r40, w ∈ lw_tbl := fun w h => (goodIn_p wsL_law0_r40 [735, 1279, 1283, 739, 1287, 746] (by decide +kernel) (by decide +kernel) w h).1
set_option maxRecDepth 20000 in
theorem wsL_law0_r41_in : ∀ w ∈ wsL_law0_r41, w ∈ lw_tbl := fun w h => (goodIn_p wsL_law0_r41 [750, 755, 1291, 1295, 1299, 1303] (by decide +kernel) (by decide +kernel) w h).1
set_option maxRecDepth 20000 in
theorem wsL_law0_r42_in : ∀ w ∈ wsL_law0_r42, w ∈ lw_tbl := fun w h => (goodIn_p wsL_law0_r42 [763, 1307, 922] (by decide +kernel) (by decide +kernel) w h).1
set_option maxRecDepth 20000 in
theorem wsX50_in : ∀ w ∈ wsX50, w ∈ lw_tbl := fun w h => (goodIn_p wsX50 [] (by decide +kernel) (by decide +kernel) w h).1
set_option maxRecDepth 20000 in
theorem wsX60_in : ∀ w ∈ wsX60, w ∈ lw_tbl := fun w h => (goodIn_p wsX60 [] (by decide +kernel) (by decide +kernel) w h).1
set_option maxRecDepth 20000 in
theorem wsX30_in : ∀ w ∈ wsX30, w ∈ lw_tbl := fun w h => (goodIn_p wsX30 [] (by decide +kernel) (by decide +kernel) w h).1
set_option maxRecDepth 20000 in
theorem wsX00_in : ∀ w ∈ wsX00, w ∈ lw_tbl := fun w h => (goodIn_p wsX00 [] (by decide +kernel) (by decide +kernel) w h).1
set_option maxRecDepth 20000 in
theorem wsX10_in : ∀ w ∈ wsX10, w ∈ lw_tbl := fun w h => (goodIn_p wsX10 [] (by decide +kernel) (by decide +kernel) w h).1
set_option maxRecDepth 20000 in
theorem wsX40_in : ∀ w ∈ wsX40, w ∈ lw_tbl := fun w h => (goodIn_p wsX40 [] (by decide +kernel) (by decide +kernel) w h).1
set_option maxRecDepth 20000 in
theorem wsX20_in : ∀ w ∈ wsX20, w ∈ lw_tbl := fun w h => (goodIn_p wsX20 [] (by decide +kernel) (by decide +kernel) w h).1
