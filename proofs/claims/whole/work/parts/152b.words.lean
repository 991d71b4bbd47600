set_option maxRecDepth 20000 in
theorem wsL_law0_r18_in : ∀ w ∈ wsL_law0_r18, w ∈ lw_tbl := fun w h => (goodIn_p wsL_law0_r18 [443, 446, 451, 456, 1038, 1042] (by decide +kernel) (by decide +kernel) w h).1
set_option maxRecDepth 20000 in
theorem wsL_law0_r19_in : ∀ w ∈ wsL_law0_r19, w ∈ lw_tbl := fun w h => (goodIn_p wsL_law0_r19 [1046, 1050, 1054, 1057, 466, 1062] (by decide +kernel) (by decide +kernel) w h).1
set_option maxRecDepth 20000 in
theorem wsL_law0_r20_in : ∀ w ∈ wsL_law0_r20, w ∈ lw_tbl := fun w h => (goodIn_p wsL_law0_r20 [470, 474, 478, 482, 1066, 1070] (by decide +kernel) (by decide +kernel) w h).1
set_option maxRecDepth 20000 in
theorem wsL_law0_r21_in : ∀ w ∈ wsL_law0_r21, w ∈ lw_tbl := fun w h => (goodIn_p wsL_law0_r21 [1074, 1078, 487, 491, 1082, 495] (by decide +kernel) (by decide +kernel) w h).1
set_option maxRecDepth 20000 in
theorem wsL_law0_r22_in : ∀ w ∈ wsL_law0_r22, w ∈ lw_tbl := fun w h => (goodIn_p wsL_law0_r22 [499, 1086, 1090, 503, 507, 1094] (by decide +kernel) (by decide +kernel) w h).1
set_option maxRecDepth 20000 in
theorem wsL_law0_r23_in : ∀ w ∈ wsL_law0_r23, w ∈ lw_tbl := fun w h => (goodIn_p wsL_law0_r23 [1098, 511, 1103, 515, 1107, 519] (by decide +kernel) (by decide +kernel) w h).1
set_option maxRecDepth 20000 in
theorem wsL_law0_r24_in : ∀ w ∈ wsL_law0_r24, w ∈ lw_tbl := fun w h => (goodIn_p wsL_law0_r24 [523, 527, 1111, 1115, 1119, 1123] (by decide +kernel) (by decide +kernel) w h).1
set_option maxRecDepth 20000 in
theorem wsL_law0_r25_in : ∀ w ∈ wsL_law0_r25, w ∈ lw_tbl := fun w h => (goodIn_p wsL_law0_r25 [531, 535, 539, 1127, 1130, 1134] (by decide +kernel) (by decide +kernel) w h).1
set_option maxRecDepth 20000 in
theorem wsL_law0_r26_in : ∀ w ∈ wsL_law0_r26, w ∈ lw_tbl := fun w h => (goodIn_p wsL_law0_r26 [1138, 543, 1142, 1146, 547, 552] (by decide +kernel) (by decide +kernel) w h).1
set_option maxRecDepth 20000 in
theorem wsL_law0_r27_in : ∀ w ∈ wsL_law0_r27, w ∈ lw_tbl := fun w h => (goodIn_p wsL_law0_r27 [1150, 1154, 556, 1158, 561] (by decide +kernel) (by decide +kernel) w h).1
set_option maxRecDepth 20000 in
theorem wsL_law0_r28_in : ∀ w ∈ wsL_law0_r28, w ∈ lw_tbl := fun w h => (goodIn_p wsL_law0_r28 [1162, 565, 569, 573, 577, 582] (by decide +kernel) (by decide +kernel) w h).1
set_option maxRecDepth 20000 in
theorem wsL_law0_r29_in : ∀ w ∈ wsL_law0_r29, w ∈ lw_tbl := fun w h => (goodIn_p wsL_law0_r29 [586, 1166, 1170, 1174, 591, 595] (by decide +kernel) (by decide +kernel) w h).1
set_option maxRecDepth 20000 in
theorem wsL_law0_r30_in : ∀ w ∈ wsL_law0_r30, w ∈ lw_tbl := fun w h => (goodIn_p wsL_law0_r30 [599, 1178, 1182, 605, 1186] (by decide +kernel) (by decide +kernel) w h).1
set_option maxRecDepth 20000 in
theorem wsL_law0_r31_in : ∀ w ∈ wsL_law0_r31, w ∈ lw_tbl := fun w h => (goodIn_p wsL_law0_r31 [609, 1190, 613, 617, 620, 1194, 624] (by decide +kernel) (by decide +kernel) w h).1
set_option maxRecDepth 20000 in
theorem wsL_law0_r32_in : ∀ w ∈ wsL_law0_r32, w ∈ lw_tbl := fun w h => (goodIn_p wsL_law0_r32 [628, 1198, 1202, 632, 636, 640] (by decide +kernel) (by decide +kernel) w h).1
set_option maxRecDepth 20000 in
theorem wsL_law0_r33_in : ∀ w ∈ wsL_law0_r33, w ∈ lw_tbl := fun w h => (goodIn_p wsL_law0_r33 [1206, 1210, 1214, 644, 1218] (by decide +kernel) (by decide +kernel) w h).1
set_option maxRecDepth 20000 in
theorem wsL_law0_r34_in : ∀ w ∈ wsL_law0_r34, w ∈ lw_tbl := fun w h => (goodIn_p wsL_law0_r34 [648, 652, 656, 1222, 660, 1226] (by decide +kernel) (by decide +kernel) w h).1
