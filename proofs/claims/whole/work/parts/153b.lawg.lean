set_option maxRecDepth 20000 in
theorem gL_law_X6_swaps : GoodIn wsL_law (wsV RL 63 RX6 yX6_swaps wsX6_swaps) := goodIn_app (goodIn_of _ (by decide +kernel)) ggL_law_X6_swaps
set_option maxRecDepth 20000 in
theorem ggL_law_X5_bars : GoodIn wsL_law wsX5_bars := goodIn_r _ [489, 20, 333, 334, 2, 335, 384, 385, 386, 19, 387, 49, 404, 146, 147, 490, 491, 492, 493, 51, 54, 56, 1003, 1004, 1005, 1006, 1007, 1008, 1009, 1010, 1011, 1012, 1045, 1046, 1047, 1048, 1049, 1050, 1051, 1052, 1053] (by decide +kernel) (by decide +kernel)
set_option maxRecDepth 20000 in
theorem gL_law_X5_bars : GoodIn wsL_law (wsV RL 64 RX5 yX5_bars wsX5_bars) := goodIn_app (goodIn_of _ (by decide +kernel)) ggL_law_X5_bars
set_option maxRecDepth 20000 in
theorem ggL_law_X6_bars : GoodIn wsL_law wsX6_bars := goodIn_r _ [497, 111, 89, 219, 86, 88, 349, 350, 5, 351, 348, 125, 126, 127, 425, 426, 427, 428, 83, 276, 277, 278, 1013, 1014, 1015, 1016, 1017, 1018, 1019, 1020, 1021, 1022, 1023, 1024, 1025, 1026, 1027, 1028, 1029, 1030, 1031, 1032, 1033, 1034, 1035, 1036, 1037, 1038, 1039, 1040, 1041] (by decide +kernel) (by decide +kernel)
set_option maxRecDepth 20000 in
theorem gL_law_X6_bars : GoodIn wsL_law (wsV RL 68 RX6 yX6_bars wsX6_bars) := goodIn_app (goodIn_of _ (by decide +kernel)) ggL_law_X6_bars
set_option maxRecDepth 20000 in
theorem ggL_law_X5_rooms : GoodIn wsL_law wsX5_rooms := goodIn_r _ [501, 20, 502, 503, 504, 19, 505, 51, 56, 420, 320, 321, 322, 323, 324, 325, 1003, 1004, 1005, 1006, 1007, 1008, 1009, 1010, 1011, 1012, 1045, 1046, 1047, 1048, 1049, 1050, 1051, 1052, 1053] (by decide +kernel) (by decide +kernel)
set_option maxRecDepth 20000 in
theorem gL_law_X5_rooms : GoodIn wsL_law (wsV RL 69 RX5 yX5_rooms wsX5_rooms) := goodIn_app (goodIn_of _ (by decide +kernel)) ggL_law_X5_rooms
set_option maxRecDepth 20000 in
theorem ggL_law_X6_rooms : GoodIn wsL_law wsX6_rooms := goodIn_r _ [509, 111, 348, 83, 84, 125, 126, 5, 127, 510, 511, 512, 513, 219, 88, 316, 317, 318, 319, 320, 321, 322, 323, 324, 325, 1013, 1014, 1015, 1016, 1017, 1018, 1019, 1020, 1021, 1022, 1023, 1024, 1025, 1026, 1027, 1028, 1029, 1030, 1031, 1032, 1033, 1034, 1035, 1036, 1037, 1038, 1039, 1040, 1041] (by decide +kernel) (by decide +kernel)
set_option maxRecDepth 20000 in
theorem gL_law_X6_rooms : GoodIn wsL_law (wsV RL 72 RX6 yX6_rooms wsX6_rooms) := goodIn_app (goodIn_of _ (by decide +kernel)) ggL_law_X6_rooms
set_option maxRecDepth 20000 in
theorem ggL_law_X5_chooses : GoodIn wsL_law wsX5_chooses := goodIn_r _ [517, 25, 518, 519, 520, 24, 521, 62, 330, 331, 2, 332, 404, 146, 147, 420, 320, 321, 322, 323, 324, 325, 1003, 1004, 1005, 1006, 1007, 1008, 1009, 1010, 1011, 1012, 1054, 1055, 1056] (by decide +kernel) (by decide +kernel)
set_option maxRecDepth 20000 in
theorem gL_law_X5_chooses : GoodIn wsL_law (wsV RL 73 RX5 yX5_chooses wsX5_chooses) := goodIn_app (goodIn_of _ (by decide +kernel)) ggL_law_X5_chooses
set_option maxRecDepth 20000 in
theorem ggL_law_X6_chooses : GoodIn wsL_law wsX6_chooses := goodIn_r _ [525, 111, 90, 526, 527, 528, 529, 5, 530, 221, 125, 126, 127, 345, 346, 347, 348, 276, 277, 278, 316, 317, 318, 319, 320, 321, 322, 323, 324, 325, 1013, 1014, 1015, 1016, 1017, 1018, 1019, 1020, 1021, 1022, 1023, 1024, 1025, 1026, 1027, 1028, 1029, 1030, 1031, 1032, 1033, 1034, 1035, 1036, 1037, 1038, 1039, 1040, 1041] (by decide +kernel) (by decide +kernel)
set_option maxRecDepth 20000 in
theorem gL_law_X6_chooses : GoodIn wsL_law (wsV RL 76 RX6 yX6_chooses wsX6_chooses) := goodIn_app (goodIn_of _ (by decide +kernel)) ggL_law_X6_chooses
set_option maxRecDepth 20000 in
theorem ggL_law_X5_keeps : GoodIn wsL_law wsX5_keeps := goodIn_r _ [534, 25, 518, 519, 520, 24, 521, 62, 404, 146, 2, 147, 420, 320, 321, 322, 323, 324, 325, 1003, 1004, 1005, 1006, 1007, 1008, 1009, 1010, 1011, 1012, 1054, 1055, 1056] (by decide +kernel) (by decide +kernel)
set_option maxRecDepth 20000 in
theorem gL_law_X5_keeps : GoodIn wsL_law (wsV RL 77 RX5 yX5_keeps wsX5_keeps) := goodIn_app (goodIn_of _ (by decide +kernel)) ggL_law_X5_keeps
set_option maxRecDepth 20000 in
theorem ggL_law_X6_keeps : GoodIn wsL_law wsX6_keeps := goodIn_r _ [538, 111, 222, 527, 528, 529, 5, 530, 221, 125, 126, 127, 276, 277, 278, 316, 317, 318, 319, 320, 321, 322, 323, 324, 325, 1013, 1014, 1015, 1016, 1017, 1018, 1019, 1020, 1021, 1022, 1023, 1024, 1025, 1026, 1027, 1028, 1029, 1030, 1031, 1032, 1033, 1034, 1035, 1036, 1037, 1038, 1039, 1040, 1041] (by decide +kernel) (by decide +kernel)
set_option maxRecDepth 20000 in
theorem gL_law_X6_keeps : GoodIn wsL_law (wsV RL 81 RX6 yX6_keeps wsX6_keeps) := goodIn_app (goodIn_of _ (by decide +kernel)) ggL_law_X6_keeps
set_option maxRecDepth 20000 in
theorem ggL_law_X5_section : GoodIn wsL_law wsX5_section := goodIn_r _ [542, 20, 356, 357, 358, 19, 359, 51, 1003, 1004, 1005, 1006, 1007, 1008, 1009, 1010, 1011, 1012, 1045, 1046, 1047, 1048, 1049, 1050, 1051, 1052, 1053] (by decide +kernel) (by decide +kernel)
set_option maxRecDepth 20000 in
theorem gL_law_X5_section : GoodIn wsL_law (wsV RL 82 RX5 yX5_section wsX5_section) := goodIn_app (goodIn_of _ (by decide +kernel)) ggL_law_X5_section
set_option maxRecDepth 20000 in
theorem ggL_law_X6_section : GoodIn wsL_law wsX6_section := goodIn_r _ [546, 111, 85, 86, 87, 88, 368, 369, 370, 5, 371, 219, 125, 126, 127, 1013, 1014, 1015, 1016, 1017, 1018, 1019, 1020, 1021, 1022, 1023, 1024, 1025, 1026, 1027, 1028, 1029, 1030, 1031, 1032, 1033, 1034, 1035, 1036, 1037, 1038, 1039, 1040, 1041] (by decide +kernel) (by decide +kernel)
set_option maxRecDepth 20000 in
theorem gL_law_X6_section : GoodIn wsL_law (wsV RL 85 RX6 yX6_section wsX6_section) := goodIn_app (goodIn_of _ (by decide +kernel)) ggL_law_X6_section
set_option maxRecDepth 20000 in
theorem ggL_law_X5_column : GoodIn wsL_law wsX5_column := goodIn_r _ [550, 20, 384, 385, 386, 19, 387, 49, 502, 503, 504, 505, 51, 56, 420, 320, 321, 322, 323, 324, 325, 551, 552, 553, 554, 57, 146, 2, 147, 555, 556, 557, 558, 37, 38, 1003, 1004, 1005, 1006, 1007, 1008, 1009, 1010, 1011, 1012, 1045, 1046, 1047, 1048, 1049, 1050, 1051, 1052, 1053] (by decide +kernel) (by decide +kernel)
set_option maxRecDepth 20000 in
theorem gL_law_X5_column : GoodIn wsL_law (wsV RL 86 RX5 yX5_column wsX5_column) := goodIn_app (goodIn_of _ (by decide +kernel)) ggL_law_X5_column
set_option maxRecDepth 20000 in
theorem ggL_law_X6_column : GoodIn wsL_law wsX6_column := goodIn_r _ [562, 111, 219, 85, 425, 426, 427, 5, 428, 83, 125, 126, 127, 510, 511, 512, 513, 88, 276, 277, 278, 316, 317, 318, 319, 320, 321, 322, 323, 324, 325, 563, 564, 565, 566, 567, 568, 569, 570, 571, 572, 573, 574, 575, 82, 1013, 1014, 1015, 1016, 1017, 1018, 1019, 1020, 1021, 1022, 1023, 1024, 1025, 1026, 1027, 1028, 1029, 1030, 1031, 1032, 1033, 1034, 1035, 1036, 1037, 1038, 1039, 1040, 1041] (by decide +kernel) (by decide +kernel)
set_option maxRecDepth 20000 in
theorem gL_law_X6_column : GoodIn wsL_law (wsV RL 89 RX6 yX6_column wsX6_column) := goodIn_app (goodIn_of _ (by decide +kernel)) ggL_law_X6_column
set_option maxRecDepth 20000 in
theorem ggL_law_X5_subject : GoodIn wsL_law wsX5_subject := goodIn_r _ [579, 20, 25, 330, 331, 2, 332, 580, 581, 582, 24, 583, 62, 61, 420, 320, 321, 322, 323, 324, 325, 584, 585, 586, 587, 37, 38, 555, 556, 557, 558, 1003, 1004, 1005, 1006, 1007, 1008, 1009, 1010, 1011, 1012, 1045, 1046, 1047, 1048, 1049, 1050, 1051, 1052, 1053, 1054, 1055, 1056] (by decide +kernel) (by decide +kernel)
set_option maxRecDepth 20000 in
theorem gL_law_X5_subject : GoodIn wsL_law (wsV RL 90 RX5 yX5_subject wsX5_subject) := goodIn_app (goodIn_of _ (by decide +kernel)) ggL_law_X5_subject
set_option maxRecDepth 20000 in
theorem ggL_law_X6_subject : GoodIn wsL_law wsX6_subject := goodIn_r _ [591, 111, 219, 85, 87, 345, 346, 5, 347, 348, 125, 126, 127, 592, 593, 594, 595, 596, 597, 598, 221, 90, 276, 277, 278, 316, 317, 318, 319, 320, 321, 322, 323, 324, 325, 563, 564, 565, 566, 567, 568, 569, 570, 571, 572, 573, 574, 575, 82, 599, 600, 601, 602, 88, 1013, 1014, 1015, 1016, 1017, 1018, 1019, 1020, 1021, 1022, 1023, 1024, 1025, 1026, 1027, 1028, 1029, 1030, 1031, 1032, 1033, 1034, 1035, 1036, 1037, 1038, 1039, 1040, 1041] (by decide +kernel) (by decide +kernel)
set_option maxRecDepth 20000 in
theorem gL_law_X6_subject : GoodIn wsL_law (wsV RL 93 RX6 yX6_subject wsX6_subject) := goodIn_app (goodIn_of _ (by decide +kernel)) ggL_law_X6_subject
set_option maxRecDepth 20000 in
theorem ggL_law_X5_pupil : GoodIn wsL_law wsX5_pupil := goodIn_r _ [606, 25, 20, 518, 519, 520, 24, 521, 62, 405, 406, 407, 19, 408, 57, 409, 410, 29, 411, 412, 146, 2, 147, 413, 414, 415, 416, 417, 418, 419, 404, 555, 556, 557, 558, 37, 38, 1003, 1004, 1005, 1006, 1007, 1008, 1009, 1010, 1011, 1012, 1054, 1055, 1056, 1045, 1046, 1047, 1048, 1049, 1050, 1051, 1052, 1053] (by decide +kernel) (by decide +kernel)
set_option maxRecDepth 20000 in
theorem gL_law_X5_pupil : GoodIn wsL_law (wsV RL 94 RX5 yX5_pupil wsX5_pupil) := goodIn_app (goodIn_of _ (by decide +kernel)) ggL_law_X5_pupil
set_option maxRecDepth 20000 in
theorem ggL_law_X6_pupil : GoodIn wsL_law wsX6_pupil := goodIn_r _ [610, 111, 222, 90, 527, 528, 529, 5, 530, 221, 125, 126, 127, 611, 612, 613, 614, 433, 434, 435, 436, 94, 219, 85, 88, 437, 438, 439, 440, 441, 442, 321, 443, 444, 592, 593, 594, 276, 277, 278, 563, 564, 565, 566, 567, 568, 569, 570, 571, 572, 573, 574, 575, 82, 1013, 1014, 1015, 1016, 1017, 1018, 1019, 1020, 1021, 1022, 1023, 1024, 1025, 1026, 1027, 1028, 1029, 1030, 1031, 1032, 1033, 1034, 1035, 1036, 1037, 1038, 1039, 1040, 1041] (by decide +kernel) (by decide +kernel)
set_option maxRecDepth 20000 in
theorem gL_law_X6_pupil : GoodIn wsL_law (wsV RL 97 RX6 yX6_pupil wsX6_pupil) := goodIn_app (goodIn_of _ (by decide +kernel)) ggL_law_X6_pupil
set_option maxRecDepth 20000 in
theorem ggL_law_X5_legal : GoodIn wsL_law wsX5_legal := goodIn_r _ [618, 20, 356, 357, 358, 19, 359, 51, 619, 180, 181, 182, 49, 183, 184, 185, 186, 56, 54, 52, 50, 146, 2, 147, 420, 320, 321, 322, 323, 324, 325, 620, 621, 622, 623, 37, 38, 1003, 1004, 1005, 1006, 1007, 1008, 1009, 1010, 1011, 1012, 1045, 1046, 1047, 1048, 1049, 1050, 1051, 1052, 1053] (by decide +kernel) (by decide +kernel)
set_option maxRecDepth 20000 in
theorem gL_law_X5_legal : GoodIn wsL_law (wsV RL 98 RX5 yX5_legal wsX5_legal) := goodIn_app (goodIn_of _ (by decide +kernel)) ggL_law_X5_legal
set_option maxRecDepth 20000 in
theorem ggL_law_X6_legal : GoodIn wsL_law wsX6_legal := goodIn_r _ [627, 111, 368, 369, 370, 5, 371, 219, 125, 126, 127, 628, 629, 630, 631, 83, 268, 269, 270, 271, 272, 273, 274, 275, 88, 86, 89, 84, 276, 277, 278, 316, 317, 318, 319, 320, 321, 322, 323, 324, 325, 567, 568, 569, 570, 571, 572, 573, 574, 575, 82, 1013, 1014, 1015, 1016, 1017, 1018, 1019, 1020, 1021, 1022, 1023, 1024, 1025, 1026, 1027, 1028, 1029, 1030, 1031, 1032, 1033, 1034, 1035, 1036, 1037, 1038, 1039, 1040, 1041] (by decide +kernel) (by decide +kernel)
set_option maxRecDepth 20000 in
theorem gL_law_X6_legal : GoodIn wsL_law (wsV RL 101 RX6 yX6_legal wsX6_legal) := goodIn_app (goodIn_of _ (by decide +kernel)) ggL_law_X6_legal
set_option maxRecDepth 20000 in
theorem ggL_law_X5_why : GoodIn wsL_law wsX5_why := goodIn_r _ [635, 20, 356, 357, 358, 19, 359, 51, 384, 385, 386, 387, 49, 636, 184, 185, 186, 56, 54, 52, 50, 146, 2, 147, 1003, 1004, 1005, 1006, 1007, 1008, 1009, 1010, 1011, 1012, 1045, 1046, 1047, 1048, 1049, 1050, 1051, 1052, 1053] (by decide +kernel) (by decide +kernel)
set_option maxRecDepth 20000 in
theorem gL_law_X5_why : GoodIn wsL_law (wsV RL 102 RX5 yX5_why wsX5_why) := goodIn_app (goodIn_of _ (by decide +kernel)) ggL_law_X5_why
set_option maxRecDepth 20000 in
theorem ggL_law_X6_why : GoodIn wsL_law wsX6_why := goodIn_r _ [640, 111, 368, 369, 370, 5, 371, 219, 125, 126, 127, 425, 426, 427, 428, 83, 272, 273, 274, 275, 88, 86, 89, 84, 276, 277, 278, 1013, 1014, 1015, 1016, 1017, 1018, 1019, 1020, 1021, 1022, 1023, 1024, 1025, 1026, 1027, 1028, 1029, 1030, 1031, 1032, 1033, 1034, 1035, 1036, 1037, 1038, 1039, 1040, 1041] (by decide +kernel) (by decide +kernel)
set_option maxRecDepth 20000 in
theorem gL_law_X6_why : GoodIn wsL_law (wsV RL 105 RX6 yX6_why wsX6_why) := goodIn_app (goodIn_of _ (by decide +kernel)) ggL_law_X6_why
set_option maxRecDepth 20000 in
theorem ggL_law_X5_fits : GoodIn wsL_law wsX5_fits := goodIn_r _ [644, 396, 397, 398, 2, 399, 400, 401, 402, 403, 25, 20, 404, 146, 147, 405, 406, 407, 19, 408, 57, 409, 410, 29, 411, 412, 413, 414, 415, 416, 417, 418, 419, 620, 621, 622, 623, 37, 38, 420, 320, 321, 322, 323, 324, 325, 1003, 1004, 1005, 1006, 1007, 1008, 1009, 1010, 1011, 1012, 1054, 1055, 1056, 1045, 1046, 1047, 1048, 1049, 1050, 1051, 1052, 1053] (by decide +kernel) (by decide +kernel)
