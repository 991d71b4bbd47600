set_option maxRecDepth 20000 in
theorem ggL_law_X5_init : GoodIn wsL_law wsX5_init := goodIn_r _ [9, 10, 11, 12, 13, 14, 15, 16, 17, 18, 19, 20, 21, 22, 23, 24, 25, 26, 27, 28, 29, 30, 31, 32, 33, 34, 35, 36, 6, 37, 38, 39, 40, 41, 42, 43, 44, 45, 46, 47, 48, 49, 50, 51, 52, 53, 54, 55, 56, 57, 58, 59, 60, 61, 62, 63, 64, 65, 66, 67, 68, 69, 70, 71, 72, 73, 74, 75, 76, 77, 1042, 1043, 1044, 1003, 1004, 1005, 1006, 1007, 1008, 1009, 1010, 1011, 1012, 1045, 1046, 1047, 1048, 1049, 1050, 1051, 1052, 1053, 1054, 1055, 1056, 1057, 1058, 1059, 1060, 1061, 1062, 1063] (by decide +kernel) (by decide +kernel)
set_option maxRecDepth 20000 in
theorem gL_law_X5_init : GoodIn wsL_law (wsX5_init) := ggL_law_X5_init
set_option maxRecDepth 20000 in
theorem ggL_law_X6_init : GoodIn wsL_law wsX6_init := goodIn_r _ [80, 81, 11, 12, 35, 82, 83, 84, 85, 86, 87, 88, 89, 90, 91, 92, 93, 94, 95, 96, 97, 98, 1013, 1014, 1015, 1016, 1017, 1018, 1019, 1020, 1021, 1022, 1023, 1024, 1025, 1026, 1027, 1028, 1029, 1030, 1031, 1032, 1033, 1034, 1035, 1036, 1037, 1038, 1039, 1040, 1041] (by decide +kernel) (by decide +kernel)
set_option maxRecDepth 20000 in
theorem gL_law_X6_init : GoodIn wsL_law (wsX6_init) := ggL_law_X6_init
set_option maxRecDepth 20000 in
theorem ggL_law_X5_sign : GoodIn wsL_law wsX5_sign := goodIn_r _ [102, 16, 103, 104, 105, 15, 106, 44, 43, 1003, 1004, 1005, 1006, 1007, 1008, 1009, 1010, 1011, 1012, 1042, 1043, 1044] (by decide +kernel) (by decide +kernel)
set_option maxRecDepth 20000 in
theorem gL_law_X5_sign : GoodIn wsL_law (wsV RL 19 RX5 yX5_sign wsX5_sign) := goodIn_app (goodIn_of _ (by decide +kernel)) ggL_law_X5_sign
set_option maxRecDepth 20000 in
theorem ggL_law_X6_sign : GoodIn wsL_law wsX6_sign := goodIn_r _ [110, 111, 112, 91, 1013, 1014, 1015, 1016, 1017, 1018, 1019, 1020, 1021, 1022, 1023, 1024, 1025, 1026, 1027, 1028, 1029, 1030, 1031, 1032, 1033, 1034, 1035, 1036, 1037, 1038, 1039, 1040, 1041] (by decide +kernel) (by decide +kernel)
set_option maxRecDepth 20000 in
theorem gL_law_X6_sign : GoodIn wsL_law (wsV RL 23 RX6 yX6_sign wsX6_sign) := goodIn_app (goodIn_of _ (by decide +kernel)) ggL_law_X6_sign
set_option maxRecDepth 20000 in
theorem ggL_law_X5_end : GoodIn wsL_law wsX5_end := goodIn_r _ [116, 16, 117, 118, 119, 15, 120, 44, 1003, 1004, 1005, 1006, 1007, 1008, 1009, 1010, 1011, 1012, 1042, 1043, 1044] (by decide +kernel) (by decide +kernel)
set_option maxRecDepth 20000 in
theorem gL_law_X5_end : GoodIn wsL_law (wsV RL 24 RX5 yX5_end wsX5_end) := goodIn_app (goodIn_of _ (by decide +kernel)) ggL_law_X5_end
set_option maxRecDepth 20000 in
theorem ggL_law_X6_end : GoodIn wsL_law wsX6_end := goodIn_r _ [124, 111, 112, 125, 126, 5, 127, 1013, 1014, 1015, 1016, 1017, 1018, 1019, 1020, 1021, 1022, 1023, 1024, 1025, 1026, 1027, 1028, 1029, 1030, 1031, 1032, 1033, 1034, 1035, 1036, 1037, 1038, 1039, 1040, 1041] (by decide +kernel) (by decide +kernel)
set_option maxRecDepth 20000 in
theorem gL_law_X6_end : GoodIn wsL_law (wsV RL 28 RX6 yX6_end wsX6_end) := goodIn_app (goodIn_of _ (by decide +kernel)) ggL_law_X6_end
set_option maxRecDepth 20000 in
theorem ggL_law_X5_desk : GoodIn wsL_law wsX5_desk := goodIn_r _ [131, 16, 21, 20, 25, 132, 133, 134, 15, 135, 45, 136, 137, 138, 19, 139, 51, 49, 50, 52, 57, 140, 2, 141, 142, 143, 144, 145, 44, 43, 146, 147, 148, 149, 150, 151, 152, 153, 154, 155, 156, 157, 158, 159, 160, 161, 162, 163, 164, 165, 166, 167, 54, 168, 169, 170, 171, 172, 173, 174, 175, 176, 177, 178, 179, 180, 181, 182, 183, 184, 185, 186, 56, 187, 188, 189, 190, 53, 55, 191, 192, 193, 194, 195, 196, 197, 198, 199, 200, 201, 202, 203, 204, 205, 206, 207, 208, 209, 24, 210, 62, 63, 211, 212, 213, 214, 1003, 1004, 1005, 1006, 1007, 1008, 1009, 1010, 1011, 1012, 1045, 1046, 1047, 1048, 1049, 1050, 1051, 1052, 1053, 1042, 1043, 1044, 1054, 1055, 1056] (by decide +kernel) (by decide +kernel)
set_option maxRecDepth 20000 in
theorem gL_law_X5_desk : GoodIn wsL_law (wsV RL 29 RX5 yX5_desk wsX5_desk) := goodIn_app (goodIn_of _ (by decide +kernel)) ggL_law_X5_desk
set_option maxRecDepth 20000 in
theorem ggL_law_X6_desk : GoodIn wsL_law wsX6_desk := goodIn_r _ [218, 111, 219, 89, 220, 221, 222, 223, 224, 225, 5, 226, 112, 227, 228, 229, 230, 231, 92, 83, 84, 85, 86, 87, 88, 232, 233, 234, 235, 236, 237, 238, 239, 240, 91, 125, 126, 127, 241, 242, 243, 244, 245, 246, 247, 248, 249, 250, 251, 252, 253, 254, 255, 256, 257, 258, 259, 260, 261, 262, 263, 264, 265, 266, 267, 268, 269, 270, 271, 272, 273, 274, 275, 276, 277, 278, 279, 280, 281, 282, 1013, 1014, 1015, 1016, 1017, 1018, 1019, 1020, 1021, 1022, 1023, 1024, 1025, 1026, 1027, 1028, 1029, 1030, 1031, 1032, 1033, 1034, 1035, 1036, 1037, 1038, 1039, 1040, 1041] (by decide +kernel) (by decide +kernel)
set_option maxRecDepth 20000 in
theorem gL_law_X6_desk : GoodIn wsL_law (wsV RL 33 RX6 yX6_desk wsX6_desk) := goodIn_app (goodIn_of _ (by decide +kernel)) ggL_law_X6_desk
set_option maxRecDepth 20000 in
theorem ggL_law_X5_pupils : GoodIn wsL_law wsX5_pupils := goodIn_r _ [286, 16, 26, 25, 132, 133, 134, 15, 135, 45, 287, 288, 289, 24, 290, 62, 61, 291, 208, 209, 210, 63, 292, 153, 154, 155, 44, 293, 294, 295, 296, 143, 144, 145, 43, 146, 2, 147, 140, 141, 297, 149, 150, 151, 298, 299, 300, 301, 302, 204, 205, 206, 211, 212, 213, 214, 1003, 1004, 1005, 1006, 1007, 1008, 1009, 1010, 1011, 1012, 1054, 1055, 1056, 1042, 1043, 1044] (by decide +kernel) (by decide +kernel)
set_option maxRecDepth 20000 in
theorem gL_law_X5_pupils : GoodIn wsL_law (wsV RL 34 RX5 yX5_pupils wsX5_pupils) := goodIn_app (goodIn_of _ (by decide +kernel)) ggL_law_X5_pupils
set_option maxRecDepth 20000 in
theorem ggL_law_X6_pupils : GoodIn wsL_law wsX6_pupils := goodIn_r _ [306, 111, 220, 307, 221, 222, 90, 93, 223, 224, 225, 5, 226, 112, 227, 308, 309, 310, 311, 312, 313, 314, 315, 236, 253, 254, 255, 256, 91, 257, 258, 125, 126, 127, 316, 317, 318, 319, 320, 321, 322, 323, 324, 325, 237, 238, 239, 240, 241, 242, 243, 244, 1013, 1014, 1015, 1016, 1017, 1018, 1019, 1020, 1021, 1022, 1023, 1024, 1025, 1026, 1027, 1028, 1029, 1030, 1031, 1032, 1033, 1034, 1035, 1036, 1037, 1038, 1039, 1040, 1041] (by decide +kernel) (by decide +kernel)
set_option maxRecDepth 20000 in
theorem gL_law_X6_pupils : GoodIn wsL_law (wsV RL 37 RX6 yX6_pupils wsX6_pupils) := goodIn_app (goodIn_of _ (by decide +kernel)) ggL_law_X6_pupils
set_option maxRecDepth 20000 in
theorem ggL_law_X5_opens : GoodIn wsL_law wsX5_opens := goodIn_r _ [329, 20, 330, 331, 2, 332, 333, 334, 335, 336, 337, 338, 339, 188, 189, 19, 190, 51, 53, 54, 55, 56, 191, 192, 193, 194, 57, 195, 196, 197, 198, 1003, 1004, 1005, 1006, 1007, 1008, 1009, 1010, 1011, 1012, 1045, 1046, 1047, 1048, 1049, 1050, 1051, 1052, 1053] (by decide +kernel) (by decide +kernel)
set_option maxRecDepth 20000 in
theorem gL_law_X5_opens : GoodIn wsL_law (wsV RL 38 RX5 yX5_opens wsX5_opens) := goodIn_app (goodIn_of _ (by decide +kernel)) ggL_law_X5_opens
set_option maxRecDepth 20000 in
theorem ggL_law_X6_opens : GoodIn wsL_law wsX6_opens := goodIn_r _ [343, 111, 344, 219, 85, 86, 87, 88, 345, 346, 5, 347, 348, 125, 126, 127, 349, 350, 351, 1013, 1014, 1015, 1016, 1017, 1018, 1019, 1020, 1021, 1022, 1023, 1024, 1025, 1026, 1027, 1028, 1029, 1030, 1031, 1032, 1033, 1034, 1035, 1036, 1037, 1038, 1039, 1040, 1041] (by decide +kernel) (by decide +kernel)
set_option maxRecDepth 20000 in
theorem gL_law_X6_opens : GoodIn wsL_law (wsV RL 42 RX6 yX6_opens wsX6_opens) := goodIn_app (goodIn_of _ (by decide +kernel)) ggL_law_X6_opens
set_option maxRecDepth 20000 in
theorem ggL_law_X5_closes : GoodIn wsL_law wsX5_closes := goodIn_r _ [355, 20, 356, 357, 358, 19, 359, 51, 360, 361, 362, 363, 53, 54, 55, 56, 191, 192, 193, 194, 57, 195, 196, 197, 198, 1003, 1004, 1005, 1006, 1007, 1008, 1009, 1010, 1011, 1012, 1045, 1046, 1047, 1048, 1049, 1050, 1051, 1052, 1053] (by decide +kernel) (by decide +kernel)
set_option maxRecDepth 20000 in
theorem gL_law_X5_closes : GoodIn wsL_law (wsV RL 43 RX5 yX5_closes wsX5_closes) := goodIn_app (goodIn_of _ (by decide +kernel)) ggL_law_X5_closes
set_option maxRecDepth 20000 in
theorem ggL_law_X6_closes : GoodIn wsL_law wsX6_closes := goodIn_r _ [367, 111, 219, 85, 86, 87, 88, 368, 369, 370, 5, 371, 125, 126, 127, 1013, 1014, 1015, 1016, 1017, 1018, 1019, 1020, 1021, 1022, 1023, 1024, 1025, 1026, 1027, 1028, 1029, 1030, 1031, 1032, 1033, 1034, 1035, 1036, 1037, 1038, 1039, 1040, 1041] (by decide +kernel) (by decide +kernel)
set_option maxRecDepth 20000 in
theorem gL_law_X6_closes : GoodIn wsL_law (wsV RL 46 RX6 yX6_closes wsX6_closes) := goodIn_app (goodIn_of _ (by decide +kernel)) ggL_law_X6_closes
set_option maxRecDepth 20000 in
theorem ggL_law_X5_seats : GoodIn wsL_law wsX5_seats := goodIn_r _ [375, 20, 356, 357, 358, 19, 359, 51, 336, 337, 2, 338, 1003, 1004, 1005, 1006, 1007, 1008, 1009, 1010, 1011, 1012, 1045, 1046, 1047, 1048, 1049, 1050, 1051, 1052, 1053] (by decide +kernel) (by decide +kernel)
set_option maxRecDepth 20000 in
theorem gL_law_X5_seats : GoodIn wsL_law (wsV RL 47 RX5 yX5_seats wsX5_seats) := goodIn_app (goodIn_of _ (by decide +kernel)) ggL_law_X5_seats
set_option maxRecDepth 20000 in
theorem ggL_law_X6_seats : GoodIn wsL_law wsX6_seats := goodIn_r _ [379, 111, 344, 87, 368, 369, 370, 5, 371, 219, 125, 126, 127, 1013, 1014, 1015, 1016, 1017, 1018, 1019, 1020, 1021, 1022, 1023, 1024, 1025, 1026, 1027, 1028, 1029, 1030, 1031, 1032, 1033, 1034, 1035, 1036, 1037, 1038, 1039, 1040, 1041] (by decide +kernel) (by decide +kernel)
set_option maxRecDepth 20000 in
theorem gL_law_X6_seats : GoodIn wsL_law (wsV RL 51 RX6 yX6_seats wsX6_seats) := goodIn_app (goodIn_of _ (by decide +kernel)) ggL_law_X6_seats
set_option maxRecDepth 20000 in
theorem ggL_law_X5_puts : GoodIn wsL_law wsX5_puts := goodIn_r _ [383, 20, 356, 357, 358, 19, 359, 51, 384, 385, 386, 387, 49, 388, 389, 390, 391, 56, 54, 183, 184, 185, 186, 52, 50, 146, 2, 147, 392, 393, 394, 395, 53, 191, 192, 193, 194, 57, 195, 196, 197, 198, 396, 397, 398, 399, 400, 401, 402, 403, 25, 404, 405, 406, 407, 408, 409, 410, 29, 411, 412, 413, 414, 415, 416, 417, 418, 419, 420, 320, 321, 322, 323, 324, 325, 1003, 1004, 1005, 1006, 1007, 1008, 1009, 1010, 1011, 1012, 1045, 1046, 1047, 1048, 1049, 1050, 1051, 1052, 1053, 1054, 1055, 1056] (by decide +kernel) (by decide +kernel)
set_option maxRecDepth 20000 in
theorem gL_law_X5_puts : GoodIn wsL_law (wsV RL 52 RX5 yX5_puts wsX5_puts) := goodIn_app (goodIn_of _ (by decide +kernel)) ggL_law_X5_puts
set_option maxRecDepth 20000 in
theorem ggL_law_X6_puts : GoodIn wsL_law wsX6_puts := goodIn_r _ [424, 111, 88, 368, 369, 370, 5, 371, 219, 125, 126, 127, 425, 426, 427, 428, 83, 268, 269, 270, 271, 272, 273, 274, 275, 86, 89, 84, 276, 277, 278, 429, 430, 431, 432, 221, 90, 433, 434, 435, 436, 94, 85, 437, 438, 439, 440, 441, 442, 321, 443, 444, 316, 317, 318, 319, 320, 322, 323, 324, 325, 1013, 1014, 1015, 1016, 1017, 1018, 1019, 1020, 1021, 1022, 1023, 1024, 1025, 1026, 1027, 1028, 1029, 1030, 1031, 1032, 1033, 1034, 1035, 1036, 1037, 1038, 1039, 1040, 1041] (by decide +kernel) (by decide +kernel)
set_option maxRecDepth 20000 in
theorem gL_law_X6_puts : GoodIn wsL_law (wsV RL 55 RX6 yX6_puts wsX6_puts) := goodIn_app (goodIn_of _ (by decide +kernel)) ggL_law_X6_puts
set_option maxRecDepth 20000 in
theorem ggL_law_X5_takes : GoodIn wsL_law wsX5_takes := goodIn_r _ [448, 20, 356, 357, 358, 19, 359, 51, 392, 393, 394, 395, 56, 53, 191, 192, 193, 194, 57, 195, 196, 197, 198, 396, 397, 398, 2, 399, 400, 401, 402, 403, 25, 404, 146, 147, 405, 406, 407, 408, 409, 410, 29, 411, 412, 413, 414, 415, 416, 417, 418, 419, 420, 320, 321, 322, 323, 324, 325, 1003, 1004, 1005, 1006, 1007, 1008, 1009, 1010, 1011, 1012, 1045, 1046, 1047, 1048, 1049, 1050, 1051, 1052, 1053, 1054, 1055, 1056] (by decide +kernel) (by decide +kernel)
set_option maxRecDepth 20000 in
theorem gL_law_X5_takes : GoodIn wsL_law (wsV RL 56 RX5 yX5_takes wsX5_takes) := goodIn_app (goodIn_of _ (by decide +kernel)) ggL_law_X5_takes
set_option maxRecDepth 20000 in
theorem ggL_law_X6_takes : GoodIn wsL_law wsX6_takes := goodIn_r _ [452, 111, 88, 368, 369, 370, 5, 371, 219, 125, 126, 127, 429, 430, 431, 432, 221, 90, 433, 434, 435, 436, 94, 85, 437, 438, 439, 440, 441, 442, 321, 443, 444, 316, 317, 318, 319, 320, 322, 323, 324, 325, 1013, 1014, 1015, 1016, 1017, 1018, 1019, 1020, 1021, 1022, 1023, 1024, 1025, 1026, 1027, 1028, 1029, 1030, 1031, 1032, 1033, 1034, 1035, 1036, 1037, 1038, 1039, 1040, 1041] (by decide +kernel) (by decide +kernel)
set_option maxRecDepth 20000 in
theorem gL_law_X6_takes : GoodIn wsL_law (wsV RL 59 RX6 yX6_takes wsX6_takes) := goodIn_app (goodIn_of _ (by decide +kernel)) ggL_law_X6_takes
set_option maxRecDepth 20000 in
theorem ggL_law_X5_swaps : GoodIn wsL_law wsX5_swaps := goodIn_r _ [456, 20, 356, 357, 358, 19, 359, 51, 457, 458, 459, 460, 461, 462, 463, 464, 56, 54, 183, 184, 185, 186, 52, 50, 146, 2, 147, 465, 466, 467, 468, 469, 393, 394, 395, 53, 191, 192, 193, 194, 57, 195, 196, 197, 198, 396, 397, 398, 399, 400, 401, 402, 403, 25, 404, 405, 406, 407, 408, 409, 410, 29, 411, 412, 413, 414, 415, 416, 417, 418, 419, 420, 320, 321, 322, 323, 324, 325, 1003, 1004, 1005, 1006, 1007, 1008, 1009, 1010, 1011, 1012, 1045, 1046, 1047, 1048, 1049, 1050, 1051, 1052, 1053, 1054, 1055, 1056] (by decide +kernel) (by decide +kernel)
set_option maxRecDepth 20000 in
theorem gL_law_X5_swaps : GoodIn wsL_law (wsV RL 60 RX5 yX5_swaps wsX5_swaps) := goodIn_app (goodIn_of _ (by decide +kernel)) ggL_law_X5_swaps
set_option maxRecDepth 20000 in
theorem ggL_law_X6_swaps : GoodIn wsL_law wsX6_swaps := goodIn_r _ [473, 111, 88, 368, 369, 370, 5, 371, 219, 125, 126, 127, 474, 475, 476, 477, 478, 479, 480, 481, 482, 483, 484, 485, 268, 269, 270, 271, 272, 273, 274, 275, 86, 89, 84, 276, 277, 278, 429, 430, 431, 432, 221, 90, 433, 434, 435, 436, 94, 85, 437, 438, 439, 440, 441, 442, 321, 443, 444, 316, 317, 318, 319, 320, 322, 323, 324, 325, 1013, 1014, 1015, 1016, 1017, 1018, 1019, 1020, 1021, 1022, 1023, 1024, 1025, 1026, 1027, 1028, 1029, 1030, 1031, 1032, 1033, 1034, 1035, 1036, 1037, 1038, 1039, 1040, 1041] (by decide +kernel) (by decide +kernel)
