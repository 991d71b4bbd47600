set_option maxRecDepth 20000 in
theorem ggL_law_X5_cures : GoodIn wsL_law wsX5_cures := goodIn_r _ [816, 25, 20, 38, 518, 519, 520, 24, 521, 62, 405, 406, 407, 19, 408, 57, 409, 410, 29, 411, 412, 146, 2, 147, 413, 414, 415, 416, 417, 418, 419, 396, 397, 398, 399, 400, 401, 402, 403, 404, 817, 818, 819, 820, 821, 822, 823, 824, 53, 49, 825, 195, 196, 197, 198, 51, 56, 388, 389, 390, 391, 54, 183, 184, 185, 186, 52, 50, 392, 393, 394, 395, 191, 192, 193, 194, 826, 827, 828, 829, 620, 621, 622, 623, 37, 830, 831, 832, 833, 555, 556, 557, 558, 1003, 1004, 1005, 1006, 1007, 1008, 1009, 1010, 1011, 1012, 1054, 1055, 1056, 1045, 1046, 1047, 1048, 1049, 1050, 1051, 1052, 1053] (by decide +kernel) (by decide +kernel)
set_option maxRecDepth 20000 in
theorem gL_law_X5_cures : GoodIn wsL_law (wsV RL 150 RX5 yX5_cures wsX5_cures) := goodIn_app (goodIn_of _ (by decide +kernel)) ggL_law_X5_cures
set_option maxRecDepth 20000 in
theorem ggL_law_X6_cures : GoodIn wsL_law wsX6_cures := goodIn_r _ [837, 111, 571, 96, 527, 528, 529, 5, 530, 221, 125, 126, 127, 429, 430, 431, 432, 90, 433, 434, 435, 436, 94, 219, 85, 88, 437, 438, 439, 440, 441, 442, 321, 443, 444, 838, 839, 840, 841, 83, 276, 277, 278, 777, 778, 779, 780, 222, 268, 269, 270, 271, 272, 273, 274, 275, 86, 89, 84, 572, 573, 574, 575, 82, 1013, 1014, 1015, 1016, 1017, 1018, 1019, 1020, 1021, 1022, 1023, 1024, 1025, 1026, 1027, 1028, 1029, 1030, 1031, 1032, 1033, 1034, 1035, 1036, 1037, 1038, 1039, 1040, 1041] (by decide +kernel) (by decide +kernel)
set_option maxRecDepth 20000 in
theorem gL_law_X6_cures : GoodIn wsL_law (wsV RL 153 RX6 yX6_cures wsX6_cures) := goodIn_app (goodIn_of _ (by decide +kernel)) ggL_law_X6_cures
set_option maxRecDepth 20000 in
theorem ggL_law_X5_instead : GoodIn wsL_law wsX5_instead := goodIn_r _ [845, 25, 20, 518, 519, 520, 24, 521, 62, 405, 406, 407, 19, 408, 57, 409, 410, 29, 411, 412, 146, 2, 147, 413, 414, 415, 416, 417, 418, 419, 404, 620, 621, 622, 623, 37, 38, 1003, 1004, 1005, 1006, 1007, 1008, 1009, 1010, 1011, 1012, 1054, 1055, 1056, 1045, 1046, 1047, 1048, 1049, 1050, 1051, 1052, 1053] (by decide +kernel) (by decide +kernel)
set_option maxRecDepth 20000 in
theorem gL_law_X5_instead : GoodIn wsL_law (wsV RL 154 RX5 yX5_instead wsX5_instead) := goodIn_app (goodIn_of _ (by decide +kernel)) ggL_law_X5_instead
set_option maxRecDepth 20000 in
theorem ggL_law_X6_instead : GoodIn wsL_law wsX6_instead := goodIn_r _ [849, 111, 90, 527, 528, 529, 5, 530, 221, 125, 126, 127, 611, 612, 613, 614, 433, 434, 435, 436, 94, 219, 85, 88, 437, 438, 439, 440, 441, 442, 321, 443, 444, 276, 277, 278, 567, 568, 569, 570, 571, 572, 573, 574, 575, 82, 1013, 1014, 1015, 1016, 1017, 1018, 1019, 1020, 1021, 1022, 1023, 1024, 1025, 1026, 1027, 1028, 1029, 1030, 1031, 1032, 1033, 1034, 1035, 1036, 1037, 1038, 1039, 1040, 1041] (by decide +kernel) (by decide +kernel)
set_option maxRecDepth 20000 in
theorem gL_law_X6_instead : GoodIn wsL_law (wsV RL 157 RX6 yX6_instead wsX6_instead) := goodIn_app (goodIn_of _ (by decide +kernel)) ggL_law_X6_instead
set_option maxRecDepth 20000 in
theorem ggL_law_X5_spare : GoodIn wsL_law wsX5_spare := goodIn_r _ [853, 20, 396, 397, 398, 2, 399, 400, 401, 402, 403, 25, 404, 146, 147, 405, 406, 407, 19, 408, 57, 409, 410, 29, 411, 412, 413, 414, 415, 416, 417, 418, 419, 744, 745, 746, 747, 392, 393, 394, 395, 56, 53, 191, 192, 193, 194, 195, 196, 197, 198, 51, 502, 503, 504, 505, 420, 320, 321, 322, 323, 324, 325, 620, 621, 622, 623, 37, 38, 1003, 1004, 1005, 1006, 1007, 1008, 1009, 1010, 1011, 1012, 1045, 1046, 1047, 1048, 1049, 1050, 1051, 1052, 1053, 1054, 1055, 1056] (by decide +kernel) (by decide +kernel)
set_option maxRecDepth 20000 in
theorem gL_law_X5_spare : GoodIn wsL_law (wsV RL 158 RX5 yX5_spare wsX5_spare) := goodIn_app (goodIn_of _ (by decide +kernel)) ggL_law_X5_spare
set_option maxRecDepth 20000 in
theorem ggL_law_X6_spare : GoodIn wsL_law wsX6_spare := goodIn_r _ [857, 111, 219, 88, 429, 430, 431, 5, 432, 221, 90, 433, 434, 435, 436, 94, 85, 437, 438, 439, 440, 441, 442, 321, 443, 444, 316, 317, 318, 319, 320, 322, 323, 324, 325, 752, 753, 754, 755, 592, 593, 594, 567, 568, 569, 570, 571, 572, 573, 574, 575, 82, 1013, 1014, 1015, 1016, 1017, 1018, 1019, 1020, 1021, 1022, 1023, 1024, 1025, 1026, 1027, 1028, 1029, 1030, 1031, 1032, 1033, 1034, 1035, 1036, 1037, 1038, 1039, 1040, 1041] (by decide +kernel) (by decide +kernel)
set_option maxRecDepth 20000 in
theorem gL_law_X6_spare : GoodIn wsL_law (wsV RL 161 RX6 yX6_spare wsX6_spare) := goodIn_app (goodIn_of _ (by decide +kernel)) ggL_law_X6_spare
set_option maxRecDepth 20000 in
theorem ggL_law_X5_lays : GoodIn wsL_law wsX5_lays := goodIn_r _ [861, 20, 36, 25, 580, 581, 582, 24, 583, 62, 61, 420, 320, 321, 322, 323, 324, 325, 392, 393, 394, 19, 395, 56, 53, 191, 192, 193, 194, 57, 195, 196, 197, 198, 51, 862, 863, 864, 2, 865, 396, 397, 398, 399, 400, 401, 402, 403, 404, 146, 147, 405, 406, 407, 408, 409, 410, 29, 411, 412, 413, 414, 415, 416, 417, 418, 419, 388, 389, 390, 391, 54, 183, 184, 185, 186, 52, 50, 744, 745, 746, 747, 620, 621, 622, 623, 37, 38, 502, 503, 504, 505, 1003, 1004, 1005, 1006, 1007, 1008, 1009, 1010, 1011, 1012, 1045, 1046, 1047, 1048, 1049, 1050, 1051, 1052, 1053, 1054, 1055, 1056] (by decide +kernel) (by decide +kernel)
set_option maxRecDepth 20000 in
theorem gL_law_X5_lays : GoodIn wsL_law (wsV RL 162 RX5 yX5_lays wsX5_lays) := goodIn_app (goodIn_of _ (by decide +kernel)) ggL_law_X5_lays
set_option maxRecDepth 20000 in
theorem ggL_law_X6_lays : GoodIn wsL_law wsX6_lays := goodIn_r _ [869, 111, 219, 88, 870, 871, 872, 5, 873, 85, 276, 277, 278, 595, 596, 597, 598, 221, 90, 316, 317, 318, 319, 320, 321, 322, 323, 324, 325, 874, 875, 876, 877, 83, 268, 269, 270, 271, 272, 273, 274, 275, 86, 89, 84, 752, 753, 754, 755, 429, 430, 431, 432, 433, 434, 435, 436, 94, 437, 438, 439, 440, 441, 442, 443, 444, 592, 593, 594, 567, 568, 569, 570, 571, 572, 573, 574, 575, 82, 1013, 1014, 1015, 1016, 1017, 1018, 1019, 1020, 1021, 1022, 1023, 1024, 1025, 1026, 1027, 1028, 1029, 1030, 1031, 1032, 1033, 1034, 1035, 1036, 1037, 1038, 1039, 1040, 1041] (by decide +kernel) (by decide +kernel)
set_option maxRecDepth 20000 in
theorem gL_law_X6_lays : GoodIn wsL_law (wsV RL 165 RX6 yX6_lays wsX6_lays) := goodIn_app (goodIn_of _ (by decide +kernel)) ggL_law_X6_lays
set_option maxRecDepth 20000 in
theorem ggL_law_X5_seated : GoodIn wsL_law wsX5_seated := goodIn_r _ [881, 34, 20, 25, 882, 883, 884, 33, 885, 77, 75, 886, 887, 888, 889, 73, 74, 890, 654, 655, 29, 656, 68, 412, 67, 146, 2, 147, 413, 414, 415, 416, 657, 418, 419, 658, 659, 660, 891, 892, 893, 894, 895, 896, 897, 898, 899, 900, 901, 902, 620, 621, 622, 623, 37, 38, 420, 320, 321, 322, 323, 324, 325, 1003, 1004, 1005, 1006, 1007, 1008, 1009, 1010, 1011, 1012, 1054, 1055, 1056, 1060, 1061, 1062, 1063, 1045, 1046, 1047, 1048, 1049, 1050, 1051, 1052, 1053, 1057, 1058, 1059] (by decide +kernel) (by decide +kernel)
set_option maxRecDepth 20000 in
theorem gL_law_X5_seated : GoodIn wsL_law (wsV RL 166 RX5 yX5_seated wsX5_seated) := goodIn_app (goodIn_of _ (by decide +kernel)) ggL_law_X5_seated
set_option maxRecDepth 20000 in
theorem ggL_law_X6_seated : GoodIn wsL_law wsX6_seated := goodIn_r _ [906, 111, 907, 908, 909, 5, 910, 219, 97, 87, 221, 90, 98, 911, 912, 177, 913, 914, 915, 916, 917, 83, 441, 442, 321, 443, 444, 276, 277, 278, 918, 919, 920, 921, 85, 88, 567, 568, 569, 570, 571, 572, 573, 574, 575, 82, 316, 317, 318, 319, 320, 322, 323, 324, 325, 1013, 1014, 1015, 1016, 1017, 1018, 1019, 1020, 1021, 1022, 1023, 1024, 1025, 1026, 1027, 1028, 1029, 1030, 1031, 1032, 1033, 1034, 1035, 1036, 1037, 1038, 1039, 1040, 1041] (by decide +kernel) (by decide +kernel)
set_option maxRecDepth 20000 in
theorem gL_law_X6_seated : GoodIn wsL_law (wsV RL 170 RX6 yX6_seated wsX6_seated) := goodIn_app (goodIn_of _ (by decide +kernel)) ggL_law_X6_seated
set_option maxRecDepth 20000 in
theorem ggL_law_X5_sits : GoodIn wsL_law wsX5_sits := goodIn_r _ [925, 20, 34, 25, 356, 357, 358, 19, 359, 51, 882, 883, 884, 33, 885, 77, 75, 886, 887, 888, 889, 73, 74, 890, 654, 655, 29, 656, 68, 412, 67, 146, 2, 147, 413, 414, 415, 416, 657, 418, 419, 658, 659, 660, 891, 892, 893, 894, 895, 896, 897, 898, 899, 900, 901, 902, 620, 621, 622, 623, 37, 38, 1003, 1004, 1005, 1006, 1007, 1008, 1009, 1010, 1011, 1012, 1060, 1061, 1062, 1063, 1045, 1046, 1047, 1048, 1049, 1050, 1051, 1052, 1053, 1054, 1055, 1056, 1057, 1058, 1059] (by decide +kernel) (by decide +kernel)
set_option maxRecDepth 20000 in
theorem gL_law_X5_sits : GoodIn wsL_law (wsV RL 171 RX5 yX5_sits wsX5_sits) := goodIn_app (goodIn_of _ (by decide +kernel)) ggL_law_X5_sits
set_option maxRecDepth 20000 in
theorem ggL_law_X6_sits : GoodIn wsL_law wsX6_sits := goodIn_r _ [929, 111, 221, 98, 97, 368, 369, 370, 5, 371, 219, 125, 126, 127, 907, 908, 909, 910, 87, 90, 911, 912, 177, 913, 914, 915, 916, 917, 83, 441, 442, 321, 443, 444, 276, 277, 278, 918, 919, 920, 921, 85, 88, 567, 568, 569, 570, 571, 572, 573, 574, 575, 82, 1013, 1014, 1015, 1016, 1017, 1018, 1019, 1020, 1021, 1022, 1023, 1024, 1025, 1026, 1027, 1028, 1029, 1030, 1031, 1032, 1033, 1034, 1035, 1036, 1037, 1038, 1039, 1040, 1041] (by decide +kernel) (by decide +kernel)
set_option maxRecDepth 20000 in
theorem gL_law_X6_sits : GoodIn wsL_law (wsV RL 174 RX6 yX6_sits wsX6_sits) := goodIn_app (goodIn_of _ (by decide +kernel)) ggL_law_X6_sits
set_option maxRecDepth 20000 in
theorem ggL_law_X5_lacking : GoodIn wsL_law wsX5_lacking := goodIn_r _ [933, 34, 20, 25, 396, 397, 398, 2, 399, 400, 401, 402, 403, 404, 146, 147, 405, 406, 407, 19, 408, 57, 409, 410, 29, 411, 412, 413, 414, 415, 416, 417, 418, 419, 882, 883, 884, 33, 885, 77, 75, 886, 887, 888, 889, 73, 74, 890, 654, 655, 656, 68, 67, 657, 658, 659, 660, 891, 892, 893, 894, 895, 896, 897, 898, 899, 900, 901, 902, 733, 734, 735, 518, 519, 520, 24, 521, 62, 934, 935, 936, 937, 555, 556, 557, 558, 37, 38, 1003, 1004, 1005, 1006, 1007, 1008, 1009, 1010, 1011, 1012, 1054, 1055, 1056, 1045, 1046, 1047, 1048, 1049, 1050, 1051, 1052, 1053, 1060, 1061, 1062, 1063, 1057, 1058, 1059] (by decide +kernel) (by decide +kernel)
set_option maxRecDepth 20000 in
theorem gL_law_X5_lacking : GoodIn wsL_law (wsV RL 175 RX5 yX5_lacking wsX5_lacking) := goodIn_app (goodIn_of _ (by decide +kernel)) ggL_law_X5_lacking
set_option maxRecDepth 20000 in
theorem ggL_law_X6_lacking : GoodIn wsL_law wsX6_lacking := goodIn_r _ [941, 111, 90, 429, 430, 431, 5, 432, 221, 433, 434, 435, 436, 94, 219, 85, 88, 437, 438, 439, 440, 441, 442, 321, 443, 444, 907, 908, 909, 910, 97, 87, 98, 911, 912, 177, 913, 914, 915, 916, 917, 83, 276, 277, 278, 918, 919, 920, 921, 942, 943, 944, 945, 563, 564, 565, 566, 567, 568, 569, 570, 571, 572, 573, 574, 575, 82, 1013, 1014, 1015, 1016, 1017, 1018, 1019, 1020, 1021, 1022, 1023, 1024, 1025, 1026, 1027, 1028, 1029, 1030, 1031, 1032, 1033, 1034, 1035, 1036, 1037, 1038, 1039, 1040, 1041] (by decide +kernel) (by decide +kernel)
set_option maxRecDepth 20000 in
theorem gL_law_X6_lacking : GoodIn wsL_law (wsV RL 178 RX6 yX6_lacking wsX6_lacking) := goodIn_app (goodIn_of _ (by decide +kernel)) ggL_law_X6_lacking
set_option maxRecDepth 20000 in
theorem ggL_law_X5_wants : GoodIn wsL_law wsX5_wants := goodIn_r _ [949, 20, 25, 950, 912, 177, 913, 665, 176, 178, 34, 356, 357, 358, 19, 359, 51, 396, 397, 398, 2, 399, 400, 401, 402, 403, 404, 146, 147, 405, 406, 407, 408, 57, 409, 410, 29, 411, 412, 413, 414, 415, 416, 417, 418, 419, 882, 883, 884, 33, 885, 77, 75, 886, 887, 888, 889, 73, 74, 890, 654, 655, 656, 68, 67, 657, 658, 659, 660, 891, 892, 893, 894, 895, 896, 897, 898, 899, 900, 901, 902, 1003, 1004, 1005, 1006, 1007, 1008, 1009, 1010, 1011, 1012, 1045, 1046, 1047, 1048, 1049, 1050, 1051, 1052, 1053, 1054, 1055, 1056, 1060, 1061, 1062, 1063, 1057, 1058, 1059] (by decide +kernel) (by decide +kernel)
set_option maxRecDepth 20000 in
theorem gL_law_X5_wants : GoodIn wsL_law (wsV RL 179 RX5 yX5_wants wsX5_wants) := goodIn_app (goodIn_of _ (by decide +kernel)) ggL_law_X5_wants
set_option maxRecDepth 20000 in
theorem ggL_law_X6_wants : GoodIn wsL_law wsX6_wants := goodIn_r _ [954, 111, 87, 368, 369, 370, 5, 371, 219, 125, 126, 127, 429, 430, 431, 432, 221, 90, 433, 434, 435, 436, 94, 85, 88, 437, 438, 439, 440, 441, 442, 321, 443, 444, 316, 317, 318, 319, 320, 322, 323, 324, 325, 907, 908, 909, 910, 97, 98, 911, 912, 177, 913, 914, 915, 916, 917, 83, 276, 277, 278, 918, 919, 920, 921, 1013, 1014, 1015, 1016, 1017, 1018, 1019, 1020, 1021, 1022, 1023, 1024, 1025, 1026, 1027, 1028, 1029, 1030, 1031, 1032, 1033, 1034, 1035, 1036, 1037, 1038, 1039, 1040, 1041] (by decide +kernel) (by decide +kernel)
set_option maxRecDepth 20000 in
theorem gL_law_X6_wants : GoodIn wsL_law (wsV RL 182 RX6 yX6_wants wsX6_wants) := goodIn_app (goodIn_of _ (by decide +kernel)) ggL_law_X6_wants
set_option maxRecDepth 20000 in
theorem ggL_law_X5_count : GoodIn wsL_law wsX5_count := goodIn_r _ [958, 20, 25, 38, 16, 502, 503, 504, 19, 505, 51, 56, 959, 960, 961, 962, 49, 50, 963, 699, 320, 321, 322, 323, 324, 325, 964, 965, 966, 967, 54, 1003, 1004, 1005, 1006, 1007, 1008, 1009, 1010, 1011, 1012, 1045, 1046, 1047, 1048, 1049, 1050, 1051, 1052, 1053, 1054, 1055, 1056, 1042, 1043, 1044] (by decide +kernel) (by decide +kernel)
set_option maxRecDepth 20000 in
theorem gL_law_X5_count : GoodIn wsL_law (wsV RL 183 RX5 yX5_count wsX5_count) := goodIn_app (goodIn_of _ (by decide +kernel)) ggL_law_X5_count
set_option maxRecDepth 20000 in
theorem ggL_law_X6_count : GoodIn wsL_law wsX6_count := goodIn_r _ [971, 111, 83, 84, 219, 221, 222, 571, 112, 972, 973, 974, 5, 975, 88, 976, 977, 978, 979, 510, 511, 512, 513, 316, 317, 318, 319, 320, 321, 322, 323, 324, 325, 980, 981, 982, 983, 86, 1013, 1014, 1015, 1016, 1017, 1018, 1019, 1020, 1021, 1022, 1023, 1024, 1025, 1026, 1027, 1028, 1029, 1030, 1031, 1032, 1033, 1034, 1035, 1036, 1037, 1038, 1039, 1040, 1041] (by decide +kernel) (by decide +kernel)
set_option maxRecDepth 20000 in
theorem gL_law_X6_count : GoodIn wsL_law (wsV RL 186 RX6 yX6_count wsX6_count) := goodIn_app (goodIn_of _ (by decide +kernel)) ggL_law_X6_count
set_option maxRecDepth 20000 in
theorem ggL_law_L_row : GoodIn wsL_law wsL_row := goodIn_ca (goodIn_r _ [987, 988, 989, 990, 991, 2, 992, 993, 994, 38, 37, 1003, 1004, 1005, 1006, 1007, 1008, 1009, 1010, 1011, 1012] (by decide +kernel) (by decide +kernel)) (goodIn_sub (fun _ h => List.mem_append_right _ h) (by decide +kernel))
set_option maxRecDepth 20000 in
theorem gL_law_L_row : GoodIn wsL_law (va_wsS RL 187 yL_row wsL_row) := goodIn_app (goodIn_of _ (by decide +kernel)) ggL_law_L_row
set_option maxRecDepth 20000 in
theorem ggL_law_X6_row : GoodIn wsL_law wsX6_row := goodIn_r _ [998, 571, 111, 82, 125, 126, 5, 127, 592, 593, 594, 1013, 1014, 1015, 1016, 1017, 1018, 1019, 1020, 1021, 1022, 1023, 1024, 1025, 1026, 1027, 1028, 1029, 1030, 1031, 1032, 1033, 1034, 1035, 1036, 1037, 1038, 1039, 1040, 1041] (by decide +kernel) (by decide +kernel)
set_option maxRecDepth 20000 in
theorem gL_law_X6_row : GoodIn wsL_law (wsV RL 192 RX6 yX6_row wsX6_row) := goodIn_app (goodIn_of _ (by decide +kernel)) ggL_law_X6_row
set_option maxRecDepth 20000 in
theorem ggL_law_X6_thrown : GoodIn wsL_law wsX6_thrown := goodIn_r _ [1002, 111, 1013, 1014, 1015, 1016, 1017, 1018, 1019, 1020, 1021, 1022, 1023, 1024, 1025, 1026, 1027, 1028, 1029, 1030, 1031, 1032, 1033, 1034, 1035, 1036, 1037, 1038, 1039, 1040, 1041] (by decide +kernel) (by decide +kernel)
set_option maxRecDepth 20000 in
theorem gL_law_X6_thrown : GoodIn wsL_law (wsV RL 193 RX6 yX6_thrown wsX6_thrown) := goodIn_app (goodIn_of _ (by decide +kernel)) ggL_law_X6_thrown
