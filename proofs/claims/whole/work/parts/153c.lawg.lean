set_option maxRecDepth 20000 in
theorem gL_law_X5_fits : GoodIn wsL_law (wsV RL 106 RX5 yX5_fits wsX5_fits) := goodIn_app (goodIn_of _ (by decide +kernel)) ggL_law_X5_fits
set_option maxRecDepth 20000 in
theorem ggL_law_X6_fits : GoodIn wsL_law wsX6_fits := goodIn_r _ [648, 111, 429, 430, 431, 5, 432, 221, 90, 433, 434, 435, 436, 94, 219, 85, 88, 437, 438, 439, 440, 441, 442, 321, 443, 444, 567, 568, 569, 570, 571, 572, 573, 574, 575, 82, 316, 317, 318, 319, 320, 322, 323, 324, 325, 1013, 1014, 1015, 1016, 1017, 1018, 1019, 1020, 1021, 1022, 1023, 1024, 1025, 1026, 1027, 1028, 1029, 1030, 1031, 1032, 1033, 1034, 1035, 1036, 1037, 1038, 1039, 1040, 1041] (by decide +kernel) (by decide +kernel)
set_option maxRecDepth 20000 in
theorem gL_law_X6_fits : GoodIn wsL_law (wsV RL 109 RX6 yX6_fits wsX6_fits) := goodIn_app (goodIn_of _ (by decide +kernel)) ggL_law_X6_fits
set_option maxRecDepth 20000 in
theorem ggL_law_X5_ways : GoodIn wsL_law wsX5_ways := goodIn_r _ [652, 25, 38, 30, 20, 518, 519, 520, 24, 521, 62, 653, 654, 655, 29, 656, 68, 412, 67, 146, 2, 147, 413, 414, 415, 416, 657, 418, 419, 658, 659, 660, 420, 320, 321, 322, 323, 324, 325, 661, 662, 663, 664, 665, 176, 177, 178, 37, 666, 667, 668, 669, 69, 670, 671, 672, 673, 674, 1003, 1004, 1005, 1006, 1007, 1008, 1009, 1010, 1011, 1012, 1054, 1055, 1056, 1045, 1046, 1047, 1048, 1049, 1050, 1051, 1052, 1053, 1057, 1058, 1059] (by decide +kernel) (by decide +kernel)
set_option maxRecDepth 20000 in
theorem gL_law_X5_ways : GoodIn wsL_law (wsV RL 110 RX5 yX5_ways wsX5_ways) := goodIn_app (goodIn_of _ (by decide +kernel)) ggL_law_X5_ways
set_option maxRecDepth 20000 in
theorem ggL_law_X6_ways : GoodIn wsL_law wsX6_ways := goodIn_r _ [678, 111, 90, 571, 95, 527, 528, 529, 5, 530, 221, 125, 126, 127, 433, 434, 435, 436, 94, 219, 85, 88, 679, 680, 681, 682, 83, 441, 442, 321, 443, 444, 276, 277, 278, 572, 573, 574, 575, 82, 683, 684, 685, 686, 1013, 1014, 1015, 1016, 1017, 1018, 1019, 1020, 1021, 1022, 1023, 1024, 1025, 1026, 1027, 1028, 1029, 1030, 1031, 1032, 1033, 1034, 1035, 1036, 1037, 1038, 1039, 1040, 1041] (by decide +kernel) (by decide +kernel)
set_option maxRecDepth 20000 in
theorem gL_law_X6_ways : GoodIn wsL_law (wsV RL 113 RX6 yX6_ways wsX6_ways) := goodIn_app (goodIn_of _ (by decide +kernel)) ggL_law_X6_ways
set_option maxRecDepth 20000 in
theorem ggL_law_X5_crowd : GoodIn wsL_law wsX5_crowd := goodIn_r _ [690, 25, 20, 518, 519, 520, 24, 521, 62, 405, 406, 407, 19, 408, 57, 409, 410, 29, 411, 412, 146, 2, 147, 413, 414, 415, 416, 417, 418, 419, 420, 320, 321, 322, 323, 324, 325, 691, 692, 693, 694, 695, 696, 697, 698, 699, 700, 555, 556, 557, 558, 37, 38, 1003, 1004, 1005, 1006, 1007, 1008, 1009, 1010, 1011, 1012, 1054, 1055, 1056, 1045, 1046, 1047, 1048, 1049, 1050, 1051, 1052, 1053] (by decide +kernel) (by decide +kernel)
set_option maxRecDepth 20000 in
theorem gL_law_X5_crowd : GoodIn wsL_law (wsV RL 114 RX5 yX5_crowd wsX5_crowd) := goodIn_app (goodIn_of _ (by decide +kernel)) ggL_law_X5_crowd
set_option maxRecDepth 20000 in
theorem ggL_law_X6_crowd : GoodIn wsL_law wsX6_crowd := goodIn_r _ [704, 111, 90, 527, 528, 529, 5, 530, 221, 125, 126, 127, 611, 612, 613, 614, 433, 434, 435, 436, 94, 219, 85, 88, 437, 438, 439, 440, 441, 442, 321, 443, 444, 705, 706, 707, 708, 276, 277, 278, 316, 317, 318, 319, 320, 322, 323, 324, 325, 563, 564, 565, 566, 567, 568, 569, 570, 571, 572, 573, 574, 575, 82, 1013, 1014, 1015, 1016, 1017, 1018, 1019, 1020, 1021, 1022, 1023, 1024, 1025, 1026, 1027, 1028, 1029, 1030, 1031, 1032, 1033, 1034, 1035, 1036, 1037, 1038, 1039, 1040, 1041] (by decide +kernel) (by decide +kernel)
set_option maxRecDepth 20000 in
theorem gL_law_X6_crowd : GoodIn wsL_law (wsV RL 117 RX6 yX6_crowd wsX6_crowd) := goodIn_app (goodIn_of _ (by decide +kernel)) ggL_law_X6_crowd
set_option maxRecDepth 20000 in
theorem ggL_law_X5_sets : GoodIn wsL_law wsX5_sets := goodIn_r _ [712, 20, 420, 320, 321, 322, 323, 324, 325, 405, 406, 407, 19, 408, 57, 409, 410, 29, 411, 412, 146, 2, 147, 413, 414, 415, 416, 417, 418, 419, 555, 556, 557, 558, 37, 38, 1003, 1004, 1005, 1006, 1007, 1008, 1009, 1010, 1011, 1012, 1045, 1046, 1047, 1048, 1049, 1050, 1051, 1052, 1053] (by decide +kernel) (by decide +kernel)
set_option maxRecDepth 20000 in
theorem gL_law_X5_sets : GoodIn wsL_law (wsV RL 118 RX5 yX5_sets wsX5_sets) := goodIn_app (goodIn_of _ (by decide +kernel)) ggL_law_X5_sets
set_option maxRecDepth 20000 in
theorem ggL_law_X6_sets : GoodIn wsL_law wsX6_sets := goodIn_r _ [716, 111, 526, 125, 126, 5, 127, 433, 434, 435, 436, 94, 219, 85, 88, 316, 317, 318, 319, 320, 321, 322, 323, 324, 325, 437, 438, 439, 440, 441, 442, 443, 444, 592, 593, 594, 563, 564, 565, 566, 567, 568, 569, 570, 571, 572, 573, 574, 575, 82, 1013, 1014, 1015, 1016, 1017, 1018, 1019, 1020, 1021, 1022, 1023, 1024, 1025, 1026, 1027, 1028, 1029, 1030, 1031, 1032, 1033, 1034, 1035, 1036, 1037, 1038, 1039, 1040, 1041] (by decide +kernel) (by decide +kernel)
set_option maxRecDepth 20000 in
theorem gL_law_X6_sets : GoodIn wsL_law (wsV RL 121 RX6 yX6_sets wsX6_sets) := goodIn_app (goodIn_of _ (by decide +kernel)) ggL_law_X6_sets
set_option maxRecDepth 20000 in
theorem ggL_law_X5_both : GoodIn wsL_law wsX5_both := goodIn_r _ [720, 25, 330, 331, 2, 332, 580, 581, 582, 24, 583, 62, 61, 420, 320, 321, 322, 323, 324, 325, 396, 397, 398, 399, 400, 401, 402, 403, 20, 404, 146, 147, 405, 406, 407, 19, 408, 57, 409, 410, 29, 411, 412, 413, 414, 415, 416, 417, 418, 419, 555, 556, 557, 558, 37, 38, 1003, 1004, 1005, 1006, 1007, 1008, 1009, 1010, 1011, 1012, 1054, 1055, 1056, 1045, 1046, 1047, 1048, 1049, 1050, 1051, 1052, 1053] (by decide +kernel) (by decide +kernel)
set_option maxRecDepth 20000 in
theorem gL_law_X5_both : GoodIn wsL_law (wsV RL 122 RX5 yX5_both wsX5_both) := goodIn_app (goodIn_of _ (by decide +kernel)) ggL_law_X5_both
set_option maxRecDepth 20000 in
theorem ggL_law_X6_both : GoodIn wsL_law wsX6_both := goodIn_r _ [724, 111, 345, 346, 5, 347, 348, 125, 126, 127, 595, 596, 597, 598, 221, 90, 276, 277, 278, 316, 317, 318, 319, 320, 321, 322, 323, 324, 325, 429, 430, 431, 432, 433, 434, 435, 436, 94, 219, 85, 88, 437, 438, 439, 440, 441, 442, 443, 444, 563, 564, 565, 566, 567, 568, 569, 570, 571, 572, 573, 574, 575, 82, 1013, 1014, 1015, 1016, 1017, 1018, 1019, 1020, 1021, 1022, 1023, 1024, 1025, 1026, 1027, 1028, 1029, 1030, 1031, 1032, 1033, 1034, 1035, 1036, 1037, 1038, 1039, 1040, 1041] (by decide +kernel) (by decide +kernel)
set_option maxRecDepth 20000 in
theorem gL_law_X6_both : GoodIn wsL_law (wsV RL 125 RX6 yX6_both wsX6_both) := goodIn_app (goodIn_of _ (by decide +kernel)) ggL_law_X6_both
set_option maxRecDepth 20000 in
theorem ggL_law_X5_clash : GoodIn wsL_law wsX5_clash := goodIn_r _ [728, 20, 25, 729, 730, 731, 19, 732, 57, 699, 320, 321, 322, 323, 324, 325, 580, 581, 582, 24, 583, 62, 61, 420, 733, 734, 2, 735, 404, 146, 147, 555, 556, 557, 558, 37, 38, 1003, 1004, 1005, 1006, 1007, 1008, 1009, 1010, 1011, 1012, 1045, 1046, 1047, 1048, 1049, 1050, 1051, 1052, 1053, 1054, 1055, 1056] (by decide +kernel) (by decide +kernel)
set_option maxRecDepth 20000 in
theorem gL_law_X5_clash : GoodIn wsL_law (wsV RL 126 RX5 yX5_clash wsX5_clash) := goodIn_app (goodIn_of _ (by decide +kernel)) ggL_law_X5_clash
set_option maxRecDepth 20000 in
theorem ggL_law_X6_clash : GoodIn wsL_law wsX6_clash := goodIn_r _ [739, 111, 94, 433, 434, 435, 5, 436, 219, 85, 88, 595, 596, 597, 598, 221, 90, 276, 277, 278, 316, 317, 318, 319, 320, 321, 322, 323, 324, 325, 441, 442, 443, 444, 563, 564, 565, 566, 567, 568, 569, 570, 571, 572, 573, 574, 575, 82, 1013, 1014, 1015, 1016, 1017, 1018, 1019, 1020, 1021, 1022, 1023, 1024, 1025, 1026, 1027, 1028, 1029, 1030, 1031, 1032, 1033, 1034, 1035, 1036, 1037, 1038, 1039, 1040, 1041] (by decide +kernel) (by decide +kernel)
set_option maxRecDepth 20000 in
theorem gL_law_X6_clash : GoodIn wsL_law (wsV RL 129 RX6 yX6_clash wsX6_clash) := goodIn_app (goodIn_of _ (by decide +kernel)) ggL_law_X6_clash
set_option maxRecDepth 20000 in
theorem ggL_law_X5_gain : GoodIn wsL_law wsX5_gain := goodIn_r _ [743, 20, 356, 357, 358, 19, 359, 51, 384, 385, 386, 387, 49, 388, 389, 390, 391, 56, 54, 183, 184, 185, 186, 52, 50, 146, 2, 147, 396, 397, 398, 399, 400, 401, 402, 403, 25, 404, 405, 406, 407, 408, 57, 409, 410, 29, 411, 412, 413, 414, 415, 416, 417, 418, 419, 744, 745, 746, 747, 392, 393, 394, 395, 53, 191, 192, 193, 194, 195, 196, 197, 198, 555, 556, 557, 558, 37, 38, 420, 320, 321, 322, 323, 324, 325, 1003, 1004, 1005, 1006, 1007, 1008, 1009, 1010, 1011, 1012, 1045, 1046, 1047, 1048, 1049, 1050, 1051, 1052, 1053, 1054, 1055, 1056] (by decide +kernel) (by decide +kernel)
set_option maxRecDepth 20000 in
theorem gL_law_X5_gain : GoodIn wsL_law (wsV RL 130 RX5 yX5_gain wsX5_gain) := goodIn_app (goodIn_of _ (by decide +kernel)) ggL_law_X5_gain
set_option maxRecDepth 20000 in
theorem ggL_law_X6_gain : GoodIn wsL_law wsX6_gain := goodIn_r _ [751, 111, 88, 368, 369, 370, 5, 371, 219, 125, 126, 127, 425, 426, 427, 428, 83, 268, 269, 270, 271, 272, 273, 274, 275, 86, 89, 84, 276, 277, 278, 429, 430, 431, 432, 221, 90, 433, 434, 435, 436, 94, 85, 437, 438, 439, 440, 441, 442, 321, 443, 444, 752, 753, 754, 755, 563, 564, 565, 566, 567, 568, 569, 570, 571, 572, 573, 574, 575, 82, 316, 317, 318, 319, 320, 322, 323, 324, 325, 1013, 1014, 1015, 1016, 1017, 1018, 1019, 1020, 1021, 1022, 1023, 1024, 1025, 1026, 1027, 1028, 1029, 1030, 1031, 1032, 1033, 1034, 1035, 1036, 1037, 1038, 1039, 1040, 1041] (by decide +kernel) (by decide +kernel)
set_option maxRecDepth 20000 in
theorem gL_law_X6_gain : GoodIn wsL_law (wsV RL 133 RX6 yX6_gain wsX6_gain) := goodIn_app (goodIn_of _ (by decide +kernel)) ggL_law_X6_gain
set_option maxRecDepth 20000 in
theorem ggL_law_X5_best : GoodIn wsL_law wsX5_best := goodIn_r _ [759, 396, 397, 398, 2, 399, 400, 401, 402, 403, 25, 20, 404, 146, 147, 405, 406, 407, 19, 408, 57, 409, 410, 29, 411, 412, 413, 414, 415, 416, 417, 418, 419, 760, 761, 762, 763, 420, 320, 321, 322, 323, 324, 325, 388, 389, 390, 391, 56, 54, 183, 184, 185, 186, 51, 52, 50, 744, 745, 746, 747, 392, 393, 394, 395, 53, 191, 192, 193, 194, 195, 196, 197, 198, 764, 765, 766, 767, 620, 621, 622, 623, 37, 38, 1003, 1004, 1005, 1006, 1007, 1008, 1009, 1010, 1011, 1012, 1054, 1055, 1056, 1045, 1046, 1047, 1048, 1049, 1050, 1051, 1052, 1053] (by decide +kernel) (by decide +kernel)
set_option maxRecDepth 20000 in
theorem gL_law_X5_best : GoodIn wsL_law (wsV RL 134 RX5 yX5_best wsX5_best) := goodIn_app (goodIn_of _ (by decide +kernel)) ggL_law_X5_best
set_option maxRecDepth 20000 in
theorem ggL_law_X6_best : GoodIn wsL_law wsX6_best := goodIn_r _ [771, 111, 772, 773, 774, 775, 5, 776, 219, 83, 88, 429, 430, 431, 432, 221, 90, 433, 434, 435, 436, 94, 85, 437, 438, 439, 440, 441, 442, 321, 443, 444, 316, 317, 318, 319, 320, 322, 323, 324, 325, 268, 269, 270, 271, 272, 273, 274, 275, 86, 89, 84, 276, 277, 278, 752, 753, 754, 755, 777, 778, 779, 780, 222, 567, 568, 569, 570, 571, 572, 573, 574, 575, 82, 1013, 1014, 1015, 1016, 1017, 1018, 1019, 1020, 1021, 1022, 1023, 1024, 1025, 1026, 1027, 1028, 1029, 1030, 1031, 1032, 1033, 1034, 1035, 1036, 1037, 1038, 1039, 1040, 1041] (by decide +kernel) (by decide +kernel)
set_option maxRecDepth 20000 in
theorem gL_law_X6_best : GoodIn wsL_law (wsV RL 137 RX6 yX6_best wsX6_best) := goodIn_app (goodIn_of _ (by decide +kernel)) ggL_law_X6_best
set_option maxRecDepth 20000 in
theorem ggL_law_X5_climbs : GoodIn wsL_law wsX5_climbs := goodIn_r _ [784, 20, 396, 397, 398, 2, 399, 400, 401, 402, 403, 25, 404, 146, 147, 405, 406, 407, 19, 408, 57, 409, 410, 29, 411, 412, 413, 414, 415, 416, 417, 418, 419, 760, 761, 762, 763, 420, 320, 321, 322, 323, 324, 325, 388, 389, 390, 391, 56, 54, 183, 184, 185, 186, 51, 52, 50, 744, 745, 746, 747, 392, 393, 394, 395, 53, 191, 192, 193, 194, 195, 196, 197, 198, 764, 765, 766, 767, 620, 621, 622, 623, 37, 38, 1003, 1004, 1005, 1006, 1007, 1008, 1009, 1010, 1011, 1012, 1054, 1055, 1056, 1045, 1046, 1047, 1048, 1049, 1050, 1051, 1052, 1053] (by decide +kernel) (by decide +kernel)
set_option maxRecDepth 20000 in
theorem gL_law_X5_climbs : GoodIn wsL_law (wsV RL 138 RX5 yX5_climbs wsX5_climbs) := goodIn_app (goodIn_of _ (by decide +kernel)) ggL_law_X5_climbs
set_option maxRecDepth 20000 in
theorem ggL_law_X6_climbs : GoodIn wsL_law wsX6_climbs := goodIn_r _ [788, 111, 344, 88, 125, 126, 5, 127, 773, 774, 775, 776, 772, 219, 83, 429, 430, 431, 432, 221, 90, 433, 434, 435, 436, 94, 85, 437, 438, 439, 440, 441, 442, 321, 443, 444, 316, 317, 318, 319, 320, 322, 323, 324, 325, 268, 269, 270, 271, 272, 273, 274, 275, 86, 89, 84, 276, 277, 278, 752, 753, 754, 755, 777, 778, 779, 780, 222, 567, 568, 569, 570, 571, 572, 573, 574, 575, 82, 1013, 1014, 1015, 1016, 1017, 1018, 1019, 1020, 1021, 1022, 1023, 1024, 1025, 1026, 1027, 1028, 1029, 1030, 1031, 1032, 1033, 1034, 1035, 1036, 1037, 1038, 1039, 1040, 1041] (by decide +kernel) (by decide +kernel)
set_option maxRecDepth 20000 in
theorem gL_law_X6_climbs : GoodIn wsL_law (wsV RL 141 RX6 yX6_climbs wsX6_climbs) := goodIn_app (goodIn_of _ (by decide +kernel)) ggL_law_X6_climbs
set_option maxRecDepth 20000 in
theorem ggL_law_X5_exchange : GoodIn wsL_law wsX5_exchange := goodIn_r _ [792, 20, 396, 397, 398, 2, 399, 400, 401, 402, 403, 25, 404, 146, 147, 405, 406, 407, 19, 408, 57, 409, 410, 29, 411, 412, 413, 414, 415, 416, 417, 418, 419, 420, 320, 321, 322, 323, 324, 325, 793, 794, 795, 796, 56, 457, 458, 459, 460, 461, 462, 463, 464, 54, 183, 184, 185, 186, 51, 52, 50, 797, 798, 799, 800, 465, 466, 467, 468, 469, 393, 394, 395, 53, 191, 192, 193, 194, 195, 196, 197, 198, 764, 765, 766, 767, 620, 621, 622, 623, 37, 38, 1003, 1004, 1005, 1006, 1007, 1008, 1009, 1010, 1011, 1012, 1045, 1046, 1047, 1048, 1049, 1050, 1051, 1052, 1053, 1054, 1055, 1056] (by decide +kernel) (by decide +kernel)
set_option maxRecDepth 20000 in
theorem gL_law_X5_exchange : GoodIn wsL_law (wsV RL 142 RX5 yX5_exchange wsX5_exchange) := goodIn_app (goodIn_of _ (by decide +kernel)) ggL_law_X5_exchange
set_option maxRecDepth 20000 in
theorem ggL_law_X6_exchange : GoodIn wsL_law wsX6_exchange := goodIn_r _ [804, 111, 219, 88, 429, 430, 431, 5, 432, 221, 90, 433, 434, 435, 436, 94, 85, 437, 438, 439, 440, 441, 442, 321, 443, 444, 316, 317, 318, 319, 320, 322, 323, 324, 325, 474, 475, 476, 477, 478, 479, 480, 481, 482, 483, 484, 485, 268, 269, 270, 271, 272, 273, 274, 275, 86, 89, 84, 276, 277, 278, 777, 778, 779, 780, 222, 567, 568, 569, 570, 571, 572, 573, 574, 575, 82, 1013, 1014, 1015, 1016, 1017, 1018, 1019, 1020, 1021, 1022, 1023, 1024, 1025, 1026, 1027, 1028, 1029, 1030, 1031, 1032, 1033, 1034, 1035, 1036, 1037, 1038, 1039, 1040, 1041] (by decide +kernel) (by decide +kernel)
set_option maxRecDepth 20000 in
theorem gL_law_X6_exchange : GoodIn wsL_law (wsV RL 145 RX6 yX6_exchange wsX6_exchange) := goodIn_app (goodIn_of _ (by decide +kernel)) ggL_law_X6_exchange
set_option maxRecDepth 20000 in
theorem ggL_law_X5_splits : GoodIn wsL_law wsX5_splits := goodIn_r _ [808, 20, 330, 331, 2, 332, 333, 334, 335, 619, 180, 181, 19, 182, 49, 183, 184, 185, 186, 51, 56, 54, 52, 50, 146, 147, 396, 397, 398, 399, 400, 401, 402, 403, 25, 404, 405, 406, 407, 408, 57, 409, 410, 29, 411, 412, 413, 414, 415, 416, 417, 418, 419, 420, 320, 321, 322, 323, 324, 325, 620, 621, 622, 623, 37, 38, 1003, 1004, 1005, 1006, 1007, 1008, 1009, 1010, 1011, 1012, 1045, 1046, 1047, 1048, 1049, 1050, 1051, 1052, 1053, 1054, 1055, 1056] (by decide +kernel) (by decide +kernel)
set_option maxRecDepth 20000 in
theorem gL_law_X5_splits : GoodIn wsL_law (wsV RL 146 RX5 yX5_splits wsX5_splits) := goodIn_app (goodIn_of _ (by decide +kernel)) ggL_law_X5_splits
set_option maxRecDepth 20000 in
theorem ggL_law_X6_splits : GoodIn wsL_law wsX6_splits := goodIn_r _ [812, 111, 219, 85, 86, 88, 83, 345, 346, 5, 347, 348, 125, 126, 127, 349, 350, 351, 268, 269, 270, 271, 272, 273, 274, 275, 89, 84, 276, 277, 278, 752, 753, 754, 755, 429, 430, 431, 432, 221, 90, 433, 434, 435, 436, 94, 437, 438, 439, 440, 441, 442, 321, 443, 444, 316, 317, 318, 319, 320, 322, 323, 324, 325, 567, 568, 569, 570, 571, 572, 573, 574, 575, 82, 1013, 1014, 1015, 1016, 1017, 1018, 1019, 1020, 1021, 1022, 1023, 1024, 1025, 1026, 1027, 1028, 1029, 1030, 1031, 1032, 1033, 1034, 1035, 1036, 1037, 1038, 1039, 1040, 1041] (by decide +kernel) (by decide +kernel)
set_option maxRecDepth 20000 in
theorem gL_law_X6_splits : GoodIn wsL_law (wsV RL 149 RX6 yX6_splits wsX6_splits) := goodIn_app (goodIn_of _ (by decide +kernel)) ggL_law_X6_splits
