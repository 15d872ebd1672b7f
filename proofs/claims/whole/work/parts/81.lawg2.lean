set_option maxRecDepth 20000 in
theorem ggL_law_X6_key : GoodIn wsL_law wsX6_key := goodIn_r _ [323, 324, 99, 139, 140, 5, 141, 842, 843, 844, 845, 846, 847, 848, 849, 850, 851, 852, 853, 854, 855, 856, 857, 858, 859, 860, 861, 862] (by decide +kernel) (by decide +kernel)
set_option maxRecDepth 20000 in
theorem gL_law_X6_key : GoodIn wsL_law (wsV RL 34 RX6 yX6_key wsX6_key) := goodIn_app (goodIn_of _ (by decide +kernel)) ggL_law_X6_key
set_option maxRecDepth 20000 in
theorem ggL_law_X5_wipe : GoodIn wsL_law wsX5_wipe := goodIn_r _ [328, 19, 316, 317, 318, 18, 319, 45, 329, 330, 331, 332, 833, 834, 835, 836, 837, 838, 839, 840, 841, 865, 866] (by decide +kernel) (by decide +kernel)
set_option maxRecDepth 20000 in
theorem gL_law_X5_wipe : GoodIn wsL_law (wsV RL 35 RX5 yX5_wipe wsX5_wipe) := goodIn_app (goodIn_of _ (by decide +kernel)) ggL_law_X5_wipe
set_option maxRecDepth 20000 in
theorem ggL_law_X6_wipe : GoodIn wsL_law wsX6_wipe := goodIn_r _ [336, 324, 842, 843, 844, 845, 846, 847, 848, 849, 850, 851, 852, 853, 854, 855, 856, 857, 858, 859, 860, 861, 862] (by decide +kernel) (by decide +kernel)
set_option maxRecDepth 20000 in
theorem gL_law_X6_wipe : GoodIn wsL_law (wsV RL 39 RX6 yX6_wipe wsX6_wipe) := goodIn_app (goodIn_of _ (by decide +kernel)) ggL_law_X6_wipe
set_option maxRecDepth 20000 in
theorem ggL_law_X5_paragraph : GoodIn wsL_law wsX5_paragraph := goodIn_r _ [340, 23, 19, 15, 32, 341, 342, 343, 22, 344, 55, 51, 345, 346, 347, 348, 196, 197, 198, 199, 151, 152, 153, 154, 54, 155, 156, 157, 158, 200, 177, 178, 53, 179, 70, 349, 350, 351, 18, 352, 45, 353, 354, 355, 356, 357, 358, 359, 360, 44, 119, 2, 120, 361, 362, 363, 14, 364, 125, 126, 127, 128, 39, 129, 130, 365, 366, 367, 368, 369, 370, 371, 372, 373, 68, 67, 62, 63, 64, 65, 66, 69, 71, 72, 73, 74, 75, 76, 77, 374, 375, 317, 318, 319, 376, 377, 378, 379, 380, 381, 382, 383, 60, 61, 384, 385, 386, 387, 388, 389, 390, 391, 392, 393, 394, 395, 396, 397, 398, 399, 400, 401, 402, 403, 404, 405, 406, 407, 408, 409, 410, 411, 412, 413, 414, 415, 416, 417, 418, 419, 420, 421, 329, 330, 331, 332, 171, 172, 173, 174, 833, 834, 835, 836, 837, 838, 839, 840, 841, 867, 868, 869, 879, 880, 881, 882, 883, 884, 885, 886, 887, 888, 889, 890, 891, 892, 865, 866, 863, 864] (by decide +kernel) (by decide +kernel)
set_option maxRecDepth 20000 in
theorem gL_law_X5_paragraph : GoodIn wsL_law (wsV RL 40 RX5 yX5_paragraph wsX5_paragraph) := goodIn_app (goodIn_of _ (by decide +kernel)) ggL_law_X5_paragraph
set_option maxRecDepth 20000 in
theorem ggL_law_X6_paragraph : GoodIn wsL_law wsX6_paragraph := goodIn_r _ [425, 230, 426, 104, 231, 105, 324, 427, 428, 429, 5, 430, 100, 103, 99, 240, 241, 242, 243, 244, 245, 246, 247, 101, 431, 432, 433, 434, 102, 435, 436, 437, 438, 439, 440, 441, 139, 140, 141, 232, 233, 234, 235, 97, 842, 843, 844, 845, 846, 847, 848, 849, 850, 851, 852, 853, 854, 855, 856, 857, 858, 859, 860, 861, 862] (by decide +kernel) (by decide +kernel)
set_option maxRecDepth 20000 in
theorem gL_law_X6_paragraph : GoodIn wsL_law (wsV RL 43 RX6 yX6_paragraph wsX6_paragraph) := goodIn_app (goodIn_of _ (by decide +kernel)) ggL_law_X6_paragraph
set_option maxRecDepth 20000 in
theorem ggL_law_X5_cut : GoodIn wsL_law wsX5_cut := goodIn_r _ [445, 23, 171, 172, 173, 22, 174, 55, 446, 447, 448, 449, 833, 834, 835, 836, 837, 838, 839, 840, 841, 867, 868, 869] (by decide +kernel) (by decide +kernel)
set_option maxRecDepth 20000 in
theorem gL_law_X5_cut : GoodIn wsL_law (wsV RL 44 RX5 yX5_cut wsX5_cut) := goodIn_app (goodIn_of _ (by decide +kernel)) ggL_law_X5_cut
set_option maxRecDepth 20000 in
theorem ggL_law_X6_cut : GoodIn wsL_law wsX6_cut := goodIn_r _ [453, 230, 842, 843, 844, 845, 846, 847, 848, 849, 850, 851, 852, 853, 854, 855, 856, 857, 858, 859, 860, 861, 862] (by decide +kernel) (by decide +kernel)
set_option maxRecDepth 20000 in
theorem gL_law_X6_cut : GoodIn wsL_law (wsV RL 47 RX6 yX6_cut wsX6_cut) := goodIn_app (goodIn_of _ (by decide +kernel)) ggL_law_X6_cut
set_option maxRecDepth 20000 in
theorem ggL_law_X5_ofParagraph : GoodIn wsL_law wsX5_ofParagraph := goodIn_r _ [457, 23, 458, 156, 157, 22, 158, 55, 175, 152, 153, 154, 51, 54, 155, 459, 460, 461, 53, 462, 66, 463, 464, 465, 466, 70, 467, 202, 203, 204, 67, 468, 469, 470, 471, 68, 472, 473, 474, 475, 73, 476, 477, 478, 479, 69, 833, 834, 835, 836, 837, 838, 839, 840, 841, 867, 868, 869, 879, 880, 881, 882, 883, 884, 885, 886, 887, 888, 889, 890, 891, 892] (by decide +kernel) (by decide +kernel)
set_option maxRecDepth 20000 in
theorem gL_law_X5_ofParagraph : GoodIn wsL_law (wsV RL 48 RX5 yX5_ofParagraph wsX5_ofParagraph) := goodIn_app (goodIn_of _ (by decide +kernel)) ggL_law_X5_ofParagraph
set_option maxRecDepth 20000 in
theorem ggL_law_X6_ofParagraph : GoodIn wsL_law wsX6_ofParagraph := goodIn_r _ [483, 100, 103, 104, 105, 484, 485, 486, 5, 487, 230, 139, 140, 141, 244, 245, 246, 247, 101, 283, 284, 285, 286, 263, 264, 265, 266, 256, 257, 258, 259, 267, 268, 269, 270, 271, 272, 273, 274, 842, 843, 844, 845, 846, 847, 848, 849, 850, 851, 852, 853, 854, 855, 856, 857, 858, 859, 860, 861, 862] (by decide +kernel) (by decide +kernel)
set_option maxRecDepth 20000 in
theorem gL_law_X6_ofParagraph : GoodIn wsL_law (wsV RL 51 RX6 yX6_ofParagraph wsX6_ofParagraph) := goodIn_app (goodIn_of _ (by decide +kernel)) ggL_law_X6_ofParagraph
set_option maxRecDepth 20000 in
theorem ggL_law_X5_set : GoodIn wsL_law wsX5_set := goodIn_r _ [491, 23, 27, 458, 156, 157, 22, 158, 55, 175, 152, 153, 154, 51, 54, 155, 176, 177, 178, 53, 179, 70, 163, 164, 165, 2, 166, 15, 33, 167, 168, 169, 26, 170, 92, 171, 172, 173, 174, 180, 181, 182, 183, 68, 72, 74, 75, 76, 77, 69, 184, 185, 186, 14, 187, 39, 188, 189, 190, 191, 38, 129, 130, 192, 193, 194, 195, 196, 197, 198, 199, 151, 200, 201, 202, 203, 204, 67, 205, 206, 207, 208, 83, 84, 85, 119, 120, 492, 214, 215, 216, 217, 218, 219, 220, 493, 494, 495, 496, 86, 213, 497, 498, 499, 500, 87, 501, 502, 503, 504, 505, 506, 507, 508, 509, 510, 511, 512, 513, 514, 515, 516, 517, 518, 519, 520, 521, 522, 523, 524, 525, 526, 90, 91, 527, 528, 529, 530, 531, 532, 533, 534, 535, 536, 537, 538, 539, 540, 89, 541, 542, 543, 544, 545, 546, 547, 548, 549, 550, 551, 552, 833, 834, 835, 836, 837, 838, 839, 840, 841, 867, 868, 869, 879, 880, 881, 882, 883, 884, 885, 886, 887, 888, 889, 890, 891, 892, 870, 871, 872, 873, 874, 875, 876, 877, 878, 863, 864] (by decide +kernel) (by decide +kernel)
set_option maxRecDepth 20000 in
theorem gL_law_X5_set : GoodIn wsL_law (wsV RL 52 RX5 yX5_set wsX5_set) := goodIn_app (goodIn_of _ (by decide +kernel)) ggL_law_X5_set
set_option maxRecDepth 20000 in
theorem ggL_law_X6_set : GoodIn wsL_law wsX6_set := goodIn_r _ [556, 106, 107, 112, 484, 485, 486, 5, 487, 230, 139, 140, 141, 240, 241, 242, 243, 244, 245, 246, 247, 100, 101, 557, 558, 559, 560, 561, 562, 563, 564, 248, 249, 250, 251, 104, 102, 98, 105, 252, 253, 254, 255, 97, 256, 257, 258, 259, 260, 261, 262, 263, 264, 265, 266, 267, 268, 269, 270, 271, 272, 273, 274, 275, 276, 277, 278, 279, 280, 281, 282, 283, 284, 285, 286, 565, 566, 567, 568, 108, 569, 570, 571, 572, 103, 573, 574, 575, 576, 577, 578, 579, 580, 581, 582, 583, 584, 585, 586, 587, 588, 589, 590, 591, 111, 592, 593, 594, 595, 596, 597, 598, 599, 600, 601, 602, 110, 603, 604, 605, 606, 842, 843, 844, 845, 846, 847, 848, 849, 850, 851, 852, 853, 854, 855, 856, 857, 858, 859, 860, 861, 862] (by decide +kernel) (by decide +kernel)
set_option maxRecDepth 20000 in
theorem gL_law_X6_set : GoodIn wsL_law (wsV RL 55 RX6 yX6_set wsX6_set) := goodIn_app (goodIn_of _ (by decide +kernel)) ggL_law_X6_set
