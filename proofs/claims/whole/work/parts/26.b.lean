set_option maxRecDepth 20000 in
theorem ggL_law_X6_chance : GoodIn wsL_law wsX6_chance := goodIn_r _ [334, 24, 335, 336, 23, 337, 338, 339, 340, 341, 342, 343, 344, 60, 760, 761, 762, 763, 764, 765, 766, 767, 820, 821, 822, 823, 824, 825] (by decide +kernel) (by decide +kernel)
set_option maxRecDepth 20000 in
theorem gL_law_X6_chance : GoodIn wsL_law (wsV RL 40 RX6 yX6_chance wsX6_chance) := goodIn_app (goodIn_of _ (by decide +kernel)) ggL_law_X6_chance
set_option maxRecDepth 20000 in
theorem ggL_law_X7_chance : GoodIn wsL_law wsX7_chance := goodIn_r _ [348, 145, 108, 768, 769, 770, 771, 772, 773, 774, 775, 776, 777, 778, 779, 780, 781, 782, 783, 784, 785, 786, 787, 788, 789, 790, 791, 792, 793, 794, 795, 796, 797, 798, 799, 800, 801, 802, 803, 804, 805, 806, 807, 808, 809, 810] (by decide +kernel) (by decide +kernel)
set_option maxRecDepth 20000 in
theorem gL_law_X7_chance : GoodIn wsL_law (wsV RL 44 RX7 yX7_chance wsX7_chance) := goodIn_app (goodIn_of _ (by decide +kernel)) ggL_law_X7_chance
set_option maxRecDepth 20000 in
theorem ggL_law_X6_village : GoodIn wsL_law wsX6_village := goodIn_r _ [352, 24, 28, 353, 354, 355, 23, 356, 64, 357, 358, 359, 27, 360, 74, 68, 69, 70, 71, 72, 73, 760, 761, 762, 763, 764, 765, 766, 767, 820, 821, 822, 823, 824, 825, 826, 827, 828, 829, 830, 831, 832] (by decide +kernel) (by decide +kernel)
set_option maxRecDepth 20000 in
theorem gL_law_X6_village : GoodIn wsL_law (wsV RL 45 RX6 yX6_village wsX6_village) := goodIn_app (goodIn_of _ (by decide +kernel)) ggL_law_X6_village
set_option maxRecDepth 20000 in
theorem ggL_law_X7_village : GoodIn wsL_law wsX7_village := goodIn_r _ [364, 145, 365, 327, 109, 110, 111, 112, 113, 114, 768, 769, 770, 771, 772, 773, 774, 775, 776, 777, 778, 779, 780, 781, 782, 783, 784, 785, 786, 787, 788, 789, 790, 791, 792, 793, 794, 795, 796, 797, 798, 799, 800, 801, 802, 803, 804, 805, 806, 807, 808, 809, 810] (by decide +kernel) (by decide +kernel)
set_option maxRecDepth 20000 in
theorem gL_law_X7_village : GoodIn wsL_law (wsV RL 48 RX7 yX7_village wsX7_village) := goodIn_app (goodIn_of _ (by decide +kernel)) ggL_law_X7_village
set_option maxRecDepth 20000 in
theorem ggL_law_X6_way : GoodIn wsL_law wsX6_way := goodIn_r _ [369, 32, 370, 371, 372, 2, 373, 28, 374, 375, 376, 27, 377, 74, 378, 379, 380, 31, 381, 78, 760, 761, 762, 763, 764, 765, 766, 767, 826, 827, 828, 829, 830, 831, 832, 833] (by decide +kernel) (by decide +kernel)
set_option maxRecDepth 20000 in
theorem gL_law_X6_way : GoodIn wsL_law (wsV RL 49 RX6 yX6_way wsX6_way) := goodIn_app (goodIn_of _ (by decide +kernel)) ggL_law_X6_way
set_option maxRecDepth 20000 in
theorem ggL_law_X7_way : GoodIn wsL_law wsX7_way := goodIn_r _ [385, 145, 365, 115, 768, 769, 770, 771, 772, 773, 774, 775, 776, 777, 778, 779, 780, 781, 782, 783, 784, 785, 786, 787, 788, 789, 790, 791, 792, 793, 794, 795, 796, 797, 798, 799, 800, 801, 802, 803, 804, 805, 806, 807, 808, 809, 810] (by decide +kernel) (by decide +kernel)
set_option maxRecDepth 20000 in
theorem gL_law_X7_way : GoodIn wsL_law (wsV RL 52 RX7 yX7_way wsX7_way) := goodIn_app (goodIn_of _ (by decide +kernel)) ggL_law_X7_way
set_option maxRecDepth 20000 in
theorem ggL_law_X6_go : GoodIn wsL_law wsX6_go := goodIn_r _ [389, 37, 32, 38, 370, 371, 372, 2, 373, 28, 374, 375, 376, 27, 377, 74, 390, 391, 392, 31, 393, 78, 394, 395, 396, 397, 760, 761, 762, 763, 764, 765, 766, 767, 826, 827, 828, 829, 830, 831, 832, 833] (by decide +kernel) (by decide +kernel)
set_option maxRecDepth 20000 in
theorem gL_law_X6_go : GoodIn wsL_law (wsV RL 53 RX6 yX6_go wsX6_go) := goodIn_app (goodIn_of _ (by decide +kernel)) ggL_law_X6_go
set_option maxRecDepth 20000 in
theorem ggL_law_X7_go : GoodIn wsL_law wsX7_go := goodIn_r _ [401, 145, 365, 402, 115, 403, 768, 769, 770, 771, 772, 773, 774, 775, 776, 777, 778, 779, 780, 781, 782, 783, 784, 785, 786, 787, 788, 789, 790, 791, 792, 793, 794, 795, 796, 797, 798, 799, 800, 801, 802, 803, 804, 805, 806, 807, 808, 809, 810] (by decide +kernel) (by decide +kernel)
set_option maxRecDepth 20000 in
theorem gL_law_X7_go : GoodIn wsL_law (wsV RL 56 RX7 yX7_go wsX7_go) := goodIn_app (goodIn_of _ (by decide +kernel)) ggL_law_X7_go
set_option maxRecDepth 20000 in
theorem ggL_law_X6_drill : GoodIn wsL_law wsX6_drill := goodIn_r _ [407, 28, 37, 38, 20, 24, 374, 375, 376, 27, 377, 74, 408, 409, 410, 411, 71, 338, 339, 23, 340, 412, 413, 414, 415, 68, 416, 417, 418, 19, 419, 48, 420, 421, 422, 423, 63, 424, 425, 426, 427, 62, 61, 428, 429, 430, 431, 432, 433, 434, 435, 436, 437, 438, 439, 70, 760, 761, 762, 763, 764, 765, 766, 767, 826, 827, 828, 829, 830, 831, 832, 813, 814, 815, 816, 817, 818, 819, 820, 821, 822, 823, 824, 825] (by decide +kernel) (by decide +kernel)
set_option maxRecDepth 20000 in
theorem gL_law_X6_drill : GoodIn wsL_law (wsV RL 57 RX6 yX6_drill wsX6_drill) := goodIn_app (goodIn_of _ (by decide +kernel)) ggL_law_X6_drill
set_option maxRecDepth 20000 in
theorem ggL_law_X7_drill : GoodIn wsL_law wsX7_drill := goodIn_r _ [443, 145, 402, 112, 109, 105, 403, 269, 106, 107, 444, 101, 111, 768, 769, 770, 771, 772, 773, 774, 775, 776, 777, 778, 779, 780, 781, 782, 783, 784, 785, 786, 787, 788, 789, 790, 791, 792, 793, 794, 795, 796, 797, 798, 799, 800, 801, 802, 803, 804, 805, 806, 807, 808, 809, 810] (by decide +kernel) (by decide +kernel)
set_option maxRecDepth 20000 in
theorem gL_law_X7_drill : GoodIn wsL_law (wsV RL 61 RX7 yX7_drill wsX7_drill) := goodIn_app (goodIn_of _ (by decide +kernel)) ggL_law_X7_drill
set_option maxRecDepth 20000 in
theorem ggL_law_X6_likely : GoodIn wsL_law wsX6_likely := goodIn_r _ [448, 24, 449, 353, 354, 355, 23, 356, 64, 335, 336, 337, 450, 451, 452, 453, 454, 455, 456, 457, 59, 60, 61, 62, 458, 459, 460, 2, 461, 462, 463, 464, 760, 761, 762, 763, 764, 765, 766, 767, 820, 821, 822, 823, 824, 825] (by decide +kernel) (by decide +kernel)
set_option maxRecDepth 20000 in
theorem gL_law_X6_likely : GoodIn wsL_law (wsV RL 62 RX6 yX6_likely wsX6_likely) := goodIn_app (goodIn_of _ (by decide +kernel)) ggL_law_X6_likely
set_option maxRecDepth 20000 in
theorem ggL_law_X7_likely : GoodIn wsL_law wsX7_likely := goodIn_r _ [468, 145, 327, 469, 118, 470, 471, 472, 5, 473, 104, 105, 108, 106, 107, 474, 475, 476, 768, 769, 770, 771, 772, 773, 774, 775, 776, 777, 778, 779, 780, 781, 782, 783, 784, 785, 786, 787, 788, 789, 790, 791, 792, 793, 794, 795, 796, 797, 798, 799, 800, 801, 802, 803, 804, 805, 806, 807, 808, 809, 810] (by decide +kernel) (by decide +kernel)
set_option maxRecDepth 20000 in
theorem gL_law_X7_likely : GoodIn wsL_law (wsV RL 66 RX7 yX7_likely wsX7_likely) := goodIn_app (goodIn_of _ (by decide +kernel)) ggL_law_X7_likely
