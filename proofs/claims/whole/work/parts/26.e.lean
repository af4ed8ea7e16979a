set_option maxRecDepth 20000 in
theorem ggL_law_X6_planned : GoodIn wsL_law wsX6_planned := goodIn_r _ [653, 36, 654, 655, 656, 35, 657, 87, 92, 95, 93, 90, 91, 760, 761, 762, 763, 764, 765, 766, 767, 834, 835, 836, 837, 838, 839, 840, 841, 842, 843, 844, 845, 846, 847] (by decide +kernel) (by decide +kernel)
set_option maxRecDepth 20000 in
theorem gL_law_X6_planned : GoodIn wsL_law (wsV RL 76 RX6 yX6_planned wsX6_planned) := goodIn_app (goodIn_of _ (by decide +kernel)) ggL_law_X6_planned
set_option maxRecDepth 20000 in
theorem ggL_law_X7_planned : GoodIn wsL_law wsX7_planned := goodIn_r _ [661, 145, 627, 630, 123, 124, 628, 629, 768, 769, 770, 771, 772, 773, 774, 775, 776, 777, 778, 779, 780, 781, 782, 783, 784, 785, 786, 787, 788, 789, 790, 791, 792, 793, 794, 795, 796, 797, 798, 799, 800, 801, 802, 803, 804, 805, 806, 807, 808, 809, 810] (by decide +kernel) (by decide +kernel)
set_option maxRecDepth 20000 in
theorem gL_law_X7_planned : GoodIn wsL_law (wsV RL 79 RX7 yX7_planned wsX7_planned) := goodIn_app (goodIn_of _ (by decide +kernel)) ggL_law_X7_planned
set_option maxRecDepth 20000 in
theorem ggL_law_X6_visit : GoodIn wsL_law wsX6_visit := goodIn_r _ [665, 28, 374, 375, 376, 27, 377, 74, 408, 409, 410, 411, 71, 666, 667, 668, 669, 670, 671, 672, 73, 673, 674, 246, 675, 72, 760, 761, 762, 763, 764, 765, 766, 767, 826, 827, 828, 829, 830, 831, 832] (by decide +kernel) (by decide +kernel)
set_option maxRecDepth 20000 in
theorem gL_law_X6_visit : GoodIn wsL_law (wsV RL 80 RX6 yX6_visit wsX6_visit) := goodIn_app (goodIn_of _ (by decide +kernel)) ggL_law_X6_visit
set_option maxRecDepth 20000 in
theorem ggL_law_X7_visit : GoodIn wsL_law wsX7_visit := goodIn_r _ [679, 145, 112, 114, 113, 494, 495, 496, 5, 497, 365, 768, 769, 770, 771, 772, 773, 774, 775, 776, 777, 778, 779, 780, 781, 782, 783, 784, 785, 786, 787, 788, 789, 790, 791, 792, 793, 794, 795, 796, 797, 798, 799, 800, 801, 802, 803, 804, 805, 806, 807, 808, 809, 810] (by decide +kernel) (by decide +kernel)
set_option maxRecDepth 20000 in
theorem gL_law_X7_visit : GoodIn wsL_law (wsV RL 84 RX7 yX7_visit wsX7_visit) := goodIn_app (goodIn_of _ (by decide +kernel)) ggL_law_X7_visit
set_option maxRecDepth 20000 in
theorem ggL_law_X6_still : GoodIn wsL_law wsX6_still := goodIn_r _ [683, 449, 28, 666, 667, 27, 668, 684, 685, 686, 687, 74, 72, 688, 689, 690, 691, 73, 459, 460, 2, 461, 462, 463, 464, 760, 761, 762, 763, 764, 765, 766, 767, 826, 827, 828, 829, 830, 831, 832] (by decide +kernel) (by decide +kernel)
set_option maxRecDepth 20000 in
theorem gL_law_X6_still : GoodIn wsL_law (wsV RL 85 RX6 yX6_still wsX6_still) := goodIn_app (goodIn_of _ (by decide +kernel)) ggL_law_X6_still
set_option maxRecDepth 20000 in
theorem ggL_law_X7_still : GoodIn wsL_law wsX7_still := goodIn_r _ [695, 145, 469, 365, 112, 113, 114, 474, 475, 5, 476, 768, 769, 770, 771, 772, 773, 774, 775, 776, 777, 778, 779, 780, 781, 782, 783, 784, 785, 786, 787, 788, 789, 790, 791, 792, 793, 794, 795, 796, 797, 798, 799, 800, 801, 802, 803, 804, 805, 806, 807, 808, 809, 810] (by decide +kernel) (by decide +kernel)
set_option maxRecDepth 20000 in
theorem gL_law_X7_still : GoodIn wsL_law (wsV RL 88 RX7 yX7_still wsX7_still) := goodIn_app (goodIn_of _ (by decide +kernel)) ggL_law_X7_still
set_option maxRecDepth 20000 in
theorem ggL_law_L_look : GoodIn wsL_law wsL_look := goodIn_ca (goodIn_ca (goodIn_r _ [699, 700, 701, 702, 703, 704, 2, 705, 706, 707, 708, 709, 28, 20, 374, 375, 376, 27, 377, 74, 412, 413, 414, 415, 68, 710, 531, 532, 533, 69, 508, 509, 510, 19, 511, 48, 711, 521, 522, 523, 70, 524, 409, 410, 411, 71, 712, 713, 714, 715, 716, 717, 718, 719, 720, 721, 722, 723, 72, 724, 725, 726, 727, 73, 760, 761, 762, 763, 764, 765, 766, 767, 826, 827, 828, 829, 830, 831, 832, 813, 814, 815, 816, 817, 818, 819] (by decide +kernel) (by decide +kernel)) (goodIn_sub (fun _ h => List.mem_append_left _ (List.mem_append_right _ h)) (by decide +kernel))) (goodIn_sub (fun _ h => List.mem_append_right _ h) (by decide +kernel))
set_option maxRecDepth 20000 in
theorem gL_law_L_look : GoodIn wsL_law (va_wsS RL 89 yL_look wsL_look) := goodIn_app (goodIn_of _ (by decide +kernel)) ggL_law_L_look
set_option maxRecDepth 20000 in
theorem ggL_law_X7_look : GoodIn wsL_law wsX7_look := goodIn_r _ [731, 145, 109, 110, 112, 111, 102, 113, 114, 494, 495, 496, 5, 497, 365, 732, 733, 734, 735, 768, 769, 770, 771, 772, 773, 774, 775, 776, 777, 778, 779, 780, 781, 782, 783, 784, 785, 786, 787, 788, 789, 790, 791, 792, 793, 794, 795, 796, 797, 798, 799, 800, 801, 802, 803, 804, 805, 806, 807, 808, 809, 810] (by decide +kernel) (by decide +kernel)
set_option maxRecDepth 20000 in
theorem gL_law_X7_look : GoodIn wsL_law (wsV RL 94 RX7 yX7_look wsX7_look) := goodIn_app (goodIn_of _ (by decide +kernel)) ggL_law_X7_look
set_option maxRecDepth 20000 in
theorem ggL_law_X7_thrown : GoodIn wsL_law wsX7_thrown := goodIn_r _ [739, 145, 768, 769, 770, 771, 772, 773, 774, 775, 776, 777, 778, 779, 780, 781, 782, 783, 784, 785, 786, 787, 788, 789, 790, 791, 792, 793, 794, 795, 796, 797, 798, 799, 800, 801, 802, 803, 804, 805, 806, 807, 808, 809, 810] (by decide +kernel) (by decide +kernel)
set_option maxRecDepth 20000 in
theorem gL_law_X7_thrown : GoodIn wsL_law (wsV RL 95 RX7 yX7_thrown wsX7_thrown) := goodIn_app (goodIn_of _ (by decide +kernel)) ggL_law_X7_thrown
set_option maxRecDepth 20000 in
theorem ggL_law_X6_count : GoodIn wsL_law wsX6_count := goodIn_r _ [743, 24, 28, 38, 37, 744, 745, 746, 23, 747, 64, 534, 517, 518, 27, 519, 74, 748, 749, 750, 751, 69, 524, 409, 410, 411, 71, 752, 753, 754, 755, 63, 760, 761, 762, 763, 764, 765, 766, 767, 820, 821, 822, 823, 824, 825, 826, 827, 828, 829, 830, 831, 832] (by decide +kernel) (by decide +kernel)
set_option maxRecDepth 20000 in
theorem gL_law_X6_count : GoodIn wsL_law (wsV RL 99 RX6 yX6_count wsX6_count) := goodIn_app (goodIn_of _ (by decide +kernel)) ggL_law_X6_count
set_option maxRecDepth 20000 in
theorem ggL_law_X7_count : GoodIn wsL_law wsX7_count := goodIn_r _ [759, 145, 327, 365, 403, 402, 112, 110, 444, 768, 769, 770, 771, 772, 773, 774, 775, 776, 777, 778, 779, 780, 781, 782, 783, 784, 785, 786, 787, 788, 789, 790, 791, 792, 793, 794, 795, 796, 797, 798, 799, 800, 801, 802, 803, 804, 805, 806, 807, 808, 809, 810] (by decide +kernel) (by decide +kernel)
set_option maxRecDepth 20000 in
theorem gL_law_X7_count : GoodIn wsL_law (wsV RL 102 RX7 yX7_count wsX7_count) := goodIn_app (goodIn_of _ (by decide +kernel)) ggL_law_X7_count
