set_option maxRecDepth 20000 in
theorem ggL_law_X8_keep : GoodIn wsL_law wsX8_keep := goodIn_r _ [634, 42, 139, 140, 2, 141, 635, 636, 637, 638, 16, 639, 44, 640, 641, 96, 642, 643, 644, 645, 646, 647, 176, 20, 648, 536, 537, 538, 649, 650, 651, 652, 95, 653, 654, 85, 655, 656, 657, 658, 659, 24, 755, 756, 757, 758, 759, 760, 761, 762, 763, 847, 848, 849, 850, 851, 816, 817, 818, 819, 820, 821, 822, 823, 824, 825, 826, 827, 828, 829, 830, 831, 839, 840, 841, 842, 843] (by decide +kernel) (by decide +kernel)
set_option maxRecDepth 20000 in
theorem gL_law_X8_keep : GoodIn wsL_law (wsV RL 111 RX8 yX8_keep wsX8_keep) := goodIn_app (goodIn_of _ (by decide +kernel)) ggL_law_X8_keep
set_option maxRecDepth 20000 in
theorem ggL_law_X9_keep : GoodIn wsL_law wsX9_keep := goodIn_r _ [663, 150, 129, 130, 216, 109, 131, 132, 103, 104, 133, 105, 110, 664, 665, 5, 666, 667, 668, 669, 670, 210, 168, 169, 170, 171, 152, 406, 407, 408, 409, 219, 671, 672, 673, 674, 764, 765, 766, 767, 768, 769, 770, 771, 772, 773, 774, 775, 776, 777, 778, 779, 780, 781, 782, 783, 784, 785, 786, 787, 788, 789, 790, 791, 792, 793, 794, 795, 796, 797, 798, 799, 800, 801, 802, 803, 804, 805, 806, 807, 808, 809, 810, 811, 812, 813, 814, 815] (by decide +kernel) (by decide +kernel)
set_option maxRecDepth 20000 in
theorem gL_law_X9_keep : GoodIn wsL_law (wsV RL 114 RX9 yX9_keep wsX9_keep) := goodIn_app (goodIn_of _ (by decide +kernel)) ggL_law_X9_keep
set_option maxRecDepth 20000 in
theorem ggL_law_X8_make : GoodIn wsL_law wsX8_make := goodIn_r _ [678, 42, 139, 140, 2, 141, 649, 44, 650, 651, 96, 652, 95, 653, 654, 85, 655, 755, 756, 757, 758, 759, 760, 761, 762, 763, 847, 848, 849, 850, 851] (by decide +kernel) (by decide +kernel)
set_option maxRecDepth 20000 in
theorem gL_law_X8_make : GoodIn wsL_law (wsV RL 115 RX8 yX8_make wsX8_make) := goodIn_app (goodIn_of _ (by decide +kernel)) ggL_law_X8_make
set_option maxRecDepth 20000 in
theorem ggL_law_X9_make : GoodIn wsL_law wsX9_make := goodIn_r _ [682, 150, 151, 422, 129, 130, 133, 664, 665, 5, 666, 153, 154, 155, 764, 765, 766, 767, 768, 769, 770, 771, 772, 773, 774, 775, 776, 777, 778, 779, 780, 781, 782, 783, 784, 785, 786, 787, 788, 789, 790, 791, 792, 793, 794, 795, 796, 797, 798, 799, 800, 801, 802, 803, 804, 805, 806, 807, 808, 809, 810, 811, 812, 813, 814, 815] (by decide +kernel) (by decide +kernel)
set_option maxRecDepth 20000 in
theorem gL_law_X9_make : GoodIn wsL_law (wsV RL 118 RX9 yX9_make wsX9_make) := goodIn_app (goodIn_of _ (by decide +kernel)) ggL_law_X9_make
set_option maxRecDepth 20000 in
theorem ggL_law_L_element : GoodIn wsL_law wsL_element := goodIn_ca (goodIn_ca (goodIn_r _ [686, 687, 688, 689, 690, 691, 2, 692, 693, 694, 695, 696, 42, 139, 140, 141, 697, 44, 698, 699, 96, 755, 756, 757, 758, 759, 760, 761, 762, 763, 847, 848, 849, 850, 851] (by decide +kernel) (by decide +kernel)) (goodIn_sub (fun _ h => List.mem_append_left _ (List.mem_append_left _ (List.mem_append_right _ h))) (by decide +kernel))) (goodIn_sub (fun _ h => List.mem_append_left _ (List.mem_append_right _ h)) (by decide +kernel))
set_option maxRecDepth 20000 in
theorem gL_law_L_element : GoodIn wsL_law (va_wsS RL 119 yL_element wsL_element) := goodIn_app (goodIn_of _ (by decide +kernel)) ggL_law_L_element
set_option maxRecDepth 20000 in
theorem ggL_law_X9_element : GoodIn wsL_law wsX9_element := goodIn_r _ [703, 129, 130, 150, 133, 664, 665, 5, 666, 153, 154, 155, 764, 765, 766, 767, 768, 769, 770, 771, 772, 773, 774, 775, 776, 777, 778, 779, 780, 781, 782, 783, 784, 785, 786, 787, 788, 789, 790, 791, 792, 793, 794, 795, 796, 797, 798, 799, 800, 801, 802, 803, 804, 805, 806, 807, 808, 809, 810, 811, 812, 813, 814, 815] (by decide +kernel) (by decide +kernel)
set_option maxRecDepth 20000 in
theorem gL_law_X9_element : GoodIn wsL_law (wsV RL 124 RX9 yX9_element wsX9_element) := goodIn_app (goodIn_of _ (by decide +kernel)) ggL_law_X9_element
set_option maxRecDepth 20000 in
theorem ggL_law_X9_thrown : GoodIn wsL_law wsX9_thrown := goodIn_r _ [707, 150, 764, 765, 766, 767, 768, 769, 770, 771, 772, 773, 774, 775, 776, 777, 778, 779, 780, 781, 782, 783, 784, 785, 786, 787, 788, 789, 790, 791, 792, 793, 794, 795, 796, 797, 798, 799, 800, 801, 802, 803, 804, 805, 806, 807, 808, 809, 810, 811, 812, 813, 814, 815] (by decide +kernel) (by decide +kernel)
set_option maxRecDepth 20000 in
theorem gL_law_X9_thrown : GoodIn wsL_law (wsV RL 125 RX9 yX9_thrown wsX9_thrown) := goodIn_app (goodIn_of _ (by decide +kernel)) ggL_law_X9_thrown
set_option maxRecDepth 20000 in
theorem ggL_law_X8_copy : GoodIn wsL_law wsX8_copy := goodIn_r _ [711, 42, 712, 289, 290, 291, 139, 140, 2, 141, 697, 44, 698, 699, 96, 713, 714, 715, 652, 755, 756, 757, 758, 759, 760, 761, 762, 763, 847, 848, 849, 850, 851] (by decide +kernel) (by decide +kernel)
set_option maxRecDepth 20000 in
theorem gL_law_X8_copy : GoodIn wsL_law (wsV RL 128 RX8 yX8_copy wsX8_copy) := goodIn_app (goodIn_of _ (by decide +kernel)) ggL_law_X8_copy
set_option maxRecDepth 20000 in
theorem ggL_law_X9_copy : GoodIn wsL_law wsX9_copy := goodIn_r _ [719, 150, 129, 134, 133, 664, 665, 5, 666, 720, 721, 722, 723, 130, 764, 765, 766, 767, 768, 769, 770, 771, 772, 773, 774, 775, 776, 777, 778, 779, 780, 781, 782, 783, 784, 785, 786, 787, 788, 789, 790, 791, 792, 793, 794, 795, 796, 797, 798, 799, 800, 801, 802, 803, 804, 805, 806, 807, 808, 809, 810, 811, 812, 813, 814, 815] (by decide +kernel) (by decide +kernel)
set_option maxRecDepth 20000 in
theorem gL_law_X9_copy : GoodIn wsL_law (wsV RL 132 RX9 yX9_copy wsX9_copy) := goodIn_app (goodIn_of _ (by decide +kernel)) ggL_law_X9_copy
set_option maxRecDepth 20000 in
theorem ggL_law_X8_weight : GoodIn wsL_law wsX8_weight := goodIn_r _ [727, 42, 728, 729, 730, 2, 731, 139, 140, 141, 732, 733, 734, 755, 756, 757, 758, 759, 760, 761, 762, 763, 847, 848, 849, 850, 851] (by decide +kernel) (by decide +kernel)
set_option maxRecDepth 20000 in
theorem gL_law_X8_weight : GoodIn wsL_law (wsV RL 133 RX8 yX8_weight wsX8_weight) := goodIn_app (goodIn_of _ (by decide +kernel)) ggL_law_X8_weight
set_option maxRecDepth 20000 in
theorem ggL_law_X9_weight : GoodIn wsL_law wsX9_weight := goodIn_r _ [738, 150, 131, 739, 740, 741, 5, 742, 129, 664, 665, 666, 764, 765, 766, 767, 768, 769, 770, 771, 772, 773, 774, 775, 776, 777, 778, 779, 780, 781, 782, 783, 784, 785, 786, 787, 788, 789, 790, 791, 792, 793, 794, 795, 796, 797, 798, 799, 800, 801, 802, 803, 804, 805, 806, 807, 808, 809, 810, 811, 812, 813, 814, 815] (by decide +kernel) (by decide +kernel)
set_option maxRecDepth 20000 in
theorem gL_law_X9_weight : GoodIn wsL_law (wsV RL 136 RX9 yX9_weight wsX9_weight) := goodIn_app (goodIn_of _ (by decide +kernel)) ggL_law_X9_weight
set_option maxRecDepth 20000 in
theorem ggL_law_X8_toss : GoodIn wsL_law wsX8_toss := goodIn_ca (goodIn_r _ [746, 695, 42, 728, 729, 730, 2, 731, 139, 140, 141, 747, 44, 748, 749, 750, 696, 642, 755, 756, 757, 758, 759, 760, 761, 762, 763, 847, 848, 849, 850, 851] (by decide +kernel) (by decide +kernel)) (goodIn_sub (fun _ h => List.mem_append_right _ h) (by decide +kernel))
set_option maxRecDepth 20000 in
theorem gL_law_X8_toss : GoodIn wsL_law (wsV RL 137 RX8 yX8_toss wsX8_toss) := goodIn_app (goodIn_of _ (by decide +kernel)) ggL_law_X8_toss
set_option maxRecDepth 20000 in
theorem ggL_law_X9_toss : GoodIn wsL_law wsX9_toss := goodIn_r _ [754, 150, 132, 739, 740, 741, 5, 742, 129, 664, 665, 666, 764, 765, 766, 767, 768, 769, 770, 771, 772, 773, 774, 775, 776, 777, 778, 779, 780, 781, 782, 783, 784, 785, 786, 787, 788, 789, 790, 791, 792, 793, 794, 795, 796, 797, 798, 799, 800, 801, 802, 803, 804, 805, 806, 807, 808, 809, 810, 811, 812, 813, 814, 815] (by decide +kernel) (by decide +kernel)
set_option maxRecDepth 20000 in
theorem gL_law_X9_toss : GoodIn wsL_law (wsV RL 140 RX9 yX9_toss wsX9_toss) := goodIn_app (goodIn_of _ (by decide +kernel)) ggL_law_X9_toss
