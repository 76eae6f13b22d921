set_option maxRecDepth 20000 in
theorem ggL_law_X9_next : GoodIn wsL_law wsX9_next := goodIn_r _ [522, 150, 151, 210, 220, 219, 153, 154, 5, 155, 500, 501, 502, 503, 504, 505, 506, 123, 507, 508, 509, 510, 112, 111, 110, 113, 764, 765, 766, 767, 768, 769, 770, 771, 772, 773, 774, 775, 776, 777, 778, 779, 780, 781, 782, 783, 784, 785, 786, 787, 788, 789, 790, 791, 792, 793, 794, 795, 796, 797, 798, 799, 800, 801, 802, 803, 804, 805, 806, 807, 808, 809, 810, 811, 812, 813, 814, 815] (by decide +kernel) (by decide +kernel)
set_option maxRecDepth 20000 in
theorem gL_law_X9_next : GoodIn wsL_law (wsV RL 82 RX9 yX9_next wsX9_next) := goodIn_app (goodIn_of _ (by decide +kernel)) ggL_law_X9_next
set_option maxRecDepth 20000 in
theorem ggL_law_X8_go : GoodIn wsL_law wsX8_go := goodIn_r _ [526, 32, 24, 414, 415, 416, 2, 417, 139, 140, 141, 527, 31, 528, 529, 75, 530, 76, 531, 532, 533, 534, 535, 536, 537, 538, 539, 84, 85, 86, 297, 35, 298, 299, 273, 274, 275, 276, 81, 540, 541, 542, 543, 755, 756, 757, 758, 759, 760, 761, 762, 763, 826, 827, 828, 829, 830, 831, 836, 837, 838, 839, 840, 841, 842, 843] (by decide +kernel) (by decide +kernel)
set_option maxRecDepth 20000 in
theorem gL_law_X8_go : GoodIn wsL_law (wsV RL 83 RX8 yX8_go wsX8_go) := goodIn_app (goodIn_of _ (by decide +kernel)) ggL_law_X8_go
set_option maxRecDepth 20000 in
theorem ggL_law_X9_go : GoodIn wsL_law wsX9_go := goodIn_r _ [547, 150, 112, 111, 124, 548, 423, 424, 425, 5, 426, 109, 406, 407, 408, 409, 210, 219, 549, 550, 551, 552, 122, 454, 455, 456, 457, 764, 765, 766, 767, 768, 769, 770, 771, 772, 773, 774, 775, 776, 777, 778, 779, 780, 781, 782, 783, 784, 785, 786, 787, 788, 789, 790, 791, 792, 793, 794, 795, 796, 797, 798, 799, 800, 801, 802, 803, 804, 805, 806, 807, 808, 809, 810, 811, 812, 813, 814, 815] (by decide +kernel) (by decide +kernel)
set_option maxRecDepth 20000 in
theorem gL_law_X9_go : GoodIn wsL_law (wsV RL 86 RX9 yX9_go wsX9_go) := goodIn_app (goodIn_of _ (by decide +kernel)) ggL_law_X9_go
set_option maxRecDepth 20000 in
theorem ggL_law_X8_way : GoodIn wsL_law wsX8_way := goodIn_r _ [556, 32, 139, 140, 2, 141, 755, 756, 757, 758, 759, 760, 761, 762, 763, 836, 837, 838] (by decide +kernel) (by decide +kernel)
set_option maxRecDepth 20000 in
theorem gL_law_X8_way : GoodIn wsL_law (wsV RL 87 RX8 yX8_way wsX8_way) := goodIn_app (goodIn_of _ (by decide +kernel)) ggL_law_X8_way
set_option maxRecDepth 20000 in
theorem ggL_law_X9_way : GoodIn wsL_law wsX9_way := goodIn_r _ [560, 150, 548, 124, 764, 765, 766, 767, 768, 769, 770, 771, 772, 773, 774, 775, 776, 777, 778, 779, 780, 781, 782, 783, 784, 785, 786, 787, 788, 789, 790, 791, 792, 793, 794, 795, 796, 797, 798, 799, 800, 801, 802, 803, 804, 805, 806, 807, 808, 809, 810, 811, 812, 813, 814, 815] (by decide +kernel) (by decide +kernel)
set_option maxRecDepth 20000 in
theorem gL_law_X9_way : GoodIn wsL_law (wsV RL 90 RX9 yX9_way wsX9_way) := goodIn_app (goodIn_of _ (by decide +kernel)) ggL_law_X9_way
set_option maxRecDepth 20000 in
theorem ggL_law_X8_hand : GoodIn wsL_law wsX8_hand := goodIn_r _ [564, 565, 36, 139, 140, 2, 141, 566, 567, 568, 292, 35, 293, 294, 81, 755, 756, 757, 758, 759, 760, 761, 762, 763, 839, 840, 841, 842, 843] (by decide +kernel) (by decide +kernel)
set_option maxRecDepth 20000 in
theorem gL_law_X8_hand : GoodIn wsL_law (wsV RL 91 RX8 yX8_hand wsX8_hand) := goodIn_app (goodIn_of _ (by decide +kernel)) ggL_law_X8_hand
set_option maxRecDepth 20000 in
theorem ggL_law_X9_hand : GoodIn wsL_law wsX9_hand := goodIn_r _ [572, 150, 167, 151, 573, 125, 126, 153, 154, 5, 155, 764, 765, 766, 767, 768, 769, 770, 771, 772, 773, 774, 775, 776, 777, 778, 779, 780, 781, 782, 783, 784, 785, 786, 787, 788, 789, 790, 791, 792, 793, 794, 795, 796, 797, 798, 799, 800, 801, 802, 803, 804, 805, 806, 807, 808, 809, 810, 811, 812, 813, 814, 815] (by decide +kernel) (by decide +kernel)
set_option maxRecDepth 20000 in
theorem gL_law_X9_hand : GoodIn wsL_law (wsV RL 94 RX9 yX9_hand wsX9_hand) := goodIn_app (goodIn_of _ (by decide +kernel)) ggL_law_X9_hand
set_option maxRecDepth 20000 in
theorem ggL_law_X8_fits : GoodIn wsL_law wsX8_fits := goodIn_r _ [577, 176, 36, 16, 20, 201, 35, 202, 203, 204, 82, 578, 579, 580, 581, 263, 264, 265, 277, 278, 279, 280, 80, 249, 2, 250, 582, 270, 271, 272, 273, 274, 275, 276, 81, 583, 297, 298, 299, 755, 756, 757, 758, 759, 760, 761, 762, 763, 839, 840, 841, 842, 843, 816, 817, 818, 819, 820, 821, 822, 823, 824, 825] (by decide +kernel) (by decide +kernel)
set_option maxRecDepth 20000 in
theorem gL_law_X8_fits : GoodIn wsL_law (wsV RL 95 RX8 yX8_fits wsX8_fits) := goodIn_app (goodIn_of _ (by decide +kernel)) ggL_law_X8_fits
set_option maxRecDepth 20000 in
theorem ggL_law_X9_fits_ : GoodIn wsL_law wsX9_fits_ := goodIn_r _ [587, 150, 210, 125, 217, 216, 105, 126, 106, 107, 108, 764, 765, 766, 767, 768, 769, 770, 771, 772, 773, 774, 775, 776, 777, 778, 779, 780, 781, 782, 783, 784, 785, 786, 787, 788, 789, 790, 791, 792, 793, 794, 795, 796, 797, 798, 799, 800, 801, 802, 803, 804, 805, 806, 807, 808, 809, 810, 811, 812, 813, 814, 815] (by decide +kernel) (by decide +kernel)
set_option maxRecDepth 20000 in
theorem gL_law_X9_fits_ : GoodIn wsL_law (wsV RL 98 RX9 yX9_fits_ wsX9_fits_) := goodIn_app (goodIn_of _ (by decide +kernel)) ggL_law_X9_fits_
set_option maxRecDepth 20000 in
theorem ggL_law_X8_isTrue : GoodIn wsL_law wsX8_isTrue := goodIn_r _ [591, 24, 139, 140, 2, 141, 592, 593, 594, 595, 40, 16, 443, 39, 444, 445, 446, 91, 90, 447, 448, 449, 596, 597, 598, 599, 600, 232, 233, 274, 35, 275, 276, 81, 235, 15, 236, 237, 51, 52, 53, 238, 239, 240, 241, 181, 182, 242, 243, 244, 245, 755, 756, 757, 758, 759, 760, 761, 762, 763, 826, 827, 828, 829, 830, 831, 839, 840, 841, 842, 843, 816, 817, 818, 819, 820, 821, 822, 844, 845, 846] (by decide +kernel) (by decide +kernel)
set_option maxRecDepth 20000 in
theorem gL_law_X8_isTrue : GoodIn wsL_law (wsV RL 99 RX8 yX8_isTrue wsX8_isTrue) := goodIn_app (goodIn_of _ (by decide +kernel)) ggL_law_X8_isTrue
set_option maxRecDepth 20000 in
theorem ggL_law_X9_isTrue : GoodIn wsL_law wsX9_isTrue := goodIn_r _ [604, 150, 127, 101, 312, 110, 112, 111, 315, 406, 407, 408, 5, 409, 210, 219, 325, 326, 327, 328, 211, 212, 313, 213, 314, 605, 606, 607, 608, 609, 610, 611, 612, 329, 330, 331, 332, 102, 103, 104, 333, 334, 335, 336, 764, 765, 766, 767, 768, 769, 770, 771, 772, 773, 774, 775, 776, 777, 778, 779, 780, 781, 782, 783, 784, 785, 786, 787, 788, 789, 790, 791, 792, 793, 794, 795, 796, 797, 798, 799, 800, 801, 802, 803, 804, 805, 806, 807, 808, 809, 810, 811, 812, 813, 814, 815] (by decide +kernel) (by decide +kernel)
set_option maxRecDepth 20000 in
theorem gL_law_X9_isTrue : GoodIn wsL_law (wsV RL 102 RX9 yX9_isTrue wsX9_isTrue) := goodIn_app (goodIn_of _ (by decide +kernel)) ggL_law_X9_isTrue
set_option maxRecDepth 20000 in
theorem ggL_law_X8_count : GoodIn wsL_law wsX8_count := goodIn_r _ [616, 16, 176, 20, 139, 140, 2, 141, 600, 232, 233, 617, 238, 239, 618, 240, 241, 755, 756, 757, 758, 759, 760, 761, 762, 763, 816, 817, 818, 819, 820, 821, 822, 823, 824, 825] (by decide +kernel) (by decide +kernel)
set_option maxRecDepth 20000 in
theorem gL_law_X8_count : GoodIn wsL_law (wsV RL 103 RX8 yX8_count wsX8_count) := goodIn_app (goodIn_of _ (by decide +kernel)) ggL_law_X8_count
set_option maxRecDepth 20000 in
theorem ggL_law_X9_count : GoodIn wsL_law wsX9_count := goodIn_r _ [622, 150, 167, 152, 210, 211, 212, 213, 216, 214, 153, 154, 5, 155, 764, 765, 766, 767, 768, 769, 770, 771, 772, 773, 774, 775, 776, 777, 778, 779, 780, 781, 782, 783, 784, 785, 786, 787, 788, 789, 790, 791, 792, 793, 794, 795, 796, 797, 798, 799, 800, 801, 802, 803, 804, 805, 806, 807, 808, 809, 810, 811, 812, 813, 814, 815] (by decide +kernel) (by decide +kernel)
set_option maxRecDepth 20000 in
theorem gL_law_X9_count : GoodIn wsL_law (wsV RL 106 RX9 yX9_count wsX9_count) := goodIn_app (goodIn_of _ (by decide +kernel)) ggL_law_X9_count
set_option maxRecDepth 20000 in
theorem ggL_law_X8_reached : GoodIn wsL_law wsX8_reached := goodIn_r _ [626, 176, 40, 16, 443, 39, 444, 445, 446, 91, 90, 447, 448, 449, 140, 2, 141, 235, 15, 236, 237, 51, 52, 53, 232, 233, 238, 239, 240, 241, 181, 182, 242, 243, 244, 245, 755, 756, 757, 758, 759, 760, 761, 762, 763, 816, 817, 818, 819, 820, 821, 822, 844, 845, 846] (by decide +kernel) (by decide +kernel)
set_option maxRecDepth 20000 in
theorem gL_law_X8_reached : GoodIn wsL_law (wsV RL 107 RX8 yX8_reached wsX8_reached) := goodIn_app (goodIn_of _ (by decide +kernel)) ggL_law_X8_reached
set_option maxRecDepth 20000 in
theorem ggL_law_X9_reached : GoodIn wsL_law wsX9_reached := goodIn_r _ [630, 150, 210, 128, 325, 326, 327, 5, 328, 211, 312, 212, 313, 213, 314, 605, 606, 607, 608, 609, 610, 611, 612, 329, 330, 331, 332, 315, 102, 103, 104, 333, 334, 335, 336, 764, 765, 766, 767, 768, 769, 770, 771, 772, 773, 774, 775, 776, 777, 778, 779, 780, 781, 782, 783, 784, 785, 786, 787, 788, 789, 790, 791, 792, 793, 794, 795, 796, 797, 798, 799, 800, 801, 802, 803, 804, 805, 806, 807, 808, 809, 810, 811, 812, 813, 814, 815] (by decide +kernel) (by decide +kernel)
set_option maxRecDepth 20000 in
theorem gL_law_X9_reached : GoodIn wsL_law (wsV RL 110 RX9 yX9_reached wsX9_reached) := goodIn_app (goodIn_of _ (by decide +kernel)) ggL_law_X9_reached
