set_option maxRecDepth 20000 in
theorem ggL_element_X8_element : GoodIn wsL_element wsX8_element := goodIn_ca (goodIn_ca (goodIn_r _ [7, 8, 9, 10, 11, 12, 13, 14, 6, 15, 16, 17, 18, 19, 20, 21, 22, 23, 24, 25, 26, 27, 28, 29, 30, 31, 32, 33, 34] (by decide +kernel) (by decide +kernel)) (goodIn_sub (fun _ h => List.mem_cons_of_mem _ (List.mem_append_left _ (List.mem_append_right _ h))) (by decide +kernel))) (goodIn_sub (fun _ h => List.mem_cons_of_mem _ (List.mem_append_right _ h)) (by decide +kernel))
set_option maxRecDepth 20000 in
theorem gL_element_X8_element : GoodIn wsL_element (wsV RL 7 RX8 yX8_element wsX8_element) := goodIn_app (goodIn_of _ (by decide +kernel)) ggL_element_X8_element
set_option maxRecDepth 20000 in
theorem ggL_law_X8_init : GoodIn wsL_law wsX8_init := goodIn_r _ [9, 10, 11, 12, 13, 14, 15, 16, 17, 18, 19, 20, 21, 22, 23, 24, 25, 26, 27, 28, 29, 30, 31, 32, 33, 34, 35, 36, 37, 38, 39, 40, 41, 42, 43, 44, 45, 46, 47, 48, 49, 50, 51, 52, 53, 54, 55, 56, 57, 58, 59, 60, 61, 62, 63, 64, 65, 66, 67, 68, 69, 70, 71, 72, 73, 74, 75, 76, 77, 78, 79, 80, 81, 82, 83, 84, 85, 86, 87, 88, 89, 90, 91, 92, 93, 94, 6, 95, 96, 816, 817, 818, 819, 820, 821, 822, 755, 756, 757, 758, 759, 760, 761, 762, 763, 823, 824, 825, 826, 827, 828, 829, 830, 831, 832, 833, 834, 835, 836, 837, 838, 839, 840, 841, 842, 843, 844, 845, 846, 847, 848, 849, 850, 851] (by decide +kernel) (by decide +kernel)
set_option maxRecDepth 20000 in
theorem gL_law_X8_init : GoodIn wsL_law (wsX8_init) := ggL_law_X8_init
set_option maxRecDepth 20000 in
theorem ggL_law_X9_init : GoodIn wsL_law wsX9_init := goodIn_r _ [99, 100, 11, 12, 48, 101, 50, 102, 103, 104, 105, 106, 107, 108, 109, 110, 111, 112, 113, 114, 115, 116, 117, 118, 119, 120, 121, 122, 123, 124, 125, 126, 127, 128, 129, 130, 131, 132, 6, 133, 134, 764, 765, 766, 767, 768, 769, 770, 771, 772, 773, 774, 775, 776, 777, 778, 779, 780, 781, 782, 783, 784, 785, 786, 787, 788, 789, 790, 791, 792, 793, 794, 795, 796, 797, 798, 799, 800, 801, 802, 803, 804, 805, 806, 807, 808, 809, 810, 811, 812, 813, 814, 815] (by decide +kernel) (by decide +kernel)
set_option maxRecDepth 20000 in
theorem gL_law_X9_init : GoodIn wsL_law (wsX9_init) := ggL_law_X9_init
set_option maxRecDepth 20000 in
theorem ggL_law_X8_cell : GoodIn wsL_law wsX8_cell := goodIn_r _ [138, 16, 139, 140, 2, 141, 142, 15, 143, 144, 145, 49, 51, 755, 756, 757, 758, 759, 760, 761, 762, 763, 816, 817, 818, 819, 820, 821, 822] (by decide +kernel) (by decide +kernel)
set_option maxRecDepth 20000 in
theorem gL_law_X8_cell : GoodIn wsL_law (wsV RL 21 RX8 yX8_cell wsX8_cell) := goodIn_app (goodIn_of _ (by decide +kernel)) ggL_law_X8_cell
set_option maxRecDepth 20000 in
theorem ggL_law_X9_cell : GoodIn wsL_law wsX9_cell := goodIn_r _ [149, 150, 151, 152, 101, 102, 153, 154, 5, 155, 764, 765, 766, 767, 768, 769, 770, 771, 772, 773, 774, 775, 776, 777, 778, 779, 780, 781, 782, 783, 784, 785, 786, 787, 788, 789, 790, 791, 792, 793, 794, 795, 796, 797, 798, 799, 800, 801, 802, 803, 804, 805, 806, 807, 808, 809, 810, 811, 812, 813, 814, 815] (by decide +kernel) (by decide +kernel)
set_option maxRecDepth 20000 in
theorem gL_law_X9_cell : GoodIn wsL_law (wsV RL 25 RX9 yX9_cell wsX9_cell) := goodIn_app (goodIn_of _ (by decide +kernel)) ggL_law_X9_cell
set_option maxRecDepth 20000 in
theorem ggL_law_X8_lead : GoodIn wsL_law wsX8_lead := goodIn_r _ [159, 16, 139, 140, 2, 141, 160, 15, 161, 162, 52, 53, 755, 756, 757, 758, 759, 760, 761, 762, 763, 816, 817, 818, 819, 820, 821, 822] (by decide +kernel) (by decide +kernel)
set_option maxRecDepth 20000 in
theorem gL_law_X8_lead : GoodIn wsL_law (wsV RL 26 RX8 yX8_lead wsX8_lead) := goodIn_app (goodIn_of _ (by decide +kernel)) ggL_law_X8_lead
set_option maxRecDepth 20000 in
theorem ggL_law_X9_lead : GoodIn wsL_law wsX9_lead := goodIn_r _ [166, 150, 151, 167, 103, 104, 168, 169, 170, 5, 171, 152, 153, 154, 155, 764, 765, 766, 767, 768, 769, 770, 771, 772, 773, 774, 775, 776, 777, 778, 779, 780, 781, 782, 783, 784, 785, 786, 787, 788, 789, 790, 791, 792, 793, 794, 795, 796, 797, 798, 799, 800, 801, 802, 803, 804, 805, 806, 807, 808, 809, 810, 811, 812, 813, 814, 815] (by decide +kernel) (by decide +kernel)
set_option maxRecDepth 20000 in
theorem gL_law_X9_lead : GoodIn wsL_law (wsV RL 30 RX9 yX9_lead wsX9_lead) := goodIn_app (goodIn_of _ (by decide +kernel)) ggL_law_X9_lead
set_option maxRecDepth 20000 in
theorem ggL_law_X8_start : GoodIn wsL_law wsX8_start := goodIn_r _ [175, 16, 176, 20, 24, 177, 15, 178, 179, 180, 54, 181, 2, 182, 183, 23, 184, 185, 186, 187, 188, 64, 189, 190, 191, 63, 34, 35, 77, 78, 79, 11, 12, 48, 80, 81, 82, 83, 84, 85, 86, 192, 193, 194, 195, 196, 197, 198, 199, 200, 201, 202, 203, 204, 755, 756, 757, 758, 759, 760, 761, 762, 763, 816, 817, 818, 819, 820, 821, 822, 823, 824, 825, 826, 827, 828, 829, 830, 831, 839, 840, 841, 842, 843] (by decide +kernel) (by decide +kernel)
set_option maxRecDepth 20000 in
theorem gL_law_X8_start : GoodIn wsL_law (wsV RL 31 RX8 yX8_start wsX8_start) := goodIn_app (goodIn_of _ (by decide +kernel)) ggL_law_X8_start
set_option maxRecDepth 20000 in
theorem ggL_law_X9_start : GoodIn wsL_law wsX9_start := goodIn_r _ [208, 150, 209, 152, 210, 211, 212, 213, 214, 215, 216, 101, 217, 218, 219, 220, 109, 110, 111, 112, 113, 115, 153, 154, 5, 155, 764, 765, 766, 767, 768, 769, 770, 771, 772, 773, 774, 775, 776, 777, 778, 779, 780, 781, 782, 783, 784, 785, 786, 787, 788, 789, 790, 791, 792, 793, 794, 795, 796, 797, 798, 799, 800, 801, 802, 803, 804, 805, 806, 807, 808, 809, 810, 811, 812, 813, 814, 815] (by decide +kernel) (by decide +kernel)
set_option maxRecDepth 20000 in
theorem gL_law_X9_start : GoodIn wsL_law (wsV RL 35 RX9 yX9_start wsX9_start) := goodIn_app (goodIn_of _ (by decide +kernel)) ggL_law_X9_start
set_option maxRecDepth 20000 in
theorem ggL_law_X8_act : GoodIn wsL_law wsX8_act := goodIn_r _ [224, 176, 20, 16, 24, 139, 140, 2, 141, 225, 15, 226, 227, 180, 228, 229, 230, 231, 54, 232, 233, 234, 235, 236, 237, 51, 52, 53, 238, 239, 240, 241, 181, 182, 242, 243, 244, 245, 246, 247, 248, 49, 249, 250, 251, 19, 252, 253, 58, 254, 59, 255, 23, 256, 257, 258, 188, 64, 65, 187, 259, 260, 261, 262, 263, 35, 264, 265, 82, 204, 266, 267, 268, 269, 270, 271, 272, 273, 274, 275, 276, 81, 277, 278, 279, 280, 80, 281, 282, 283, 284, 189, 190, 191, 63, 34, 77, 78, 79, 11, 12, 48, 83, 84, 85, 86, 285, 286, 287, 288, 289, 290, 291, 195, 292, 293, 294, 295, 296, 197, 198, 199, 297, 298, 299, 300, 301, 302, 303, 186, 304, 305, 306, 307, 755, 756, 757, 758, 759, 760, 761, 762, 763, 823, 824, 825, 816, 817, 818, 819, 820, 821, 822, 826, 827, 828, 829, 830, 831, 839, 840, 841, 842, 843] (by decide +kernel) (by decide +kernel)
set_option maxRecDepth 20000 in
theorem gL_law_X8_act : GoodIn wsL_law (wsV RL 36 RX8 yX8_act wsX8_act) := goodIn_app (goodIn_of _ (by decide +kernel)) ggL_law_X8_act
set_option maxRecDepth 20000 in
theorem ggL_law_X9_act : GoodIn wsL_law wsX9_act := goodIn_r _ [311, 150, 167, 210, 216, 215, 312, 211, 313, 212, 314, 213, 315, 316, 219, 220, 111, 112, 105, 106, 107, 101, 108, 153, 154, 5, 155, 317, 318, 319, 320, 214, 113, 115, 321, 322, 323, 324, 325, 326, 327, 328, 329, 330, 331, 332, 102, 103, 104, 333, 334, 335, 336, 337, 338, 339, 340, 109, 218, 116, 117, 118, 341, 342, 343, 344, 119, 120, 110, 121, 345, 346, 347, 348, 349, 350, 351, 352, 353, 354, 355, 356, 357, 358, 359, 360, 764, 765, 766, 767, 768, 769, 770, 771, 772, 773, 774, 775, 776, 777, 778, 779, 780, 781, 782, 783, 784, 785, 786, 787, 788, 789, 790, 791, 792, 793, 794, 795, 796, 797, 798, 799, 800, 801, 802, 803, 804, 805, 806, 807, 808, 809, 810, 811, 812, 813, 814, 815] (by decide +kernel) (by decide +kernel)
set_option maxRecDepth 20000 in
theorem gL_law_X9_act : GoodIn wsL_law (wsV RL 39 RX9 yX9_act wsX9_act) := goodIn_app (goodIn_of _ (by decide +kernel)) ggL_law_X9_act
set_option maxRecDepth 20000 in
theorem ggL_law_X8_seen : GoodIn wsL_law wsX8_seen := goodIn_r _ [364, 176, 16, 20, 139, 140, 2, 141, 365, 19, 366, 367, 254, 59, 304, 305, 246, 15, 247, 248, 180, 49, 54, 232, 233, 249, 250, 368, 295, 296, 369, 306, 307, 370, 755, 756, 757, 758, 759, 760, 761, 762, 763, 816, 817, 818, 819, 820, 821, 822, 823, 824, 825] (by decide +kernel) (by decide +kernel)
set_option maxRecDepth 20000 in
theorem gL_law_X8_seen : GoodIn wsL_law (wsV RL 40 RX8 yX8_seen wsX8_seen) := goodIn_app (goodIn_of _ (by decide +kernel)) ggL_law_X8_seen
set_option maxRecDepth 20000 in
theorem ggL_law_X9_seen : GoodIn wsL_law wsX9_seen := goodIn_r _ [374, 150, 151, 210, 215, 214, 101, 211, 153, 154, 5, 155, 321, 322, 323, 324, 764, 765, 766, 767, 768, 769, 770, 771, 772, 773, 774, 775, 776, 777, 778, 779, 780, 781, 782, 783, 784, 785, 786, 787, 788, 789, 790, 791, 792, 793, 794, 795, 796, 797, 798, 799, 800, 801, 802, 803, 804, 805, 806, 807, 808, 809, 810, 811, 812, 813, 814, 815] (by decide +kernel) (by decide +kernel)
set_option maxRecDepth 20000 in
theorem gL_law_X9_seen : GoodIn wsL_law (wsV RL 43 RX9 yX9_seen wsX9_seen) := goodIn_app (goodIn_of _ (by decide +kernel)) ggL_law_X9_seen
set_option maxRecDepth 20000 in
theorem ggL_law_X8_walk : GoodIn wsL_law wsX8_walk := goodIn_r _ [378, 20, 139, 140, 2, 141, 370, 304, 305, 368, 295, 296, 369, 306, 307, 755, 756, 757, 758, 759, 760, 761, 762, 763, 823, 824, 825] (by decide +kernel) (by decide +kernel)
set_option maxRecDepth 20000 in
theorem gL_law_X8_walk : GoodIn wsL_law (wsV RL 44 RX8 yX8_walk wsX8_walk) := goodIn_app (goodIn_of _ (by decide +kernel)) ggL_law_X8_walk
set_option maxRecDepth 20000 in
theorem ggL_law_X9_walk : GoodIn wsL_law wsX9_walk := goodIn_r _ [382, 150, 210, 216, 151, 105, 106, 107, 108, 153, 154, 5, 155, 764, 765, 766, 767, 768, 769, 770, 771, 772, 773, 774, 775, 776, 777, 778, 779, 780, 781, 782, 783, 784, 785, 786, 787, 788, 789, 790, 791, 792, 793, 794, 795, 796, 797, 798, 799, 800, 801, 802, 803, 804, 805, 806, 807, 808, 809, 810, 811, 812, 813, 814, 815] (by decide +kernel) (by decide +kernel)
set_option maxRecDepth 20000 in
theorem gL_law_X9_walk : GoodIn wsL_law (wsV RL 48 RX9 yX9_walk wsX9_walk) := goodIn_app (goodIn_of _ (by decide +kernel)) ggL_law_X9_walk
