set_option maxRecDepth 20000 in
theorem ggL_law_X8_sheets : GoodIn wsL_law wsX8_sheets := goodIn_r _ [386, 24, 387, 388, 389, 2, 390, 176, 755, 756, 757, 758, 759, 760, 761, 762, 763, 826, 827, 828, 829, 830, 831] (by decide +kernel) (by decide +kernel)
set_option maxRecDepth 20000 in
theorem gL_law_X8_sheets : GoodIn wsL_law (wsV RL 49 RX8 yX8_sheets wsX8_sheets) := goodIn_app (goodIn_of _ (by decide +kernel)) ggL_law_X8_sheets
set_option maxRecDepth 20000 in
theorem ggL_law_X9_sheets : GoodIn wsL_law wsX9_sheets := goodIn_r _ [394, 150, 210, 220, 219, 764, 765, 766, 767, 768, 769, 770, 771, 772, 773, 774, 775, 776, 777, 778, 779, 780, 781, 782, 783, 784, 785, 786, 787, 788, 789, 790, 791, 792, 793, 794, 795, 796, 797, 798, 799, 800, 801, 802, 803, 804, 805, 806, 807, 808, 809, 810, 811, 812, 813, 814, 815] (by decide +kernel) (by decide +kernel)
set_option maxRecDepth 20000 in
theorem gL_law_X9_sheets : GoodIn wsL_law (wsV RL 53 RX9 yX9_sheets wsX9_sheets) := goodIn_app (goodIn_of _ (by decide +kernel)) ggL_law_X9_sheets
set_option maxRecDepth 20000 in
theorem ggL_law_X8_sheet : GoodIn wsL_law wsX8_sheet := goodIn_r _ [398, 24, 139, 140, 2, 141, 399, 35, 400, 401, 195, 81, 755, 756, 757, 758, 759, 760, 761, 762, 763, 826, 827, 828, 829, 830, 831, 839, 840, 841, 842, 843] (by decide +kernel) (by decide +kernel)
set_option maxRecDepth 20000 in
theorem gL_law_X8_sheet : GoodIn wsL_law (wsV RL 54 RX8 yX8_sheet wsX8_sheet) := goodIn_app (goodIn_of _ (by decide +kernel)) ggL_law_X8_sheet
set_option maxRecDepth 20000 in
theorem ggL_law_X9_sheet : GoodIn wsL_law wsX9_sheet := goodIn_r _ [405, 150, 151, 109, 112, 113, 111, 406, 407, 408, 5, 409, 210, 219, 153, 154, 155, 764, 765, 766, 767, 768, 769, 770, 771, 772, 773, 774, 775, 776, 777, 778, 779, 780, 781, 782, 783, 784, 785, 786, 787, 788, 789, 790, 791, 792, 793, 794, 795, 796, 797, 798, 799, 800, 801, 802, 803, 804, 805, 806, 807, 808, 809, 810, 811, 812, 813, 814, 815] (by decide +kernel) (by decide +kernel)
set_option maxRecDepth 20000 in
theorem gL_law_X9_sheet : GoodIn wsL_law (wsV RL 57 RX9 yX9_sheet wsX9_sheet) := goodIn_app (goodIn_of _ (by decide +kernel)) ggL_law_X9_sheet
set_option maxRecDepth 20000 in
theorem ggL_law_X8_leads : GoodIn wsL_law wsX8_leads := goodIn_r _ [413, 24, 414, 415, 416, 2, 417, 139, 140, 141, 274, 35, 275, 276, 81, 755, 756, 757, 758, 759, 760, 761, 762, 763, 826, 827, 828, 829, 830, 831, 839, 840, 841, 842, 843] (by decide +kernel) (by decide +kernel)
set_option maxRecDepth 20000 in
theorem gL_law_X8_leads : GoodIn wsL_law (wsV RL 58 RX8 yX8_leads wsX8_leads) := goodIn_app (goodIn_of _ (by decide +kernel)) ggL_law_X8_leads
set_option maxRecDepth 20000 in
theorem ggL_law_X9_leads : GoodIn wsL_law wsX9_leads := goodIn_r _ [421, 150, 422, 111, 423, 424, 425, 5, 426, 109, 406, 407, 408, 409, 210, 219, 153, 154, 155, 764, 765, 766, 767, 768, 769, 770, 771, 772, 773, 774, 775, 776, 777, 778, 779, 780, 781, 782, 783, 784, 785, 786, 787, 788, 789, 790, 791, 792, 793, 794, 795, 796, 797, 798, 799, 800, 801, 802, 803, 804, 805, 806, 807, 808, 809, 810, 811, 812, 813, 814, 815] (by decide +kernel) (by decide +kernel)
set_option maxRecDepth 20000 in
theorem gL_law_X9_leads : GoodIn wsL_law (wsV RL 62 RX9 yX9_leads wsX9_leads) := goodIn_app (goodIn_of _ (by decide +kernel)) ggL_law_X9_leads
set_option maxRecDepth 20000 in
theorem ggL_law_X8_sign : GoodIn wsL_law wsX8_sign := goodIn_r _ [430, 24, 414, 415, 416, 2, 417, 139, 140, 141, 755, 756, 757, 758, 759, 760, 761, 762, 763, 826, 827, 828, 829, 830, 831, 839, 840, 841, 842, 843] (by decide +kernel) (by decide +kernel)
set_option maxRecDepth 20000 in
theorem gL_law_X8_sign : GoodIn wsL_law (wsV RL 63 RX8 yX8_sign wsX8_sign) := goodIn_app (goodIn_of _ (by decide +kernel)) ggL_law_X8_sign
set_option maxRecDepth 20000 in
theorem ggL_law_X9_sign : GoodIn wsL_law wsX9_sign := goodIn_r _ [434, 150, 110, 423, 424, 425, 5, 426, 109, 406, 407, 408, 409, 210, 219, 764, 765, 766, 767, 768, 769, 770, 771, 772, 773, 774, 775, 776, 777, 778, 779, 780, 781, 782, 783, 784, 785, 786, 787, 788, 789, 790, 791, 792, 793, 794, 795, 796, 797, 798, 799, 800, 801, 802, 803, 804, 805, 806, 807, 808, 809, 810, 811, 812, 813, 814, 815] (by decide +kernel) (by decide +kernel)
set_option maxRecDepth 20000 in
theorem gL_law_X9_sign : GoodIn wsL_law (wsV RL 66 RX9 yX9_sign wsX9_sign) := goodIn_app (goodIn_of _ (by decide +kernel)) ggL_law_X9_sign
set_option maxRecDepth 20000 in
theorem ggL_law_X8_known : GoodIn wsL_law wsX8_known := goodIn_r _ [438, 24, 387, 388, 389, 2, 390, 176, 439, 440, 441, 442, 40, 443, 39, 444, 445, 446, 91, 90, 447, 448, 449, 140, 141, 274, 35, 275, 276, 81, 297, 298, 299, 273, 755, 756, 757, 758, 759, 760, 761, 762, 763, 826, 827, 828, 829, 830, 831, 839, 840, 841, 842, 843, 844, 845, 846] (by decide +kernel) (by decide +kernel)
set_option maxRecDepth 20000 in
theorem gL_law_X8_known : GoodIn wsL_law (wsV RL 67 RX8 yX8_known wsX8_known) := goodIn_app (goodIn_of _ (by decide +kernel)) ggL_law_X8_known
set_option maxRecDepth 20000 in
theorem ggL_law_X9_known : GoodIn wsL_law wsX9_known := goodIn_r _ [453, 150, 210, 220, 219, 112, 109, 122, 111, 454, 455, 456, 5, 457, 764, 765, 766, 767, 768, 769, 770, 771, 772, 773, 774, 775, 776, 777, 778, 779, 780, 781, 782, 783, 784, 785, 786, 787, 788, 789, 790, 791, 792, 793, 794, 795, 796, 797, 798, 799, 800, 801, 802, 803, 804, 805, 806, 807, 808, 809, 810, 811, 812, 813, 814, 815] (by decide +kernel) (by decide +kernel)
set_option maxRecDepth 20000 in
theorem gL_law_X9_known : GoodIn wsL_law (wsV RL 70 RX9 yX9_known wsX9_known) := goodIn_app (goodIn_of _ (by decide +kernel)) ggL_law_X9_known
set_option maxRecDepth 20000 in
theorem ggL_law_X8_one : GoodIn wsL_law wsX8_one := goodIn_r _ [461, 20, 24, 462, 463, 464, 2, 465, 387, 388, 389, 390, 176, 139, 140, 141, 466, 467, 468, 469, 297, 35, 298, 299, 273, 274, 275, 276, 81, 755, 756, 757, 758, 759, 760, 761, 762, 763, 823, 824, 825, 826, 827, 828, 829, 830, 831, 839, 840, 841, 842, 843] (by decide +kernel) (by decide +kernel)
set_option maxRecDepth 20000 in
theorem gL_law_X8_one : GoodIn wsL_law (wsV RL 71 RX8 yX8_one wsX8_one) := goodIn_app (goodIn_of _ (by decide +kernel)) ggL_law_X8_one
set_option maxRecDepth 20000 in
theorem ggL_law_X9_one : GoodIn wsL_law wsX9_one := goodIn_r _ [473, 150, 210, 220, 216, 219, 115, 153, 154, 5, 155, 764, 765, 766, 767, 768, 769, 770, 771, 772, 773, 774, 775, 776, 777, 778, 779, 780, 781, 782, 783, 784, 785, 786, 787, 788, 789, 790, 791, 792, 793, 794, 795, 796, 797, 798, 799, 800, 801, 802, 803, 804, 805, 806, 807, 808, 809, 810, 811, 812, 813, 814, 815] (by decide +kernel) (by decide +kernel)
set_option maxRecDepth 20000 in
theorem gL_law_X9_one : GoodIn wsL_law (wsV RL 74 RX9 yX9_one wsX9_one) := goodIn_app (goodIn_of _ (by decide +kernel)) ggL_law_X9_one
set_option maxRecDepth 20000 in
theorem ggL_law_X8_part : GoodIn wsL_law wsX8_part := goodIn_r _ [477, 478, 28, 24, 139, 140, 2, 141, 462, 463, 464, 465, 387, 388, 389, 390, 176, 479, 27, 480, 481, 482, 69, 70, 483, 484, 485, 486, 71, 487, 488, 85, 489, 490, 491, 492, 493, 494, 495, 270, 35, 271, 272, 273, 274, 275, 276, 81, 277, 278, 279, 280, 80, 82, 249, 250, 297, 298, 299, 755, 756, 757, 758, 759, 760, 761, 762, 763, 826, 827, 828, 829, 830, 831, 832, 833, 834, 835, 839, 840, 841, 842, 843, 852, 853, 854, 855] (by decide +kernel) (by decide +kernel)
set_option maxRecDepth 20000 in
theorem gL_law_X8_part : GoodIn wsL_law (wsV RL 75 RX8 yX8_part wsX8_part) := goodIn_app (goodIn_of _ (by decide +kernel)) ggL_law_X8_part
set_option maxRecDepth 20000 in
theorem ggL_law_X9_part : GoodIn wsL_law wsX9_part := goodIn_r _ [499, 150, 209, 210, 220, 219, 153, 154, 5, 155, 500, 501, 502, 503, 504, 505, 506, 123, 507, 508, 509, 510, 112, 111, 110, 113, 764, 765, 766, 767, 768, 769, 770, 771, 772, 773, 774, 775, 776, 777, 778, 779, 780, 781, 782, 783, 784, 785, 786, 787, 788, 789, 790, 791, 792, 793, 794, 795, 796, 797, 798, 799, 800, 801, 802, 803, 804, 805, 806, 807, 808, 809, 810, 811, 812, 813, 814, 815] (by decide +kernel) (by decide +kernel)
set_option maxRecDepth 20000 in
theorem gL_law_X9_part : GoodIn wsL_law (wsV RL 78 RX9 yX9_part wsX9_part) := goodIn_app (goodIn_of _ (by decide +kernel)) ggL_law_X9_part
set_option maxRecDepth 20000 in
theorem ggL_law_X8_next : GoodIn wsL_law wsX8_next := goodIn_r _ [514, 28, 24, 462, 463, 464, 2, 465, 387, 388, 389, 390, 176, 515, 27, 516, 517, 518, 479, 480, 481, 482, 69, 70, 483, 484, 485, 486, 71, 487, 488, 85, 489, 490, 491, 492, 493, 494, 495, 270, 35, 271, 272, 273, 274, 275, 276, 81, 277, 278, 279, 280, 80, 82, 249, 250, 297, 298, 299, 755, 756, 757, 758, 759, 760, 761, 762, 763, 826, 827, 828, 829, 830, 831, 832, 833, 834, 835, 839, 840, 841, 842, 843, 852, 853, 854, 855] (by decide +kernel) (by decide +kernel)
set_option maxRecDepth 20000 in
theorem gL_law_X8_next : GoodIn wsL_law (wsV RL 79 RX8 yX8_next wsX8_next) := goodIn_app (goodIn_of _ (by decide +kernel)) ggL_law_X8_next
