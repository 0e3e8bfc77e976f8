set_option maxRecDepth 20000 in
theorem ggL_law_X6_init : GoodIn wsL_law wsX6_init := goodIn_r _ [8, 9, 10, 11, 12, 13, 14, 15, 16, 17, 18, 19, 20, 21, 22, 23, 24, 25, 26, 27, 28, 29, 30, 31, 32, 33, 34, 35, 36, 37, 38, 39, 40, 41, 42, 43, 44, 45, 46, 47, 48, 49, 50, 51, 52, 53, 54, 55, 56, 57, 58, 59, 60, 61, 62, 63, 64, 65, 66, 67, 68, 69, 70, 71, 72, 73, 74, 792, 793, 794, 795, 796, 797, 798, 799, 800, 801, 802, 753, 754, 755, 756, 757, 758, 759, 760, 761, 803, 804, 805, 806, 807, 808, 809, 810, 811, 812, 813, 814, 815, 816, 817, 818, 819, 820, 821, 822, 823, 824] (by decide +kernel) (by decide +kernel)
set_option maxRecDepth 20000 in
theorem gL_law_X6_init : GoodIn wsL_law (wsX6_init) := ggL_law_X6_init
set_option maxRecDepth 20000 in
theorem ggL_law_X7_init : GoodIn wsL_law wsX7_init := goodIn_r _ [77, 78, 10, 11, 32, 79, 80, 81, 82, 83, 84, 85, 86, 87, 88, 89, 90, 91, 92, 93, 50, 94, 95, 61, 96, 97, 98, 99, 100, 762, 763, 764, 765, 766, 767, 768, 769, 770, 771, 772, 773, 774, 775, 776, 777, 778, 779, 780, 781, 782, 783, 784, 785, 786, 787, 788, 789, 790, 791] (by decide +kernel) (by decide +kernel)
set_option maxRecDepth 20000 in
theorem gL_law_X7_init : GoodIn wsL_law (wsX7_init) := ggL_law_X7_init
set_option maxRecDepth 20000 in
theorem ggL_law_X6_column : GoodIn wsL_law wsX6_column := goodIn_r _ [104, 105, 15, 106, 107, 108, 109, 110, 2, 111, 112, 113, 114, 115, 116, 117, 19, 118, 23, 27, 31, 119, 120, 121, 122, 22, 123, 124, 125, 126, 127, 26, 128, 129, 130, 131, 132, 14, 133, 38, 134, 39, 46, 753, 754, 755, 756, 757, 758, 759, 760, 761, 792, 793, 794, 795, 796, 797, 798, 799, 800, 801, 802, 803, 804, 805, 806, 807, 808, 823, 824, 809, 810, 811, 812, 813, 814, 815, 816, 817, 818, 819, 820, 821, 822] (by decide +kernel) (by decide +kernel)
set_option maxRecDepth 20000 in
theorem gL_law_X6_column : GoodIn wsL_law (wsV RL 13 RX6 yX6_column wsX6_column) := goodIn_app (goodIn_of _ (by decide +kernel)) ggL_law_X6_column
set_option maxRecDepth 20000 in
theorem ggL_law_X7_column : GoodIn wsL_law wsX7_column := goodIn_r _ [138, 139, 140, 141, 142, 143, 79, 80, 82, 83, 144, 145, 5, 146, 147, 148, 149, 150, 151, 152, 153, 154, 155, 156, 157, 158, 159, 762, 763, 764, 765, 766, 767, 768, 769, 770, 771, 772, 773, 774, 775, 776, 777, 778, 779, 780, 781, 782, 783, 784, 785, 786, 787, 788, 789, 790, 791] (by decide +kernel) (by decide +kernel)
set_option maxRecDepth 20000 in
theorem gL_law_X7_column : GoodIn wsL_law (wsV RL 17 RX7 yX7_column wsX7_column) := goodIn_app (goodIn_of _ (by decide +kernel)) ggL_law_X7_column
set_option maxRecDepth 20000 in
theorem ggL_law_X6_row : GoodIn wsL_law wsX6_row := goodIn_r _ [163, 105, 15, 164, 108, 109, 110, 2, 111, 112, 113, 114, 115, 116, 117, 19, 118, 23, 27, 31, 119, 120, 121, 122, 22, 123, 124, 125, 126, 127, 26, 128, 129, 165, 166, 167, 14, 168, 40, 169, 753, 754, 755, 756, 757, 758, 759, 760, 761, 792, 793, 794, 795, 796, 797, 798, 799, 800, 801, 802, 803, 804, 805, 806, 807, 808, 823, 824, 809, 810, 811, 812, 813, 814, 815, 816, 817, 818, 819, 820, 821, 822] (by decide +kernel) (by decide +kernel)
set_option maxRecDepth 20000 in
theorem gL_law_X6_row : GoodIn wsL_law (wsV RL 18 RX6 yX6_row wsX6_row) := goodIn_app (goodIn_of _ (by decide +kernel)) ggL_law_X6_row
set_option maxRecDepth 20000 in
theorem ggL_law_X7_row : GoodIn wsL_law wsX7_row := goodIn_r _ [173, 174, 175, 141, 176, 143, 81, 82, 144, 145, 5, 146, 151, 152, 153, 154, 155, 156, 157, 158, 159, 762, 763, 764, 765, 766, 767, 768, 769, 770, 771, 772, 773, 774, 775, 776, 777, 778, 779, 780, 781, 782, 783, 784, 785, 786, 787, 788, 789, 790, 791] (by decide +kernel) (by decide +kernel)
set_option maxRecDepth 20000 in
theorem gL_law_X7_row : GoodIn wsL_law (wsV RL 22 RX7 yX7_row wsX7_row) := goodIn_app (goodIn_of _ (by decide +kernel)) ggL_law_X7_row
set_option maxRecDepth 20000 in
theorem ggL_law_X6_term : GoodIn wsL_law wsX6_term := goodIn_r _ [180, 15, 164, 106, 105, 181, 182, 183, 2, 184, 109, 110, 111, 112, 113, 114, 115, 116, 117, 19, 118, 23, 27, 31, 119, 120, 121, 122, 22, 123, 124, 125, 126, 127, 26, 128, 129, 753, 754, 755, 756, 757, 758, 759, 760, 761, 792, 793, 794, 795, 796, 797, 798, 799, 800, 801, 802, 803, 804, 805, 806, 807, 808, 823, 824, 809, 810, 811, 812, 813, 814, 815, 816, 817, 818, 819, 820, 821, 822] (by decide +kernel) (by decide +kernel)
set_option maxRecDepth 20000 in
theorem gL_law_X6_term : GoodIn wsL_law (wsV RL 23 RX6 yX6_term wsX6_term) := goodIn_app (goodIn_of _ (by decide +kernel)) ggL_law_X6_term
set_option maxRecDepth 20000 in
theorem ggL_law_X7_term : GoodIn wsL_law wsX7_term := goodIn_r _ [188, 189, 190, 141, 82, 191, 192, 193, 5, 194, 176, 144, 145, 146, 195, 196, 197, 198, 142, 151, 152, 153, 154, 155, 156, 157, 158, 159, 762, 763, 764, 765, 766, 767, 768, 769, 770, 771, 772, 773, 774, 775, 776, 777, 778, 779, 780, 781, 782, 783, 784, 785, 786, 787, 788, 789, 790, 791] (by decide +kernel) (by decide +kernel)
set_option maxRecDepth 20000 in
theorem gL_law_X7_term : GoodIn wsL_law (wsV RL 27 RX7 yX7_term wsX7_term) := goodIn_app (goodIn_of _ (by decide +kernel)) ggL_law_X7_term
set_option maxRecDepth 20000 in
theorem ggL_law_X6_aim : GoodIn wsL_law wsX6_aim := goodIn_r _ [202, 15, 203, 108, 112, 113, 114, 2, 115, 116, 117, 19, 118, 23, 27, 31, 119, 120, 121, 122, 22, 123, 124, 125, 126, 127, 26, 128, 129, 204, 205, 206, 14, 207, 43, 208, 44, 753, 754, 755, 756, 757, 758, 759, 760, 761, 792, 793, 794, 795, 796, 797, 798, 799, 800, 801, 802, 803, 804, 805, 806, 807, 808, 823, 824, 809, 810, 811, 812, 813, 814, 815, 816, 817, 818, 819, 820, 821, 822] (by decide +kernel) (by decide +kernel)
set_option maxRecDepth 20000 in
theorem gL_law_X6_aim : GoodIn wsL_law (wsV RL 28 RX6 yX6_aim wsX6_aim) := goodIn_app (goodIn_of _ (by decide +kernel)) ggL_law_X6_aim
set_option maxRecDepth 20000 in
theorem ggL_law_X7_aim : GoodIn wsL_law wsX7_aim := goodIn_r _ [212, 213, 143, 84, 85, 83, 151, 152, 153, 5, 154, 155, 156, 157, 158, 159, 762, 763, 764, 765, 766, 767, 768, 769, 770, 771, 772, 773, 774, 775, 776, 777, 778, 779, 780, 781, 782, 783, 784, 785, 786, 787, 788, 789, 790, 791] (by decide +kernel) (by decide +kernel)
set_option maxRecDepth 20000 in
theorem gL_law_X7_aim : GoodIn wsL_law (wsV RL 32 RX7 yX7_aim wsX7_aim) := goodIn_app (goodIn_of _ (by decide +kernel)) ggL_law_X7_aim
set_option maxRecDepth 20000 in
theorem ggL_law_X6_cost : GoodIn wsL_law wsX6_cost := goodIn_r _ [217, 15, 203, 106, 105, 218, 182, 183, 2, 184, 109, 110, 111, 112, 113, 114, 115, 116, 117, 19, 118, 23, 27, 31, 119, 120, 121, 122, 22, 123, 124, 125, 126, 127, 26, 128, 129, 753, 754, 755, 756, 757, 758, 759, 760, 761, 792, 793, 794, 795, 796, 797, 798, 799, 800, 801, 802, 803, 804, 805, 806, 807, 808, 823, 824, 809, 810, 811, 812, 813, 814, 815, 816, 817, 818, 819, 820, 821, 822] (by decide +kernel) (by decide +kernel)
set_option maxRecDepth 20000 in
theorem gL_law_X6_cost : GoodIn wsL_law (wsV RL 33 RX6 yX6_cost wsX6_cost) := goodIn_app (goodIn_of _ (by decide +kernel)) ggL_law_X6_cost
set_option maxRecDepth 20000 in
theorem ggL_law_X7_cost : GoodIn wsL_law wsX7_cost := goodIn_r _ [222, 189, 190, 141, 83, 223, 224, 225, 5, 226, 213, 144, 145, 146, 195, 196, 197, 198, 142, 151, 152, 153, 154, 155, 156, 157, 158, 159, 762, 763, 764, 765, 766, 767, 768, 769, 770, 771, 772, 773, 774, 775, 776, 777, 778, 779, 780, 781, 782, 783, 784, 785, 786, 787, 788, 789, 790, 791] (by decide +kernel) (by decide +kernel)
set_option maxRecDepth 20000 in
theorem gL_law_X7_cost : GoodIn wsL_law (wsV RL 36 RX7 yX7_cost wsX7_cost) := goodIn_app (goodIn_of _ (by decide +kernel)) ggL_law_X7_cost
set_option maxRecDepth 20000 in
theorem ggL_law_X6_part : GoodIn wsL_law wsX6_part := goodIn_r _ [230, 15, 203, 105, 231, 232, 182, 183, 2, 184, 109, 110, 111, 112, 113, 114, 115, 116, 117, 19, 118, 23, 27, 31, 119, 120, 121, 122, 22, 123, 124, 125, 126, 127, 26, 128, 129, 753, 754, 755, 756, 757, 758, 759, 760, 761, 792, 793, 794, 795, 796, 797, 798, 799, 800, 801, 802, 803, 804, 805, 806, 807, 808, 823, 824, 809, 810, 811, 812, 813, 814, 815, 816, 817, 818, 819, 820, 821, 822] (by decide +kernel) (by decide +kernel)
set_option maxRecDepth 20000 in
theorem gL_law_X6_part : GoodIn wsL_law (wsV RL 37 RX6 yX6_part wsX6_part) := goodIn_app (goodIn_of _ (by decide +kernel)) ggL_law_X6_part
set_option maxRecDepth 20000 in
theorem ggL_law_X7_part : GoodIn wsL_law wsX7_part := goodIn_r _ [236, 237, 238, 141, 84, 85, 223, 224, 225, 5, 226, 213, 144, 145, 146, 151, 152, 153, 154, 155, 156, 157, 158, 159, 762, 763, 764, 765, 766, 767, 768, 769, 770, 771, 772, 773, 774, 775, 776, 777, 778, 779, 780, 781, 782, 783, 784, 785, 786, 787, 788, 789, 790, 791] (by decide +kernel) (by decide +kernel)
set_option maxRecDepth 20000 in
theorem gL_law_X7_part : GoodIn wsL_law (wsV RL 40 RX7 yX7_part wsX7_part) := goodIn_app (goodIn_of _ (by decide +kernel)) ggL_law_X7_part
set_option maxRecDepth 20000 in
theorem ggL_law_X6_clear : GoodIn wsL_law wsX6_clear := goodIn_r _ [242, 15, 106, 112, 113, 114, 2, 115, 116, 117, 19, 118, 23, 27, 31, 119, 120, 121, 122, 22, 123, 124, 125, 126, 127, 26, 128, 129, 243, 244, 245, 14, 246, 134, 169, 208, 46, 42, 45, 247, 248, 249, 250, 753, 754, 755, 756, 757, 758, 759, 760, 761, 792, 793, 794, 795, 796, 797, 798, 799, 800, 801, 802, 803, 804, 805, 806, 807, 808, 823, 824, 809, 810, 811, 812, 813, 814, 815, 816, 817, 818, 819, 820, 821, 822] (by decide +kernel) (by decide +kernel)
set_option maxRecDepth 20000 in
theorem gL_law_X6_clear : GoodIn wsL_law (wsV RL 41 RX6 yX6_clear wsX6_clear) := goodIn_app (goodIn_of _ (by decide +kernel)) ggL_law_X6_clear
set_option maxRecDepth 20000 in
theorem ggL_law_X7_clear : GoodIn wsL_law wsX7_clear := goodIn_r _ [254, 142, 176, 213, 151, 152, 153, 5, 154, 155, 156, 157, 158, 159, 762, 763, 764, 765, 766, 767, 768, 769, 770, 771, 772, 773, 774, 775, 776, 777, 778, 779, 780, 781, 782, 783, 784, 785, 786, 787, 788, 789, 790, 791] (by decide +kernel) (by decide +kernel)
set_option maxRecDepth 20000 in
theorem gL_law_X7_clear : GoodIn wsL_law (wsV RL 44 RX7 yX7_clear wsX7_clear) := goodIn_app (goodIn_of _ (by decide +kernel)) ggL_law_X7_clear
set_option maxRecDepth 20000 in
theorem ggL_law_X6_run : GoodIn wsL_law wsX6_run := goodIn_r _ [258, 105, 15, 203, 259, 23, 27, 116, 107, 260, 261, 262, 263, 19, 118, 120, 121, 122, 22, 123, 124, 125, 126, 127, 26, 128, 129, 264, 265, 266, 2, 267, 33, 268, 117, 269, 270, 271, 14, 272, 134, 39, 38, 273, 274, 275, 276, 277, 278, 279, 169, 42, 40, 280, 208, 45, 43, 44, 281, 282, 283, 284, 285, 286, 287, 288, 289, 290, 291, 292, 293, 294, 18, 295, 296, 51, 53, 297, 298, 299, 300, 301, 302, 303, 304, 305, 306, 307, 308, 309, 310, 311, 312, 313, 314, 315, 316, 52, 317, 318, 319, 320, 321, 322, 323, 324, 753, 754, 755, 756, 757, 758, 759, 760, 761, 792, 793, 794, 795, 796, 797, 798, 799, 800, 801, 802, 803, 804, 805, 806, 807, 808, 809, 810, 811, 812, 813, 814, 815, 816, 817, 818, 819, 820, 821, 822] (by decide +kernel) (by decide +kernel)
set_option maxRecDepth 20000 in
theorem gL_law_X6_run : GoodIn wsL_law (wsV RL 45 RX6 yX6_run wsX6_run) := goodIn_app (goodIn_of _ (by decide +kernel)) ggL_law_X6_run
set_option maxRecDepth 20000 in
theorem ggL_law_X7_run : GoodIn wsL_law wsX7_run := goodIn_r _ [328, 238, 141, 213, 329, 158, 155, 86, 156, 87, 93, 157, 144, 145, 5, 146, 147, 148, 149, 150, 142, 80, 79, 330, 331, 332, 333, 92, 334, 335, 336, 337, 176, 82, 81, 83, 84, 85, 338, 339, 340, 341, 342, 343, 344, 345, 346, 347, 348, 349, 350, 351, 352, 353, 354, 355, 356, 357, 88, 89, 358, 359, 360, 361, 762, 763, 764, 765, 766, 767, 768, 769, 770, 771, 772, 773, 774, 775, 776, 777, 778, 779, 780, 781, 782, 783, 784, 785, 786, 787, 788, 789, 790, 791] (by decide +kernel) (by decide +kernel)
set_option maxRecDepth 20000 in
theorem gL_law_X7_run : GoodIn wsL_law (wsV RL 48 RX7 yX7_run wsX7_run) := goodIn_app (goodIn_of _ (by decide +kernel)) ggL_law_X7_run
set_option maxRecDepth 20000 in
theorem ggL_law_X6_left : GoodIn wsL_law wsX6_left := goodIn_r _ [365, 15, 107, 116, 753, 754, 755, 756, 757, 758, 759, 760, 761, 792, 793, 794, 795, 796, 797, 798, 799, 800, 801, 802] (by decide +kernel) (by decide +kernel)
set_option maxRecDepth 20000 in
theorem gL_law_X6_left : GoodIn wsL_law (wsV RL 49 RX6 yX6_left wsX6_left) := goodIn_app (goodIn_of _ (by decide +kernel)) ggL_law_X6_left
set_option maxRecDepth 20000 in
theorem ggL_law_X7_left : GoodIn wsL_law wsX7_left := goodIn_r _ [369, 155, 147, 148, 149, 5, 150, 142, 80, 79, 762, 763, 764, 765, 766, 767, 768, 769, 770, 771, 772, 773, 774, 775, 776, 777, 778, 779, 780, 781, 782, 783, 784, 785, 786, 787, 788, 789, 790, 791] (by decide +kernel) (by decide +kernel)
set_option maxRecDepth 20000 in
theorem gL_law_X7_left : GoodIn wsL_law (wsV RL 52 RX7 yX7_left wsX7_left) := goodIn_app (goodIn_of _ (by decide +kernel)) ggL_law_X7_left
set_option maxRecDepth 20000 in
theorem ggL_law_X6_plans : GoodIn wsL_law wsX6_plans := goodIn_r _ [373, 117, 753, 754, 755, 756, 757, 758, 759, 760, 761] (by decide +kernel) (by decide +kernel)
set_option maxRecDepth 20000 in
theorem gL_law_X6_plans : GoodIn wsL_law (wsV RL 53 RX6 yX6_plans wsX6_plans) := goodIn_app (goodIn_of _ (by decide +kernel)) ggL_law_X6_plans
set_option maxRecDepth 20000 in
theorem ggL_law_X7_plans : GoodIn wsL_law wsX7_plans := goodIn_r _ [377, 156, 762, 763, 764, 765, 766, 767, 768, 769, 770, 771, 772, 773, 774, 775, 776, 777, 778, 779, 780, 781, 782, 783, 784, 785, 786, 787, 788, 789, 790, 791] (by decide +kernel) (by decide +kernel)
set_option maxRecDepth 20000 in
theorem gL_law_X7_plans : GoodIn wsL_law (wsV RL 56 RX7 yX7_plans wsX7_plans) := goodIn_app (goodIn_of _ (by decide +kernel)) ggL_law_X7_plans
set_option maxRecDepth 20000 in
theorem ggL_law_X6_score : GoodIn wsL_law wsX6_score := goodIn_r _ [381, 19, 118, 15, 203, 105, 182, 183, 2, 184, 382, 383, 384, 18, 385, 51, 386, 387, 287, 388, 389, 289, 290, 291, 753, 754, 755, 756, 757, 758, 759, 760, 761, 803, 804, 805, 806, 807, 808, 792, 793, 794, 795, 796, 797, 798, 799, 800, 801, 802] (by decide +kernel) (by decide +kernel)
set_option maxRecDepth 20000 in
theorem gL_law_X6_score : GoodIn wsL_law (wsV RL 57 RX6 yX6_score wsX6_score) := goodIn_app (goodIn_of _ (by decide +kernel)) ggL_law_X6_score
set_option maxRecDepth 20000 in
theorem ggL_law_X7_score : GoodIn wsL_law wsX7_score := goodIn_r _ [393, 141, 394, 395, 396, 5, 397, 157, 144, 145, 146, 223, 224, 225, 226, 213, 398, 399, 400, 401, 88, 346, 347, 348, 349, 87, 762, 763, 764, 765, 766, 767, 768, 769, 770, 771, 772, 773, 774, 775, 776, 777, 778, 779, 780, 781, 782, 783, 784, 785, 786, 787, 788, 789, 790, 791] (by decide +kernel) (by decide +kernel)
set_option maxRecDepth 20000 in
theorem gL_law_X7_score : GoodIn wsL_law (wsV RL 60 RX7 yX7_score wsX7_score) := goodIn_app (goodIn_of _ (by decide +kernel)) ggL_law_X7_score
set_option maxRecDepth 20000 in
theorem ggL_law_X6_plan : GoodIn wsL_law wsX6_plan := goodIn_r _ [405, 19, 118, 15, 106, 105, 406, 33, 182, 183, 2, 184, 269, 270, 271, 14, 272, 134, 39, 38, 273, 274, 262, 275, 753, 754, 755, 756, 757, 758, 759, 760, 761, 803, 804, 805, 806, 807, 808, 792, 793, 794, 795, 796, 797, 798, 799, 800, 801, 802] (by decide +kernel) (by decide +kernel)
set_option maxRecDepth 20000 in
theorem gL_law_X6_plan : GoodIn wsL_law (wsV RL 61 RX6 yX6_plan wsX6_plan) := goodIn_app (goodIn_of _ (by decide +kernel)) ggL_law_X6_plan
set_option maxRecDepth 20000 in
theorem ggL_law_X7_plan : GoodIn wsL_law wsX7_plan := goodIn_r _ [410, 141, 86, 88, 92, 394, 395, 396, 5, 397, 157, 144, 145, 146, 195, 196, 197, 198, 142, 330, 331, 332, 333, 80, 79, 762, 763, 764, 765, 766, 767, 768, 769, 770, 771, 772, 773, 774, 775, 776, 777, 778, 779, 780, 781, 782, 783, 784, 785, 786, 787, 788, 789, 790, 791] (by decide +kernel) (by decide +kernel)
set_option maxRecDepth 20000 in
theorem gL_law_X7_plan : GoodIn wsL_law (wsV RL 64 RX7 yX7_plan wsX7_plan) := goodIn_app (goodIn_of _ (by decide +kernel)) ggL_law_X7_plan
set_option maxRecDepth 20000 in
theorem ggL_law_X6_ties : GoodIn wsL_law wsX6_ties := goodIn_r _ [414, 19, 118, 415, 105, 182, 183, 2, 184, 753, 754, 755, 756, 757, 758, 759, 760, 761, 803, 804, 805, 806, 807, 808] (by decide +kernel) (by decide +kernel)
set_option maxRecDepth 20000 in
theorem gL_law_X6_ties : GoodIn wsL_law (wsV RL 65 RX6 yX6_ties wsX6_ties) := goodIn_app (goodIn_of _ (by decide +kernel)) ggL_law_X6_ties
set_option maxRecDepth 20000 in
theorem ggL_law_X7_ties : GoodIn wsL_law wsX7_ties := goodIn_r _ [419, 89, 141, 394, 395, 396, 5, 397, 157, 144, 145, 146, 762, 763, 764, 765, 766, 767, 768, 769, 770, 771, 772, 773, 774, 775, 776, 777, 778, 779, 780, 781, 782, 783, 784, 785, 786, 787, 788, 789, 790, 791] (by decide +kernel) (by decide +kernel)
set_option maxRecDepth 20000 in
theorem gL_law_X7_ties : GoodIn wsL_law (wsV RL 68 RX7 yX7_ties wsX7_ties) := goodIn_app (goodIn_of _ (by decide +kernel)) ggL_law_X7_ties
set_option maxRecDepth 20000 in
theorem ggL_law_X6_ideal : GoodIn wsL_law wsX6_ideal := goodIn_r _ [423, 15, 203, 105, 19, 118, 259, 182, 183, 2, 184, 424, 425, 426, 18, 427, 296, 428, 261, 262, 263, 429, 383, 384, 385, 51, 386, 387, 287, 388, 389, 289, 290, 291, 753, 754, 755, 756, 757, 758, 759, 760, 761, 792, 793, 794, 795, 796, 797, 798, 799, 800, 801, 802, 803, 804, 805, 806, 807, 808] (by decide +kernel) (by decide +kernel)
set_option maxRecDepth 20000 in
theorem gL_law_X6_ideal : GoodIn wsL_law (wsV RL 69 RX6 yX6_ideal wsX6_ideal) := goodIn_app (goodIn_of _ (by decide +kernel)) ggL_law_X6_ideal
set_option maxRecDepth 20000 in
theorem ggL_law_X7_ideal : GoodIn wsL_law wsX7_ideal := goodIn_r _ [433, 141, 157, 329, 223, 224, 225, 5, 226, 213, 144, 145, 146, 434, 435, 436, 437, 398, 399, 400, 401, 88, 346, 347, 348, 349, 87, 762, 763, 764, 765, 766, 767, 768, 769, 770, 771, 772, 773, 774, 775, 776, 777, 778, 779, 780, 781, 782, 783, 784, 785, 786, 787, 788, 789, 790, 791] (by decide +kernel) (by decide +kernel)
set_option maxRecDepth 20000 in
theorem gL_law_X7_ideal : GoodIn wsL_law (wsV RL 72 RX7 yX7_ideal wsX7_ideal) := goodIn_app (goodIn_of _ (by decide +kernel)) ggL_law_X7_ideal
set_option maxRecDepth 20000 in
theorem ggL_law_X6_nadir : GoodIn wsL_law wsX6_nadir := goodIn_r _ [441, 15, 203, 105, 19, 118, 259, 182, 183, 2, 184, 442, 443, 444, 18, 445, 296, 446, 274, 262, 275, 429, 383, 384, 385, 51, 386, 387, 287, 388, 389, 289, 290, 291, 753, 754, 755, 756, 757, 758, 759, 760, 761, 792, 793, 794, 795, 796, 797, 798, 799, 800, 801, 802, 803, 804, 805, 806, 807, 808] (by decide +kernel) (by decide +kernel)
set_option maxRecDepth 20000 in
theorem gL_law_X6_nadir : GoodIn wsL_law (wsV RL 73 RX6 yX6_nadir wsX6_nadir) := goodIn_app (goodIn_of _ (by decide +kernel)) ggL_law_X6_nadir
set_option maxRecDepth 20000 in
theorem ggL_law_X7_nadir : GoodIn wsL_law wsX7_nadir := goodIn_r _ [450, 141, 157, 329, 223, 224, 225, 5, 226, 213, 144, 145, 146, 451, 452, 453, 454, 398, 399, 400, 401, 88, 346, 347, 348, 349, 87, 762, 763, 764, 765, 766, 767, 768, 769, 770, 771, 772, 773, 774, 775, 776, 777, 778, 779, 780, 781, 782, 783, 784, 785, 786, 787, 788, 789, 790, 791] (by decide +kernel) (by decide +kernel)
set_option maxRecDepth 20000 in
theorem gL_law_X7_nadir : GoodIn wsL_law (wsV RL 76 RX7 yX7_nadir wsX7_nadir) := goodIn_app (goodIn_of _ (by decide +kernel)) ggL_law_X7_nadir
set_option maxRecDepth 20000 in
theorem ggL_law_X6_knee : GoodIn wsL_law wsX6_knee := goodIn_r _ [458, 105, 19, 118, 259, 15, 203, 182, 183, 2, 184, 459, 460, 461, 18, 462, 463, 296, 54, 55, 464, 465, 262, 466, 467, 468, 469, 470, 446, 274, 275, 471, 425, 426, 427, 428, 261, 263, 429, 383, 384, 385, 51, 386, 387, 287, 388, 389, 289, 290, 291, 472, 443, 444, 445, 753, 754, 755, 756, 757, 758, 759, 760, 761, 803, 804, 805, 806, 807, 808, 792, 793, 794, 795, 796, 797, 798, 799, 800, 801, 802] (by decide +kernel) (by decide +kernel)
set_option maxRecDepth 20000 in
theorem gL_law_X6_knee : GoodIn wsL_law (wsV RL 77 RX6 yX6_knee wsX6_knee) := goodIn_app (goodIn_of _ (by decide +kernel)) ggL_law_X6_knee
set_option maxRecDepth 20000 in
theorem ggL_law_X7_knee : GoodIn wsL_law wsX7_knee := goodIn_r _ [476, 141, 157, 329, 213, 94, 144, 145, 5, 146, 451, 452, 453, 454, 398, 399, 400, 401, 88, 346, 347, 348, 349, 87, 434, 435, 436, 437, 477, 478, 479, 480, 762, 763, 764, 765, 766, 767, 768, 769, 770, 771, 772, 773, 774, 775, 776, 777, 778, 779, 780, 781, 782, 783, 784, 785, 786, 787, 788, 789, 790, 791] (by decide +kernel) (by decide +kernel)
set_option maxRecDepth 20000 in
theorem gL_law_X7_knee : GoodIn wsL_law (wsV RL 80 RX7 yX7_knee wsX7_knee) := goodIn_app (goodIn_of _ (by decide +kernel)) ggL_law_X7_knee
set_option maxRecDepth 20000 in
theorem ggL_law_X6_weighted : GoodIn wsL_law wsX6_weighted := goodIn_r _ [484, 15, 203, 34, 105, 19, 118, 259, 485, 486, 487, 2, 488, 489, 490, 491, 18, 492, 493, 296, 429, 383, 384, 385, 51, 386, 387, 287, 388, 389, 289, 290, 291, 753, 754, 755, 756, 757, 758, 759, 760, 761, 792, 793, 794, 795, 796, 797, 798, 799, 800, 801, 802, 803, 804, 805, 806, 807, 808] (by decide +kernel) (by decide +kernel)
set_option maxRecDepth 20000 in
theorem gL_law_X6_weighted : GoodIn wsL_law (wsV RL 81 RX6 yX6_weighted wsX6_weighted) := goodIn_app (goodIn_of _ (by decide +kernel)) ggL_law_X6_weighted
set_option maxRecDepth 20000 in
theorem ggL_law_X7_weighted : GoodIn wsL_law wsX7_weighted := goodIn_r _ [497, 213, 95, 498, 141, 157, 329, 499, 500, 501, 5, 502, 144, 145, 146, 503, 504, 505, 506, 398, 399, 400, 401, 88, 346, 347, 348, 349, 87, 762, 763, 764, 765, 766, 767, 768, 769, 770, 771, 772, 773, 774, 775, 776, 777, 778, 779, 780, 781, 782, 783, 784, 785, 786, 787, 788, 789, 790, 791] (by decide +kernel) (by decide +kernel)
set_option maxRecDepth 20000 in
theorem gL_law_X7_weighted : GoodIn wsL_law (wsV RL 85 RX7 yX7_weighted wsX7_weighted) := goodIn_app (goodIn_of _ (by decide +kernel)) ggL_law_X7_weighted
set_option maxRecDepth 20000 in
theorem ggL_law_X6_first : GoodIn wsL_law wsX6_first := goodIn_r _ [510, 34, 511, 15, 203, 105, 19, 118, 259, 485, 486, 487, 2, 488, 182, 183, 184, 512, 513, 514, 18, 515, 296, 516, 517, 518, 519, 429, 383, 384, 385, 51, 386, 387, 287, 388, 389, 289, 290, 291, 753, 754, 755, 756, 757, 758, 759, 760, 761, 792, 793, 794, 795, 796, 797, 798, 799, 800, 801, 802, 803, 804, 805, 806, 807, 808] (by decide +kernel) (by decide +kernel)
set_option maxRecDepth 20000 in
theorem gL_law_X6_first : GoodIn wsL_law (wsV RL 86 RX6 yX6_first wsX6_first) := goodIn_app (goodIn_of _ (by decide +kernel)) ggL_law_X6_first
set_option maxRecDepth 20000 in
theorem ggL_law_X7_first : GoodIn wsL_law wsX7_first := goodIn_r _ [523, 95, 524, 141, 157, 329, 499, 500, 501, 5, 502, 223, 224, 225, 226, 213, 144, 145, 146, 525, 526, 527, 528, 398, 399, 400, 401, 88, 346, 347, 348, 349, 87, 762, 763, 764, 765, 766, 767, 768, 769, 770, 771, 772, 773, 774, 775, 776, 777, 778, 779, 780, 781, 782, 783, 784, 785, 786, 787, 788, 789, 790, 791] (by decide +kernel) (by decide +kernel)
set_option maxRecDepth 20000 in
theorem gL_law_X7_first : GoodIn wsL_law (wsV RL 89 RX7 yX7_first wsX7_first) := goodIn_app (goodIn_of _ (by decide +kernel)) ggL_law_X7_first
set_option maxRecDepth 20000 in
theorem ggL_law_X6_under : GoodIn wsL_law wsX6_under := goodIn_r _ [532, 19, 34, 15, 203, 485, 486, 487, 2, 488, 533, 534, 535, 18, 536, 428, 261, 262, 263, 446, 274, 275, 296, 51, 537, 538, 286, 287, 288, 289, 290, 291, 305, 306, 307, 308, 753, 754, 755, 756, 757, 758, 759, 760, 761, 792, 793, 794, 795, 796, 797, 798, 799, 800, 801, 802, 803, 804, 805, 806, 807, 808] (by decide +kernel) (by decide +kernel)
set_option maxRecDepth 20000 in
theorem gL_law_X6_under : GoodIn wsL_law (wsV RL 90 RX6 yX6_under wsX6_under) := goodIn_app (goodIn_of _ (by decide +kernel)) ggL_law_X6_under
set_option maxRecDepth 20000 in
theorem ggL_law_X7_under : GoodIn wsL_law wsX7_under := goodIn_r _ [542, 157, 213, 95, 524, 499, 500, 501, 5, 502, 398, 399, 400, 401, 88, 346, 347, 348, 349, 87, 762, 763, 764, 765, 766, 767, 768, 769, 770, 771, 772, 773, 774, 775, 776, 777, 778, 779, 780, 781, 782, 783, 784, 785, 786, 787, 788, 789, 790, 791] (by decide +kernel) (by decide +kernel)
set_option maxRecDepth 20000 in
theorem gL_law_X7_under : GoodIn wsL_law (wsV RL 93 RX7 yX7_under wsX7_under) := goodIn_app (goodIn_of _ (by decide +kernel)) ggL_law_X7_under
set_option maxRecDepth 20000 in
theorem ggL_law_X6_cover : GoodIn wsL_law wsX6_cover := goodIn_r _ [546, 105, 19, 118, 259, 23, 547, 548, 549, 22, 550, 551, 552, 553, 261, 262, 263, 554, 62, 60, 124, 59, 555, 556, 557, 558, 559, 560, 561, 562, 563, 564, 306, 287, 307, 308, 565, 566, 567, 568, 569, 570, 571, 572, 753, 754, 755, 756, 757, 758, 759, 760, 761, 803, 804, 805, 806, 807, 808, 809, 810, 811, 812, 813] (by decide +kernel) (by decide +kernel)
set_option maxRecDepth 20000 in
theorem gL_law_X6_cover : GoodIn wsL_law (wsV RL 94 RX6 yX6_cover wsX6_cover) := goodIn_app (goodIn_of _ (by decide +kernel)) ggL_law_X6_cover
set_option maxRecDepth 20000 in
theorem ggL_law_X7_cover : GoodIn wsL_law wsX7_cover := goodIn_r _ [576, 577, 141, 157, 329, 96, 158, 90, 144, 145, 5, 146, 578, 579, 580, 581, 213, 398, 399, 400, 401, 88, 346, 347, 348, 349, 87, 762, 763, 764, 765, 766, 767, 768, 769, 770, 771, 772, 773, 774, 775, 776, 777, 778, 779, 780, 781, 782, 783, 784, 785, 786, 787, 788, 789, 790, 791] (by decide +kernel) (by decide +kernel)
set_option maxRecDepth 20000 in
theorem gL_law_X7_cover : GoodIn wsL_law (wsV RL 97 RX7 yX7_cover wsX7_cover) := goodIn_app (goodIn_of _ (by decide +kernel)) ggL_law_X7_cover
set_option maxRecDepth 20000 in
theorem ggL_law_X6_picked : GoodIn wsL_law wsX6_picked := goodIn_r _ [585, 23, 586, 587, 105, 182, 183, 2, 184, 753, 754, 755, 756, 757, 758, 759, 760, 761, 809, 810, 811, 812, 813] (by decide +kernel) (by decide +kernel)
set_option maxRecDepth 20000 in
theorem gL_law_X6_picked : GoodIn wsL_law (wsV RL 98 RX6 yX6_picked wsX6_picked) := goodIn_app (goodIn_of _ (by decide +kernel)) ggL_law_X6_picked
set_option maxRecDepth 20000 in
theorem ggL_law_X7_picked : GoodIn wsL_law wsX7_picked := goodIn_r _ [591, 158, 90, 141, 144, 145, 5, 146, 762, 763, 764, 765, 766, 767, 768, 769, 770, 771, 772, 773, 774, 775, 776, 777, 778, 779, 780, 781, 782, 783, 784, 785, 786, 787, 788, 789, 790, 791] (by decide +kernel) (by decide +kernel)
set_option maxRecDepth 20000 in
theorem gL_law_X7_picked : GoodIn wsL_law (wsV RL 101 RX7 yX7_picked wsX7_picked) := goodIn_app (goodIn_of _ (by decide +kernel)) ggL_law_X7_picked
set_option maxRecDepth 20000 in
theorem ggL_law_X6_boxes : GoodIn wsL_law wsX6_boxes := goodIn_r _ [595, 27, 19, 259, 15, 203, 596, 597, 598, 599, 26, 600, 601, 602, 603, 604, 605, 129, 606, 607, 608, 609, 70, 610, 611, 290, 287, 291, 612, 613, 614, 615, 68, 69, 616, 383, 384, 18, 385, 51, 386, 387, 388, 389, 289, 617, 618, 619, 620, 621, 322, 323, 324, 622, 623, 624, 625, 626, 286, 288, 627, 628, 629, 630, 66, 631, 632, 633, 634, 635, 636, 261, 262, 263, 637, 306, 307, 308, 638, 639, 640, 641, 642, 643, 644, 645, 646, 647, 648, 649, 753, 754, 755, 756, 757, 758, 759, 760, 761, 792, 793, 794, 795, 796, 797, 798, 799, 800, 801, 802, 814, 815, 816, 817, 818, 819, 820, 821, 822, 803, 804, 805, 806, 807, 808] (by decide +kernel) (by decide +kernel)
set_option maxRecDepth 20000 in
theorem gL_law_X6_boxes : GoodIn wsL_law (wsV RL 102 RX6 yX6_boxes wsX6_boxes) := goodIn_app (goodIn_of _ (by decide +kernel)) ggL_law_X6_boxes
set_option maxRecDepth 20000 in
theorem ggL_law_X7_boxes : GoodIn wsL_law wsX7_boxes := goodIn_r _ [653, 329, 654, 655, 656, 657, 5, 658, 157, 659, 660, 661, 662, 663, 664, 665, 666, 99, 667, 668, 669, 670, 98, 213, 97, 434, 435, 436, 437, 398, 399, 400, 401, 88, 346, 347, 348, 349, 87, 451, 452, 453, 454, 671, 672, 673, 674, 675, 676, 677, 678, 524, 679, 680, 681, 682, 683, 684, 685, 686, 762, 763, 764, 765, 766, 767, 768, 769, 770, 771, 772, 773, 774, 775, 776, 777, 778, 779, 780, 781, 782, 783, 784, 785, 786, 787, 788, 789, 790, 791] (by decide +kernel) (by decide +kernel)
set_option maxRecDepth 20000 in
theorem gL_law_X7_boxes : GoodIn wsL_law (wsV RL 105 RX7 yX7_boxes wsX7_boxes) := goodIn_app (goodIn_of _ (by decide +kernel)) ggL_law_X7_boxes
set_option maxRecDepth 20000 in
theorem ggL_law_X6_box : GoodIn wsL_law wsX6_box := goodIn_r _ [690, 15, 203, 105, 27, 19, 259, 596, 691, 182, 183, 2, 184, 597, 598, 599, 26, 600, 601, 602, 603, 604, 605, 129, 606, 607, 608, 609, 70, 610, 611, 290, 287, 291, 612, 613, 614, 615, 68, 69, 616, 383, 384, 18, 385, 51, 386, 387, 388, 389, 289, 617, 618, 619, 620, 621, 322, 323, 324, 622, 623, 624, 625, 626, 286, 288, 627, 628, 629, 630, 66, 631, 632, 633, 634, 635, 636, 261, 262, 263, 637, 306, 307, 308, 638, 639, 640, 641, 642, 643, 644, 645, 646, 647, 648, 649, 692, 753, 754, 755, 756, 757, 758, 759, 760, 761, 792, 793, 794, 795, 796, 797, 798, 799, 800, 801, 802, 814, 815, 816, 817, 818, 819, 820, 821, 822, 803, 804, 805, 806, 807, 808] (by decide +kernel) (by decide +kernel)
set_option maxRecDepth 20000 in
theorem gL_law_X6_box : GoodIn wsL_law (wsV RL 106 RX6 yX6_box wsX6_box) := goodIn_app (goodIn_of _ (by decide +kernel)) ggL_law_X6_box
set_option maxRecDepth 20000 in
theorem ggL_law_X7_box : GoodIn wsL_law wsX7_box := goodIn_r _ [696, 141, 329, 654, 97, 99, 223, 224, 225, 5, 226, 213, 144, 145, 146, 655, 656, 657, 658, 157, 659, 660, 661, 662, 663, 664, 665, 666, 667, 668, 669, 670, 98, 434, 435, 436, 437, 398, 399, 400, 401, 88, 346, 347, 348, 349, 87, 451, 452, 453, 454, 671, 672, 673, 674, 675, 676, 677, 678, 524, 679, 680, 681, 682, 683, 684, 685, 686, 762, 763, 764, 765, 766, 767, 768, 769, 770, 771, 772, 773, 774, 775, 776, 777, 778, 779, 780, 781, 782, 783, 784, 785, 786, 787, 788, 789, 790, 791] (by decide +kernel) (by decide +kernel)
set_option maxRecDepth 20000 in
theorem gL_law_X7_box : GoodIn wsL_law (wsV RL 109 RX7 yX7_box wsX7_box) := goodIn_app (goodIn_of _ (by decide +kernel)) ggL_law_X7_box
set_option maxRecDepth 20000 in
theorem ggL_law_X6_volume : GoodIn wsL_law wsX6_volume := goodIn_r _ [700, 19, 118, 27, 701, 15, 203, 702, 597, 598, 599, 26, 600, 601, 602, 603, 604, 605, 129, 606, 607, 608, 609, 70, 610, 611, 290, 287, 291, 612, 613, 614, 615, 68, 69, 616, 383, 384, 18, 385, 51, 386, 387, 388, 389, 289, 617, 618, 619, 620, 621, 322, 323, 324, 622, 623, 624, 625, 626, 286, 288, 627, 628, 629, 630, 66, 631, 632, 633, 634, 635, 636, 261, 262, 263, 637, 306, 307, 308, 638, 639, 640, 641, 642, 643, 644, 645, 646, 647, 648, 649, 753, 754, 755, 756, 757, 758, 759, 760, 761, 803, 804, 805, 806, 807, 808, 792, 793, 794, 795, 796, 797, 798, 799, 800, 801, 802, 814, 815, 816, 817, 818, 819, 820, 821, 822] (by decide +kernel) (by decide +kernel)
set_option maxRecDepth 20000 in
theorem gL_law_X6_volume : GoodIn wsL_law (wsV RL 110 RX6 yX6_volume wsX6_volume) := goodIn_app (goodIn_of _ (by decide +kernel)) ggL_law_X6_volume
set_option maxRecDepth 20000 in
theorem ggL_law_X7_volume : GoodIn wsL_law wsX7_volume := goodIn_r _ [706, 157, 707, 213, 97, 99, 663, 664, 665, 5, 666, 667, 668, 669, 670, 98, 434, 435, 436, 437, 398, 399, 400, 401, 88, 346, 347, 348, 349, 87, 451, 452, 453, 454, 671, 672, 673, 674, 683, 684, 685, 686, 762, 763, 764, 765, 766, 767, 768, 769, 770, 771, 772, 773, 774, 775, 776, 777, 778, 779, 780, 781, 782, 783, 784, 785, 786, 787, 788, 789, 790, 791] (by decide +kernel) (by decide +kernel)
set_option maxRecDepth 20000 in
theorem gL_law_X7_volume : GoodIn wsL_law (wsV RL 114 RX7 yX7_volume wsX7_volume) := goodIn_app (goodIn_of _ (by decide +kernel)) ggL_law_X7_volume
set_option maxRecDepth 20000 in
theorem ggL_law_X6_climb : GoodIn wsL_law wsX6_climb := goodIn_r _ [711, 15, 107, 105, 33, 203, 268, 259, 31, 182, 183, 2, 184, 269, 270, 271, 14, 272, 134, 39, 38, 273, 274, 262, 275, 276, 277, 278, 279, 169, 42, 40, 280, 208, 45, 43, 44, 281, 282, 283, 284, 285, 286, 287, 288, 289, 290, 291, 712, 713, 714, 30, 715, 74, 716, 322, 323, 324, 717, 718, 719, 720, 721, 722, 723, 724, 725, 726, 727, 728, 729, 730, 731, 306, 307, 308, 753, 754, 755, 756, 757, 758, 759, 760, 761, 792, 793, 794, 795, 796, 797, 798, 799, 800, 801, 802, 823, 824] (by decide +kernel) (by decide +kernel)
set_option maxRecDepth 20000 in
theorem gL_law_X6_climb : GoodIn wsL_law (wsV RL 115 RX6 yX6_climb wsX6_climb) := goodIn_app (goodIn_of _ (by decide +kernel)) ggL_law_X6_climb
set_option maxRecDepth 20000 in
theorem ggL_law_X7_climb : GoodIn wsL_law wsX7_climb := goodIn_r _ [735, 141, 213, 329, 100, 93, 142, 91, 92, 159, 147, 148, 149, 5, 150, 80, 79, 144, 145, 146, 330, 331, 332, 333, 334, 335, 336, 337, 176, 82, 81, 83, 84, 85, 736, 737, 738, 739, 740, 741, 742, 743, 762, 763, 764, 765, 766, 767, 768, 769, 770, 771, 772, 773, 774, 775, 776, 777, 778, 779, 780, 781, 782, 783, 784, 785, 786, 787, 788, 789, 790, 791] (by decide +kernel) (by decide +kernel)
set_option maxRecDepth 20000 in
theorem gL_law_X7_climb : GoodIn wsL_law (wsV RL 118 RX7 yX7_climb wsX7_climb) := goodIn_app (goodIn_of _ (by decide +kernel)) ggL_law_X7_climb
set_option maxRecDepth 20000 in
theorem ggL_law_X6_climbed : GoodIn wsL_law wsX6_climbed := goodIn_r _ [747, 15, 106, 105, 31, 119, 748, 259, 182, 183, 2, 184, 753, 754, 755, 756, 757, 758, 759, 760, 761, 792, 793, 794, 795, 796, 797, 798, 799, 800, 801, 802, 823, 824] (by decide +kernel) (by decide +kernel)
set_option maxRecDepth 20000 in
theorem gL_law_X6_climbed : GoodIn wsL_law (wsV RL 119 RX6 yX6_climbed wsX6_climbed) := goodIn_app (goodIn_of _ (by decide +kernel)) ggL_law_X6_climbed
set_option maxRecDepth 20000 in
theorem ggL_law_X7_climbed : GoodIn wsL_law wsX7_climbed := goodIn_r _ [752, 141, 159, 329, 91, 195, 196, 197, 5, 198, 142, 144, 145, 146, 762, 763, 764, 765, 766, 767, 768, 769, 770, 771, 772, 773, 774, 775, 776, 777, 778, 779, 780, 781, 782, 783, 784, 785, 786, 787, 788, 789, 790, 791] (by decide +kernel) (by decide +kernel)
set_option maxRecDepth 20000 in
theorem gL_law_X7_climbed : GoodIn wsL_law (wsV RL 122 RX7 yX7_climbed wsX7_climbed) := goodIn_app (goodIn_of _ (by decide +kernel)) ggL_law_X7_climbed
