set_option maxRecDepth 20000 in
theorem ggL_law_X4_init : GoodIn wsL_law wsX4_init := goodIn_r _ [8, 9, 10, 11, 12, 13, 14, 15, 16, 17, 18, 19, 20, 21, 22, 23, 24, 25, 26, 27, 28, 29, 30, 31, 32, 33, 34, 35, 36, 37, 38, 39, 40, 41, 42, 43, 44, 45, 46, 47, 48, 49, 50, 51, 52, 53, 738, 739, 704, 705, 706, 707, 708, 709, 710, 711, 712, 713, 740, 741, 742, 743, 744, 745, 746, 747, 748, 749, 750, 751, 752, 753, 754] (by decide +kernel) (by decide +kernel)
set_option maxRecDepth 20000 in
theorem gL_law_X4_init : GoodIn wsL_law (wsX4_init) := ggL_law_X4_init
set_option maxRecDepth 20000 in
theorem ggL_law_X5_init : GoodIn wsL_law wsX5_init := goodIn_r _ [56, 57, 10, 11, 29, 58, 59, 60, 61, 62, 63, 64, 65, 66, 67, 68, 714, 715, 716, 717, 718, 719, 720, 721, 722, 723, 724, 725, 726, 727, 728, 729, 730, 731, 732, 733, 734, 735, 736, 737] (by decide +kernel) (by decide +kernel)
set_option maxRecDepth 20000 in
theorem gL_law_X5_init : GoodIn wsL_law (wsX5_init) := ggL_law_X5_init
set_option maxRecDepth 20000 in
theorem ggL_law_X4_letter : GoodIn wsL_law wsX4_letter := goodIn_r _ [72, 15, 73, 74, 75, 14, 76, 77, 35, 704, 705, 706, 707, 708, 709, 710, 711, 712, 713, 738, 739] (by decide +kernel) (by decide +kernel)
set_option maxRecDepth 20000 in
theorem gL_law_X4_letter : GoodIn wsL_law (wsV RL 13 RX4 yX4_letter wsX4_letter) := goodIn_app (goodIn_of _ (by decide +kernel)) ggL_law_X4_letter
set_option maxRecDepth 20000 in
theorem ggL_law_X5_letter : GoodIn wsL_law wsX5_letter := goodIn_r _ [81, 82, 83, 58, 84, 85, 5, 86, 714, 715, 716, 717, 718, 719, 720, 721, 722, 723, 724, 725, 726, 727, 728, 729, 730, 731, 732, 733, 734, 735, 736, 737] (by decide +kernel) (by decide +kernel)
set_option maxRecDepth 20000 in
theorem gL_law_X5_letter : GoodIn wsL_law (wsV RL 17 RX5 yX5_letter wsX5_letter) := goodIn_app (goodIn_of _ (by decide +kernel)) ggL_law_X5_letter
set_option maxRecDepth 20000 in
theorem ggL_law_X4_blank : GoodIn wsL_law wsX4_blank := goodIn_r _ [90, 15, 91, 704, 705, 706, 707, 708, 709, 710, 711, 712, 713, 738, 739] (by decide +kernel) (by decide +kernel)
set_option maxRecDepth 20000 in
theorem gL_law_X4_blank : GoodIn wsL_law (wsV RL 18 RX4 yX4_blank wsX4_blank) := goodIn_app (goodIn_of _ (by decide +kernel)) ggL_law_X4_blank
set_option maxRecDepth 20000 in
theorem ggL_law_X5_blank : GoodIn wsL_law wsX5_blank := goodIn_r _ [95, 83, 714, 715, 716, 717, 718, 719, 720, 721, 722, 723, 724, 725, 726, 727, 728, 729, 730, 731, 732, 733, 734, 735, 736, 737] (by decide +kernel) (by decide +kernel)
set_option maxRecDepth 20000 in
theorem gL_law_X5_blank : GoodIn wsL_law (wsV RL 22 RX5 yX5_blank wsX5_blank) := goodIn_app (goodIn_of _ (by decide +kernel)) ggL_law_X5_blank
set_option maxRecDepth 20000 in
theorem ggL_law_X4_fault : GoodIn wsL_law wsX4_fault := goodIn_r _ [99, 15, 100, 101, 102, 14, 103, 77, 35, 104, 105, 106, 107, 108, 109, 110, 111, 112, 113, 114, 115, 116, 117, 118, 119, 120, 121, 122, 123, 124, 125, 126, 127, 128, 129, 130, 131, 132, 133, 134, 135, 136, 137, 138, 139, 140, 141, 142, 143, 144, 145, 146, 147, 148, 149, 150, 151, 152, 153, 154, 155, 156, 157, 158, 159, 160, 161, 162, 163, 164, 165, 166, 167, 168, 169, 170, 171, 172, 173, 174, 175, 176, 177, 178, 179, 180, 181, 182, 183, 184, 185, 186, 187, 188, 189, 190, 191, 192, 193, 194, 195, 704, 705, 706, 707, 708, 709, 710, 711, 712, 713, 738, 739] (by decide +kernel) (by decide +kernel)
set_option maxRecDepth 20000 in
theorem gL_law_X4_fault : GoodIn wsL_law (wsV RL 23 RX4 yX4_fault wsX4_fault) := goodIn_app (goodIn_of _ (by decide +kernel)) ggL_law_X4_fault
set_option maxRecDepth 20000 in
theorem ggL_law_X5_fault : GoodIn wsL_law wsX5_fault := goodIn_r _ [199, 200, 201, 202, 5, 203, 83, 58, 204, 205, 206, 207, 208, 209, 210, 84, 85, 86, 714, 715, 716, 717, 718, 719, 720, 721, 722, 723, 724, 725, 726, 727, 728, 729, 730, 731, 732, 733, 734, 735, 736, 737] (by decide +kernel) (by decide +kernel)
set_option maxRecDepth 20000 in
theorem gL_law_X5_fault : GoodIn wsL_law (wsV RL 26 RX5 yX5_fault wsX5_fault) := goodIn_app (goodIn_of _ (by decide +kernel)) ggL_law_X5_fault
set_option maxRecDepth 20000 in
theorem ggL_law_X4_office : GoodIn wsL_law wsX4_office := goodIn_r _ [214, 15, 19, 91, 23, 215, 216, 217, 218, 219, 220, 14, 221, 77, 222, 101, 102, 103, 35, 104, 105, 106, 107, 108, 109, 110, 111, 112, 113, 114, 115, 116, 117, 118, 119, 120, 121, 122, 123, 124, 125, 126, 127, 128, 129, 130, 131, 132, 133, 134, 135, 136, 137, 138, 139, 140, 141, 142, 143, 144, 145, 146, 147, 148, 149, 150, 151, 152, 153, 154, 155, 156, 157, 158, 159, 160, 161, 162, 163, 164, 165, 166, 167, 168, 169, 170, 171, 172, 173, 174, 175, 176, 177, 178, 179, 180, 181, 182, 183, 184, 185, 186, 187, 188, 189, 190, 191, 192, 193, 194, 195, 223, 224, 225, 18, 226, 227, 228, 229, 230, 39, 40, 41, 231, 232, 233, 234, 235, 236, 237, 238, 239, 240, 241, 22, 242, 243, 244, 245, 246, 247, 248, 249, 250, 48, 49, 704, 705, 706, 707, 708, 709, 710, 711, 712, 713, 738, 739, 740, 741, 742, 743, 744, 745, 746, 747, 748, 749, 750, 751, 752] (by decide +kernel) (by decide +kernel)
set_option maxRecDepth 20000 in
theorem gL_law_X4_office : GoodIn wsL_law (wsV RL 27 RX4 yX4_office wsX4_office) := goodIn_app (goodIn_of _ (by decide +kernel)) ggL_law_X4_office
set_option maxRecDepth 20000 in
theorem ggL_law_X5_office : GoodIn wsL_law wsX5_office := goodIn_r _ [254, 83, 255, 58, 59, 256, 257, 258, 259, 200, 201, 202, 5, 203, 204, 205, 206, 207, 208, 209, 210, 84, 85, 86, 714, 715, 716, 717, 718, 719, 720, 721, 722, 723, 724, 725, 726, 727, 728, 729, 730, 731, 732, 733, 734, 735, 736, 737] (by decide +kernel) (by decide +kernel)
set_option maxRecDepth 20000 in
theorem gL_law_X5_office : GoodIn wsL_law (wsV RL 30 RX5 yX5_office wsX5_office) := goodIn_app (goodIn_of _ (by decide +kernel)) ggL_law_X5_office
set_option maxRecDepth 20000 in
theorem ggL_law_X4_lamp : GoodIn wsL_law wsX4_lamp := goodIn_r _ [263, 19, 264, 265, 23, 266, 267, 268, 269, 270, 2, 271, 217, 272, 273, 18, 274, 275, 276, 277, 22, 278, 245, 45, 279, 280, 281, 282, 229, 41, 704, 705, 706, 707, 708, 709, 710, 711, 712, 713, 740, 741, 742, 743, 744, 745, 746, 747, 748, 749, 750, 751, 752] (by decide +kernel) (by decide +kernel)
set_option maxRecDepth 20000 in
theorem gL_law_X4_lamp : GoodIn wsL_law (wsV RL 31 RX4 yX4_lamp wsX4_lamp) := goodIn_app (goodIn_of _ (by decide +kernel)) ggL_law_X4_lamp
set_option maxRecDepth 20000 in
theorem ggL_law_X5_lamp : GoodIn wsL_law wsX5_lamp := goodIn_r _ [286, 287, 288, 289, 5, 290, 255, 84, 85, 86, 291, 292, 293, 294, 59, 295, 296, 297, 298, 299, 300, 301, 302, 257, 60, 303, 304, 305, 306, 714, 715, 716, 717, 718, 719, 720, 721, 722, 723, 724, 725, 726, 727, 728, 729, 730, 731, 732, 733, 734, 735, 736, 737] (by decide +kernel) (by decide +kernel)
