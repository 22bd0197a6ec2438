set_option maxRecDepth 20000 in
theorem ggL_law_X5_least : GoodIn wsL_law wsX5_least := goodIn_r _ [446, 447, 448, 449, 84, 85, 5, 86, 399, 400, 401, 402, 255, 450, 451, 452, 453, 454, 257, 455, 456, 457, 458, 403, 404, 405, 406, 61, 59, 459, 460, 461, 407, 408, 409, 410, 60, 411, 412, 413, 414, 295, 296, 297, 298, 415, 416, 417, 418, 714, 715, 716, 717, 718, 719, 720, 721, 722, 723, 724, 725, 726, 727, 728, 729, 730, 731, 732, 733, 734, 735, 736, 737] (by decide +kernel) (by decide +kernel)
set_option maxRecDepth 20000 in
theorem gL_law_X5_least : GoodIn wsL_law (wsV RL 59 RX5 yX5_least wsX5_least) := goodIn_app (goodIn_of _ (by decide +kernel)) ggL_law_X5_least
set_option maxRecDepth 20000 in
theorem ggL_law_X4_round : GoodIn wsL_law wsX4_round := goodIn_r _ [465, 466, 31, 268, 269, 270, 2, 271, 19, 217, 423, 424, 425, 467, 468, 469, 470, 23, 266, 471, 472, 473, 377, 378, 379, 18, 380, 229, 41, 40, 381, 136, 137, 138, 382, 273, 274, 383, 384, 385, 386, 474, 236, 237, 238, 440, 441, 442, 704, 705, 706, 707, 708, 709, 710, 711, 712, 713, 740, 741, 742, 743, 744, 745, 746, 747, 748, 749, 750, 751, 752] (by decide +kernel) (by decide +kernel)
set_option maxRecDepth 20000 in
theorem gL_law_X4_round : GoodIn wsL_law (wsV RL 60 RX4 yX4_round wsX4_round) := goodIn_app (goodIn_of _ (by decide +kernel)) ggL_law_X4_round
set_option maxRecDepth 20000 in
theorem ggL_law_X5_round : GoodIn wsL_law wsX5_round := goodIn_r _ [478, 448, 479, 480, 63, 287, 288, 289, 5, 290, 255, 84, 85, 86, 481, 482, 483, 484, 62, 485, 486, 487, 488, 403, 404, 405, 406, 61, 59, 411, 412, 413, 414, 295, 296, 297, 298, 489, 490, 491, 492, 493, 494, 495, 714, 715, 716, 717, 718, 719, 720, 721, 722, 723, 724, 725, 726, 727, 728, 729, 730, 731, 732, 733, 734, 735, 736, 737] (by decide +kernel) (by decide +kernel)
set_option maxRecDepth 20000 in
theorem gL_law_X5_round : GoodIn wsL_law (wsV RL 63 RX5 yX5_round wsX5_round) := goodIn_app (goodIn_of _ (by decide +kernel)) ggL_law_X5_round
set_option maxRecDepth 20000 in
theorem ggL_law_X4_together : GoodIn wsL_law wsX4_together := goodIn_r _ [499, 19, 369, 370, 371, 2, 372, 217, 500, 501, 502, 18, 503, 229, 504, 280, 281, 282, 41, 279, 704, 705, 706, 707, 708, 709, 710, 711, 712, 713, 740, 741, 742, 743] (by decide +kernel) (by decide +kernel)
set_option maxRecDepth 20000 in
theorem gL_law_X4_together : GoodIn wsL_law (wsV RL 64 RX4 yX4_together wsX4_together) := goodIn_app (goodIn_of _ (by decide +kernel)) ggL_law_X4_together
set_option maxRecDepth 20000 in
theorem ggL_law_X5_together : GoodIn wsL_law wsX5_together := goodIn_r _ [508, 84, 85, 5, 86, 399, 400, 401, 402, 255, 509, 510, 511, 512, 303, 304, 305, 306, 295, 296, 297, 298, 59, 714, 715, 716, 717, 718, 719, 720, 721, 722, 723, 724, 725, 726, 727, 728, 729, 730, 731, 732, 733, 734, 735, 736, 737] (by decide +kernel) (by decide +kernel)
set_option maxRecDepth 20000 in
theorem gL_law_X5_together : GoodIn wsL_law (wsV RL 67 RX5 yX5_together wsX5_together) := goodIn_app (goodIn_of _ (by decide +kernel)) ggL_law_X5_together
set_option maxRecDepth 20000 in
theorem ggL_law_X4_book : GoodIn wsL_law wsX4_book := goodIn_r _ [516, 23, 268, 269, 270, 2, 271, 19, 217, 517, 518, 519, 22, 520, 250, 48, 49, 704, 705, 706, 707, 708, 709, 710, 711, 712, 713, 740, 741, 742, 743, 744, 745, 746, 747, 748, 749, 750, 751, 752] (by decide +kernel) (by decide +kernel)
set_option maxRecDepth 20000 in
theorem gL_law_X4_book : GoodIn wsL_law (wsV RL 68 RX4 yX4_book wsX4_book) := goodIn_app (goodIn_of _ (by decide +kernel)) ggL_law_X4_book
set_option maxRecDepth 20000 in
theorem ggL_law_X5_book : GoodIn wsL_law wsX5_book := goodIn_r _ [524, 525, 258, 64, 84, 85, 5, 86, 287, 288, 289, 290, 255, 714, 715, 716, 717, 718, 719, 720, 721, 722, 723, 724, 725, 726, 727, 728, 729, 730, 731, 732, 733, 734, 735, 736, 737] (by decide +kernel) (by decide +kernel)
set_option maxRecDepth 20000 in
theorem gL_law_X5_book : GoodIn wsL_law (wsV RL 72 RX5 yX5_book wsX5_book) := goodIn_app (goodIn_of _ (by decide +kernel)) ggL_law_X5_book
set_option maxRecDepth 20000 in
theorem ggL_law_X4_forget : GoodIn wsL_law wsX4_forget := goodIn_r _ [529, 23, 530, 531, 247, 248, 22, 249, 250, 48, 49, 704, 705, 706, 707, 708, 709, 710, 711, 712, 713, 744, 745, 746, 747, 748, 749, 750, 751, 752] (by decide +kernel) (by decide +kernel)
set_option maxRecDepth 20000 in
theorem gL_law_X4_forget : GoodIn wsL_law (wsV RL 73 RX4 yX4_forget wsX4_forget) := goodIn_app (goodIn_of _ (by decide +kernel)) ggL_law_X4_forget
set_option maxRecDepth 20000 in
theorem ggL_law_X5_forget : GoodIn wsL_law wsX5_forget := goodIn_r _ [535, 258, 714, 715, 716, 717, 718, 719, 720, 721, 722, 723, 724, 725, 726, 727, 728, 729, 730, 731, 732, 733, 734, 735, 736, 737] (by decide +kernel) (by decide +kernel)
set_option maxRecDepth 20000 in
theorem gL_law_X5_forget : GoodIn wsL_law (wsV RL 76 RX5 yX5_forget wsX5_forget) := goodIn_app (goodIn_of _ (by decide +kernel)) ggL_law_X5_forget
set_option maxRecDepth 20000 in
theorem ggL_law_X4_waved : GoodIn wsL_law wsX4_waved := goodIn_r _ [539, 28, 19, 23, 336, 339, 340, 341, 2, 342, 343, 540, 541, 542, 27, 543, 544, 53, 545, 546, 384, 385, 18, 386, 229, 382, 273, 274, 547, 548, 549, 22, 550, 48, 49, 551, 552, 553, 554, 378, 379, 380, 41, 40, 381, 136, 137, 138, 555, 556, 557, 558, 559, 560, 561, 562, 704, 705, 706, 707, 708, 709, 710, 711, 712, 713, 744, 745, 746, 747, 748, 749, 750, 751, 752, 753, 754, 740, 741, 742, 743] (by decide +kernel) (by decide +kernel)
set_option maxRecDepth 20000 in
theorem gL_law_X4_waved : GoodIn wsL_law (wsV RL 77 RX4 yX4_waved wsX4_waved) := goodIn_app (goodIn_of _ (by decide +kernel)) ggL_law_X4_waved
set_option maxRecDepth 20000 in
theorem ggL_law_X5_waved : GoodIn wsL_law wsX5_waved := goodIn_r _ [566, 525, 348, 349, 350, 5, 351, 257, 84, 85, 86, 567, 568, 569, 570, 571, 572, 573, 574, 60, 403, 404, 405, 406, 255, 61, 59, 575, 576, 577, 578, 258, 64, 411, 412, 413, 414, 295, 296, 297, 298, 714, 715, 716, 717, 718, 719, 720, 721, 722, 723, 724, 725, 726, 727, 728, 729, 730, 731, 732, 733, 734, 735, 736, 737] (by decide +kernel) (by decide +kernel)
set_option maxRecDepth 20000 in
theorem gL_law_X5_waved : GoodIn wsL_law (wsV RL 81 RX5 yX5_waved wsX5_waved) := goodIn_app (goodIn_of _ (by decide +kernel)) ggL_law_X5_waved
set_option maxRecDepth 20000 in
theorem ggL_law_X4_look : GoodIn wsL_law wsX4_look := goodIn_r _ [582, 28, 19, 23, 336, 217, 339, 340, 341, 2, 342, 343, 540, 541, 542, 27, 543, 544, 53, 545, 546, 384, 385, 18, 386, 229, 382, 273, 274, 547, 548, 549, 22, 550, 48, 49, 551, 552, 553, 554, 378, 379, 380, 41, 40, 381, 136, 137, 138, 583, 584, 585, 586, 587, 588, 556, 557, 558, 589, 590, 591, 592, 593, 704, 705, 706, 707, 708, 709, 710, 711, 712, 713, 744, 745, 746, 747, 748, 749, 750, 751, 752, 740, 741, 742, 743, 753, 754] (by decide +kernel) (by decide +kernel)
