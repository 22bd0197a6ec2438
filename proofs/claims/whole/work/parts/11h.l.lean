set_option maxRecDepth 20000 in
theorem gL_law_X4_look : GoodIn wsL_law (wsV RL 82 RX4 yX4_look wsX4_look) := goodIn_app (goodIn_of _ (by decide +kernel)) ggL_law_X4_look
set_option maxRecDepth 20000 in
theorem ggL_law_X5_look : GoodIn wsL_law wsX5_look := goodIn_r _ [597, 525, 348, 349, 350, 5, 351, 257, 84, 85, 86, 598, 599, 600, 601, 255, 61, 571, 572, 573, 574, 60, 403, 404, 405, 406, 59, 575, 576, 577, 578, 258, 64, 411, 412, 413, 414, 295, 296, 297, 298, 714, 715, 716, 717, 718, 719, 720, 721, 722, 723, 724, 725, 726, 727, 728, 729, 730, 731, 732, 733, 734, 735, 736, 737] (by decide +kernel) (by decide +kernel)
set_option maxRecDepth 20000 in
theorem gL_law_X5_look : GoodIn wsL_law (wsV RL 85 RX5 yX5_look wsX5_look) := goodIn_app (goodIn_of _ (by decide +kernel)) ggL_law_X5_look
set_option maxRecDepth 20000 in
theorem ggL_law_X4_nights : GoodIn wsL_law wsX4_nights := goodIn_r _ [605, 23, 266, 343, 19, 369, 370, 371, 2, 372, 217, 606, 607, 608, 609, 610, 611, 612, 613, 614, 373, 374, 375, 22, 376, 245, 45, 377, 378, 379, 18, 380, 229, 41, 40, 381, 136, 137, 138, 382, 273, 274, 383, 384, 385, 386, 391, 392, 393, 394, 433, 434, 435, 436, 437, 438, 439, 704, 705, 706, 707, 708, 709, 710, 711, 712, 713, 744, 745, 746, 747, 748, 749, 750, 751, 752, 740, 741, 742, 743] (by decide +kernel) (by decide +kernel)
set_option maxRecDepth 20000 in
theorem gL_law_X4_nights : GoodIn wsL_law (wsV RL 86 RX4 yX4_nights wsX4_nights) := goodIn_app (goodIn_of _ (by decide +kernel)) ggL_law_X4_nights
set_option maxRecDepth 20000 in
theorem ggL_law_X5_nights : GoodIn wsL_law wsX5_nights := goodIn_r _ [618, 619, 620, 621, 257, 255, 61, 84, 85, 5, 86, 399, 400, 401, 402, 403, 404, 405, 406, 59, 622, 623, 624, 625, 626, 627, 628, 629, 407, 408, 409, 410, 60, 411, 412, 413, 414, 295, 296, 297, 298, 415, 416, 417, 418, 714, 715, 716, 717, 718, 719, 720, 721, 722, 723, 724, 725, 726, 727, 728, 729, 730, 731, 732, 733, 734, 735, 736, 737] (by decide +kernel) (by decide +kernel)
set_option maxRecDepth 20000 in
theorem gL_law_X5_nights : GoodIn wsL_law (wsV RL 89 RX5 yX5_nights wsX5_nights) := goodIn_app (goodIn_of _ (by decide +kernel)) ggL_law_X5_nights
set_option maxRecDepth 20000 in
theorem ggL_law_X4_image : GoodIn wsL_law wsX4_image := goodIn_r _ [633, 24, 23, 215, 368, 369, 370, 371, 2, 372, 19, 217, 634, 635, 636, 22, 637, 243, 244, 245, 250, 45, 46, 47, 48, 49, 704, 705, 706, 707, 708, 709, 710, 711, 712, 713, 744, 745, 746, 747, 748, 749, 750, 751, 752, 740, 741, 742, 743] (by decide +kernel) (by decide +kernel)
set_option maxRecDepth 20000 in
theorem gL_law_X4_image : GoodIn wsL_law (wsV RL 90 RX4 yX4_image wsX4_image) := goodIn_app (goodIn_of _ (by decide +kernel)) ggL_law_X4_image
set_option maxRecDepth 20000 in
theorem ggL_law_X5_image : GoodIn wsL_law wsX5_image := goodIn_r _ [641, 59, 65, 60, 66, 64, 67, 257, 642, 256, 643, 258, 644, 259, 68, 399, 400, 401, 5, 402, 255, 493, 494, 495, 714, 715, 716, 717, 718, 719, 720, 721, 722, 723, 724, 725, 726, 727, 728, 729, 730, 731, 732, 733, 734, 735, 736, 737] (by decide +kernel) (by decide +kernel)
set_option maxRecDepth 20000 in
theorem gL_law_X5_image : GoodIn wsL_law (wsV RL 93 RX5 yX5_image wsX5_image) := goodIn_app (goodIn_of _ (by decide +kernel)) ggL_law_X5_image
set_option maxRecDepth 20000 in
theorem ggL_law_X4_restore : GoodIn wsL_law wsX4_restore := goodIn_r _ [648, 215, 23, 24, 368, 634, 635, 636, 22, 637, 243, 244, 245, 250, 45, 46, 47, 48, 49, 704, 705, 706, 707, 708, 709, 710, 711, 712, 713, 744, 745, 746, 747, 748, 749, 750, 751, 752] (by decide +kernel) (by decide +kernel)
set_option maxRecDepth 20000 in
theorem gL_law_X4_restore : GoodIn wsL_law (wsV RL 94 RX4 yX4_restore wsX4_restore) := goodIn_app (goodIn_of _ (by decide +kernel)) ggL_law_X4_restore
set_option maxRecDepth 20000 in
theorem ggL_law_X5_restore : GoodIn wsL_law wsX5_restore := goodIn_r _ [652, 68, 259, 65, 59, 66, 60, 67, 64, 642, 257, 643, 256, 644, 258, 493, 494, 5, 495, 714, 715, 716, 717, 718, 719, 720, 721, 722, 723, 724, 725, 726, 727, 728, 729, 730, 731, 732, 733, 734, 735, 736, 737] (by decide +kernel) (by decide +kernel)
set_option maxRecDepth 20000 in
theorem gL_law_X5_restore : GoodIn wsL_law (wsV RL 97 RX5 yX5_restore wsX5_restore) := goodIn_app (goodIn_of _ (by decide +kernel)) ggL_law_X5_restore
set_option maxRecDepth 20000 in
theorem ggL_law_X4_count : GoodIn wsL_law wsX4_count := goodIn_r _ [656, 19, 217, 23, 266, 343, 368, 337, 338, 530, 15, 91, 216, 466, 383, 384, 385, 18, 386, 229, 382, 273, 274, 433, 434, 435, 436, 437, 438, 439, 391, 392, 393, 22, 394, 245, 45, 657, 658, 659, 660, 704, 705, 706, 707, 708, 709, 710, 711, 712, 713, 740, 741, 742, 743, 744, 745, 746, 747, 748, 749, 750, 751, 752, 738, 739] (by decide +kernel) (by decide +kernel)
set_option maxRecDepth 20000 in
theorem gL_law_X4_count : GoodIn wsL_law (wsV RL 98 RX4 yX4_count wsX4_count) := goodIn_app (goodIn_of _ (by decide +kernel)) ggL_law_X4_count
set_option maxRecDepth 20000 in
theorem ggL_law_X5_count : GoodIn wsL_law wsX5_count := goodIn_r _ [664, 665, 666, 667, 5, 668, 255, 257, 256, 258, 83, 259, 480, 669, 670, 671, 672, 59, 673, 674, 675, 676, 352, 353, 354, 355, 60, 714, 715, 716, 717, 718, 719, 720, 721, 722, 723, 724, 725, 726, 727, 728, 729, 730, 731, 732, 733, 734, 735, 736, 737] (by decide +kernel) (by decide +kernel)
set_option maxRecDepth 20000 in
theorem gL_law_X5_count : GoodIn wsL_law (wsV RL 101 RX5 yX5_count wsX5_count) := goodIn_app (goodIn_of _ (by decide +kernel)) ggL_law_X5_count
set_option maxRecDepth 20000 in
theorem ggL_law_X4_digest : GoodIn wsL_law wsX4_digest := goodIn_r _ [680, 681, 19, 217, 682, 23, 343, 30, 15, 91, 683, 684, 261, 262, 2, 263, 264, 265, 266, 267, 268, 269, 270, 271, 272, 273, 18, 274, 275, 276, 277, 22, 278, 245, 45, 279, 280, 281, 282, 229, 41, 685, 686, 687, 688, 28, 336, 689, 333, 334, 335, 337, 338, 339, 340, 341, 342, 540, 541, 542, 27, 543, 544, 53, 545, 546, 384, 385, 386, 382, 547, 548, 549, 550, 48, 49, 551, 552, 553, 554, 378, 379, 380, 40, 381, 136, 137, 138, 555, 556, 557, 558, 559, 560, 561, 562, 690, 580, 581, 582, 583, 584, 585, 586, 587, 588, 589, 590, 591, 592, 593, 369, 370, 371, 372, 426, 427, 428, 429, 430, 431, 432, 433, 434, 435, 436, 437, 438, 439, 373, 374, 375, 376, 377, 383, 391, 392, 393, 394, 691, 497, 498, 499, 500, 501, 502, 503, 504, 692, 654, 655, 656, 368, 530, 216, 466, 657, 658, 659, 660, 704, 705, 706, 707, 708, 709, 710, 711, 712, 713, 740, 741, 742, 743, 744, 745, 746, 747, 748, 749, 750, 751, 752, 738, 739, 753, 754] (by decide +kernel) (by decide +kernel)
set_option maxRecDepth 20000 in
theorem gL_law_X4_digest : GoodIn wsL_law (wsV RL 102 RX4 yX4_digest wsX4_digest) := goodIn_app (goodIn_of _ (by decide +kernel)) ggL_law_X4_digest
set_option maxRecDepth 20000 in
theorem ggL_law_X5_digest : GoodIn wsL_law wsX5_digest := goodIn_r _ [696, 697, 698, 255, 257, 83, 58, 291, 292, 293, 5, 294, 59, 295, 296, 297, 298, 299, 300, 301, 302, 60, 303, 304, 305, 306, 699, 700, 701, 702, 703, 352, 353, 354, 355, 567, 568, 569, 570, 571, 572, 573, 574, 403, 404, 405, 406, 61, 575, 576, 577, 578, 258, 64, 411, 412, 413, 414, 598, 599, 600, 601, 399, 400, 401, 402, 450, 451, 452, 453, 454, 455, 456, 457, 458, 459, 460, 461, 407, 408, 409, 410, 415, 416, 417, 418, 509, 510, 511, 512, 665, 666, 667, 668, 256, 259, 480, 669, 670, 671, 672, 673, 674, 675, 676, 714, 715, 716, 717, 718, 719, 720, 721, 722, 723, 724, 725, 726, 727, 728, 729, 730, 731, 732, 733, 734, 735, 736, 737] (by decide +kernel) (by decide +kernel)
set_option maxRecDepth 20000 in
theorem gL_law_X5_digest : GoodIn wsL_law (wsV RL 106 RX5 yX5_digest wsX5_digest) := goodIn_app (goodIn_of _ (by decide +kernel)) ggL_law_X5_digest
