set_option maxRecDepth 20000 in
theorem ggL_law_X9_shows : GoodIn wsL_law wsX9_shows := goodIn_r _ [780, 16, 467, 468, 27, 21, 28, 23, 185, 186, 187, 2, 188, 146, 147, 151, 152, 153, 154, 155, 156, 261, 262, 263, 264, 22, 265, 266, 267, 20, 268, 269, 270, 271, 272, 273, 81, 83, 82, 86, 274, 227, 228, 43, 229, 68, 230, 231, 232, 275, 223, 224, 225, 70, 69, 226, 276, 277, 278, 279, 280, 281, 282, 84, 283, 284, 285, 26, 286, 90, 287, 288, 289, 760, 761, 762, 763, 781, 782, 783, 784, 589, 733, 734, 735, 736, 737, 673, 675, 529, 530, 531, 532, 533, 534, 535, 536, 537, 538, 539, 540, 541, 542, 302, 303, 304, 305, 306, 292, 307, 308, 309, 310, 311, 312, 543, 544, 545, 546, 547, 548, 314, 315, 316, 317, 318, 319, 320, 321, 322, 785, 786, 787, 788, 922, 923, 924, 925, 926, 927, 928, 929, 930, 931, 932, 933, 934, 935, 971, 972, 973, 974, 1011, 1012, 1013, 1014, 1005, 1006, 1007, 1008, 1009, 1010, 975, 976, 977, 978, 979, 980, 981, 982, 983, 984, 985] (by decide +kernel) (by decide +kernel)
set_option maxRecDepth 20000 in
theorem gL_law_X9_shows : GoodIn wsL_law (wsV RL 114 RX9 yX9_shows wsX9_shows) := goodIn_app (goodIn_of _ (by decide +kernel)) ggL_law_X9_shows
set_option maxRecDepth 20000 in
theorem ggL_law_X10_shows : GoodIn wsL_law wsX10_shows := goodIn_r _ [792, 166, 136, 135, 496, 193, 194, 195, 5, 196, 168, 173, 174, 175, 769, 770, 771, 772, 124, 123, 773, 774, 775, 776, 628, 629, 630, 631, 132, 125, 743, 744, 745, 746, 128, 575, 571, 572, 573, 574, 576, 577, 578, 579, 580, 581, 254, 327, 129, 121, 562, 563, 332, 333, 334, 335, 336, 337, 338, 339, 237, 238, 239, 240, 241, 242, 243, 244, 122, 582, 583, 584, 328, 329, 330, 331, 340, 341, 342, 343, 632, 633, 634, 635, 936, 937, 938, 939, 940, 941, 942, 943, 944, 945, 946, 947, 948, 949, 950, 951, 952, 953, 954, 955, 956, 957, 958, 959, 960, 961, 962, 963, 964, 965, 966, 967, 968, 969, 970] (by decide +kernel) (by decide +kernel)
set_option maxRecDepth 20000 in
theorem gL_law_X10_shows : GoodIn wsL_law (wsV RL 117 RX10 yX10_shows wsX10_shows) := goodIn_app (goodIn_of _ (by decide +kernel)) ggL_law_X10_shows
set_option maxRecDepth 20000 in
theorem ggL_law_X9_image : GoodIn wsL_law wsX9_image := goodIn_r _ [796, 17, 16, 797, 798, 799, 800, 15, 801, 802, 57, 59, 60, 803, 804, 805, 43, 806, 161, 807, 421, 422, 423, 66, 67, 68, 69, 70, 424, 158, 159, 160, 808, 488, 489, 47, 490, 486, 75, 76, 77, 491, 483, 484, 485, 922, 923, 924, 925, 926, 927, 928, 929, 930, 931, 932, 933, 934, 935, 971, 972, 973, 974, 1005, 1006, 1007, 1008, 1009, 1010, 1011, 1012, 1013, 1014] (by decide +kernel) (by decide +kernel)
set_option maxRecDepth 20000 in
theorem gL_law_X9_image : GoodIn wsL_law (wsV RL 118 RX9 yX9_image wsX9_image) := goodIn_app (goodIn_of _ (by decide +kernel)) ggL_law_X9_image
set_option maxRecDepth 20000 in
theorem ggL_law_X10_image : GoodIn wsL_law wsX10_image := goodIn_r _ [812, 137, 138, 168, 254, 510, 496, 813, 814, 815, 816, 5, 817, 121, 122, 123, 124, 125, 126, 127, 128, 936, 937, 938, 939, 940, 941, 942, 943, 944, 945, 946, 947, 948, 949, 950, 951, 952, 953, 954, 955, 956, 957, 958, 959, 960, 961, 962, 963, 964, 965, 966, 967, 968, 969, 970] (by decide +kernel) (by decide +kernel)
set_option maxRecDepth 20000 in
theorem gL_law_X10_image : GoodIn wsL_law (wsV RL 121 RX10 yX10_image wsX10_image) := goodIn_app (goodIn_of _ (by decide +kernel)) ggL_law_X10_image
set_option maxRecDepth 20000 in
theorem ggL_law_X9_restore : GoodIn wsL_law wsX9_restore := goodIn_r _ [821, 797, 16, 17, 22, 798, 799, 800, 15, 801, 802, 57, 59, 60, 803, 804, 805, 43, 806, 161, 807, 421, 422, 423, 66, 67, 68, 69, 70, 424, 158, 159, 160, 808, 488, 489, 47, 490, 486, 75, 76, 77, 491, 483, 484, 485, 922, 923, 924, 925, 926, 927, 928, 929, 930, 931, 932, 933, 934, 935, 971, 972, 973, 974, 1005, 1006, 1007, 1008, 1009, 1010, 1011, 1012, 1013, 1014] (by decide +kernel) (by decide +kernel)
set_option maxRecDepth 20000 in
theorem gL_law_X9_restore : GoodIn wsL_law (wsV RL 122 RX9 yX9_restore wsX9_restore) := goodIn_app (goodIn_of _ (by decide +kernel)) ggL_law_X9_restore
set_option maxRecDepth 20000 in
theorem ggL_law_X10_restore : GoodIn wsL_law wsX10_restore := goodIn_r _ [825, 813, 137, 138, 168, 254, 510, 496, 814, 815, 816, 5, 817, 121, 122, 123, 124, 125, 126, 127, 128, 936, 937, 938, 939, 940, 941, 942, 943, 944, 945, 946, 947, 948, 949, 950, 951, 952, 953, 954, 955, 956, 957, 958, 959, 960, 961, 962, 963, 964, 965, 966, 967, 968, 969, 970] (by decide +kernel) (by decide +kernel)
set_option maxRecDepth 20000 in
theorem gL_law_X10_restore : GoodIn wsL_law (wsV RL 125 RX10 yX10_restore wsX10_restore) := goodIn_app (goodIn_of _ (by decide +kernel)) ggL_law_X10_restore
set_option maxRecDepth 20000 in
theorem ggL_law_X9_seen : GoodIn wsL_law wsX9_seen := goodIn_r _ [829, 52, 830, 36, 831, 832, 833, 834, 2, 835, 151, 152, 153, 836, 837, 838, 526, 527, 528, 839, 840, 841, 51, 842, 114, 115, 843, 844, 845, 846, 116, 847, 848, 849, 35, 850, 851, 852, 853, 854, 855, 856, 857, 858, 859, 101, 860, 861, 862, 863, 99, 100, 922, 923, 924, 925, 926, 927, 928, 929, 930, 931, 932, 933, 934, 935, 993, 994, 995, 996, 997, 998, 999, 1000, 1015, 1016, 1017] (by decide +kernel) (by decide +kernel)
set_option maxRecDepth 20000 in
theorem gL_law_X9_seen : GoodIn wsL_law (wsV RL 126 RX9 yX9_seen wsX9_seen) := goodIn_app (goodIn_of _ (by decide +kernel)) ggL_law_X9_seen
set_option maxRecDepth 20000 in
theorem ggL_law_X10_seen : GoodIn wsL_law wsX10_seen := goodIn_r _ [867, 209, 166, 690, 141, 134, 133, 868, 869, 5, 870, 167, 871, 173, 174, 175, 567, 568, 569, 570, 872, 873, 874, 875, 139, 140, 692, 693, 694, 695, 876, 877, 878, 879, 700, 701, 702, 703, 936, 937, 938, 939, 940, 941, 942, 943, 944, 945, 946, 947, 948, 949, 950, 951, 952, 953, 954, 955, 956, 957, 958, 959, 960, 961, 962, 963, 964, 965, 966, 967, 968, 969, 970] (by decide +kernel) (by decide +kernel)
set_option maxRecDepth 20000 in
theorem gL_law_X10_seen : GoodIn wsL_law (wsV RL 130 RX10 yX10_seen wsX10_seen) := goodIn_app (goodIn_of _ (by decide +kernel)) ggL_law_X10_seen
set_option maxRecDepth 20000 in
theorem ggL_law_X9_sheet : GoodIn wsL_law wsX9_sheet := goodIn_r _ [883, 52, 833, 834, 2, 835, 151, 152, 153, 836, 837, 838, 884, 885, 886, 51, 887, 114, 115, 116, 922, 923, 924, 925, 926, 927, 928, 929, 930, 931, 932, 933, 934, 935, 1015, 1016, 1017] (by decide +kernel) (by decide +kernel)
set_option maxRecDepth 20000 in
theorem gL_law_X9_sheet : GoodIn wsL_law (wsV RL 131 RX9 yX9_sheet wsX9_sheet) := goodIn_app (goodIn_of _ (by decide +kernel)) ggL_law_X9_sheet
set_option maxRecDepth 20000 in
theorem ggL_law_X10_sheet : GoodIn wsL_law wsX10_sheet := goodIn_r _ [891, 139, 140, 141, 868, 869, 5, 870, 167, 871, 173, 174, 175, 936, 937, 938, 939, 940, 941, 942, 943, 944, 945, 946, 947, 948, 949, 950, 951, 952, 953, 954, 955, 956, 957, 958, 959, 960, 961, 962, 963, 964, 965, 966, 967, 968, 969, 970] (by decide +kernel) (by decide +kernel)
set_option maxRecDepth 20000 in
theorem gL_law_X10_sheet : GoodIn wsL_law (wsV RL 134 RX10 yX10_sheet wsX10_sheet) := goodIn_app (goodIn_of _ (by decide +kernel)) ggL_law_X10_sheet
set_option maxRecDepth 20000 in
theorem ggL_law_X9_drop : GoodIn wsL_law wsX9_drop := goodIn_r _ [895, 52, 896, 897, 833, 834, 2, 835, 151, 152, 153, 922, 923, 924, 925, 926, 927, 928, 929, 930, 931, 932, 933, 934, 935, 1015, 1016, 1017] (by decide +kernel) (by decide +kernel)
set_option maxRecDepth 20000 in
theorem gL_law_X9_drop : GoodIn wsL_law (wsV RL 135 RX9 yX9_drop wsX9_drop) := goodIn_app (goodIn_of _ (by decide +kernel)) ggL_law_X9_drop
set_option maxRecDepth 20000 in
theorem ggL_law_X10_drop : GoodIn wsL_law wsX10_drop := goodIn_r _ [901, 167, 139, 140, 173, 174, 5, 175, 936, 937, 938, 939, 940, 941, 942, 943, 944, 945, 946, 947, 948, 949, 950, 951, 952, 953, 954, 955, 956, 957, 958, 959, 960, 961, 962, 963, 964, 965, 966, 967, 968, 969, 970] (by decide +kernel) (by decide +kernel)
set_option maxRecDepth 20000 in
theorem gL_law_X10_drop : GoodIn wsL_law (wsV RL 138 RX10 yX10_drop wsX10_drop) := goodIn_app (goodIn_of _ (by decide +kernel)) ggL_law_X10_drop
set_option maxRecDepth 20000 in
theorem ggL_law_X9_item : GoodIn wsL_law wsX9_item := goodIn_r _ [905, 52, 833, 834, 2, 835, 151, 152, 153, 836, 837, 838, 839, 840, 841, 51, 842, 114, 115, 906, 907, 908, 909, 116, 922, 923, 924, 925, 926, 927, 928, 929, 930, 931, 932, 933, 934, 935, 1015, 1016, 1017] (by decide +kernel) (by decide +kernel)
set_option maxRecDepth 20000 in
theorem gL_law_X9_item : GoodIn wsL_law (wsV RL 139 RX9 yX9_item wsX9_item) := goodIn_app (goodIn_of _ (by decide +kernel)) ggL_law_X9_item
set_option maxRecDepth 20000 in
theorem ggL_law_X10_item : GoodIn wsL_law wsX10_item := goodIn_r _ [913, 141, 868, 869, 5, 870, 167, 871, 173, 174, 175, 872, 873, 874, 875, 139, 140, 936, 937, 938, 939, 940, 941, 942, 943, 944, 945, 946, 947, 948, 949, 950, 951, 952, 953, 954, 955, 956, 957, 958, 959, 960, 961, 962, 963, 964, 965, 966, 967, 968, 969, 970] (by decide +kernel) (by decide +kernel)
set_option maxRecDepth 20000 in
theorem gL_law_X10_item : GoodIn wsL_law (wsV RL 143 RX10 yX10_item wsX10_item) := goodIn_app (goodIn_of _ (by decide +kernel)) ggL_law_X10_item
set_option maxRecDepth 20000 in
theorem ggL_law_X9_film : GoodIn wsL_law wsX9_film := goodIn_r _ [917, 27, 259, 52, 21, 260, 148, 149, 2, 150, 151, 152, 153, 833, 834, 835, 836, 837, 838, 261, 262, 263, 264, 22, 16, 146, 265, 266, 267, 20, 268, 269, 270, 271, 272, 273, 81, 83, 82, 86, 274, 227, 228, 43, 229, 68, 230, 231, 232, 275, 223, 224, 225, 70, 69, 226, 276, 277, 278, 279, 280, 281, 282, 84, 283, 284, 285, 26, 286, 90, 287, 288, 289, 290, 291, 292, 293, 294, 295, 296, 839, 840, 841, 51, 842, 114, 115, 301, 302, 303, 304, 305, 306, 307, 308, 309, 310, 311, 312, 906, 907, 908, 909, 116, 922, 923, 924, 925, 926, 927, 928, 929, 930, 931, 932, 933, 934, 935, 981, 982, 983, 984, 985, 975, 976, 977, 978, 979, 980, 971, 972, 973, 974, 1005, 1006, 1007, 1008, 1009, 1010, 1015, 1016, 1017] (by decide +kernel) (by decide +kernel)
set_option maxRecDepth 20000 in
theorem gL_law_X9_film : GoodIn wsL_law (wsV RL 144 RX9 yX9_film wsX9_film) := goodIn_app (goodIn_of _ (by decide +kernel)) ggL_law_X9_film
set_option maxRecDepth 20000 in
theorem ggL_law_X10_film : GoodIn wsL_law wsX10_film := goodIn_r _ [921, 254, 327, 141, 129, 169, 170, 5, 171, 172, 173, 174, 175, 868, 869, 870, 167, 871, 332, 333, 334, 335, 168, 125, 336, 337, 338, 339, 121, 237, 238, 239, 240, 241, 242, 243, 244, 124, 123, 122, 872, 873, 874, 875, 139, 140, 936, 937, 938, 939, 940, 941, 942, 943, 944, 945, 946, 947, 948, 949, 950, 951, 952, 953, 954, 955, 956, 957, 958, 959, 960, 961, 962, 963, 964, 965, 966, 967, 968, 969, 970] (by decide +kernel) (by decide +kernel)
set_option maxRecDepth 20000 in
theorem gL_law_X10_film : GoodIn wsL_law (wsV RL 147 RX10 yX10_film wsX10_film) := goodIn_app (goodIn_of _ (by decide +kernel)) ggL_law_X10_film
