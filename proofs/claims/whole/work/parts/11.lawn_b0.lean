set_option maxRecDepth 20000 in
theorem ggL_law_X9_init : GoodIn wsL_law wsX9_init := goodIn_r _ [9, 10, 11, 12, 13, 14, 15, 16, 17, 18, 19, 20, 21, 22, 23, 24, 25, 26, 27, 28, 29, 30, 31, 32, 33, 34, 35, 36, 37, 38, 39, 40, 41, 42, 43, 44, 45, 46, 47, 48, 49, 50, 51, 52, 53, 54, 55, 56, 57, 58, 59, 60, 61, 62, 63, 64, 65, 66, 67, 68, 69, 70, 71, 72, 73, 74, 75, 76, 77, 78, 79, 80, 81, 82, 83, 84, 85, 86, 87, 88, 89, 90, 91, 92, 93, 94, 95, 96, 97, 98, 99, 100, 101, 102, 103, 104, 105, 106, 107, 108, 109, 110, 111, 112, 113, 114, 115, 116, 971, 972, 973, 974, 922, 923, 924, 925, 926, 927, 928, 929, 930, 931, 932, 933, 934, 935, 975, 976, 977, 978, 979, 980, 981, 982, 983, 984, 985, 986, 987, 988, 989, 990, 991, 992, 993, 994, 995, 996, 997, 998, 999, 1000, 1001, 1002, 1003, 1004, 1005, 1006, 1007, 1008, 1009, 1010, 1011, 1012, 1013, 1014, 1015, 1016, 1017] (by decide +kernel) (by decide +kernel)
set_option maxRecDepth 20000 in
theorem gL_law_X9_init : GoodIn wsL_law (wsX9_init) := ggL_law_X9_init
set_option maxRecDepth 20000 in
theorem ggL_law_X10_init : GoodIn wsL_law wsX10_init := goodIn_r _ [119, 120, 11, 12, 65, 121, 122, 123, 124, 125, 126, 127, 128, 129, 130, 131, 132, 133, 134, 85, 135, 136, 137, 138, 139, 140, 141, 936, 937, 938, 939, 940, 941, 942, 943, 944, 945, 946, 947, 948, 949, 950, 951, 952, 953, 954, 955, 956, 957, 958, 959, 960, 961, 962, 963, 964, 965, 966, 967, 968, 969, 970] (by decide +kernel) (by decide +kernel)
set_option maxRecDepth 20000 in
theorem gL_law_X10_init : GoodIn wsL_law (wsX10_init) := ggL_law_X10_init
set_option maxRecDepth 20000 in
theorem ggL_law_X9_coin : GoodIn wsL_law wsX9_coin := goodIn_r _ [145, 16, 146, 147, 22, 148, 149, 2, 150, 151, 152, 153, 154, 155, 156, 157, 158, 159, 43, 160, 161, 66, 67, 68, 69, 70, 922, 923, 924, 925, 926, 927, 928, 929, 930, 931, 932, 933, 934, 935, 971, 972, 973, 974, 1005, 1006, 1007, 1008, 1009, 1010] (by decide +kernel) (by decide +kernel)
set_option maxRecDepth 20000 in
theorem gL_law_X9_coin : GoodIn wsL_law (wsV RL 13 RX9 yX9_coin wsX9_coin) := goodIn_app (goodIn_of _ (by decide +kernel)) ggL_law_X9_coin
set_option maxRecDepth 20000 in
theorem ggL_law_X10_coin : GoodIn wsL_law wsX10_coin := goodIn_r _ [165, 166, 167, 168, 169, 170, 5, 171, 172, 173, 174, 175, 176, 177, 178, 179, 121, 122, 123, 124, 125, 936, 937, 938, 939, 940, 941, 942, 943, 944, 945, 946, 947, 948, 949, 950, 951, 952, 953, 954, 955, 956, 957, 958, 959, 960, 961, 962, 963, 964, 965, 966, 967, 968, 969, 970] (by decide +kernel) (by decide +kernel)
set_option maxRecDepth 20000 in
theorem gL_law_X10_coin : GoodIn wsL_law (wsV RL 17 RX10 yX10_coin wsX10_coin) := goodIn_app (goodIn_of _ (by decide +kernel)) ggL_law_X10_coin
set_option maxRecDepth 20000 in
theorem ggL_law_X9_stamp : GoodIn wsL_law wsX9_stamp := goodIn_r _ [183, 16, 146, 184, 22, 185, 186, 187, 2, 188, 147, 151, 152, 153, 154, 155, 156, 922, 923, 924, 925, 926, 927, 928, 929, 930, 931, 932, 933, 934, 935, 971, 972, 973, 974, 1005, 1006, 1007, 1008, 1009, 1010] (by decide +kernel) (by decide +kernel)
set_option maxRecDepth 20000 in
theorem gL_law_X9_stamp : GoodIn wsL_law (wsV RL 18 RX9 yX9_stamp wsX9_stamp) := goodIn_app (goodIn_of _ (by decide +kernel)) ggL_law_X9_stamp
set_option maxRecDepth 20000 in
theorem ggL_law_X10_stamp : GoodIn wsL_law wsX10_stamp := goodIn_r _ [192, 166, 123, 193, 194, 195, 5, 196, 168, 173, 174, 175, 936, 937, 938, 939, 940, 941, 942, 943, 944, 945, 946, 947, 948, 949, 950, 951, 952, 953, 954, 955, 956, 957, 958, 959, 960, 961, 962, 963, 964, 965, 966, 967, 968, 969, 970] (by decide +kernel) (by decide +kernel)
set_option maxRecDepth 20000 in
theorem gL_law_X10_stamp : GoodIn wsL_law (wsV RL 22 RX10 yX10_stamp wsX10_stamp) := goodIn_app (goodIn_of _ (by decide +kernel)) ggL_law_X10_stamp
set_option maxRecDepth 20000 in
theorem ggL_law_X9_told : GoodIn wsL_law wsX9_told := goodIn_r _ [200, 16, 146, 201, 202, 184, 203, 204, 185, 186, 187, 2, 188, 147, 151, 152, 153, 922, 923, 924, 925, 926, 927, 928, 929, 930, 931, 932, 933, 934, 935, 971, 972, 973, 974, 1005, 1006, 1007, 1008, 1009, 1010] (by decide +kernel) (by decide +kernel)
set_option maxRecDepth 20000 in
theorem gL_law_X9_told : GoodIn wsL_law (wsV RL 23 RX9 yX9_told wsX9_told) := goodIn_app (goodIn_of _ (by decide +kernel)) ggL_law_X9_told
set_option maxRecDepth 20000 in
theorem ggL_law_X10_told : GoodIn wsL_law wsX10_told := goodIn_r _ [208, 209, 121, 122, 123, 124, 125, 193, 194, 195, 5, 196, 168, 173, 174, 175, 936, 937, 938, 939, 940, 941, 942, 943, 944, 945, 946, 947, 948, 949, 950, 951, 952, 953, 954, 955, 956, 957, 958, 959, 960, 961, 962, 963, 964, 965, 966, 967, 968, 969, 970] (by decide +kernel) (by decide +kernel)
set_option maxRecDepth 20000 in
theorem gL_law_X10_told : GoodIn wsL_law (wsV RL 26 RX10 yX10_told wsX10_told) := goodIn_app (goodIn_of _ (by decide +kernel)) ggL_law_X10_told
set_option maxRecDepth 20000 in
theorem ggL_law_X9_give : GoodIn wsL_law wsX9_give := goodIn_r _ [213, 16, 146, 204, 185, 186, 187, 2, 188, 147, 151, 152, 153, 148, 149, 150, 922, 923, 924, 925, 926, 927, 928, 929, 930, 931, 932, 933, 934, 935, 971, 972, 973, 974, 1005, 1006, 1007, 1008, 1009, 1010] (by decide +kernel) (by decide +kernel)
set_option maxRecDepth 20000 in
theorem gL_law_X9_give : GoodIn wsL_law (wsV RL 27 RX9 yX9_give wsX9_give) := goodIn_app (goodIn_of _ (by decide +kernel)) ggL_law_X9_give
set_option maxRecDepth 20000 in
theorem ggL_law_X10_give : GoodIn wsL_law wsX10_give := goodIn_r _ [217, 125, 193, 194, 195, 5, 196, 168, 173, 174, 175, 169, 170, 171, 172, 936, 937, 938, 939, 940, 941, 942, 943, 944, 945, 946, 947, 948, 949, 950, 951, 952, 953, 954, 955, 956, 957, 958, 959, 960, 961, 962, 963, 964, 965, 966, 967, 968, 969, 970] (by decide +kernel) (by decide +kernel)
set_option maxRecDepth 20000 in
theorem gL_law_X10_give : GoodIn wsL_law (wsV RL 30 RX10 yX10_give wsX10_give) := goodIn_app (goodIn_of _ (by decide +kernel)) ggL_law_X10_give
set_option maxRecDepth 20000 in
theorem ggL_law_X9_older : GoodIn wsL_law wsX9_older := goodIn_r _ [221, 16, 146, 185, 186, 187, 2, 188, 147, 151, 152, 153, 222, 223, 224, 43, 225, 70, 69, 226, 227, 228, 229, 68, 230, 231, 232, 922, 923, 924, 925, 926, 927, 928, 929, 930, 931, 932, 933, 934, 935, 971, 972, 973, 974, 1005, 1006, 1007, 1008, 1009, 1010] (by decide +kernel) (by decide +kernel)
set_option maxRecDepth 20000 in
theorem gL_law_X9_older : GoodIn wsL_law (wsV RL 31 RX9 yX9_older wsX9_older) := goodIn_app (goodIn_of _ (by decide +kernel)) ggL_law_X9_older
set_option maxRecDepth 20000 in
theorem ggL_law_X10_older : GoodIn wsL_law wsX10_older := goodIn_r _ [236, 193, 194, 195, 5, 196, 168, 173, 174, 175, 237, 238, 239, 240, 241, 242, 243, 244, 124, 123, 122, 936, 937, 938, 939, 940, 941, 942, 943, 944, 945, 946, 947, 948, 949, 950, 951, 952, 953, 954, 955, 956, 957, 958, 959, 960, 961, 962, 963, 964, 965, 966, 967, 968, 969, 970] (by decide +kernel) (by decide +kernel)
set_option maxRecDepth 20000 in
theorem gL_law_X10_older : GoodIn wsL_law (wsV RL 34 RX10 yX10_older wsX10_older) := goodIn_app (goodIn_of _ (by decide +kernel)) ggL_law_X10_older
set_option maxRecDepth 20000 in
theorem ggL_law_X9_rule : GoodIn wsL_law wsX9_rule := goodIn_r _ [248, 16, 249, 22, 151, 152, 2, 153, 922, 923, 924, 925, 926, 927, 928, 929, 930, 931, 932, 933, 934, 935, 971, 972, 973, 974] (by decide +kernel) (by decide +kernel)
set_option maxRecDepth 20000 in
theorem gL_law_X9_rule : GoodIn wsL_law (wsV RL 35 RX9 yX9_rule wsX9_rule) := goodIn_app (goodIn_of _ (by decide +kernel)) ggL_law_X9_rule
set_option maxRecDepth 20000 in
theorem ggL_law_X10_rule : GoodIn wsL_law wsX10_rule := goodIn_r _ [253, 167, 254, 173, 174, 5, 175, 936, 937, 938, 939, 940, 941, 942, 943, 944, 945, 946, 947, 948, 949, 950, 951, 952, 953, 954, 955, 956, 957, 958, 959, 960, 961, 962, 963, 964, 965, 966, 967, 968, 969, 970] (by decide +kernel) (by decide +kernel)
set_option maxRecDepth 20000 in
theorem gL_law_X10_rule : GoodIn wsL_law (wsV RL 39 RX10 yX10_rule wsX10_rule) := goodIn_app (goodIn_of _ (by decide +kernel)) ggL_law_X10_rule
set_option maxRecDepth 20000 in
theorem ggL_law_X9_of : GoodIn wsL_law wsX9_of := goodIn_r _ [258, 27, 259, 21, 260, 148, 149, 2, 150, 151, 152, 153, 261, 262, 263, 264, 22, 16, 146, 265, 266, 267, 20, 268, 269, 270, 271, 272, 273, 81, 83, 82, 86, 274, 227, 228, 43, 229, 68, 230, 231, 232, 275, 223, 224, 225, 70, 69, 226, 276, 277, 278, 279, 280, 281, 282, 84, 283, 284, 285, 26, 286, 90, 287, 288, 289, 290, 291, 292, 293, 294, 295, 296, 297, 298, 299, 300, 301, 302, 303, 304, 305, 306, 307, 308, 309, 310, 311, 312, 313, 314, 315, 316, 317, 318, 319, 320, 321, 322, 922, 923, 924, 925, 926, 927, 928, 929, 930, 931, 932, 933, 934, 935, 981, 982, 983, 984, 985, 975, 976, 977, 978, 979, 980, 971, 972, 973, 974, 1005, 1006, 1007, 1008, 1009, 1010] (by decide +kernel) (by decide +kernel)
set_option maxRecDepth 20000 in
theorem gL_law_X9_of : GoodIn wsL_law (wsV RL 40 RX9 yX9_of wsX9_of) := goodIn_app (goodIn_of _ (by decide +kernel)) ggL_law_X9_of
set_option maxRecDepth 20000 in
theorem ggL_law_X10_of : GoodIn wsL_law wsX10_of := goodIn_r _ [326, 167, 254, 327, 129, 169, 170, 5, 171, 172, 173, 174, 175, 328, 329, 330, 331, 332, 333, 334, 335, 168, 125, 336, 337, 338, 339, 121, 237, 238, 239, 240, 241, 242, 243, 244, 124, 123, 122, 340, 341, 342, 343, 936, 937, 938, 939, 940, 941, 942, 943, 944, 945, 946, 947, 948, 949, 950, 951, 952, 953, 954, 955, 956, 957, 958, 959, 960, 961, 962, 963, 964, 965, 966, 967, 968, 969, 970] (by decide +kernel) (by decide +kernel)
set_option maxRecDepth 20000 in
theorem gL_law_X10_of : GoodIn wsL_law (wsV RL 43 RX10 yX10_of wsX10_of) := goodIn_app (goodIn_of _ (by decide +kernel)) ggL_law_X10_of
