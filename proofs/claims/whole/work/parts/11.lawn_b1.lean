set_option maxRecDepth 20000 in
theorem ggL_law_X9_type : GoodIn wsL_law wsX9_type := goodIn_r _ [347, 40, 348, 151, 152, 2, 153, 349, 350, 39, 351, 352, 353, 354, 355, 356, 357, 107, 922, 923, 924, 925, 926, 927, 928, 929, 930, 931, 932, 933, 934, 935, 1001, 1002, 1003, 1004] (by decide +kernel) (by decide +kernel)
set_option maxRecDepth 20000 in
theorem gL_law_X9_type : GoodIn wsL_law (wsV RL 46 RX9 yX9_type wsX9_type) := goodIn_app (goodIn_of _ (by decide +kernel)) ggL_law_X9_type
set_option maxRecDepth 20000 in
theorem ggL_law_X10_type : GoodIn wsL_law wsX10_type := goodIn_r _ [361, 362, 363, 364, 365, 366, 130, 173, 174, 5, 175, 936, 937, 938, 939, 940, 941, 942, 943, 944, 945, 946, 947, 948, 949, 950, 951, 952, 953, 954, 955, 956, 957, 958, 959, 960, 961, 962, 963, 964, 965, 966, 967, 968, 969, 970] (by decide +kernel) (by decide +kernel)
set_option maxRecDepth 20000 in
theorem gL_law_X10_type : GoodIn wsL_law (wsV RL 50 RX10 yX10_type wsX10_type) := goodIn_app (goodIn_of _ (by decide +kernel)) ggL_law_X10_type
set_option maxRecDepth 20000 in
theorem ggL_law_X9_purse : GoodIn wsL_law wsX9_purse := goodIn_r _ [370, 40, 44, 371, 16, 146, 147, 22, 148, 149, 2, 150, 151, 152, 153, 372, 373, 374, 39, 375, 376, 377, 105, 378, 379, 380, 381, 382, 383, 384, 385, 357, 107, 386, 387, 388, 389, 390, 391, 392, 393, 394, 395, 396, 397, 398, 399, 400, 401, 402, 403, 404, 405, 406, 407, 408, 409, 410, 411, 158, 159, 43, 160, 161, 66, 67, 68, 69, 70, 412, 413, 414, 415, 416, 417, 418, 419, 420, 421, 422, 423, 424, 922, 923, 924, 925, 926, 927, 928, 929, 930, 931, 932, 933, 934, 935, 1001, 1002, 1003, 1004, 971, 972, 973, 974, 1005, 1006, 1007, 1008, 1009, 1010] (by decide +kernel) (by decide +kernel)
set_option maxRecDepth 20000 in
theorem gL_law_X9_purse : GoodIn wsL_law (wsV RL 51 RX9 yX9_purse wsX9_purse) := goodIn_app (goodIn_of _ (by decide +kernel)) ggL_law_X9_purse
set_option maxRecDepth 20000 in
theorem ggL_law_X10_purse : GoodIn wsL_law wsX10_purse := goodIn_r _ [428, 366, 429, 168, 430, 131, 169, 170, 5, 171, 172, 173, 174, 175, 431, 432, 433, 434, 435, 436, 437, 438, 439, 440, 441, 442, 130, 443, 444, 445, 446, 447, 448, 449, 450, 451, 452, 453, 454, 455, 456, 457, 458, 459, 167, 460, 461, 462, 209, 176, 177, 178, 179, 121, 122, 123, 124, 125, 936, 937, 938, 939, 940, 941, 942, 943, 944, 945, 946, 947, 948, 949, 950, 951, 952, 953, 954, 955, 956, 957, 958, 959, 960, 961, 962, 963, 964, 965, 966, 967, 968, 969, 970] (by decide +kernel) (by decide +kernel)
set_option maxRecDepth 20000 in
theorem gL_law_X10_purse : GoodIn wsL_law (wsV RL 54 RX10 yX10_purse wsX10_purse) := goodIn_app (goodIn_of _ (by decide +kernel)) ggL_law_X10_purse
set_option maxRecDepth 20000 in
theorem ggL_law_X9_day : GoodIn wsL_law wsX9_day := goodIn_r _ [466, 40, 48, 371, 16, 467, 468, 469, 470, 471, 39, 472, 473, 377, 105, 474, 475, 476, 477, 478, 479, 480, 481, 391, 392, 393, 394, 357, 107, 407, 408, 409, 410, 152, 2, 153, 395, 396, 397, 398, 399, 400, 401, 402, 403, 404, 405, 406, 382, 383, 384, 385, 386, 387, 388, 389, 390, 482, 483, 484, 47, 485, 486, 75, 76, 77, 412, 413, 414, 415, 416, 417, 418, 419, 487, 488, 489, 490, 491, 922, 923, 924, 925, 926, 927, 928, 929, 930, 931, 932, 933, 934, 935, 1001, 1002, 1003, 1004, 971, 972, 973, 974, 1011, 1012, 1013, 1014] (by decide +kernel) (by decide +kernel)
set_option maxRecDepth 20000 in
theorem gL_law_X9_day : GoodIn wsL_law (wsV RL 55 RX9 yX9_day wsX9_day) := goodIn_app (goodIn_of _ (by decide +kernel)) ggL_law_X9_day
set_option maxRecDepth 20000 in
theorem ggL_law_X10_day : GoodIn wsL_law wsX10_day := goodIn_r _ [495, 366, 429, 430, 496, 128, 131, 431, 432, 433, 5, 434, 435, 436, 437, 438, 439, 440, 441, 442, 130, 443, 444, 445, 446, 447, 448, 173, 174, 175, 449, 450, 451, 452, 453, 454, 455, 456, 457, 458, 459, 167, 460, 461, 462, 209, 172, 936, 937, 938, 939, 940, 941, 942, 943, 944, 945, 946, 947, 948, 949, 950, 951, 952, 953, 954, 955, 956, 957, 958, 959, 960, 961, 962, 963, 964, 965, 966, 967, 968, 969, 970] (by decide +kernel) (by decide +kernel)
set_option maxRecDepth 20000 in
theorem gL_law_X10_day : GoodIn wsL_law (wsV RL 59 RX10 yX10_day wsX10_day) := goodIn_app (goodIn_of _ (by decide +kernel)) ggL_law_X10_day
set_option maxRecDepth 20000 in
theorem ggL_law_X9_count : GoodIn wsL_law wsX9_count := goodIn_r _ [500, 16, 146, 147, 467, 468, 501, 502, 503, 504, 43, 505, 161, 67, 922, 923, 924, 925, 926, 927, 928, 929, 930, 931, 932, 933, 934, 935, 971, 972, 973, 974, 1005, 1006, 1007, 1008, 1009, 1010, 1011, 1012, 1013, 1014] (by decide +kernel) (by decide +kernel)
set_option maxRecDepth 20000 in
theorem gL_law_X9_count : GoodIn wsL_law (wsV RL 60 RX9 yX9_count wsX9_count) := goodIn_app (goodIn_of _ (by decide +kernel)) ggL_law_X9_count
set_option maxRecDepth 20000 in
theorem ggL_law_X10_count : GoodIn wsL_law wsX10_count := goodIn_r _ [509, 168, 121, 496, 510, 936, 937, 938, 939, 940, 941, 942, 943, 944, 945, 946, 947, 948, 949, 950, 951, 952, 953, 954, 955, 956, 957, 958, 959, 960, 961, 962, 963, 964, 965, 966, 967, 968, 969, 970] (by decide +kernel) (by decide +kernel)
set_option maxRecDepth 20000 in
theorem gL_law_X10_count : GoodIn wsL_law (wsV RL 63 RX10 yX10_count wsX10_count) := goodIn_app (goodIn_of _ (by decide +kernel)) ggL_law_X10_count
set_option maxRecDepth 20000 in
theorem ggL_law_X9_bill : GoodIn wsL_law wsX9_bill := goodIn_r _ [514, 27, 21, 515, 516, 517, 518, 2, 519, 520, 521, 522, 151, 152, 153, 523, 524, 525, 526, 527, 528, 261, 262, 263, 264, 22, 16, 146, 265, 266, 267, 20, 268, 269, 270, 271, 272, 273, 81, 83, 82, 86, 274, 227, 228, 43, 229, 68, 230, 231, 232, 275, 223, 224, 225, 70, 69, 226, 276, 277, 278, 279, 280, 281, 282, 84, 283, 284, 285, 26, 286, 90, 287, 288, 289, 529, 530, 531, 532, 533, 534, 535, 536, 537, 538, 539, 540, 541, 542, 302, 303, 304, 305, 306, 292, 307, 308, 309, 310, 311, 312, 543, 544, 545, 546, 547, 548, 314, 315, 316, 317, 318, 319, 320, 321, 322, 549, 550, 551, 552, 553, 204, 260, 554, 555, 556, 557, 922, 923, 924, 925, 926, 927, 928, 929, 930, 931, 932, 933, 934, 935, 981, 982, 983, 984, 985, 971, 972, 973, 974, 975, 976, 977, 978, 979, 980, 1005, 1006, 1007, 1008, 1009, 1010] (by decide +kernel) (by decide +kernel)
set_option maxRecDepth 20000 in
theorem gL_law_X9_bill : GoodIn wsL_law (wsV RL 64 RX9 yX9_bill wsX9_bill) := goodIn_app (goodIn_of _ (by decide +kernel)) ggL_law_X9_bill
set_option maxRecDepth 20000 in
theorem ggL_law_X10_bill : GoodIn wsL_law wsX10_bill := goodIn_r _ [561, 562, 563, 564, 565, 5, 566, 457, 458, 459, 167, 173, 174, 175, 460, 461, 462, 209, 172, 567, 568, 569, 570, 571, 572, 573, 574, 168, 125, 575, 576, 577, 578, 579, 580, 581, 254, 327, 129, 121, 332, 333, 334, 335, 336, 337, 338, 339, 237, 238, 239, 240, 241, 242, 243, 244, 124, 123, 122, 582, 583, 584, 328, 329, 330, 331, 936, 937, 938, 939, 940, 941, 942, 943, 944, 945, 946, 947, 948, 949, 950, 951, 952, 953, 954, 955, 956, 957, 958, 959, 960, 961, 962, 963, 964, 965, 966, 967, 968, 969, 970] (by decide +kernel) (by decide +kernel)
set_option maxRecDepth 20000 in
theorem gL_law_X10_bill : GoodIn wsL_law (wsV RL 68 RX10 yX10_bill wsX10_bill) := goodIn_app (goodIn_of _ (by decide +kernel)) ggL_law_X10_bill
set_option maxRecDepth 20000 in
theorem ggL_law_X9_would : GoodIn wsL_law wsX9_would := goodIn_r _ [588, 27, 21, 589, 515, 590, 516, 517, 518, 2, 519, 520, 521, 522, 151, 152, 153, 523, 524, 525, 526, 527, 528, 261, 262, 263, 264, 22, 16, 146, 265, 266, 267, 20, 268, 269, 270, 271, 272, 273, 81, 83, 82, 86, 274, 227, 228, 43, 229, 68, 230, 231, 232, 275, 223, 224, 225, 70, 69, 226, 276, 277, 278, 279, 280, 281, 282, 84, 283, 284, 285, 26, 286, 90, 287, 288, 289, 529, 530, 531, 532, 533, 534, 535, 536, 537, 538, 539, 540, 541, 542, 302, 303, 304, 305, 306, 292, 307, 308, 309, 310, 311, 312, 543, 544, 545, 546, 547, 548, 314, 315, 316, 317, 318, 319, 320, 321, 322, 290, 291, 293, 294, 295, 296, 922, 923, 924, 925, 926, 927, 928, 929, 930, 931, 932, 933, 934, 935, 981, 982, 983, 984, 985, 971, 972, 973, 974, 975, 976, 977, 978, 979, 980, 1005, 1006, 1007, 1008, 1009, 1010] (by decide +kernel) (by decide +kernel)
set_option maxRecDepth 20000 in
theorem gL_law_X9_would : GoodIn wsL_law (wsV RL 69 RX9 yX9_would wsX9_would) := goodIn_app (goodIn_of _ (by decide +kernel)) ggL_law_X9_would
set_option maxRecDepth 20000 in
theorem ggL_law_X10_would : GoodIn wsL_law wsX10_would := goodIn_r _ [594, 167, 575, 581, 576, 563, 564, 565, 5, 566, 457, 458, 459, 173, 174, 175, 460, 461, 462, 209, 172, 567, 568, 569, 570, 577, 578, 579, 580, 254, 327, 129, 121, 562, 332, 333, 334, 335, 168, 125, 336, 337, 338, 339, 237, 238, 239, 240, 241, 242, 243, 244, 124, 123, 122, 582, 583, 584, 328, 329, 330, 331, 595, 596, 597, 936, 937, 938, 939, 940, 941, 942, 943, 944, 945, 946, 947, 948, 949, 950, 951, 952, 953, 954, 955, 956, 957, 958, 959, 960, 961, 962, 963, 964, 965, 966, 967, 968, 969, 970] (by decide +kernel) (by decide +kernel)
set_option maxRecDepth 20000 in
theorem gL_law_X10_would : GoodIn wsL_law (wsV RL 72 RX10 yX10_would wsX10_would) := goodIn_app (goodIn_of _ (by decide +kernel)) ggL_law_X10_would
set_option maxRecDepth 20000 in
theorem ggL_law_X9_even : GoodIn wsL_law wsX9_even := goodIn_r _ [601, 27, 259, 21, 602, 520, 521, 2, 522, 151, 152, 153, 261, 262, 263, 264, 22, 16, 146, 265, 266, 267, 20, 268, 269, 270, 271, 272, 273, 81, 83, 82, 86, 274, 227, 228, 43, 229, 68, 230, 231, 232, 275, 223, 224, 225, 70, 69, 226, 276, 277, 278, 279, 280, 281, 282, 84, 283, 284, 285, 26, 286, 90, 287, 288, 289, 301, 302, 303, 304, 305, 306, 292, 307, 308, 309, 310, 311, 312, 922, 923, 924, 925, 926, 927, 928, 929, 930, 931, 932, 933, 934, 935, 981, 982, 983, 984, 985, 975, 976, 977, 978, 979, 980, 971, 972, 973, 974, 1005, 1006, 1007, 1008, 1009, 1010] (by decide +kernel) (by decide +kernel)
set_option maxRecDepth 20000 in
theorem gL_law_X9_even : GoodIn wsL_law (wsV RL 73 RX9 yX9_even wsX9_even) := goodIn_app (goodIn_of _ (by decide +kernel)) ggL_law_X9_even
set_option maxRecDepth 20000 in
theorem ggL_law_X10_even : GoodIn wsL_law wsX10_even := goodIn_r _ [606, 254, 327, 121, 129, 457, 458, 5, 459, 167, 173, 174, 175, 332, 333, 334, 335, 168, 125, 336, 337, 338, 339, 237, 238, 239, 240, 241, 242, 243, 244, 124, 123, 122, 936, 937, 938, 939, 940, 941, 942, 943, 944, 945, 946, 947, 948, 949, 950, 951, 952, 953, 954, 955, 956, 957, 958, 959, 960, 961, 962, 963, 964, 965, 966, 967, 968, 969, 970] (by decide +kernel) (by decide +kernel)
set_option maxRecDepth 20000 in
theorem gL_law_X10_even : GoodIn wsL_law (wsV RL 76 RX10 yX10_even wsX10_even) := goodIn_app (goodIn_of _ (by decide +kernel)) ggL_law_X10_even
set_option maxRecDepth 20000 in
theorem ggL_law_X9_least : GoodIn wsL_law wsX9_least := goodIn_r _ [610, 28, 27, 21, 517, 518, 2, 519, 520, 521, 522, 151, 152, 153, 523, 524, 525, 526, 527, 528, 261, 262, 263, 264, 22, 16, 146, 265, 266, 267, 20, 268, 269, 270, 271, 272, 273, 81, 83, 82, 86, 274, 227, 228, 43, 229, 68, 230, 231, 232, 275, 223, 224, 225, 70, 69, 226, 276, 277, 278, 279, 280, 281, 282, 84, 283, 284, 285, 26, 286, 90, 287, 288, 289, 611, 612, 613, 614, 615, 616, 617, 618, 533, 619, 530, 531, 532, 534, 535, 536, 537, 538, 539, 540, 541, 542, 302, 303, 304, 305, 306, 292, 307, 308, 309, 310, 311, 312, 543, 544, 545, 546, 547, 548, 314, 315, 316, 317, 318, 319, 320, 321, 322, 529, 922, 923, 924, 925, 926, 927, 928, 929, 930, 931, 932, 933, 934, 935, 971, 972, 973, 974, 975, 976, 977, 978, 979, 980, 1005, 1006, 1007, 1008, 1009, 1010, 981, 982, 983, 984, 985] (by decide +kernel) (by decide +kernel)
set_option maxRecDepth 20000 in
theorem gL_law_X9_least : GoodIn wsL_law (wsV RL 77 RX9 yX9_least wsX9_least) := goodIn_app (goodIn_of _ (by decide +kernel)) ggL_law_X9_least
set_option maxRecDepth 20000 in
theorem ggL_law_X10_least : GoodIn wsL_law wsX10_least := goodIn_r _ [623, 564, 565, 5, 566, 457, 458, 459, 167, 173, 174, 175, 460, 461, 462, 209, 172, 567, 568, 569, 570, 624, 625, 626, 627, 562, 577, 578, 579, 580, 575, 576, 581, 254, 327, 129, 121, 563, 332, 333, 334, 335, 168, 125, 336, 337, 338, 339, 237, 238, 239, 240, 241, 242, 243, 244, 124, 123, 122, 582, 583, 584, 328, 329, 330, 331, 628, 629, 630, 631, 132, 571, 572, 573, 574, 632, 633, 634, 635, 936, 937, 938, 939, 940, 941, 942, 943, 944, 945, 946, 947, 948, 949, 950, 951, 952, 953, 954, 955, 956, 957, 958, 959, 960, 961, 962, 963, 964, 965, 966, 967, 968, 969, 970] (by decide +kernel) (by decide +kernel)
set_option maxRecDepth 20000 in
theorem gL_law_X10_least : GoodIn wsL_law (wsV RL 80 RX10 yX10_least wsX10_least) := goodIn_app (goodIn_of _ (by decide +kernel)) ggL_law_X10_least
