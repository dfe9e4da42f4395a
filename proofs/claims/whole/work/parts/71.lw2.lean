theorem inlX0 : ∀ w ∈ wsX00, w ∈ wsL_law := fun _ h => List.mem_append_left _ (List.mem_append_right _ h)
theorem inX0 : ∀ w ∈ wsX00, w ∈ lw_tbl := fun w h => wsL_law_in w (inlX0 w h)
theorem inlX1 : ∀ w ∈ wsX10, w ∈ wsL_law := fun _ h => List.mem_append_left _ (List.mem_append_left _ (List.mem_append_right _ h))
theorem inX1 : ∀ w ∈ wsX10, w ∈ lw_tbl := fun w h => wsL_law_in w (inlX1 w h)
theorem inlX2 : ∀ w ∈ wsX20, w ∈ wsL_law := fun _ h => List.mem_append_left _ (List.mem_append_left _ (List.mem_append_left _ (List.mem_append_right _ h)))
theorem inX2 : ∀ w ∈ wsX20, w ∈ lw_tbl := fun w h => wsL_law_in w (inlX2 w h)
theorem inlX3 : ∀ w ∈ wsX30, w ∈ wsL_law := fun _ h => List.mem_append_left _ (List.mem_append_left _ (List.mem_append_left _ (List.mem_append_left _ (List.mem_append_right _ h))))
theorem inX3 : ∀ w ∈ wsX30, w ∈ lw_tbl := fun w h => wsL_law_in w (inlX3 w h)
theorem inlX4 : ∀ w ∈ wsX40, w ∈ wsL_law := fun _ h => List.mem_append_left _ (List.mem_append_left _ (List.mem_append_left _ (List.mem_append_left _ (List.mem_append_left _ (List.mem_append_left _ (List.mem_append_right _ h))))))
theorem inX4 : ∀ w ∈ wsX40, w ∈ lw_tbl := fun w h => wsL_law_in w (inlX4 w h)
theorem inlX5 : ∀ w ∈ wsX50, w ∈ wsL_law := fun _ h => List.mem_append_left _ (List.mem_append_left _ (List.mem_append_left _ (List.mem_append_left _ (List.mem_append_left _ (List.mem_append_right _ h)))))
theorem inX5 : ∀ w ∈ wsX50, w ∈ lw_tbl := fun w h => wsL_law_in w (inlX5 w h)
set_option maxRecDepth 20000 in
theorem ggL_law_X4_init : GoodIn wsL_law wsX4_init := goodIn_r _ [8, 9, 10, 11, 12, 13, 14, 15, 16, 17, 18, 19, 20, 21, 22, 23, 24, 25, 26, 27, 28, 29, 30, 31, 32, 33, 34, 35, 36, 37, 38, 39, 40, 41, 42, 43, 44, 45, 46, 47, 48, 49, 50, 51, 52, 53, 54, 55, 56, 57, 58, 59, 60, 61, 62, 63, 64, 65, 66, 67, 652, 653, 654, 655, 656, 657, 658, 659, 660, 618, 619, 620, 621, 622, 623, 624, 661, 662, 663, 664, 665, 666, 667, 668, 669, 670, 671, 672, 673, 674, 675, 676, 677] (by decide +kernel) (by decide +kernel)
set_option maxRecDepth 20000 in
theorem gL_law_X4_init : GoodIn wsL_law (wsX4_init) := ggL_law_X4_init
set_option maxRecDepth 20000 in
theorem ggL_law_X5_init : GoodIn wsL_law wsX5_init := goodIn_r _ [70, 71, 10, 11, 72, 33, 73, 74, 75, 76, 77, 78, 79, 80, 81, 82, 83, 84, 85, 86, 87, 88, 625, 626, 627, 628, 629, 630, 631, 632, 633, 634, 635, 636, 637, 638, 639, 640, 641, 642, 643, 644, 645, 646, 647, 648, 649, 650, 651] (by decide +kernel) (by decide +kernel)
set_option maxRecDepth 20000 in
theorem gL_law_X5_init : GoodIn wsL_law (wsX5_init) := ggL_law_X5_init
set_option maxRecDepth 20000 in
theorem ggL_law_X4_open : GoodIn wsL_law wsX4_open := goodIn_r _ [92, 15, 19, 23, 93, 94, 95, 96, 14, 97, 41, 98, 99, 100, 101, 40, 102, 103, 104, 105, 42, 106, 107, 108, 109, 34, 35, 36, 110, 111, 112, 18, 113, 114, 115, 48, 116, 56, 57, 22, 58, 53, 59, 618, 619, 620, 621, 622, 623, 624, 652, 653, 654, 655, 656, 657, 658, 659, 660, 661, 662, 663, 664, 665, 666, 667, 668] (by decide +kernel) (by decide +kernel)
set_option maxRecDepth 20000 in
theorem gL_law_X4_open : GoodIn wsL_law (wsV RL 13 RX4 yX4_open wsX4_open) := goodIn_app (goodIn_of _ (by decide +kernel)) ggL_law_X4_open
set_option maxRecDepth 20000 in
theorem ggL_law_X5_open : GoodIn wsL_law wsX5_open := goodIn_r _ [120, 79, 73, 76, 77, 84, 72, 121, 122, 123, 124, 125, 126, 5, 127, 128, 129, 130, 131, 625, 626, 627, 628, 629, 630, 631, 632, 633, 634, 635, 636, 637, 638, 639, 640, 641, 642, 643, 644, 645, 646, 647, 648, 649, 650, 651] (by decide +kernel) (by decide +kernel)
set_option maxRecDepth 20000 in
theorem gL_law_X5_open : GoodIn wsL_law (wsV RL 17 RX5 yX5_open wsX5_open) := goodIn_app (goodIn_of _ (by decide +kernel)) ggL_law_X5_open
set_option maxRecDepth 20000 in
theorem ggL_law_X4_way : GoodIn wsL_law wsX4_way := goodIn_r _ [135, 15, 19, 136, 94, 95, 96, 14, 97, 41, 98, 99, 100, 101, 40, 618, 619, 620, 621, 622, 623, 624, 661, 662, 663, 664, 665, 652, 653, 654, 655, 656, 657, 658, 659, 660] (by decide +kernel) (by decide +kernel)
set_option maxRecDepth 20000 in
theorem gL_law_X4_way : GoodIn wsL_law (wsV RL 18 RX4 yX4_way wsX4_way) := goodIn_app (goodIn_of _ (by decide +kernel)) ggL_law_X4_way
set_option maxRecDepth 20000 in
theorem ggL_law_X5_way : GoodIn wsL_law wsX5_way := goodIn_r _ [140, 141, 125, 126, 5, 127, 128, 129, 130, 131, 72, 79, 625, 626, 627, 628, 629, 630, 631, 632, 633, 634, 635, 636, 637, 638, 639, 640, 641, 642, 643, 644, 645, 646, 647, 648, 649, 650, 651] (by decide +kernel) (by decide +kernel)
set_option maxRecDepth 20000 in
theorem gL_law_X5_way : GoodIn wsL_law (wsV RL 21 RX5 yX5_way wsX5_way) := goodIn_app (goodIn_of _ (by decide +kernel)) ggL_law_X5_way
set_option maxRecDepth 20000 in
theorem ggL_law_X4_auto : GoodIn wsL_law wsX4_auto := goodIn_r _ [145, 28, 146, 147, 2, 148, 618, 619, 620, 621, 622, 623, 624] (by decide +kernel) (by decide +kernel)
set_option maxRecDepth 20000 in
theorem gL_law_X4_auto : GoodIn wsL_law (wsV RL 22 RX4 yX4_auto wsX4_auto) := goodIn_app (goodIn_of _ (by decide +kernel)) ggL_law_X4_auto
set_option maxRecDepth 20000 in
theorem ggL_law_X5_auto : GoodIn wsL_law wsX5_auto := goodIn_r _ [152, 87, 625, 626, 627, 628, 629, 630, 631, 632, 633, 634, 635, 636, 637, 638, 639, 640, 641, 642, 643, 644, 645, 646, 647, 648, 649, 650, 651] (by decide +kernel) (by decide +kernel)
set_option maxRecDepth 20000 in
theorem gL_law_X5_auto : GoodIn wsL_law (wsV RL 26 RX5 yX5_auto wsX5_auto) := goodIn_app (goodIn_of _ (by decide +kernel)) ggL_law_X5_auto
set_option maxRecDepth 20000 in
theorem ggL_law_X4_make : GoodIn wsL_law wsX4_make := goodIn_r _ [156, 15, 157, 158, 159, 2, 160, 161, 162, 163, 164, 28, 27, 165, 166, 167, 14, 168, 169, 170, 171, 172, 173, 174, 175, 176, 177, 178, 179, 41, 34, 36, 180, 181, 182, 183, 35, 184, 185, 186, 187, 188, 189, 42, 40, 190, 191, 192, 26, 193, 194, 195, 196, 197, 198, 199, 67, 200, 201, 65, 202, 203, 204, 205, 206, 207, 64, 208, 209, 210, 211, 212, 213, 214, 215, 216, 217, 218, 219, 220, 221, 66, 222, 223, 224, 18, 225, 46, 115, 226, 227, 228, 229, 230, 231, 232, 233, 38, 234, 235, 236, 237, 48, 238, 239, 240, 241, 114, 47, 242, 243, 244, 245, 246, 247, 248, 249, 250, 251, 252, 253, 254, 255, 256, 257, 258, 259, 260, 261, 262, 111, 112, 113, 263, 264, 265, 266, 98, 99, 100, 101, 106, 107, 108, 109, 267, 268, 269, 270, 271, 272, 273, 274, 275, 276, 277, 278, 279, 280, 281, 282, 283, 39, 37, 284, 285, 286, 287, 618, 619, 620, 621, 622, 623, 624, 652, 653, 654, 655, 656, 657, 658, 659, 660, 669, 670, 671, 672, 673, 674, 675, 676, 677, 666, 667, 668, 661, 662, 663, 664, 665] (by decide +kernel) (by decide +kernel)
set_option maxRecDepth 20000 in
theorem gL_law_X4_make : GoodIn wsL_law (wsV RL 27 RX4 yX4_make wsX4_make) := goodIn_app (goodIn_of _ (by decide +kernel)) ggL_law_X4_make
set_option maxRecDepth 20000 in
theorem ggL_law_X5_make : GoodIn wsL_law wsX5_make := goodIn_r _ [291, 87, 292, 293, 294, 79, 80, 82, 83, 78, 295, 125, 126, 5, 127, 296, 297, 298, 299, 300, 301, 302, 303, 304, 305, 306, 72, 73, 74, 77, 307, 308, 309, 310, 311, 312, 313, 314, 315, 316, 317, 318, 319, 320, 321, 81, 88, 84, 121, 85, 322, 323, 324, 325, 141, 123, 76, 326, 327, 328, 329, 122, 86, 330, 331, 332, 333, 334, 335, 336, 337, 338, 339, 340, 341, 342, 343, 344, 345, 346, 347, 348, 349, 350, 351, 352, 353, 354, 355, 356, 357, 358, 359, 360, 361, 362, 625, 626, 627, 628, 629, 630, 631, 632, 633, 634, 635, 636, 637, 638, 639, 640, 641, 642, 643, 644, 645, 646, 647, 648, 649, 650, 651] (by decide +kernel) (by decide +kernel)
set_option maxRecDepth 20000 in
theorem gL_law_X5_make : GoodIn wsL_law (wsV RL 31 RX5 yX5_make wsX5_make) := goodIn_app (goodIn_of _ (by decide +kernel)) ggL_law_X5_make
set_option maxRecDepth 20000 in
theorem ggL_law_X4_put : GoodIn wsL_law wsX4_put := goodIn_r _ [366, 15, 367, 19, 368, 187, 188, 14, 189, 42, 40, 369, 370, 371, 2, 372, 373, 374, 375, 376, 377, 231, 232, 233, 38, 186, 378, 227, 228, 229, 379, 380, 381, 18, 382, 46, 48, 115, 238, 239, 240, 241, 114, 47, 383, 384, 385, 386, 618, 619, 620, 621, 622, 623, 624, 652, 653, 654, 655, 656, 657, 658, 659, 660, 661, 662, 663, 664, 665] (by decide +kernel) (by decide +kernel)
set_option maxRecDepth 20000 in
theorem gL_law_X4_put : GoodIn wsL_law (wsV RL 32 RX4 yX4_put wsX4_put) := goodIn_app (goodIn_of _ (by decide +kernel)) ggL_law_X4_put
set_option maxRecDepth 20000 in
theorem ggL_law_X5_put : GoodIn wsL_law wsX5_put := goodIn_r _ [390, 82, 78, 141, 76, 80, 123, 122, 86, 391, 392, 393, 5, 394, 72, 79, 125, 126, 127, 326, 327, 328, 329, 625, 626, 627, 628, 629, 630, 631, 632, 633, 634, 635, 636, 637, 638, 639, 640, 641, 642, 643, 644, 645, 646, 647, 648, 649, 650, 651] (by decide +kernel) (by decide +kernel)
set_option maxRecDepth 20000 in
theorem gL_law_X5_put : GoodIn wsL_law (wsV RL 36 RX5 yX5_put wsX5_put) := goodIn_app (goodIn_of _ (by decide +kernel)) ggL_law_X5_put
set_option maxRecDepth 20000 in
theorem ggL_law_X4_link : GoodIn wsL_law wsX4_link := goodIn_r _ [398, 15, 367, 368, 187, 188, 14, 189, 42, 40, 373, 374, 375, 376, 377, 231, 232, 233, 38, 186, 618, 619, 620, 621, 622, 623, 624, 652, 653, 654, 655, 656, 657, 658, 659, 660] (by decide +kernel) (by decide +kernel)
set_option maxRecDepth 20000 in
theorem gL_law_X4_link : GoodIn wsL_law (wsV RL 37 RX4 yX4_link wsX4_link) := goodIn_app (goodIn_of _ (by decide +kernel)) ggL_law_X4_link
set_option maxRecDepth 20000 in
theorem ggL_law_X5_link : GoodIn wsL_law wsX5_link := goodIn_r _ [402, 82, 78, 391, 392, 393, 5, 394, 72, 79, 125, 126, 127, 625, 626, 627, 628, 629, 630, 631, 632, 633, 634, 635, 636, 637, 638, 639, 640, 641, 642, 643, 644, 645, 646, 647, 648, 649, 650, 651] (by decide +kernel) (by decide +kernel)
set_option maxRecDepth 20000 in
theorem gL_law_X5_link : GoodIn wsL_law (wsV RL 40 RX5 yX5_link wsX5_link) := goodIn_app (goodIn_of _ (by decide +kernel)) ggL_law_X5_link
set_option maxRecDepth 20000 in
theorem ggL_law_X4_set : GoodIn wsL_law wsX4_set := goodIn_r _ [406, 15, 367, 368, 187, 188, 14, 189, 42, 40, 407, 408, 409, 410, 377, 231, 232, 233, 38, 186, 411, 412, 413, 414, 415, 416, 417, 418, 39, 618, 619, 620, 621, 622, 623, 624, 652, 653, 654, 655, 656, 657, 658, 659, 660] (by decide +kernel) (by decide +kernel)
set_option maxRecDepth 20000 in
theorem gL_law_X4_set : GoodIn wsL_law (wsV RL 41 RX4 yX4_set wsX4_set) := goodIn_app (goodIn_of _ (by decide +kernel)) ggL_law_X4_set
set_option maxRecDepth 20000 in
theorem ggL_law_X5_set : GoodIn wsL_law wsX5_set := goodIn_r _ [422, 82, 78, 391, 392, 393, 5, 394, 72, 79, 125, 126, 127, 351, 352, 353, 354, 83, 625, 626, 627, 628, 629, 630, 631, 632, 633, 634, 635, 636, 637, 638, 639, 640, 641, 642, 643, 644, 645, 646, 647, 648, 649, 650, 651] (by decide +kernel) (by decide +kernel)
set_option maxRecDepth 20000 in
theorem gL_law_X5_set : GoodIn wsL_law (wsV RL 44 RX5 yX5_set wsX5_set) := goodIn_app (goodIn_of _ (by decide +kernel)) ggL_law_X5_set
set_option maxRecDepth 20000 in
theorem ggL_law_X4_get : GoodIn wsL_law wsX4_get := goodIn_r _ [426, 15, 367, 93, 368, 187, 188, 14, 189, 42, 40, 407, 408, 409, 410, 377, 231, 232, 233, 38, 186, 411, 412, 413, 414, 415, 416, 417, 418, 39, 618, 619, 620, 621, 622, 623, 624, 652, 653, 654, 655, 656, 657, 658, 659, 660] (by decide +kernel) (by decide +kernel)
set_option maxRecDepth 20000 in
theorem gL_law_X4_get : GoodIn wsL_law (wsV RL 45 RX4 yX4_get wsX4_get) := goodIn_app (goodIn_of _ (by decide +kernel)) ggL_law_X4_get
set_option maxRecDepth 20000 in
theorem ggL_law_X5_get : GoodIn wsL_law wsX5_get := goodIn_r _ [430, 82, 78, 124, 391, 392, 393, 5, 394, 72, 79, 125, 126, 127, 351, 352, 353, 354, 83, 625, 626, 627, 628, 629, 630, 631, 632, 633, 634, 635, 636, 637, 638, 639, 640, 641, 642, 643, 644, 645, 646, 647, 648, 649, 650, 651] (by decide +kernel) (by decide +kernel)
set_option maxRecDepth 20000 in
theorem gL_law_X5_get : GoodIn wsL_law (wsV RL 48 RX5 yX5_get wsX5_get) := goodIn_app (goodIn_of _ (by decide +kernel)) ggL_law_X5_get
set_option maxRecDepth 20000 in
theorem ggL_law_X4_seen : GoodIn wsL_law wsX4_seen := goodIn_r _ [434, 93, 618, 619, 620, 621, 622, 623, 624] (by decide +kernel) (by decide +kernel)
set_option maxRecDepth 20000 in
theorem gL_law_X4_seen : GoodIn wsL_law (wsV RL 49 RX4 yX4_seen wsX4_seen) := goodIn_app (goodIn_of _ (by decide +kernel)) ggL_law_X4_seen
set_option maxRecDepth 20000 in
theorem ggL_law_X5_seen : GoodIn wsL_law wsX5_seen := goodIn_r _ [438, 124, 625, 626, 627, 628, 629, 630, 631, 632, 633, 634, 635, 636, 637, 638, 639, 640, 641, 642, 643, 644, 645, 646, 647, 648, 649, 650, 651] (by decide +kernel) (by decide +kernel)
set_option maxRecDepth 20000 in
theorem gL_law_X5_seen : GoodIn wsL_law (wsV RL 53 RX5 yX5_seen wsX5_seen) := goodIn_app (goodIn_of _ (by decide +kernel)) ggL_law_X5_seen
set_option maxRecDepth 20000 in
theorem ggL_law_X4_about : GoodIn wsL_law wsX4_about := goodIn_r _ [442, 15, 19, 368, 187, 188, 14, 189, 42, 40, 443, 231, 232, 233, 38, 186, 444, 416, 417, 418, 39, 378, 227, 228, 229, 146, 147, 2, 148, 445, 223, 224, 18, 225, 46, 115, 226, 230, 234, 235, 236, 237, 48, 238, 239, 240, 241, 114, 47, 446, 412, 413, 414, 377, 415, 447, 448, 449, 450, 169, 170, 171, 172, 173, 451, 174, 175, 618, 619, 620, 621, 622, 623, 624, 652, 653, 654, 655, 656, 657, 658, 659, 660, 661, 662, 663, 664, 665] (by decide +kernel) (by decide +kernel)
set_option maxRecDepth 20000 in
theorem gL_law_X4_about : GoodIn wsL_law (wsV RL 54 RX4 yX4_about wsX4_about) := goodIn_app (goodIn_of _ (by decide +kernel)) ggL_law_X4_about
set_option maxRecDepth 20000 in
theorem ggL_law_X5_about : GoodIn wsL_law wsX5_about := goodIn_r _ [455, 82, 83, 80, 391, 392, 393, 5, 394, 72, 79, 125, 126, 127, 351, 352, 353, 354, 300, 301, 302, 322, 323, 324, 325, 141, 123, 76, 326, 327, 328, 329, 122, 86, 347, 348, 349, 350, 315, 316, 317, 625, 626, 627, 628, 629, 630, 631, 632, 633, 634, 635, 636, 637, 638, 639, 640, 641, 642, 643, 644, 645, 646, 647, 648, 649, 650, 651] (by decide +kernel) (by decide +kernel)
set_option maxRecDepth 20000 in
theorem gL_law_X5_about : GoodIn wsL_law (wsV RL 57 RX5 yX5_about wsX5_about) := goodIn_app (goodIn_of _ (by decide +kernel)) ggL_law_X5_about
set_option maxRecDepth 20000 in
theorem ggL_law_X4_points : GoodIn wsL_law wsX4_points := goodIn_r _ [459, 15, 460, 210, 211, 14, 212, 42, 34, 35, 172, 2, 173, 213, 214, 215, 216, 186, 187, 188, 189, 40, 618, 619, 620, 621, 622, 623, 624, 652, 653, 654, 655, 656, 657, 658, 659, 660] (by decide +kernel) (by decide +kernel)
set_option maxRecDepth 20000 in
theorem gL_law_X4_points : GoodIn wsL_law (wsV RL 58 RX4 yX4_points wsX4_points) := goodIn_app (goodIn_of _ (by decide +kernel)) ggL_law_X4_points
set_option maxRecDepth 20000 in
theorem ggL_law_X5_points : GoodIn wsL_law wsX5_points := goodIn_r _ [342, 72, 73, 74, 79, 125, 126, 5, 127, 315, 316, 317, 625, 626, 627, 628, 629, 630, 631, 632, 633, 634, 635, 636, 637, 638, 639, 640, 641, 642, 643, 644, 645, 646, 647, 648, 649, 650, 651] (by decide +kernel) (by decide +kernel)
set_option maxRecDepth 20000 in
theorem gL_law_X5_points : GoodIn wsL_law (wsV RL 61 RX5 yX5_points wsX5_points) := goodIn_app (goodIn_of _ (by decide +kernel)) ggL_law_X5_points
set_option maxRecDepth 20000 in
theorem ggL_law_X4_root : GoodIn wsL_law wsX4_root := goodIn_r _ [465, 23, 466, 467, 468, 2, 469, 369, 370, 371, 372, 15, 368, 187, 188, 14, 189, 42, 40, 618, 619, 620, 621, 622, 623, 624, 666, 667, 668, 652, 653, 654, 655, 656, 657, 658, 659, 660] (by decide +kernel) (by decide +kernel)
set_option maxRecDepth 20000 in
theorem gL_law_X4_root : GoodIn wsL_law (wsV RL 62 RX4 yX4_root wsX4_root) := goodIn_app (goodIn_of _ (by decide +kernel)) ggL_law_X4_root
set_option maxRecDepth 20000 in
theorem ggL_law_X5_root : GoodIn wsL_law wsX5_root := goodIn_r _ [473, 84, 125, 126, 5, 127, 391, 392, 393, 394, 72, 79, 625, 626, 627, 628, 629, 630, 631, 632, 633, 634, 635, 636, 637, 638, 639, 640, 641, 642, 643, 644, 645, 646, 647, 648, 649, 650, 651] (by decide +kernel) (by decide +kernel)
set_option maxRecDepth 20000 in
theorem gL_law_X5_root : GoodIn wsL_law (wsV RL 65 RX5 yX5_root wsX5_root) := goodIn_app (goodIn_of _ (by decide +kernel)) ggL_law_X5_root
set_option maxRecDepth 20000 in
theorem ggL_law_X4_rooted : GoodIn wsL_law wsX4_rooted := goodIn_r _ [477, 23, 466, 467, 468, 2, 469, 618, 619, 620, 621, 622, 623, 624, 666, 667, 668] (by decide +kernel) (by decide +kernel)
set_option maxRecDepth 20000 in
theorem gL_law_X4_rooted : GoodIn wsL_law (wsV RL 66 RX4 yX4_rooted wsX4_rooted) := goodIn_app (goodIn_of _ (by decide +kernel)) ggL_law_X4_rooted
set_option maxRecDepth 20000 in
theorem ggL_law_X5_rooted : GoodIn wsL_law wsX5_rooted := goodIn_r _ [481, 84, 125, 126, 5, 127, 625, 626, 627, 628, 629, 630, 631, 632, 633, 634, 635, 636, 637, 638, 639, 640, 641, 642, 643, 644, 645, 646, 647, 648, 649, 650, 651] (by decide +kernel) (by decide +kernel)
set_option maxRecDepth 20000 in
theorem gL_law_X5_rooted : GoodIn wsL_law (wsV RL 69 RX5 yX5_rooted wsX5_rooted) := goodIn_app (goodIn_of _ (by decide +kernel)) ggL_law_X5_rooted
set_option maxRecDepth 20000 in
theorem ggL_law_X4_push : GoodIn wsL_law wsX4_push := goodIn_r _ [485, 23, 486, 487, 618, 619, 620, 621, 622, 623, 624, 666, 667, 668] (by decide +kernel) (by decide +kernel)
set_option maxRecDepth 20000 in
theorem gL_law_X4_push : GoodIn wsL_law (wsV RL 70 RX4 yX4_push wsX4_push) := goodIn_app (goodIn_of _ (by decide +kernel)) ggL_law_X4_push
set_option maxRecDepth 20000 in
theorem ggL_law_X5_push : GoodIn wsL_law wsX5_push := goodIn_r _ [491, 121, 85, 625, 626, 627, 628, 629, 630, 631, 632, 633, 634, 635, 636, 637, 638, 639, 640, 641, 642, 643, 644, 645, 646, 647, 648, 649, 650, 651] (by decide +kernel) (by decide +kernel)
set_option maxRecDepth 20000 in
theorem gL_law_X5_push : GoodIn wsL_law (wsV RL 73 RX5 yX5_push wsX5_push) := goodIn_app (goodIn_of _ (by decide +kernel)) ggL_law_X5_push
set_option maxRecDepth 20000 in
theorem ggL_law_X4_pop : GoodIn wsL_law wsX4_pop := goodIn_r _ [495, 23, 486, 487, 93, 618, 619, 620, 621, 622, 623, 624, 666, 667, 668] (by decide +kernel) (by decide +kernel)
set_option maxRecDepth 20000 in
theorem gL_law_X4_pop : GoodIn wsL_law (wsV RL 74 RX4 yX4_pop wsX4_pop) := goodIn_app (goodIn_of _ (by decide +kernel)) ggL_law_X4_pop
set_option maxRecDepth 20000 in
theorem ggL_law_X5_pop : GoodIn wsL_law wsX5_pop := goodIn_r _ [499, 121, 85, 124, 625, 626, 627, 628, 629, 630, 631, 632, 633, 634, 635, 636, 637, 638, 639, 640, 641, 642, 643, 644, 645, 646, 647, 648, 649, 650, 651] (by decide +kernel) (by decide +kernel)
set_option maxRecDepth 20000 in
theorem gL_law_X5_pop : GoodIn wsL_law (wsV RL 77 RX5 yX5_pop wsX5_pop) := goodIn_app (goodIn_of _ (by decide +kernel)) ggL_law_X5_pop
set_option maxRecDepth 20000 in
theorem ggL_law_X4_top : GoodIn wsL_law wsX4_top := goodIn_r _ [503, 23, 486, 487, 93, 618, 619, 620, 621, 622, 623, 624, 666, 667, 668] (by decide +kernel) (by decide +kernel)
set_option maxRecDepth 20000 in
theorem gL_law_X4_top : GoodIn wsL_law (wsV RL 78 RX4 yX4_top wsX4_top) := goodIn_app (goodIn_of _ (by decide +kernel)) ggL_law_X4_top
set_option maxRecDepth 20000 in
theorem ggL_law_X5_top : GoodIn wsL_law wsX5_top := goodIn_r _ [507, 121, 85, 124, 125, 126, 5, 127, 625, 626, 627, 628, 629, 630, 631, 632, 633, 634, 635, 636, 637, 638, 639, 640, 641, 642, 643, 644, 645, 646, 647, 648, 649, 650, 651] (by decide +kernel) (by decide +kernel)
set_option maxRecDepth 20000 in
theorem gL_law_X5_top : GoodIn wsL_law (wsV RL 81 RX5 yX5_top wsX5_top) := goodIn_app (goodIn_of _ (by decide +kernel)) ggL_law_X5_top
set_option maxRecDepth 20000 in
theorem ggL_law_X4_minor : GoodIn wsL_law wsX4_minor := goodIn_r _ [511, 27, 190, 191, 192, 26, 193, 194, 195, 196, 197, 198, 199, 67, 200, 201, 65, 202, 203, 204, 205, 206, 207, 64, 208, 187, 188, 14, 189, 42, 40, 209, 210, 211, 212, 34, 35, 172, 2, 173, 213, 214, 215, 216, 186, 217, 218, 219, 220, 221, 66, 222, 223, 224, 18, 225, 46, 115, 226, 227, 228, 229, 230, 231, 232, 233, 38, 234, 235, 236, 237, 48, 238, 239, 240, 241, 114, 47, 242, 243, 244, 245, 246, 247, 248, 249, 250, 251, 252, 253, 254, 255, 256, 257, 258, 259, 260, 261, 262, 111, 112, 113, 263, 264, 265, 266, 41, 98, 99, 100, 101, 106, 107, 108, 109, 36, 267, 268, 269, 270, 618, 619, 620, 621, 622, 623, 624, 669, 670, 671, 672, 673, 674, 675, 676, 677, 666, 667, 668, 652, 653, 654, 655, 656, 657, 658, 659, 660, 661, 662, 663, 664, 665] (by decide +kernel) (by decide +kernel)
set_option maxRecDepth 20000 in
theorem gL_law_X4_minor : GoodIn wsL_law (wsV RL 82 RX4 yX4_minor wsX4_minor) := goodIn_app (goodIn_of _ (by decide +kernel)) ggL_law_X4_minor
set_option maxRecDepth 20000 in
theorem ggL_law_X5_minor : GoodIn wsL_law wsX5_minor := goodIn_r _ [515, 293, 292, 318, 319, 320, 5, 321, 72, 81, 88, 80, 79, 84, 121, 85, 322, 323, 324, 325, 141, 123, 82, 76, 326, 327, 328, 329, 122, 86, 330, 331, 332, 333, 78, 334, 335, 336, 337, 338, 339, 340, 341, 342, 73, 74, 125, 126, 127, 315, 316, 317, 343, 344, 345, 346, 347, 348, 349, 350, 351, 352, 353, 354, 83, 355, 356, 357, 358, 77, 359, 360, 361, 362, 625, 626, 627, 628, 629, 630, 631, 632, 633, 634, 635, 636, 637, 638, 639, 640, 641, 642, 643, 644, 645, 646, 647, 648, 649, 650, 651] (by decide +kernel) (by decide +kernel)
set_option maxRecDepth 20000 in
theorem gL_law_X5_minor : GoodIn wsL_law (wsV RL 85 RX5 yX5_minor wsX5_minor) := goodIn_app (goodIn_of _ (by decide +kernel)) ggL_law_X5_minor
set_option maxRecDepth 20000 in
theorem ggL_law_X4_full : GoodIn wsL_law wsX4_full := goodIn_r _ [519, 27, 271, 272, 273, 26, 274, 275, 195, 65, 276, 277, 278, 14, 279, 40, 196, 197, 198, 199, 67, 200, 201, 202, 203, 204, 205, 206, 207, 64, 208, 187, 188, 189, 42, 209, 210, 211, 212, 34, 35, 172, 2, 173, 213, 214, 215, 216, 186, 249, 250, 251, 252, 242, 243, 244, 245, 246, 247, 248, 231, 232, 233, 38, 253, 254, 255, 256, 257, 66, 258, 259, 260, 261, 262, 111, 112, 18, 113, 114, 115, 48, 263, 264, 265, 266, 41, 98, 99, 100, 101, 106, 107, 108, 109, 36, 267, 268, 269, 270, 618, 619, 620, 621, 622, 623, 624, 669, 670, 671, 672, 673, 674, 675, 676, 677, 652, 653, 654, 655, 656, 657, 658, 659, 660, 666, 667, 668, 661, 662, 663, 664, 665] (by decide +kernel) (by decide +kernel)
set_option maxRecDepth 20000 in
theorem gL_law_X4_full : GoodIn wsL_law (wsV RL 86 RX4 yX4_full wsX4_full) := goodIn_app (goodIn_of _ (by decide +kernel)) ggL_law_X4_full
set_option maxRecDepth 20000 in
theorem ggL_law_X5_full : GoodIn wsL_law wsX5_full := goodIn_r _ [523, 294, 292, 318, 319, 320, 5, 321, 72, 81, 88, 80, 79, 84, 121, 85, 322, 323, 324, 325, 141, 123, 82, 76, 326, 327, 328, 329, 122, 86, 330, 331, 332, 333, 78, 334, 335, 336, 337, 338, 339, 340, 341, 342, 73, 74, 125, 126, 127, 315, 316, 317, 343, 344, 345, 346, 347, 348, 349, 350, 351, 352, 353, 354, 83, 355, 356, 357, 358, 77, 359, 360, 361, 362, 625, 626, 627, 628, 629, 630, 631, 632, 633, 634, 635, 636, 637, 638, 639, 640, 641, 642, 643, 644, 645, 646, 647, 648, 649, 650, 651] (by decide +kernel) (by decide +kernel)
set_option maxRecDepth 20000 in
theorem gL_law_X5_full : GoodIn wsL_law (wsV RL 89 RX5 yX5_full wsX5_full) := goodIn_app (goodIn_of _ (by decide +kernel)) ggL_law_X5_full
set_option maxRecDepth 20000 in
theorem ggL_law_X4_logged : GoodIn wsL_law wsX4_logged := goodIn_r _ [527, 19, 528, 529, 618, 619, 620, 621, 622, 623, 624, 661, 662, 663, 664, 665] (by decide +kernel) (by decide +kernel)
set_option maxRecDepth 20000 in
theorem gL_law_X4_logged : GoodIn wsL_law (wsV RL 90 RX4 yX4_logged wsX4_logged) := goodIn_app (goodIn_of _ (by decide +kernel)) ggL_law_X4_logged
set_option maxRecDepth 20000 in
theorem ggL_law_X5_logged : GoodIn wsL_law wsX5_logged := goodIn_r _ [533, 122, 86, 125, 126, 5, 127, 625, 626, 627, 628, 629, 630, 631, 632, 633, 634, 635, 636, 637, 638, 639, 640, 641, 642, 643, 644, 645, 646, 647, 648, 649, 650, 651] (by decide +kernel) (by decide +kernel)
set_option maxRecDepth 20000 in
theorem gL_law_X5_logged : GoodIn wsL_law (wsV RL 93 RX5 yX5_logged wsX5_logged) := goodIn_app (goodIn_of _ (by decide +kernel)) ggL_law_X5_logged
set_option maxRecDepth 20000 in
theorem ggL_law_X4_block : GoodIn wsL_law wsX4_block := goodIn_r _ [537, 15, 538, 539, 540, 19, 541, 542, 543, 99, 100, 14, 101, 40, 618, 619, 620, 621, 622, 623, 624, 652, 653, 654, 655, 656, 657, 658, 659, 660, 661, 662, 663, 664, 665] (by decide +kernel) (by decide +kernel)
set_option maxRecDepth 20000 in
theorem gL_law_X4_block : GoodIn wsL_law (wsV RL 94 RX4 yX4_block wsX4_block) := goodIn_app (goodIn_of _ (by decide +kernel)) ggL_law_X4_block
set_option maxRecDepth 20000 in
theorem ggL_law_X5_block : GoodIn wsL_law wsX5_block := goodIn_r _ [547, 72, 73, 74, 76, 77, 125, 126, 5, 127, 347, 348, 349, 350, 351, 352, 353, 354, 82, 83, 359, 360, 361, 362, 79, 548, 549, 550, 551, 80, 625, 626, 627, 628, 629, 630, 631, 632, 633, 634, 635, 636, 637, 638, 639, 640, 641, 642, 643, 644, 645, 646, 647, 648, 649, 650, 651] (by decide +kernel) (by decide +kernel)
set_option maxRecDepth 20000 in
theorem gL_law_X5_block : GoodIn wsL_law (wsV RL 97 RX5 yX5_block wsX5_block) := goodIn_app (goodIn_of _ (by decide +kernel)) ggL_law_X5_block
set_option maxRecDepth 20000 in
theorem ggL_law_X4_room : GoodIn wsL_law wsX4_room := goodIn_r _ [555, 15, 556, 557, 558, 14, 559, 41, 34, 35, 560, 561, 562, 563, 184, 2, 185, 98, 99, 100, 101, 40, 618, 619, 620, 621, 622, 623, 624, 652, 653, 654, 655, 656, 657, 658, 659, 660] (by decide +kernel) (by decide +kernel)
set_option maxRecDepth 20000 in
theorem gL_law_X4_room : GoodIn wsL_law (wsV RL 98 RX4 yX4_room wsX4_room) := goodIn_app (goodIn_of _ (by decide +kernel)) ggL_law_X4_room
set_option maxRecDepth 20000 in
theorem ggL_law_X5_room : GoodIn wsL_law wsX5_room := goodIn_r _ [567, 72, 73, 74, 125, 126, 5, 127, 315, 316, 317, 359, 360, 361, 362, 79, 625, 626, 627, 628, 629, 630, 631, 632, 633, 634, 635, 636, 637, 638, 639, 640, 641, 642, 643, 644, 645, 646, 647, 648, 649, 650, 651] (by decide +kernel) (by decide +kernel)
set_option maxRecDepth 20000 in
theorem gL_law_X5_room : GoodIn wsL_law (wsV RL 101 RX5 yX5_room wsX5_room) := goodIn_app (goodIn_of _ (by decide +kernel)) ggL_law_X5_room
set_option maxRecDepth 20000 in
theorem ggL_law_X4_count : GoodIn wsL_law wsX4_count := goodIn_r _ [571, 15, 538, 19, 572, 157, 27, 573, 574, 575, 576, 94, 95, 96, 14, 97, 41, 98, 99, 100, 101, 40, 577, 561, 562, 563, 34, 578, 579, 580, 581, 36, 582, 583, 584, 2, 585, 586, 445, 223, 224, 18, 225, 46, 115, 226, 227, 228, 229, 186, 187, 188, 189, 42, 230, 231, 232, 233, 38, 234, 235, 236, 237, 48, 238, 239, 240, 241, 114, 47, 146, 147, 148, 618, 619, 620, 621, 622, 623, 624, 652, 653, 654, 655, 656, 657, 658, 659, 660, 661, 662, 663, 664, 665, 669, 670, 671, 672, 673, 674, 675, 676, 677] (by decide +kernel) (by decide +kernel)
set_option maxRecDepth 20000 in
theorem gL_law_X4_count : GoodIn wsL_law (wsV RL 102 RX4 yX4_count wsX4_count) := goodIn_app (goodIn_of _ (by decide +kernel)) ggL_law_X4_count
set_option maxRecDepth 20000 in
theorem ggL_law_X5_count : GoodIn wsL_law wsX5_count := goodIn_r _ [590, 72, 73, 77, 79, 123, 295, 292, 293, 294, 334, 128, 129, 130, 5, 131, 548, 549, 550, 551, 80, 322, 323, 324, 325, 141, 82, 76, 326, 327, 328, 329, 122, 86, 625, 626, 627, 628, 629, 630, 631, 632, 633, 634, 635, 636, 637, 638, 639, 640, 641, 642, 643, 644, 645, 646, 647, 648, 649, 650, 651] (by decide +kernel) (by decide +kernel)
set_option maxRecDepth 20000 in
theorem gL_law_X5_count : GoodIn wsL_law (wsV RL 105 RX5 yX5_count wsX5_count) := goodIn_app (goodIn_of _ (by decide +kernel)) ggL_law_X5_count
set_option maxRecDepth 20000 in
theorem ggL_law_X4_digest : GoodIn wsL_law wsX4_digest := goodIn_r _ [594, 595, 15, 538, 586, 23, 466, 487, 486, 539, 19, 541, 542, 529, 528, 572, 596, 597, 2, 598, 599, 368, 187, 188, 14, 189, 42, 40, 600, 601, 602, 603, 367, 443, 231, 232, 233, 38, 186, 444, 416, 417, 418, 39, 378, 227, 228, 229, 146, 147, 148, 446, 412, 413, 414, 377, 415, 604, 605, 606, 618, 619, 620, 621, 622, 623, 624, 652, 653, 654, 655, 656, 657, 658, 659, 660, 666, 667, 668, 661, 662, 663, 664, 665] (by decide +kernel) (by decide +kernel)
set_option maxRecDepth 20000 in
theorem gL_law_X4_digest : GoodIn wsL_law (wsV RL 106 RX4 yX4_digest wsX4_digest) := goodIn_app (goodIn_of _ (by decide +kernel)) ggL_law_X4_digest
set_option maxRecDepth 20000 in
theorem ggL_law_X5_digest : GoodIn wsL_law wsX5_digest := goodIn_r _ [610, 611, 612, 72, 79, 82, 83, 80, 78, 84, 121, 85, 73, 76, 77, 122, 86, 123, 613, 614, 615, 5, 616, 617, 351, 352, 353, 354, 625, 626, 627, 628, 629, 630, 631, 632, 633, 634, 635, 636, 637, 638, 639, 640, 641, 642, 643, 644, 645, 646, 647, 648, 649, 650, 651] (by decide +kernel) (by decide +kernel)
set_option maxRecDepth 20000 in
theorem gL_law_X5_digest : GoodIn wsL_law (wsV RL 110 RX5 yX5_digest wsX5_digest) := goodIn_app (goodIn_of _ (by decide +kernel)) ggL_law_X5_digest
