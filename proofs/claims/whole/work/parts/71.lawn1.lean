theorem inlX0 : ∀ w ∈ wsX00, w ∈ wsL_law := fun _ h => List.mem_append_left _ (List.mem_append_left _ (List.mem_append_left _ (List.mem_append_left _ (List.mem_append_left _ (List.mem_append_right _ h)))))
theorem inX0 : ∀ w ∈ wsX00, w ∈ lw_tbl := fun w h => wsL_law_in w (inlX0 w h)
theorem inlX1 : ∀ w ∈ wsX10, w ∈ wsL_law := fun _ h => List.mem_append_left _ (List.mem_append_left _ (List.mem_append_left _ (List.mem_append_left _ (List.mem_append_left _ (List.mem_append_left _ (List.mem_append_right _ h))))))
theorem inX1 : ∀ w ∈ wsX10, w ∈ lw_tbl := fun w h => wsL_law_in w (inlX1 w h)
theorem inlX2 : ∀ w ∈ wsX20, w ∈ wsL_law := fun _ h => List.mem_append_left _ (List.mem_append_right _ h)
theorem inX2 : ∀ w ∈ wsX20, w ∈ lw_tbl := fun w h => wsL_law_in w (inlX2 w h)
theorem inlX3 : ∀ w ∈ wsX30, w ∈ wsL_law := fun _ h => List.mem_append_left _ (List.mem_append_left _ (List.mem_append_left _ (List.mem_append_left _ (List.mem_append_left _ (List.mem_append_left _ (List.mem_append_left _ (List.mem_append_right _ h)))))))
theorem inX3 : ∀ w ∈ wsX30, w ∈ lw_tbl := fun w h => wsL_law_in w (inlX3 w h)
theorem inlX4 : ∀ w ∈ wsX40, w ∈ wsL_law := fun _ h => List.mem_append_left _ (List.mem_append_left _ (List.mem_append_left _ (List.mem_append_right _ h)))
theorem inX4 : ∀ w ∈ wsX40, w ∈ lw_tbl := fun w h => wsL_law_in w (inlX4 w h)
theorem inlX5 : ∀ w ∈ wsX50, w ∈ wsL_law := fun _ h => List.mem_append_left _ (List.mem_append_left _ (List.mem_append_left _ (List.mem_append_left _ (List.mem_append_right _ h))))
theorem inX5 : ∀ w ∈ wsX50, w ∈ lw_tbl := fun w h => wsL_law_in w (inlX5 w h)
theorem inlX6 : ∀ w ∈ wsX60, w ∈ wsL_law := fun _ h => List.mem_append_left _ (List.mem_append_left _ (List.mem_append_right _ h))
theorem inX6 : ∀ w ∈ wsX60, w ∈ lw_tbl := fun w h => wsL_law_in w (inlX6 w h)
theorem inX7 : ∀ w ∈ wsX70, w ∈ lw_tbl := by decide +kernel
theorem inlX8 : ∀ w ∈ wsX80, w ∈ wsL_law := fun _ h => List.mem_append_left _ (List.mem_append_left _ (List.mem_append_left _ (List.mem_append_left _ (List.mem_append_left _ (List.mem_append_left _ (List.mem_append_left _ (List.mem_append_left _ (List.mem_append_left _ (List.mem_append_right _ h)))))))))
theorem inX8 : ∀ w ∈ wsX80, w ∈ lw_tbl := fun w h => wsL_law_in w (inlX8 w h)
theorem inlX9 : ∀ w ∈ wsX90, w ∈ wsL_law := fun _ h => List.mem_append_left _ (List.mem_append_left _ (List.mem_append_left _ (List.mem_append_left _ (List.mem_append_left _ (List.mem_append_left _ (List.mem_append_left _ (List.mem_append_left _ (List.mem_append_right _ h))))))))
theorem inX9 : ∀ w ∈ wsX90, w ∈ lw_tbl := fun w h => wsL_law_in w (inlX9 w h)
theorem inJ6 : ∀ w ∈ wsJ60, w ∈ lw_tbl := by decide +kernel
theorem inJ13 : ∀ w ∈ wsJ130, w ∈ lw_tbl := by decide +kernel
theorem inJ9 : ∀ w ∈ wsJ90, w ∈ lw_tbl := by decide +kernel
theorem inJ10 : ∀ w ∈ wsJ100, w ∈ lw_tbl := by decide +kernel

set_option maxRecDepth 20000 in
theorem ggL_law_X8_init : GoodIn wsL_law wsX8_init := goodIn_r _ [8, 9, 10, 11, 12, 13, 14, 15, 16, 17, 18, 19, 20, 21, 22, 23, 24, 25, 26, 27, 28, 29, 30, 31, 32, 33, 34, 35, 36, 37, 38, 39, 40, 41, 42, 43, 44, 45, 46, 47, 48, 49, 50, 51, 52, 53, 54, 55, 56, 57, 58, 59, 60, 61, 62, 63, 64, 65, 66, 67, 68, 69, 70, 71, 72, 73, 74, 75, 76, 77, 78, 79, 80, 81, 82, 83, 84, 85, 86, 87, 88, 89, 90, 91, 92, 93, 94, 95, 96, 97, 98, 99, 100, 101, 851, 852, 853, 854, 855, 856, 857, 812, 813, 814, 815, 816, 817, 818, 819, 858, 859, 860, 861, 862, 863, 864, 865, 866, 867, 868, 869, 870, 871, 872, 873, 874, 875, 876, 877, 878, 879, 880, 881, 882, 883, 884] (by decide +kernel) (by decide +kernel)
set_option maxRecDepth 20000 in
theorem gL_law_X8_init : GoodIn wsL_law (wsX8_init) := ggL_law_X8_init
set_option maxRecDepth 20000 in
theorem ggL_law_X9_init : GoodIn wsL_law wsX9_init := goodIn_r _ [104, 105, 10, 11, 44, 106, 107, 108, 109, 110, 111, 112, 113, 114, 115, 116, 117, 118, 119, 120, 121, 820, 821, 822, 823, 824, 825, 826, 827, 828, 829, 830, 831, 832, 833, 834, 835, 836, 837, 838, 839, 840, 841, 842, 843, 844, 845, 846, 847, 848, 849, 850] (by decide +kernel) (by decide +kernel)
set_option maxRecDepth 20000 in
theorem gL_law_X9_init : GoodIn wsL_law (wsX9_init) := ggL_law_X9_init
set_option maxRecDepth 20000 in
theorem ggL_law_X8_day : GoodIn wsL_law wsX8_day := goodIn_r _ [125, 33, 15, 31, 126, 127, 128, 129, 2, 130, 131, 132, 133, 134, 35, 135, 136, 137, 138, 139, 140, 37, 141, 100, 142, 143, 144, 145, 146, 147, 148, 149, 150, 151, 152, 153, 101, 154, 155, 156, 157, 158, 159, 160, 161, 99, 162, 163, 164, 165, 166, 167, 168, 169, 170, 171, 172, 173, 174, 175, 176, 177, 178, 179, 180, 181, 812, 813, 814, 815, 816, 817, 818, 819, 877, 878, 879, 851, 852, 853, 854, 855, 856, 857, 880, 881, 882] (by decide +kernel) (by decide +kernel)
set_option maxRecDepth 20000 in
theorem gL_law_X8_day : GoodIn wsL_law (wsV RL 13 RX8 yX8_day wsX8_day) := goodIn_app (goodIn_of _ (by decide +kernel)) ggL_law_X8_day
set_option maxRecDepth 20000 in
theorem ggL_law_X9_day : GoodIn wsL_law wsX9_day := goodIn_r _ [185, 186, 118, 119, 187, 188, 189, 190, 191, 106, 110, 107, 111, 108, 112, 109, 192, 193, 194, 195, 5, 196, 197, 198, 199, 200, 201, 202, 203, 204, 205, 206, 207, 208, 209, 210, 211, 212, 213, 214, 215, 216, 217, 218, 219, 220, 120, 221, 222, 223, 224, 225, 226, 227, 228, 820, 821, 822, 823, 824, 825, 826, 827, 828, 829, 830, 831, 832, 833, 834, 835, 836, 837, 838, 839, 840, 841, 842, 843, 844, 845, 846, 847, 848, 849, 850] (by decide +kernel) (by decide +kernel)
set_option maxRecDepth 20000 in
theorem gL_law_X9_day : GoodIn wsL_law (wsV RL 17 RX9 yX9_day wsX9_day) := goodIn_app (goodIn_of _ (by decide +kernel)) ggL_law_X9_day
set_option maxRecDepth 20000 in
theorem ggL_law_X8_ofPerson : GoodIn wsL_law wsX8_ofPerson := goodIn_r _ [232, 15, 233, 234, 235, 236, 237, 238, 239, 14, 240, 42, 812, 813, 814, 815, 816, 817, 818, 819, 851, 852, 853, 854, 855, 856, 857] (by decide +kernel) (by decide +kernel)
set_option maxRecDepth 20000 in
theorem gL_law_X8_ofPerson : GoodIn wsL_law (wsV RL 18 RX8 yX8_ofPerson wsX8_ofPerson) := goodIn_app (goodIn_of _ (by decide +kernel)) ggL_law_X8_ofPerson
set_option maxRecDepth 20000 in
theorem ggL_law_X9_ofPerson : GoodIn wsL_law wsX9_ofPerson := goodIn_r _ [244, 106, 107, 108, 109, 245, 246, 247, 5, 248, 191, 198, 199, 200, 820, 821, 822, 823, 824, 825, 826, 827, 828, 829, 830, 831, 832, 833, 834, 835, 836, 837, 838, 839, 840, 841, 842, 843, 844, 845, 846, 847, 848, 849, 850] (by decide +kernel) (by decide +kernel)
set_option maxRecDepth 20000 in
theorem gL_law_X9_ofPerson : GoodIn wsL_law (wsV RL 22 RX9 yX9_ofPerson wsX9_ofPerson) := goodIn_app (goodIn_of _ (by decide +kernel)) ggL_law_X9_ofPerson
set_option maxRecDepth 20000 in
theorem ggL_law_X8_come : GoodIn wsL_law wsX8_come := goodIn_r _ [252, 15, 234, 237, 238, 239, 14, 240, 42, 253, 254, 2, 255, 812, 813, 814, 815, 816, 817, 818, 819, 851, 852, 853, 854, 855, 856, 857] (by decide +kernel) (by decide +kernel)
set_option maxRecDepth 20000 in
theorem gL_law_X8_come : GoodIn wsL_law (wsV RL 23 RX8 yX8_come wsX8_come) := goodIn_app (goodIn_of _ (by decide +kernel)) ggL_law_X8_come
set_option maxRecDepth 20000 in
theorem ggL_law_X9_come : GoodIn wsL_law wsX9_come := goodIn_r _ [259, 107, 245, 246, 247, 5, 248, 191, 198, 199, 200, 260, 261, 262, 263, 820, 821, 822, 823, 824, 825, 826, 827, 828, 829, 830, 831, 832, 833, 834, 835, 836, 837, 838, 839, 840, 841, 842, 843, 844, 845, 846, 847, 848, 849, 850] (by decide +kernel) (by decide +kernel)
set_option maxRecDepth 20000 in
theorem gL_law_X9_come : GoodIn wsL_law (wsV RL 26 RX9 yX9_come wsX9_come) := goodIn_app (goodIn_of _ (by decide +kernel)) ggL_law_X9_come
set_option maxRecDepth 20000 in
theorem ggL_law_X8_runOut : GoodIn wsL_law wsX8_runOut := goodIn_r _ [267, 15, 236, 237, 238, 239, 14, 240, 42, 253, 254, 2, 255, 812, 813, 814, 815, 816, 817, 818, 819, 851, 852, 853, 854, 855, 856, 857] (by decide +kernel) (by decide +kernel)
set_option maxRecDepth 20000 in
theorem gL_law_X8_runOut : GoodIn wsL_law (wsV RL 27 RX8 yX8_runOut wsX8_runOut) := goodIn_app (goodIn_of _ (by decide +kernel)) ggL_law_X8_runOut
set_option maxRecDepth 20000 in
theorem ggL_law_X9_runOut : GoodIn wsL_law wsX9_runOut := goodIn_r _ [271, 109, 245, 246, 247, 5, 248, 191, 198, 199, 200, 260, 261, 262, 263, 820, 821, 822, 823, 824, 825, 826, 827, 828, 829, 830, 831, 832, 833, 834, 835, 836, 837, 838, 839, 840, 841, 842, 843, 844, 845, 846, 847, 848, 849, 850] (by decide +kernel) (by decide +kernel)
set_option maxRecDepth 20000 in
theorem gL_law_X9_runOut : GoodIn wsL_law (wsV RL 30 RX9 yX9_runOut wsX9_runOut) := goodIn_app (goodIn_of _ (by decide +kernel)) ggL_law_X9_runOut
set_option maxRecDepth 20000 in
theorem ggL_law_X8_bell : GoodIn wsL_law wsX8_bell := goodIn_r _ [275, 15, 276, 253, 254, 2, 255, 277, 278, 279, 14, 280, 42, 281, 282, 283, 812, 813, 814, 815, 816, 817, 818, 819, 851, 852, 853, 854, 855, 856, 857] (by decide +kernel) (by decide +kernel)
set_option maxRecDepth 20000 in
theorem gL_law_X8_bell : GoodIn wsL_law (wsV RL 31 RX8 yX8_bell wsX8_bell) := goodIn_app (goodIn_of _ (by decide +kernel)) ggL_law_X8_bell
set_option maxRecDepth 20000 in
theorem ggL_law_X9_bell : GoodIn wsL_law wsX9_bell := goodIn_r _ [287, 191, 192, 288, 260, 261, 5, 262, 263, 198, 199, 200, 289, 290, 291, 820, 821, 822, 823, 824, 825, 826, 827, 828, 829, 830, 831, 832, 833, 834, 835, 836, 837, 838, 839, 840, 841, 842, 843, 844, 845, 846, 847, 848, 849, 850] (by decide +kernel) (by decide +kernel)
set_option maxRecDepth 20000 in
theorem gL_law_X9_bell : GoodIn wsL_law (wsV RL 35 RX9 yX9_bell wsX9_bell) := goodIn_app (goodIn_of _ (by decide +kernel)) ggL_law_X9_bell
set_option maxRecDepth 20000 in
theorem ggL_law_X8_bells : GoodIn wsL_law wsX8_bells := goodIn_r _ [295, 15, 276, 812, 813, 814, 815, 816, 817, 818, 819, 851, 852, 853, 854, 855, 856, 857] (by decide +kernel) (by decide +kernel)
set_option maxRecDepth 20000 in
theorem gL_law_X8_bells : GoodIn wsL_law (wsV RL 36 RX8 yX8_bells wsX8_bells) := goodIn_app (goodIn_of _ (by decide +kernel)) ggL_law_X8_bells
set_option maxRecDepth 20000 in
theorem ggL_law_X9_bells : GoodIn wsL_law wsX9_bells := goodIn_r _ [299, 192, 820, 821, 822, 823, 824, 825, 826, 827, 828, 829, 830, 831, 832, 833, 834, 835, 836, 837, 838, 839, 840, 841, 842, 843, 844, 845, 846, 847, 848, 849, 850] (by decide +kernel) (by decide +kernel)
set_option maxRecDepth 20000 in
theorem gL_law_X9_bells : GoodIn wsL_law (wsV RL 40 RX9 yX9_bells wsX9_bells) := goodIn_app (goodIn_of _ (by decide +kernel)) ggL_law_X9_bells
set_option maxRecDepth 20000 in
theorem ggL_law_X8_served : GoodIn wsL_law wsX8_served := goodIn_r _ [303, 15, 19, 237, 238, 239, 14, 240, 42, 304, 305, 306, 18, 307, 56, 308, 309, 310, 311, 312, 313, 314, 315, 55, 316, 57, 58, 59, 60, 317, 318, 319, 320, 321, 322, 323, 324, 282, 2, 283, 253, 254, 255, 325, 326, 327, 328, 329, 330, 331, 54, 332, 65, 64, 333, 334, 335, 336, 337, 338, 339, 340, 341, 342, 343, 344, 345, 346, 347, 348, 349, 350, 351, 352, 353, 171, 354, 355, 356, 357, 358, 359, 360, 361, 362, 363, 364, 365, 366, 367, 368, 369, 812, 813, 814, 815, 816, 817, 818, 819, 851, 852, 853, 854, 855, 856, 857, 858, 859, 860, 861, 862, 863, 883, 884] (by decide +kernel) (by decide +kernel)
set_option maxRecDepth 20000 in
theorem gL_law_X8_served : GoodIn wsL_law (wsV RL 41 RX8 yX8_served wsX8_served) := goodIn_app (goodIn_of _ (by decide +kernel)) ggL_law_X8_served
set_option maxRecDepth 20000 in
theorem ggL_law_X9_served : GoodIn wsL_law wsX9_served := goodIn_r _ [373, 114, 245, 246, 247, 5, 248, 191, 198, 199, 200, 374, 375, 376, 377, 192, 378, 379, 380, 381, 382, 383, 384, 385, 386, 387, 388, 389, 390, 391, 392, 393, 394, 395, 396, 109, 107, 113, 108, 397, 398, 399, 400, 401, 402, 403, 404, 405, 406, 407, 408, 409, 410, 411, 412, 106, 289, 290, 291, 413, 414, 415, 416, 189, 417, 418, 419, 420, 820, 821, 822, 823, 824, 825, 826, 827, 828, 829, 830, 831, 832, 833, 834, 835, 836, 837, 838, 839, 840, 841, 842, 843, 844, 845, 846, 847, 848, 849, 850] (by decide +kernel) (by decide +kernel)
set_option maxRecDepth 20000 in
theorem gL_law_X9_served : GoodIn wsL_law (wsV RL 45 RX9 yX9_served wsX9_served) := goodIn_app (goodIn_of _ (by decide +kernel)) ggL_law_X9_served
set_option maxRecDepth 20000 in
theorem ggL_law_X8_queue : GoodIn wsL_law wsX8_queue := goodIn_r _ [424, 19, 15, 425, 426, 427, 428, 429, 18, 430, 308, 309, 310, 14, 311, 42, 312, 313, 314, 315, 55, 316, 57, 58, 59, 60, 317, 318, 319, 320, 321, 322, 323, 324, 282, 2, 283, 253, 254, 255, 325, 326, 327, 328, 329, 330, 331, 54, 332, 65, 64, 333, 334, 335, 336, 337, 338, 339, 340, 341, 342, 343, 344, 345, 346, 347, 348, 349, 350, 351, 352, 353, 171, 354, 355, 356, 357, 358, 359, 360, 361, 362, 363, 364, 365, 366, 367, 368, 56, 369, 431, 432, 433, 434, 812, 813, 814, 815, 816, 817, 818, 819, 858, 859, 860, 861, 862, 863, 851, 852, 853, 854, 855, 856, 857, 883, 884] (by decide +kernel) (by decide +kernel)
set_option maxRecDepth 20000 in
theorem gL_law_X8_queue : GoodIn wsL_law (wsV RL 46 RX8 yX8_queue wsX8_queue) := goodIn_app (goodIn_of _ (by decide +kernel)) ggL_law_X8_queue
set_option maxRecDepth 20000 in
theorem ggL_law_X9_queue : GoodIn wsL_law wsX9_queue := goodIn_r _ [438, 439, 192, 391, 390, 113, 198, 199, 5, 200, 386, 387, 388, 389, 114, 378, 379, 380, 381, 191, 392, 393, 394, 395, 396, 109, 107, 108, 397, 398, 399, 400, 401, 402, 403, 404, 405, 406, 407, 408, 409, 410, 411, 412, 106, 289, 290, 291, 413, 414, 415, 416, 189, 417, 418, 419, 420, 820, 821, 822, 823, 824, 825, 826, 827, 828, 829, 830, 831, 832, 833, 834, 835, 836, 837, 838, 839, 840, 841, 842, 843, 844, 845, 846, 847, 848, 849, 850] (by decide +kernel) (by decide +kernel)
set_option maxRecDepth 20000 in
theorem gL_law_X9_queue : GoodIn wsL_law (wsV RL 49 RX9 yX9_queue wsX9_queue) := goodIn_app (goodIn_of _ (by decide +kernel)) ggL_law_X9_queue
set_option maxRecDepth 20000 in
theorem ggL_law_X8_waits : GoodIn wsL_law wsX8_waits := goodIn_r _ [443, 444, 15, 19, 127, 277, 278, 279, 14, 280, 42, 445, 446, 447, 18, 448, 322, 56, 323, 308, 309, 310, 311, 312, 313, 314, 315, 55, 316, 57, 58, 59, 60, 317, 318, 319, 320, 321, 324, 282, 2, 283, 253, 254, 255, 325, 326, 327, 328, 329, 330, 331, 54, 332, 65, 64, 333, 334, 335, 336, 337, 338, 339, 340, 341, 342, 343, 344, 345, 346, 347, 348, 349, 350, 351, 352, 353, 171, 354, 355, 356, 357, 358, 359, 360, 361, 362, 363, 364, 365, 366, 367, 368, 369, 449, 450, 451, 812, 813, 814, 815, 816, 817, 818, 819, 851, 852, 853, 854, 855, 856, 857, 858, 859, 860, 861, 862, 863, 883, 884] (by decide +kernel) (by decide +kernel)
set_option maxRecDepth 20000 in
theorem gL_law_X8_waits : GoodIn wsL_law (wsV RL 50 RX8 yX8_waits wsX8_waits) := goodIn_app (goodIn_of _ (by decide +kernel)) ggL_law_X8_waits
set_option maxRecDepth 20000 in
theorem ggL_law_X9_waits : GoodIn wsL_law wsX9_waits := goodIn_r _ [455, 191, 198, 199, 5, 200, 456, 457, 458, 459, 460, 461, 462, 463, 114, 107, 374, 375, 376, 377, 192, 378, 379, 380, 381, 382, 383, 384, 385, 386, 387, 388, 389, 390, 391, 392, 393, 394, 395, 396, 109, 113, 108, 397, 398, 399, 400, 401, 402, 403, 404, 405, 406, 407, 408, 409, 410, 411, 412, 106, 289, 290, 291, 413, 414, 415, 416, 189, 417, 418, 419, 420, 464, 465, 466, 820, 821, 822, 823, 824, 825, 826, 827, 828, 829, 830, 831, 832, 833, 834, 835, 836, 837, 838, 839, 840, 841, 842, 843, 844, 845, 846, 847, 848, 849, 850] (by decide +kernel) (by decide +kernel)
set_option maxRecDepth 20000 in
theorem gL_law_X9_waits : GoodIn wsL_law (wsV RL 54 RX9 yX9_waits wsX9_waits) := goodIn_app (goodIn_of _ (by decide +kernel)) ggL_law_X9_waits
set_option maxRecDepth 20000 in
theorem ggL_law_X8_best : GoodIn wsL_law wsX8_best := goodIn_r _ [470, 15, 23, 471, 472, 237, 238, 239, 14, 240, 42, 473, 474, 475, 22, 476, 72, 73, 74, 477, 70, 478, 479, 480, 481, 41, 43, 45, 46, 47, 48, 482, 305, 306, 18, 307, 56, 308, 309, 310, 311, 312, 313, 314, 315, 55, 316, 57, 58, 59, 60, 317, 318, 319, 320, 321, 322, 323, 324, 282, 2, 283, 253, 254, 255, 325, 326, 327, 328, 329, 330, 331, 54, 332, 65, 64, 333, 334, 335, 336, 337, 338, 339, 340, 341, 342, 343, 344, 345, 346, 347, 348, 349, 350, 351, 352, 353, 171, 354, 355, 356, 357, 358, 359, 360, 361, 362, 363, 364, 365, 366, 367, 368, 369, 812, 813, 814, 815, 816, 817, 818, 819, 864, 865, 866, 867, 868, 851, 852, 853, 854, 855, 856, 857, 858, 859, 860, 861, 862, 863, 883, 884] (by decide +kernel) (by decide +kernel)
set_option maxRecDepth 20000 in
theorem gL_law_X8_best : GoodIn wsL_law (wsV RL 55 RX8 yX8_best wsX8_best) := goodIn_app (goodIn_of _ (by decide +kernel)) ggL_law_X8_best
set_option maxRecDepth 20000 in
theorem ggL_law_X9_best : GoodIn wsL_law wsX9_best := goodIn_r _ [486, 107, 114, 245, 246, 247, 5, 248, 191, 198, 199, 200, 374, 375, 376, 377, 192, 378, 379, 380, 381, 382, 383, 384, 385, 386, 387, 388, 389, 390, 391, 392, 393, 394, 395, 396, 109, 113, 108, 397, 398, 399, 400, 401, 402, 403, 404, 405, 406, 407, 408, 409, 410, 411, 412, 106, 289, 290, 291, 413, 414, 415, 416, 189, 417, 418, 419, 420, 820, 821, 822, 823, 824, 825, 826, 827, 828, 829, 830, 831, 832, 833, 834, 835, 836, 837, 838, 839, 840, 841, 842, 843, 844, 845, 846, 847, 848, 849, 850] (by decide +kernel) (by decide +kernel)
set_option maxRecDepth 20000 in
theorem gL_law_X9_best : GoodIn wsL_law (wsV RL 58 RX9 yX9_best wsX9_best) := goodIn_app (goodIn_of _ (by decide +kernel)) ggL_law_X9_best
set_option maxRecDepth 20000 in
theorem ggL_law_X8_calm : GoodIn wsL_law wsX8_calm := goodIn_r _ [490, 15, 23, 491, 492, 234, 237, 238, 239, 14, 240, 42, 277, 278, 279, 280, 493, 494, 495, 22, 496, 72, 75, 497, 478, 479, 480, 481, 41, 43, 45, 46, 47, 48, 498, 499, 500, 501, 477, 70, 482, 305, 306, 18, 307, 56, 308, 309, 310, 311, 312, 313, 314, 315, 55, 316, 57, 58, 59, 60, 317, 318, 319, 320, 321, 322, 323, 324, 282, 2, 283, 253, 254, 255, 325, 326, 327, 328, 329, 330, 331, 54, 332, 65, 64, 333, 334, 335, 336, 337, 338, 339, 340, 341, 342, 343, 344, 345, 346, 347, 348, 349, 350, 351, 352, 353, 171, 354, 355, 356, 357, 358, 359, 360, 361, 362, 363, 364, 365, 366, 367, 368, 369, 812, 813, 814, 815, 816, 817, 818, 819, 864, 865, 866, 867, 868, 851, 852, 853, 854, 855, 856, 857, 858, 859, 860, 861, 862, 863, 883, 884] (by decide +kernel) (by decide +kernel)
set_option maxRecDepth 20000 in
theorem gL_law_X8_calm : GoodIn wsL_law (wsV RL 59 RX8 yX8_calm wsX8_calm) := goodIn_app (goodIn_of _ (by decide +kernel)) ggL_law_X8_calm
set_option maxRecDepth 20000 in
theorem ggL_law_X9_calm : GoodIn wsL_law wsX9_calm := goodIn_r _ [505, 191, 115, 107, 245, 246, 247, 5, 248, 198, 199, 200, 506, 507, 508, 509, 114, 374, 375, 376, 377, 192, 378, 379, 380, 381, 382, 383, 384, 385, 386, 387, 388, 389, 390, 391, 392, 393, 394, 395, 396, 109, 113, 108, 397, 398, 399, 400, 401, 402, 403, 404, 405, 406, 407, 408, 409, 410, 411, 412, 106, 289, 290, 291, 413, 414, 415, 416, 189, 417, 418, 419, 420, 820, 821, 822, 823, 824, 825, 826, 827, 828, 829, 830, 831, 832, 833, 834, 835, 836, 837, 838, 839, 840, 841, 842, 843, 844, 845, 846, 847, 848, 849, 850] (by decide +kernel) (by decide +kernel)
set_option maxRecDepth 20000 in
theorem gL_law_X9_calm : GoodIn wsL_law (wsV RL 62 RX9 yX9_calm wsX9_calm) := goodIn_app (goodIn_of _ (by decide +kernel)) ggL_law_X9_calm
set_option maxRecDepth 20000 in
theorem ggL_law_X8_loss : GoodIn wsL_law wsX8_loss := goodIn_r _ [513, 15, 19, 23, 277, 278, 279, 14, 280, 42, 445, 446, 447, 18, 448, 322, 56, 323, 308, 309, 310, 311, 312, 313, 314, 315, 55, 316, 57, 58, 59, 60, 317, 318, 319, 320, 321, 324, 282, 2, 283, 253, 254, 255, 325, 326, 327, 328, 329, 330, 331, 54, 332, 65, 64, 333, 334, 335, 336, 337, 338, 339, 340, 341, 342, 343, 344, 345, 346, 347, 348, 349, 350, 351, 352, 353, 171, 354, 355, 356, 357, 358, 359, 360, 361, 362, 363, 364, 365, 366, 367, 368, 369, 514, 515, 516, 22, 517, 477, 518, 519, 520, 521, 522, 497, 812, 813, 814, 815, 816, 817, 818, 819, 851, 852, 853, 854, 855, 856, 857, 858, 859, 860, 861, 862, 863, 883, 884] (by decide +kernel) (by decide +kernel)
set_option maxRecDepth 20000 in
theorem gL_law_X8_loss : GoodIn wsL_law (wsV RL 63 RX8 yX8_loss wsX8_loss) := goodIn_app (goodIn_of _ (by decide +kernel)) ggL_law_X8_loss
set_option maxRecDepth 20000 in
theorem ggL_law_X9_loss : GoodIn wsL_law wsX9_loss := goodIn_r _ [526, 191, 460, 461, 462, 5, 463, 114, 107, 374, 375, 376, 377, 192, 378, 379, 380, 381, 382, 383, 384, 385, 386, 387, 388, 389, 390, 391, 392, 393, 394, 395, 396, 109, 113, 108, 397, 398, 399, 400, 401, 402, 403, 404, 405, 406, 407, 408, 409, 410, 411, 412, 106, 289, 290, 291, 413, 414, 415, 416, 189, 417, 418, 419, 420, 527, 528, 529, 530, 820, 821, 822, 823, 824, 825, 826, 827, 828, 829, 830, 831, 832, 833, 834, 835, 836, 837, 838, 839, 840, 841, 842, 843, 844, 845, 846, 847, 848, 849, 850] (by decide +kernel) (by decide +kernel)
set_option maxRecDepth 20000 in
theorem gL_law_X9_loss : GoodIn wsL_law (wsV RL 67 RX9 yX9_loss wsX9_loss) := goodIn_app (goodIn_of _ (by decide +kernel)) ggL_law_X9_loss
set_option maxRecDepth 20000 in
theorem ggL_law_X8_ringer : GoodIn wsL_law wsX8_ringer := goodIn_r _ [534, 15, 27, 535, 536, 237, 238, 239, 14, 240, 42, 537, 538, 539, 26, 540, 82, 85, 80, 86, 541, 542, 479, 480, 481, 41, 43, 45, 46, 47, 48, 543, 305, 306, 18, 307, 56, 308, 309, 310, 311, 312, 313, 314, 315, 55, 316, 57, 58, 59, 60, 317, 318, 319, 320, 321, 322, 323, 324, 282, 2, 283, 253, 254, 255, 325, 326, 327, 328, 329, 330, 331, 54, 332, 65, 64, 333, 334, 335, 336, 337, 338, 339, 340, 341, 342, 343, 344, 345, 346, 347, 348, 349, 350, 351, 352, 353, 171, 354, 355, 356, 357, 358, 359, 360, 361, 362, 363, 364, 365, 366, 367, 368, 369, 544, 545, 546, 547, 812, 813, 814, 815, 816, 817, 818, 819, 869, 870, 871, 872, 873, 874, 875, 876, 851, 852, 853, 854, 855, 856, 857, 858, 859, 860, 861, 862, 863, 883, 884] (by decide +kernel) (by decide +kernel)
set_option maxRecDepth 20000 in
theorem gL_law_X8_ringer : GoodIn wsL_law (wsV RL 68 RX8 yX8_ringer wsX8_ringer) := goodIn_app (goodIn_of _ (by decide +kernel)) ggL_law_X8_ringer
set_option maxRecDepth 20000 in
theorem ggL_law_X9_ringer : GoodIn wsL_law wsX9_ringer := goodIn_r _ [551, 192, 288, 245, 246, 247, 5, 248, 191, 198, 199, 200, 552, 553, 554, 555, 114, 378, 379, 380, 381, 382, 383, 384, 385, 386, 387, 388, 389, 390, 391, 392, 393, 394, 395, 396, 109, 107, 113, 108, 397, 398, 399, 400, 401, 402, 403, 404, 405, 406, 407, 408, 409, 410, 411, 412, 106, 289, 290, 291, 413, 414, 415, 416, 189, 417, 418, 419, 420, 260, 261, 262, 263, 820, 821, 822, 823, 824, 825, 826, 827, 828, 829, 830, 831, 832, 833, 834, 835, 836, 837, 838, 839, 840, 841, 842, 843, 844, 845, 846, 847, 848, 849, 850] (by decide +kernel) (by decide +kernel)
set_option maxRecDepth 20000 in
theorem gL_law_X9_ringer : GoodIn wsL_law (wsV RL 71 RX9 yX9_ringer wsX9_ringer) := goodIn_app (goodIn_of _ (by decide +kernel)) ggL_law_X9_ringer
set_option maxRecDepth 20000 in
theorem ggL_law_X8_pays : GoodIn wsL_law wsX8_pays := goodIn_r _ [559, 15, 23, 471, 19, 472, 237, 238, 239, 14, 240, 42, 560, 561, 562, 22, 563, 72, 73, 70, 74, 564, 478, 479, 480, 481, 41, 43, 45, 46, 47, 48, 482, 305, 306, 18, 307, 56, 308, 309, 310, 311, 312, 313, 314, 315, 55, 316, 57, 58, 59, 60, 317, 318, 319, 320, 321, 322, 323, 324, 282, 2, 283, 253, 254, 255, 325, 326, 327, 328, 329, 330, 331, 54, 332, 65, 64, 333, 334, 335, 336, 337, 338, 339, 340, 341, 342, 343, 344, 345, 346, 347, 348, 349, 350, 351, 352, 353, 171, 354, 355, 356, 357, 358, 359, 360, 361, 362, 363, 364, 365, 366, 367, 368, 369, 304, 812, 813, 814, 815, 816, 817, 818, 819, 864, 865, 866, 867, 868, 851, 852, 853, 854, 855, 856, 857, 858, 859, 860, 861, 862, 863, 883, 884] (by decide +kernel) (by decide +kernel)
set_option maxRecDepth 20000 in
theorem gL_law_X8_pays : GoodIn wsL_law (wsV RL 72 RX8 yX8_pays wsX8_pays) := goodIn_app (goodIn_of _ (by decide +kernel)) ggL_law_X8_pays
set_option maxRecDepth 20000 in
theorem ggL_law_X9_pays : GoodIn wsL_law wsX9_pays := goodIn_r _ [568, 192, 109, 245, 246, 247, 5, 248, 191, 198, 199, 200, 552, 553, 554, 555, 114, 378, 379, 380, 381, 382, 383, 384, 385, 386, 387, 388, 389, 390, 391, 392, 393, 394, 395, 396, 107, 113, 108, 397, 398, 399, 400, 401, 402, 403, 404, 405, 406, 407, 408, 409, 410, 411, 412, 106, 289, 290, 291, 413, 414, 415, 416, 189, 417, 418, 419, 420, 820, 821, 822, 823, 824, 825, 826, 827, 828, 829, 830, 831, 832, 833, 834, 835, 836, 837, 838, 839, 840, 841, 842, 843, 844, 845, 846, 847, 848, 849, 850] (by decide +kernel) (by decide +kernel)
set_option maxRecDepth 20000 in
theorem gL_law_X9_pays : GoodIn wsL_law (wsV RL 75 RX9 yX9_pays wsX9_pays) := goodIn_app (goodIn_of _ (by decide +kernel)) ggL_law_X9_pays
