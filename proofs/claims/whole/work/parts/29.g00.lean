set_option maxRecDepth 20000 in
theorem ggL_law_X11_init : GoodIn wsL_law wsX11_init := goodIn_r _ [8, 9, 10, 11, 12, 13, 14, 15, 16, 17, 18, 19, 20, 21, 22, 23, 24, 25, 26, 27, 28, 29, 30, 31, 32, 33, 34, 35, 36, 37, 38, 39, 40, 41, 42, 43, 44, 45, 46, 47, 48, 49, 50, 51, 52, 53, 54, 55, 56, 57, 58, 59, 60, 61, 62, 63, 64, 65, 66, 67, 68, 69, 70, 71, 72, 73, 74, 75, 76, 77, 78, 79, 80, 81, 82, 83, 84, 85, 86, 87, 88, 89, 90, 91, 92, 93, 94, 95, 96, 97, 98, 99, 100, 101, 102, 103, 104, 105, 106, 107, 108, 109, 110, 111, 112, 849, 850, 851, 852, 853, 854, 855, 816, 817, 818, 819, 820, 821, 822, 823, 824, 825, 826, 856, 857, 858, 859, 860, 861, 862, 863, 864, 865, 866, 867, 868, 869, 870, 871, 872, 873, 874, 875, 876, 877, 878, 879, 880, 881, 882, 883, 884, 885, 886, 887, 888, 889] (by decide +kernel) (by decide +kernel)
set_option maxRecDepth 20000 in
theorem gL_law_X11_init : GoodIn wsL_law (wsX11_init) := ggL_law_X11_init
set_option maxRecDepth 20000 in
theorem ggL_law_X12_init : GoodIn wsL_law wsX12_init := goodIn_r _ [115, 116, 10, 11, 50, 117, 118, 119, 120, 121, 122, 123, 124, 125, 126, 127, 128, 129, 107, 130, 827, 828, 829, 830, 831, 832, 833, 834, 835, 836, 837, 838, 839, 840, 841, 842, 843, 844, 845, 846, 847, 848] (by decide +kernel) (by decide +kernel)
set_option maxRecDepth 20000 in
theorem gL_law_X12_init : GoodIn wsL_law (wsX12_init) := ggL_law_X12_init
set_option maxRecDepth 20000 in
theorem ggL_law_X11_herd : GoodIn wsL_law wsX11_herd := goodIn_r _ [134, 15, 135, 136, 137, 2, 138, 139, 140, 141, 14, 142, 143, 55, 56, 57, 58, 144, 145, 146, 147, 148, 149, 150, 816, 817, 818, 819, 820, 821, 822, 823, 824, 825, 826, 849, 850, 851, 852, 853, 854, 855] (by decide +kernel) (by decide +kernel)
set_option maxRecDepth 20000 in
theorem gL_law_X11_herd : GoodIn wsL_law (wsV RL 13 RX11 yX11_herd wsX11_herd) := goodIn_app (goodIn_of _ (by decide +kernel)) ggL_law_X11_herd
set_option maxRecDepth 20000 in
theorem ggL_law_X12_herd : GoodIn wsL_law wsX12_herd := goodIn_r _ [154, 117, 119, 155, 156, 5, 157, 158, 159, 160, 827, 828, 829, 830, 831, 832, 833, 834, 835, 836, 837, 838, 839, 840, 841, 842, 843, 844, 845, 846, 847, 848] (by decide +kernel) (by decide +kernel)
set_option maxRecDepth 20000 in
theorem gL_law_X12_herd : GoodIn wsL_law (wsV RL 17 RX12 yX12_herd wsX12_herd) := goodIn_app (goodIn_of _ (by decide +kernel)) ggL_law_X12_herd
