theorem dX0_init_0 : decode cX0_init 0 = .ok (.aload_n 0, 1) := by decide +kernel
theorem dX0_init_1 : decode cX0_init 1 = .ok (.invokespecial 3, 3) := by decide +kernel
theorem dX0_init_4 : decode cX0_init 4 = .ok (.aload_n 0, 1) := by decide +kernel
theorem dX0_init_5 : decode cX0_init 5 = .ok (.sipush 768, 3) := by decide +kernel
theorem dX0_init_8 : decode cX0_init 8 = .ok (.newarray .int, 2) := by decide +kernel
theorem dX0_init_10 : decode cX0_init 10 = .ok (.putfield 9, 3) := by decide +kernel
theorem dX0_init_13 : decode cX0_init 13 = .ok (.aload_n 0, 1) := by decide +kernel
theorem dX0_init_14 : decode cX0_init 14 = .ok (.aload_n 1, 1) := by decide +kernel
theorem dX0_init_15 : decode cX0_init 15 = .ok (.putfield 15, 3) := by decide +kernel
theorem dX0_init_18 : decode cX0_init 18 = .ok (.aload_n 0, 1) := by decide +kernel
theorem dX0_init_19 : decode cX0_init 19 = .ok (.aload_n 2, 1) := by decide +kernel
theorem dX0_init_20 : decode cX0_init 20 = .ok (.putfield 19, 3) := by decide +kernel
theorem dX0_init_23 : decode cX0_init 23 = .ok (.aload_n 0, 1) := by decide +kernel
theorem dX0_init_24 : decode cX0_init 24 = .ok (.aload_n 3, 1) := by decide +kernel
theorem dX0_init_25 : decode cX0_init 25 = .ok (.putfield 23, 3) := by decide +kernel
theorem dX0_init_28 : decode cX0_init 28 = .ok (.return_, 1) := by decide +kernel
set_option maxRecDepth 20000 in
theorem ggX0_collectYoung_X0_findHeld : GoodIn wsX0_collectYoung wsX0_findHeld := goodIn_r _ [7, 8, 9, 10, 11, 12, 13, 14, 15, 6, 16, 17, 2, 18, 19, 20, 21, 22, 23, 24, 25, 26, 27, 28, 29, 30, 31, 32, 33, 34, 35, 36, 37, 38, 39, 115, 116, 117, 118, 119, 120, 121, 122, 123, 124, 125, 126, 127, 128, 129, 130, 131, 132, 133, 134, 135] (by decide +kernel) (by decide +kernel)
set_option maxRecDepth 20000 in
theorem gX0_collectYoung_X0_findHeld : GoodIn wsX0_collectYoung (wsV RX0 34 RX0 yX0_findHeld wsX0_findHeld) := goodIn_app (goodIn_of _ (by decide +kernel)) ggX0_collectYoung_X0_findHeld
set_option maxRecDepth 20000 in
theorem ggX0_collectYoung_X0_findRemembered : GoodIn wsX0_collectYoung wsX0_findRemembered := goodIn_r _ [43, 11, 44, 45, 46, 47, 48, 49, 50, 51, 52, 53, 54, 55, 22, 56, 25, 39, 20, 21, 23, 24, 57, 58, 59, 60, 61, 62, 63, 64, 65, 66, 67, 68, 69, 70, 71, 72, 73, 74, 75, 6, 76, 77, 78, 79, 13, 14, 15, 16, 17, 2, 18, 19, 115, 116, 117, 118, 119, 120, 121, 122, 123, 127, 128, 129, 130, 131, 132, 133, 134, 135, 136, 137, 138, 139, 140] (by decide +kernel) (by decide +kernel)
set_option maxRecDepth 20000 in
theorem gX0_collectYoung_X0_findRemembered : GoodIn wsX0_collectYoung (wsV RX0 37 RX0 yX0_findRemembered wsX0_findRemembered) := goodIn_app (goodIn_of _ (by decide +kernel)) ggX0_collectYoung_X0_findRemembered
set_option maxRecDepth 20000 in
theorem ggX0_collectYoung_X0_findReferred : GoodIn wsX0_collectYoung wsX0_findReferred := goodIn_r _ [83, 2, 18, 73, 74, 75, 6, 76, 11, 77, 78, 79, 58, 59, 22, 60, 61, 39, 20, 21, 23, 24, 25, 13, 14, 15, 16, 17, 19, 115, 116, 117, 118, 119, 120, 121, 122, 123, 127, 128, 129, 130, 131, 132, 133, 134, 135] (by decide +kernel) (by decide +kernel)
set_option maxRecDepth 20000 in
theorem gX0_collectYoung_X0_findReferred : GoodIn wsX0_collectYoung (wsV RX0 40 RX0 yX0_findReferred wsX0_findReferred) := goodIn_app (goodIn_of _ (by decide +kernel)) ggX0_collectYoung_X0_findReferred
set_option maxRecDepth 20000 in
theorem ggX0_collectYoung_X0_end : GoodIn wsX0_collectYoung wsX0_end := goodIn_r _ [87, 11, 88, 45, 8, 12, 10, 89, 90, 91, 22, 92, 25, 93, 94, 95, 49, 96, 71, 52, 66, 97, 98, 99, 100, 101, 30, 102, 103, 104, 105, 106, 107, 108, 109, 31, 110, 111, 112, 113, 114, 24, 115, 116, 117, 118, 119, 120, 121, 122, 123, 124, 125, 126, 127, 128, 129, 130, 131, 132, 133, 134, 135, 136, 137, 138, 139, 140] (by decide +kernel) (by decide +kernel)
set_option maxRecDepth 20000 in
theorem gX0_collectYoung_X0_end : GoodIn wsX0_collectYoung (wsV RX0 43 RX0 yX0_end wsX0_end) := goodIn_app (goodIn_of _ (by decide +kernel)) ggX0_collectYoung_X0_end
theorem dX0_collectYoung_0 : decode cX0_collectYoung 0 = .ok (.aload_n 0, 1) := by decide +kernel
theorem dX0_collectYoung_1 : decode cX0_collectYoung 1 = .ok (.dup, 1) := by decide +kernel
theorem dX0_collectYoung_2 : decode cX0_collectYoung 2 = .ok (.getfield 27, 3) := by decide +kernel
theorem dX0_collectYoung_5 : decode cX0_collectYoung 5 = .ok (.iconst 1, 1) := by decide +kernel
theorem dX0_collectYoung_6 : decode cX0_collectYoung 6 = .ok (.iadd, 1) := by decide +kernel
theorem dX0_collectYoung_7 : decode cX0_collectYoung 7 = .ok (.putfield 27, 3) := by decide +kernel
theorem dX0_collectYoung_10 : decode cX0_collectYoung 10 = .ok (.aload_n 0, 1) := by decide +kernel
theorem dX0_collectYoung_11 : decode cX0_collectYoung 11 = .ok (.iconst 0, 1) := by decide +kernel
theorem dX0_collectYoung_12 : decode cX0_collectYoung 12 = .ok (.putfield 31, 3) := by decide +kernel
theorem dX0_collectYoung_15 : decode cX0_collectYoung 15 = .ok (.aload_n 0, 1) := by decide +kernel
theorem dX0_collectYoung_16 : decode cX0_collectYoung 16 = .ok (.invokevirtual 34, 3) := by decide +kernel
theorem dX0_collectYoung_19 : decode cX0_collectYoung 19 = .ok (.aload_n 0, 1) := by decide +kernel
theorem dX0_collectYoung_20 : decode cX0_collectYoung 20 = .ok (.invokevirtual 37, 3) := by decide +kernel
theorem dX0_collectYoung_23 : decode cX0_collectYoung 23 = .ok (.aload_n 0, 1) := by decide +kernel
theorem dX0_collectYoung_24 : decode cX0_collectYoung 24 = .ok (.invokevirtual 40, 3) := by decide +kernel
theorem dX0_collectYoung_27 : decode cX0_collectYoung 27 = .ok (.aload_n 0, 1) := by decide +kernel
theorem dX0_collectYoung_28 : decode cX0_collectYoung 28 = .ok (.invokevirtual 43, 3) := by decide +kernel
theorem dX0_collectYoung_31 : decode cX0_collectYoung 31 = .ok (.ireturn, 1) := by decide +kernel
set_option maxRecDepth 20000 in
theorem ggX0_collectAll_X3_makeAllYoung : GoodIn wsX0_collectAll wsX3_makeAllYoung := goodIn_r _ [8, 9, 104, 105, 106, 107, 108, 109, 110, 111, 112] (by decide +kernel) (by decide +kernel)
set_option maxRecDepth 20000 in
theorem gX0_collectAll_X3_makeAllYoung : GoodIn wsX0_collectAll (wsV RX0 50 RX3 yX3_makeAllYoung wsX3_makeAllYoung) := goodIn_app (goodIn_of _ (by decide +kernel)) ggX0_collectAll_X3_makeAllYoung
set_option maxRecDepth 20000 in
theorem ggX0_collectAll_X0_findHeld : GoodIn wsX0_collectAll wsX0_findHeld := goodIn_r _ [14, 15, 16, 17, 3, 18, 19, 20, 21, 13, 22, 23, 2, 24, 25, 26, 27, 7, 28, 29, 9, 30, 31, 32, 33, 34, 35, 36, 37, 38, 39, 40, 41, 42, 43, 95, 96, 97, 98, 99, 100, 101, 102, 103, 113, 114, 115, 104, 105, 106, 107, 108, 109, 110, 111, 112] (by decide +kernel) (by decide +kernel)
set_option maxRecDepth 20000 in
theorem gX0_collectAll_X0_findHeld : GoodIn wsX0_collectAll (wsV RX0 34 RX0 yX0_findHeld wsX0_findHeld) := goodIn_app (goodIn_of _ (by decide +kernel)) ggX0_collectAll_X0_findHeld
set_option maxRecDepth 20000 in
theorem ggX0_collectAll_X0_findReferred : GoodIn wsX0_collectAll wsX0_findReferred := goodIn_r _ [47, 2, 24, 48, 49, 50, 13, 51, 3, 52, 53, 54, 55, 56, 7, 57, 58, 43, 26, 27, 28, 29, 9, 19, 20, 21, 22, 23, 25, 95, 96, 97, 98, 99, 100, 101, 102, 103, 104, 105, 106, 107, 108, 109, 110, 111, 112] (by decide +kernel) (by decide +kernel)
set_option maxRecDepth 20000 in
theorem gX0_collectAll_X0_findReferred : GoodIn wsX0_collectAll (wsV RX0 40 RX0 yX0_findReferred wsX0_findReferred) := goodIn_app (goodIn_of _ (by decide +kernel)) ggX0_collectAll_X0_findReferred
set_option maxRecDepth 20000 in
theorem ggX0_collectAll_X0_end : GoodIn wsX0_collectAll wsX0_end := goodIn_r _ [62, 3, 63, 64, 15, 18, 17, 65, 66, 67, 7, 68, 9, 69, 70, 71, 72, 73, 74, 75, 76, 77, 78, 79, 80, 81, 34, 82, 83, 84, 85, 86, 87, 88, 89, 35, 90, 91, 92, 93, 94, 29, 95, 96, 97, 98, 99, 100, 101, 102, 103, 113, 114, 115, 104, 105, 106, 107, 108, 109, 110, 111, 112, 116, 117, 118, 119, 120] (by decide +kernel) (by decide +kernel)
set_option maxRecDepth 20000 in
theorem gX0_collectAll_X0_end : GoodIn wsX0_collectAll (wsV RX0 43 RX0 yX0_end wsX0_end) := goodIn_app (goodIn_of _ (by decide +kernel)) ggX0_collectAll_X0_end
theorem dX0_collectAll_0 : decode cX0_collectAll 0 = .ok (.aload_n 0, 1) := by decide +kernel
theorem dX0_collectAll_1 : decode cX0_collectAll 1 = .ok (.dup, 1) := by decide +kernel
theorem dX0_collectAll_2 : decode cX0_collectAll 2 = .ok (.getfield 47, 3) := by decide +kernel
theorem dX0_collectAll_5 : decode cX0_collectAll 5 = .ok (.iconst 1, 1) := by decide +kernel
theorem dX0_collectAll_6 : decode cX0_collectAll 6 = .ok (.iadd, 1) := by decide +kernel
theorem dX0_collectAll_7 : decode cX0_collectAll 7 = .ok (.putfield 47, 3) := by decide +kernel
theorem dX0_collectAll_10 : decode cX0_collectAll 10 = .ok (.aload_n 0, 1) := by decide +kernel
theorem dX0_collectAll_11 : decode cX0_collectAll 11 = .ok (.iconst 0, 1) := by decide +kernel
theorem dX0_collectAll_12 : decode cX0_collectAll 12 = .ok (.putfield 31, 3) := by decide +kernel
theorem dX0_collectAll_15 : decode cX0_collectAll 15 = .ok (.aload_n 0, 1) := by decide +kernel
theorem dX0_collectAll_16 : decode cX0_collectAll 16 = .ok (.getfield 15, 3) := by decide +kernel
theorem dX0_collectAll_19 : decode cX0_collectAll 19 = .ok (.invokevirtual 50, 3) := by decide +kernel
theorem dX0_collectAll_22 : decode cX0_collectAll 22 = .ok (.aload_n 0, 1) := by decide +kernel
theorem dX0_collectAll_23 : decode cX0_collectAll 23 = .ok (.invokevirtual 34, 3) := by decide +kernel
theorem dX0_collectAll_26 : decode cX0_collectAll 26 = .ok (.aload_n 0, 1) := by decide +kernel
theorem dX0_collectAll_27 : decode cX0_collectAll 27 = .ok (.invokevirtual 40, 3) := by decide +kernel
theorem dX0_collectAll_30 : decode cX0_collectAll 30 = .ok (.aload_n 0, 1) := by decide +kernel
theorem dX0_collectAll_31 : decode cX0_collectAll 31 = .ok (.invokevirtual 43, 3) := by decide +kernel
theorem dX0_collectAll_34 : decode cX0_collectAll 34 = .ok (.ireturn, 1) := by decide +kernel
set_option maxRecDepth 20000 in
theorem ggX0_findHeld_X0_find : GoodIn wsX0_findHeld wsX0_find := goodIn_r _ [10, 4, 11, 12, 13, 14, 15, 16, 17, 18, 19, 20, 35, 36, 37, 38, 39, 40, 41, 42, 43, 47, 48, 49, 50, 51, 52, 53, 54, 55] (by decide +kernel) (by decide +kernel)
set_option maxRecDepth 20000 in
theorem gX0_findHeld_X0_find : GoodIn wsX0_findHeld (wsV RX0 60 RX0 yX0_find wsX0_find) := goodIn_app (goodIn_of _ (by decide +kernel)) ggX0_findHeld_X0_find
set_option maxRecDepth 20000 in
theorem ggX0_findHeld_X3_thingAt : GoodIn wsX0_findHeld wsX3_thingAt := goodIn_r _ [24, 19, 25, 26, 27, 28, 29, 30, 31, 32, 17, 33, 34, 15, 16, 18, 20, 47, 48, 49, 50, 51, 52, 53, 54, 55] (by decide +kernel) (by decide +kernel)
set_option maxRecDepth 20000 in
theorem gX0_findHeld_X3_thingAt : GoodIn wsX0_findHeld (wsV RX0 70 RX3 yX3_thingAt wsX3_thingAt) := goodIn_app (goodIn_of _ (by decide +kernel)) ggX0_findHeld_X3_thingAt
theorem dX0_findHeld_0 : decode cX0_findHeld 0 = .ok (.iconst 0, 1) := by decide +kernel
theorem dX0_findHeld_1 : decode cX0_findHeld 1 = .ok (.istore_n 1, 1) := by decide +kernel
theorem dX0_findHeld_2 : decode cX0_findHeld 2 = .ok (.iload_n 1, 1) := by decide +kernel
theorem dX0_findHeld_3 : decode cX0_findHeld 3 = .ok (.bipush 10, 2) := by decide +kernel
theorem dX0_findHeld_5 : decode cX0_findHeld 5 = .ok (.if_icmp .ge 22, 3) := by decide +kernel
theorem dX0_findHeld_8 : decode cX0_findHeld 8 = .ok (.aload_n 0, 1) := by decide +kernel
theorem dX0_findHeld_9 : decode cX0_findHeld 9 = .ok (.aload_n 0, 1) := by decide +kernel
theorem dX0_findHeld_10 : decode cX0_findHeld 10 = .ok (.getfield 23, 3) := by decide +kernel
theorem dX0_findHeld_13 : decode cX0_findHeld 13 = .ok (.getfield 55, 3) := by decide +kernel
theorem dX0_findHeld_16 : decode cX0_findHeld 16 = .ok (.iload_n 1, 1) := by decide +kernel
theorem dX0_findHeld_17 : decode cX0_findHeld 17 = .ok (.iaload, 1) := by decide +kernel
theorem dX0_findHeld_18 : decode cX0_findHeld 18 = .ok (.invokevirtual 60, 3) := by decide +kernel
theorem dX0_findHeld_21 : decode cX0_findHeld 21 = .ok (.iinc 1 1, 3) := by decide +kernel
theorem dX0_findHeld_24 : decode cX0_findHeld 24 = .ok (.goto (-22), 3) := by decide +kernel
theorem dX0_findHeld_27 : decode cX0_findHeld 27 = .ok (.iconst 0, 1) := by decide +kernel
theorem dX0_findHeld_28 : decode cX0_findHeld 28 = .ok (.istore_n 1, 1) := by decide +kernel
theorem dX0_findHeld_29 : decode cX0_findHeld 29 = .ok (.iload_n 1, 1) := by decide +kernel
theorem dX0_findHeld_30 : decode cX0_findHeld 30 = .ok (.aload_n 0, 1) := by decide +kernel
theorem dX0_findHeld_31 : decode cX0_findHeld 31 = .ok (.getfield 23, 3) := by decide +kernel
theorem dX0_findHeld_34 : decode cX0_findHeld 34 = .ok (.getfield 64, 3) := by decide +kernel
theorem dX0_findHeld_37 : decode cX0_findHeld 37 = .ok (.if_icmp .ge 29, 3) := by decide +kernel
theorem dX0_findHeld_40 : decode cX0_findHeld 40 = .ok (.aload_n 0, 1) := by decide +kernel
theorem dX0_findHeld_41 : decode cX0_findHeld 41 = .ok (.aload_n 0, 1) := by decide +kernel
theorem dX0_findHeld_42 : decode cX0_findHeld 42 = .ok (.getfield 15, 3) := by decide +kernel
theorem dX0_findHeld_45 : decode cX0_findHeld 45 = .ok (.aload_n 0, 1) := by decide +kernel
theorem dX0_findHeld_46 : decode cX0_findHeld 46 = .ok (.getfield 23, 3) := by decide +kernel
theorem dX0_findHeld_49 : decode cX0_findHeld 49 = .ok (.getfield 67, 3) := by decide +kernel
theorem dX0_findHeld_52 : decode cX0_findHeld 52 = .ok (.iload_n 1, 1) := by decide +kernel
theorem dX0_findHeld_53 : decode cX0_findHeld 53 = .ok (.iaload, 1) := by decide +kernel
theorem dX0_findHeld_54 : decode cX0_findHeld 54 = .ok (.invokevirtual 70, 3) := by decide +kernel
theorem dX0_findHeld_57 : decode cX0_findHeld 57 = .ok (.invokevirtual 60, 3) := by decide +kernel
theorem dX0_findHeld_60 : decode cX0_findHeld 60 = .ok (.iinc 1 1, 3) := by decide +kernel
theorem dX0_findHeld_63 : decode cX0_findHeld 63 = .ok (.goto (-34), 3) := by decide +kernel
theorem dX0_findHeld_66 : decode cX0_findHeld 66 = .ok (.return_, 1) := by decide +kernel
set_option maxRecDepth 20000 in
theorem ggX0_findRemembered_X2_counts : GoodIn wsX0_findRemembered wsX2_counts := goodIn_r _ [8, 9, 10, 11, 12, 13, 14, 15, 16, 17, 18, 19, 20, 21, 22, 23, 24, 25, 26, 27, 28, 29, 7, 30, 31, 32, 33, 34, 35, 36, 37, 72, 73, 74, 75, 76, 63, 64, 65, 66, 67, 68, 69, 70, 71] (by decide +kernel) (by decide +kernel)
set_option maxRecDepth 20000 in
theorem gX0_findRemembered_X2_counts : GoodIn wsX0_findRemembered (wsV RX0 77 RX2 yX2_counts wsX2_counts) := goodIn_app (goodIn_of _ (by decide +kernel)) ggX0_findRemembered_X2_counts
set_option maxRecDepth 20000 in
theorem ggX0_findRemembered_X0_lookAt : GoodIn wsX0_findRemembered wsX0_lookAt := goodIn_r _ [42, 1, 43, 44, 45, 23, 24, 14, 25, 26, 17, 18, 19, 20, 21, 16, 46, 47, 48, 41, 49, 50, 51, 52, 53, 54, 55, 56, 57, 58, 59, 60, 61, 62, 63, 64, 65, 66, 67, 68, 69, 70, 71] (by decide +kernel) (by decide +kernel)
set_option maxRecDepth 20000 in
theorem gX0_findRemembered_X0_lookAt : GoodIn wsX0_findRemembered (wsV RX0 83 RX0 yX0_lookAt wsX0_lookAt) := goodIn_app (goodIn_of _ (by decide +kernel)) ggX0_findRemembered_X0_lookAt
theorem dX0_findRemembered_0 : decode cX0_findRemembered 0 = .ok (.iconst 0, 1) := by decide +kernel
theorem dX0_findRemembered_1 : decode cX0_findRemembered 1 = .ok (.istore_n 1, 1) := by decide +kernel
theorem dX0_findRemembered_2 : decode cX0_findRemembered 2 = .ok (.iload_n 1, 1) := by decide +kernel
theorem dX0_findRemembered_3 : decode cX0_findRemembered 3 = .ok (.aload_n 0, 1) := by decide +kernel
theorem dX0_findRemembered_4 : decode cX0_findRemembered 4 = .ok (.getfield 15, 3) := by decide +kernel
theorem dX0_findRemembered_7 : decode cX0_findRemembered 7 = .ok (.getfield 74, 3) := by decide +kernel
theorem dX0_findRemembered_10 : decode cX0_findRemembered 10 = .ok (.if_icmp .ge 29, 3) := by decide +kernel
theorem dX0_findRemembered_13 : decode cX0_findRemembered 13 = .ok (.aload_n 0, 1) := by decide +kernel
theorem dX0_findRemembered_14 : decode cX0_findRemembered 14 = .ok (.getfield 19, 3) := by decide +kernel
theorem dX0_findRemembered_17 : decode cX0_findRemembered 17 = .ok (.aload_n 0, 1) := by decide +kernel
theorem dX0_findRemembered_18 : decode cX0_findRemembered 18 = .ok (.getfield 15, 3) := by decide +kernel
theorem dX0_findRemembered_21 : decode cX0_findRemembered 21 = .ok (.iload_n 1, 1) := by decide +kernel
theorem dX0_findRemembered_22 : decode cX0_findRemembered 22 = .ok (.invokevirtual 77, 3) := by decide +kernel
theorem dX0_findRemembered_25 : decode cX0_findRemembered 25 = .ok (.ifCond .eq 8, 3) := by decide +kernel
theorem dX0_findRemembered_28 : decode cX0_findRemembered 28 = .ok (.aload_n 0, 1) := by decide +kernel
theorem dX0_findRemembered_29 : decode cX0_findRemembered 29 = .ok (.iload_n 1, 1) := by decide +kernel
theorem dX0_findRemembered_30 : decode cX0_findRemembered 30 = .ok (.invokevirtual 83, 3) := by decide +kernel
theorem dX0_findRemembered_33 : decode cX0_findRemembered 33 = .ok (.iinc 1 2, 3) := by decide +kernel
theorem dX0_findRemembered_36 : decode cX0_findRemembered 36 = .ok (.goto (-34), 3) := by decide +kernel
theorem dX0_findRemembered_39 : decode cX0_findRemembered 39 = .ok (.return_, 1) := by decide +kernel
set_option maxRecDepth 20000 in
theorem ggX0_findReferred_X0_lookAt : GoodIn wsX0_findReferred wsX0_lookAt := goodIn_r _ [7, 8, 9, 10, 11, 12, 13, 14, 15, 16, 17, 18, 19, 20, 21, 22, 23, 24, 25, 6, 26, 27, 1, 2, 28, 29, 30, 31, 32, 33, 34, 35, 36, 37, 38, 39, 40, 41, 42, 43, 44, 45, 46] (by decide +kernel) (by decide +kernel)
set_option maxRecDepth 20000 in
theorem gX0_findReferred_X0_lookAt : GoodIn wsX0_findReferred (wsV RX0 83 RX0 yX0_lookAt wsX0_lookAt) := goodIn_app (goodIn_of _ (by decide +kernel)) ggX0_findReferred_X0_lookAt
theorem dX0_findReferred_0 : decode cX0_findReferred 0 = .ok (.iconst 0, 1) := by decide +kernel
theorem dX0_findReferred_1 : decode cX0_findReferred 1 = .ok (.istore_n 1, 1) := by decide +kernel
theorem dX0_findReferred_2 : decode cX0_findReferred 2 = .ok (.iload_n 1, 1) := by decide +kernel
theorem dX0_findReferred_3 : decode cX0_findReferred 3 = .ok (.aload_n 0, 1) := by decide +kernel
theorem dX0_findReferred_4 : decode cX0_findReferred 4 = .ok (.getfield 31, 3) := by decide +kernel
theorem dX0_findReferred_7 : decode cX0_findReferred 7 = .ok (.if_icmp .ge 26, 3) := by decide +kernel
theorem dX0_findReferred_10 : decode cX0_findReferred 10 = .ok (.iload_n 1, 1) := by decide +kernel
theorem dX0_findReferred_11 : decode cX0_findReferred 11 = .ok (.sipush 768, 3) := by decide +kernel
theorem dX0_findReferred_14 : decode cX0_findReferred 14 = .ok (.if_icmp .ge 19, 3) := by decide +kernel
theorem dX0_findReferred_17 : decode cX0_findReferred 17 = .ok (.aload_n 0, 1) := by decide +kernel
theorem dX0_findReferred_18 : decode cX0_findReferred 18 = .ok (.aload_n 0, 1) := by decide +kernel
theorem dX0_findReferred_19 : decode cX0_findReferred 19 = .ok (.getfield 9, 3) := by decide +kernel
theorem dX0_findReferred_22 : decode cX0_findReferred 22 = .ok (.iload_n 1, 1) := by decide +kernel
theorem dX0_findReferred_23 : decode cX0_findReferred 23 = .ok (.iaload, 1) := by decide +kernel
theorem dX0_findReferred_24 : decode cX0_findReferred 24 = .ok (.invokevirtual 83, 3) := by decide +kernel
theorem dX0_findReferred_27 : decode cX0_findReferred 27 = .ok (.iinc 1 1, 3) := by decide +kernel
theorem dX0_findReferred_30 : decode cX0_findReferred 30 = .ok (.goto (-28), 3) := by decide +kernel
theorem dX0_findReferred_33 : decode cX0_findReferred 33 = .ok (.return_, 1) := by decide +kernel
set_option maxRecDepth 20000 in
theorem ggX0_lookAt_X3_referencesOf : GoodIn wsX0_lookAt wsX3_referencesOf := goodIn_r _ [8, 9, 10, 11, 12, 7, 13, 14, 15, 34, 35, 36, 37, 38, 39, 40, 41, 42] (by decide +kernel) (by decide +kernel)
set_option maxRecDepth 20000 in
theorem gX0_lookAt_X3_referencesOf : GoodIn wsX0_lookAt (wsV RX0 86 RX3 yX3_referencesOf wsX3_referencesOf) := goodIn_app (goodIn_of _ (by decide +kernel)) ggX0_lookAt_X3_referencesOf
set_option maxRecDepth 20000 in
theorem ggX0_lookAt_X0_find : GoodIn wsX0_lookAt wsX0_find := goodIn_r _ [20, 1, 21, 22, 23, 24, 11, 12, 7, 13, 14, 15, 25, 26, 27, 28, 29, 30, 31, 32, 33, 34, 35, 36, 37, 38, 39, 40, 41, 42] (by decide +kernel) (by decide +kernel)
set_option maxRecDepth 20000 in
theorem gX0_lookAt_X0_find : GoodIn wsX0_lookAt (wsV RX0 60 RX0 yX0_find wsX0_find) := goodIn_app (goodIn_of _ (by decide +kernel)) ggX0_lookAt_X0_find
theorem dX0_lookAt_0 : decode cX0_lookAt 0 = .ok (.aload_n 0, 1) := by decide +kernel
theorem dX0_lookAt_1 : decode cX0_lookAt 1 = .ok (.getfield 15, 3) := by decide +kernel
theorem dX0_lookAt_4 : decode cX0_lookAt 4 = .ok (.iload_n 1, 1) := by decide +kernel
theorem dX0_lookAt_5 : decode cX0_lookAt 5 = .ok (.invokevirtual 86, 3) := by decide +kernel
theorem dX0_lookAt_8 : decode cX0_lookAt 8 = .ok (.istore_n 2, 1) := by decide +kernel
theorem dX0_lookAt_9 : decode cX0_lookAt 9 = .ok (.iconst 0, 1) := by decide +kernel
theorem dX0_lookAt_10 : decode cX0_lookAt 10 = .ok (.istore_n 3, 1) := by decide +kernel
theorem dX0_lookAt_11 : decode cX0_lookAt 11 = .ok (.iload_n 3, 1) := by decide +kernel
theorem dX0_lookAt_12 : decode cX0_lookAt 12 = .ok (.iload_n 2, 1) := by decide +kernel
theorem dX0_lookAt_13 : decode cX0_lookAt 13 = .ok (.if_icmp .ge 24, 3) := by decide +kernel
theorem dX0_lookAt_16 : decode cX0_lookAt 16 = .ok (.aload_n 0, 1) := by decide +kernel
theorem dX0_lookAt_17 : decode cX0_lookAt 17 = .ok (.aload_n 0, 1) := by decide +kernel
theorem dX0_lookAt_18 : decode cX0_lookAt 18 = .ok (.getfield 15, 3) := by decide +kernel
theorem dX0_lookAt_21 : decode cX0_lookAt 21 = .ok (.getfield 89, 3) := by decide +kernel
theorem dX0_lookAt_24 : decode cX0_lookAt 24 = .ok (.iload_n 1, 1) := by decide +kernel
theorem dX0_lookAt_25 : decode cX0_lookAt 25 = .ok (.iload_n 3, 1) := by decide +kernel
theorem dX0_lookAt_26 : decode cX0_lookAt 26 = .ok (.iadd, 1) := by decide +kernel
theorem dX0_lookAt_27 : decode cX0_lookAt 27 = .ok (.iaload, 1) := by decide +kernel
theorem dX0_lookAt_28 : decode cX0_lookAt 28 = .ok (.invokevirtual 60, 3) := by decide +kernel
theorem dX0_lookAt_31 : decode cX0_lookAt 31 = .ok (.iinc 3 1, 3) := by decide +kernel
theorem dX0_lookAt_34 : decode cX0_lookAt 34 = .ok (.goto (-23), 3) := by decide +kernel
theorem dX0_lookAt_37 : decode cX0_lookAt 37 = .ok (.aload_n 0, 1) := by decide +kernel
theorem dX0_lookAt_38 : decode cX0_lookAt 38 = .ok (.dup, 1) := by decide +kernel
theorem dX0_lookAt_39 : decode cX0_lookAt 39 = .ok (.getfield 92, 3) := by decide +kernel
theorem dX0_lookAt_42 : decode cX0_lookAt 42 = .ok (.iload_n 2, 1) := by decide +kernel
theorem dX0_lookAt_43 : decode cX0_lookAt 43 = .ok (.iadd, 1) := by decide +kernel
theorem dX0_lookAt_44 : decode cX0_lookAt 44 = .ok (.putfield 92, 3) := by decide +kernel
theorem dX0_lookAt_47 : decode cX0_lookAt 47 = .ok (.return_, 1) := by decide +kernel
set_option maxRecDepth 20000 in
theorem ggX0_find_X3_isThing : GoodIn wsX0_find wsX3_isThing := goodIn_r _ [9, 10, 11, 21, 22, 23, 24, 25, 26, 27, 28, 29] (by decide +kernel) (by decide +kernel)
set_option maxRecDepth 20000 in
theorem gX0_find_X3_isThing : GoodIn wsX0_find (wsV RX0 95 RX3 yX3_isThing wsX3_isThing) := goodIn_app (goodIn_of _ (by decide +kernel)) ggX0_find_X3_isThing
theorem dX0_find_0 : decode cX0_find 0 = .ok (.aload_n 0, 1) := by decide +kernel
theorem dX0_find_1 : decode cX0_find 1 = .ok (.getfield 15, 3) := by decide +kernel
theorem dX0_find_4 : decode cX0_find 4 = .ok (.iload_n 1, 1) := by decide +kernel
theorem dX0_find_5 : decode cX0_find 5 = .ok (.invokevirtual 95, 3) := by decide +kernel
theorem dX0_find_8 : decode cX0_find 8 = .ok (.ifCond .eq 18, 3) := by decide +kernel
theorem dX0_find_11 : decode cX0_find 11 = .ok (.aload_n 0, 1) := by decide +kernel
theorem dX0_find_12 : decode cX0_find 12 = .ok (.getfield 15, 3) := by decide +kernel
theorem dX0_find_15 : decode cX0_find 15 = .ok (.getfield 99, 3) := by decide +kernel
theorem dX0_find_18 : decode cX0_find 18 = .ok (.iload_n 1, 1) := by decide +kernel
theorem dX0_find_19 : decode cX0_find 19 = .ok (.iconst 2, 1) := by decide +kernel
theorem dX0_find_20 : decode cX0_find 20 = .ok (.idiv, 1) := by decide +kernel
theorem dX0_find_21 : decode cX0_find 21 = .ok (.iaload, 1) := by decide +kernel
theorem dX0_find_22 : decode cX0_find 22 = .ok (.iconst 1, 1) := by decide +kernel
theorem dX0_find_23 : decode cX0_find 23 = .ok (.if_icmp .eq 4, 3) := by decide +kernel
theorem dX0_find_26 : decode cX0_find 26 = .ok (.return_, 1) := by decide +kernel
theorem dX0_find_27 : decode cX0_find 27 = .ok (.aload_n 0, 1) := by decide +kernel
theorem dX0_find_28 : decode cX0_find 28 = .ok (.getfield 31, 3) := by decide +kernel
theorem dX0_find_31 : decode cX0_find 31 = .ok (.sipush 768, 3) := by decide +kernel
theorem dX0_find_34 : decode cX0_find 34 = .ok (.if_icmp .lt 4, 3) := by decide +kernel
theorem dX0_find_37 : decode cX0_find 37 = .ok (.return_, 1) := by decide +kernel
theorem dX0_find_38 : decode cX0_find 38 = .ok (.aload_n 0, 1) := by decide +kernel
theorem dX0_find_39 : decode cX0_find 39 = .ok (.getfield 15, 3) := by decide +kernel
theorem dX0_find_42 : decode cX0_find 42 = .ok (.getfield 99, 3) := by decide +kernel
theorem dX0_find_45 : decode cX0_find 45 = .ok (.iload_n 1, 1) := by decide +kernel
theorem dX0_find_46 : decode cX0_find 46 = .ok (.iconst 2, 1) := by decide +kernel
theorem dX0_find_47 : decode cX0_find 47 = .ok (.idiv, 1) := by decide +kernel
theorem dX0_find_48 : decode cX0_find 48 = .ok (.iconst 2, 1) := by decide +kernel
theorem dX0_find_49 : decode cX0_find 49 = .ok (.iastore, 1) := by decide +kernel
theorem dX0_find_50 : decode cX0_find 50 = .ok (.aload_n 0, 1) := by decide +kernel
theorem dX0_find_51 : decode cX0_find 51 = .ok (.getfield 9, 3) := by decide +kernel
theorem dX0_find_54 : decode cX0_find 54 = .ok (.aload_n 0, 1) := by decide +kernel
theorem dX0_find_55 : decode cX0_find 55 = .ok (.getfield 31, 3) := by decide +kernel
theorem dX0_find_58 : decode cX0_find 58 = .ok (.iload_n 1, 1) := by decide +kernel
theorem dX0_find_59 : decode cX0_find 59 = .ok (.iastore, 1) := by decide +kernel
theorem dX0_find_60 : decode cX0_find 60 = .ok (.aload_n 0, 1) := by decide +kernel
theorem dX0_find_61 : decode cX0_find 61 = .ok (.dup, 1) := by decide +kernel
theorem dX0_find_62 : decode cX0_find 62 = .ok (.getfield 31, 3) := by decide +kernel
theorem dX0_find_65 : decode cX0_find 65 = .ok (.iconst 1, 1) := by decide +kernel
theorem dX0_find_66 : decode cX0_find 66 = .ok (.iadd, 1) := by decide +kernel
theorem dX0_find_67 : decode cX0_find 67 = .ok (.putfield 31, 3) := by decide +kernel
theorem dX0_find_70 : decode cX0_find 70 = .ok (.return_, 1) := by decide +kernel
set_option maxRecDepth 20000 in
theorem ggX0_end_X3_sweep : GoodIn wsX0_end wsX3_sweep := goodIn_r _ [11, 12, 54, 55, 56, 57, 58, 59, 60, 61, 62] (by decide +kernel) (by decide +kernel)
set_option maxRecDepth 20000 in
theorem gX0_end_X3_sweep : GoodIn wsX0_end (wsV RX0 102 RX3 yX3_sweep wsX3_sweep) := goodIn_app (goodIn_of _ (by decide +kernel)) ggX0_end_X3_sweep
set_option maxRecDepth 20000 in
theorem ggX0_end_X2_forget : GoodIn wsX0_end wsX2_forget := goodIn_r _ [17, 18, 19, 20, 63, 64, 65, 66, 67] (by decide +kernel) (by decide +kernel)
set_option maxRecDepth 20000 in
theorem gX0_end_X2_forget : GoodIn wsX0_end (wsV RX0 108 RX2 yX2_forget wsX2_forget) := goodIn_app (goodIn_of _ (by decide +kernel)) ggX0_end_X2_forget
set_option maxRecDepth 20000 in
theorem ggX0_end_X3_freeEmptyBlocks : GoodIn wsX0_end wsX3_freeEmptyBlocks := goodIn_r _ [24, 25, 26, 27, 28, 29, 10, 30, 12, 31, 32, 33, 34, 35, 36, 54, 55, 56, 57, 58, 59, 60, 61, 62] (by decide +kernel) (by decide +kernel)
set_option maxRecDepth 20000 in
theorem gX0_end_X3_freeEmptyBlocks : GoodIn wsX0_end (wsV RX0 111 RX3 yX3_freeEmptyBlocks wsX3_freeEmptyBlocks) := goodIn_app (goodIn_of _ (by decide +kernel)) ggX0_end_X3_freeEmptyBlocks
set_option maxRecDepth 20000 in
theorem ggX0_end_X3_barBy : GoodIn wsX0_end wsX3_barBy := goodIn_r _ [40, 25, 36, 41, 26, 54, 55, 56, 57, 58, 59, 60, 61, 62] (by decide +kernel) (by decide +kernel)
set_option maxRecDepth 20000 in
theorem gX0_end_X3_barBy : GoodIn wsX0_end (wsV RX0 114 RX3 yX3_barBy wsX3_barBy) := goodIn_app (goodIn_of _ (by decide +kernel)) ggX0_end_X3_barBy
theorem dX0_end_0 : decode cX0_end 0 = .ok (.aload_n 0, 1) := by decide +kernel
theorem dX0_end_1 : decode cX0_end 1 = .ok (.getfield 15, 3) := by decide +kernel
theorem dX0_end_4 : decode cX0_end 4 = .ok (.invokevirtual 102, 3) := by decide +kernel
theorem dX0_end_7 : decode cX0_end 7 = .ok (.istore_n 1, 1) := by decide +kernel
theorem dX0_end_8 : decode cX0_end 8 = .ok (.aload_n 0, 1) := by decide +kernel
theorem dX0_end_9 : decode cX0_end 9 = .ok (.dup, 1) := by decide +kernel
theorem dX0_end_10 : decode cX0_end 10 = .ok (.getfield 105, 3) := by decide +kernel
theorem dX0_end_13 : decode cX0_end 13 = .ok (.iload_n 1, 1) := by decide +kernel
theorem dX0_end_14 : decode cX0_end 14 = .ok (.iadd, 1) := by decide +kernel
theorem dX0_end_15 : decode cX0_end 15 = .ok (.putfield 105, 3) := by decide +kernel
theorem dX0_end_18 : decode cX0_end 18 = .ok (.aload_n 0, 1) := by decide +kernel
theorem dX0_end_19 : decode cX0_end 19 = .ok (.getfield 19, 3) := by decide +kernel
theorem dX0_end_22 : decode cX0_end 22 = .ok (.invokevirtual 108, 3) := by decide +kernel
theorem dX0_end_25 : decode cX0_end 25 = .ok (.aload_n 0, 1) := by decide +kernel
theorem dX0_end_26 : decode cX0_end 26 = .ok (.getfield 15, 3) := by decide +kernel
theorem dX0_end_29 : decode cX0_end 29 = .ok (.invokevirtual 111, 3) := by decide +kernel
theorem dX0_end_32 : decode cX0_end 32 = .ok (.aload_n 0, 1) := by decide +kernel
theorem dX0_end_33 : decode cX0_end 33 = .ok (.getfield 15, 3) := by decide +kernel
theorem dX0_end_36 : decode cX0_end 36 = .ok (.aload_n 0, 1) := by decide +kernel
theorem dX0_end_37 : decode cX0_end 37 = .ok (.getfield 23, 3) := by decide +kernel
theorem dX0_end_40 : decode cX0_end 40 = .ok (.getfield 67, 3) := by decide +kernel
theorem dX0_end_43 : decode cX0_end 43 = .ok (.aload_n 0, 1) := by decide +kernel
theorem dX0_end_44 : decode cX0_end 44 = .ok (.getfield 23, 3) := by decide +kernel
theorem dX0_end_47 : decode cX0_end 47 = .ok (.getfield 64, 3) := by decide +kernel
theorem dX0_end_50 : decode cX0_end 50 = .ok (.invokevirtual 114, 3) := by decide +kernel
theorem dX0_end_53 : decode cX0_end 53 = .ok (.iload_n 1, 1) := by decide +kernel
theorem dX0_end_54 : decode cX0_end 54 = .ok (.ireturn, 1) := by decide +kernel
set_option maxRecDepth 20000 in
theorem ggX1_init_X1_reset : GoodIn wsX1_init wsX1_reset := goodIn_r _ [11, 5, 12, 13, 14, 15] (by decide +kernel) (by decide +kernel)
set_option maxRecDepth 20000 in
theorem gX1_init_X1_reset : GoodIn wsX1_init (wsV RX1 18 RX1 yX1_reset wsX1_reset) := goodIn_app (goodIn_of _ (by decide +kernel)) ggX1_init_X1_reset
theorem dX1_init_0 : decode cX1_init 0 = .ok (.aload_n 0, 1) := by decide +kernel
theorem dX1_init_1 : decode cX1_init 1 = .ok (.invokespecial 3, 3) := by decide +kernel
theorem dX1_init_4 : decode cX1_init 4 = .ok (.aload_n 0, 1) := by decide +kernel
theorem dX1_init_5 : decode cX1_init 5 = .ok (.bipush 10, 2) := by decide +kernel
theorem dX1_init_7 : decode cX1_init 7 = .ok (.newarray .int, 2) := by decide +kernel
theorem dX1_init_9 : decode cX1_init 9 = .ok (.putfield 9, 3) := by decide +kernel
theorem dX1_init_12 : decode cX1_init 12 = .ok (.aload_n 0, 1) := by decide +kernel
theorem dX1_init_13 : decode cX1_init 13 = .ok (.bipush 24, 2) := by decide +kernel
theorem dX1_init_15 : decode cX1_init 15 = .ok (.newarray .int, 2) := by decide +kernel
theorem dX1_init_17 : decode cX1_init 17 = .ok (.putfield 15, 3) := by decide +kernel
theorem dX1_init_20 : decode cX1_init 20 = .ok (.aload_n 0, 1) := by decide +kernel
theorem dX1_init_21 : decode cX1_init 21 = .ok (.invokevirtual 18, 3) := by decide +kernel
theorem dX1_init_24 : decode cX1_init 24 = .ok (.return_, 1) := by decide +kernel
theorem dX1_reset_0 : decode cX1_reset 0 = .ok (.iconst 0, 1) := by decide +kernel
theorem dX1_reset_1 : decode cX1_reset 1 = .ok (.istore_n 1, 1) := by decide +kernel
theorem dX1_reset_2 : decode cX1_reset 2 = .ok (.iload_n 1, 1) := by decide +kernel
theorem dX1_reset_3 : decode cX1_reset 3 = .ok (.bipush 10, 2) := by decide +kernel
theorem dX1_reset_5 : decode cX1_reset 5 = .ok (.if_icmp .ge 16, 3) := by decide +kernel
theorem dX1_reset_8 : decode cX1_reset 8 = .ok (.aload_n 0, 1) := by decide +kernel
theorem dX1_reset_9 : decode cX1_reset 9 = .ok (.getfield 9, 3) := by decide +kernel
theorem dX1_reset_12 : decode cX1_reset 12 = .ok (.iload_n 1, 1) := by decide +kernel
theorem dX1_reset_13 : decode cX1_reset 13 = .ok (.iconst (-1), 1) := by decide +kernel
theorem dX1_reset_14 : decode cX1_reset 14 = .ok (.iastore, 1) := by decide +kernel
theorem dX1_reset_15 : decode cX1_reset 15 = .ok (.iinc 1 1, 3) := by decide +kernel
theorem dX1_reset_18 : decode cX1_reset 18 = .ok (.goto (-16), 3) := by decide +kernel
theorem dX1_reset_21 : decode cX1_reset 21 = .ok (.aload_n 0, 1) := by decide +kernel
theorem dX1_reset_22 : decode cX1_reset 22 = .ok (.iconst 0, 1) := by decide +kernel
theorem dX1_reset_23 : decode cX1_reset 23 = .ok (.putfield 21, 3) := by decide +kernel
theorem dX1_reset_26 : decode cX1_reset 26 = .ok (.return_, 1) := by decide +kernel
theorem dX2_init_0 : decode cX2_init 0 = .ok (.aload_n 0, 1) := by decide +kernel
theorem dX2_init_1 : decode cX2_init 1 = .ok (.invokespecial 3, 3) := by decide +kernel
theorem dX2_init_4 : decode cX2_init 4 = .ok (.aload_n 0, 1) := by decide +kernel
theorem dX2_init_5 : decode cX2_init 5 = .ok (.iconst 0, 1) := by decide +kernel
theorem dX2_init_6 : decode cX2_init 6 = .ok (.putfield 9, 3) := by decide +kernel
theorem dX2_init_9 : decode cX2_init 9 = .ok (.aload_n 0, 1) := by decide +kernel
theorem dX2_init_10 : decode cX2_init 10 = .ok (.bipush 12, 2) := by decide +kernel
theorem dX2_init_12 : decode cX2_init 12 = .ok (.newarray .int, 2) := by decide +kernel
theorem dX2_init_14 : decode cX2_init 14 = .ok (.putfield 15, 3) := by decide +kernel
theorem dX2_init_17 : decode cX2_init 17 = .ok (.aload_n 0, 1) := by decide +kernel
theorem dX2_init_18 : decode cX2_init 18 = .ok (.bipush 24, 2) := by decide +kernel
theorem dX2_init_20 : decode cX2_init 20 = .ok (.newarray .int, 2) := by decide +kernel
theorem dX2_init_22 : decode cX2_init 22 = .ok (.putfield 19, 3) := by decide +kernel
theorem dX2_init_25 : decode cX2_init 25 = .ok (.return_, 1) := by decide +kernel
theorem dX2_forget_0 : decode cX2_forget 0 = .ok (.aload_n 0, 1) := by decide +kernel
theorem dX2_forget_1 : decode cX2_forget 1 = .ok (.iconst 0, 1) := by decide +kernel
theorem dX2_forget_2 : decode cX2_forget 2 = .ok (.putfield 22, 3) := by decide +kernel
theorem dX2_forget_5 : decode cX2_forget 5 = .ok (.aload_n 0, 1) := by decide +kernel
theorem dX2_forget_6 : decode cX2_forget 6 = .ok (.iconst 0, 1) := by decide +kernel
theorem dX2_forget_7 : decode cX2_forget 7 = .ok (.putfield 25, 3) := by decide +kernel
theorem dX2_forget_10 : decode cX2_forget 10 = .ok (.iconst 0, 1) := by decide +kernel
theorem dX2_forget_11 : decode cX2_forget 11 = .ok (.istore_n 1, 1) := by decide +kernel
theorem dX2_forget_12 : decode cX2_forget 12 = .ok (.iload_n 1, 1) := by decide +kernel
theorem dX2_forget_13 : decode cX2_forget 13 = .ok (.bipush 24, 2) := by decide +kernel
theorem dX2_forget_15 : decode cX2_forget 15 = .ok (.if_icmp .ge 16, 3) := by decide +kernel
theorem dX2_forget_18 : decode cX2_forget 18 = .ok (.aload_n 0, 1) := by decide +kernel
theorem dX2_forget_19 : decode cX2_forget 19 = .ok (.getfield 19, 3) := by decide +kernel
theorem dX2_forget_22 : decode cX2_forget 22 = .ok (.iload_n 1, 1) := by decide +kernel
theorem dX2_forget_23 : decode cX2_forget 23 = .ok (.iconst 0, 1) := by decide +kernel
theorem dX2_forget_24 : decode cX2_forget 24 = .ok (.iastore, 1) := by decide +kernel
theorem dX2_forget_25 : decode cX2_forget 25 = .ok (.iinc 1 1, 3) := by decide +kernel
theorem dX2_forget_28 : decode cX2_forget 28 = .ok (.goto (-16), 3) := by decide +kernel
theorem dX2_forget_31 : decode cX2_forget 31 = .ok (.return_, 1) := by decide +kernel
set_option maxRecDepth 20000 in
theorem ggX2_noteWrite_X2_inLog : GoodIn wsX2_noteWrite wsX2_inLog := goodIn_r _ [8, 9, 10, 15, 16, 17, 18, 19] (by decide +kernel) (by decide +kernel)
set_option maxRecDepth 20000 in
theorem gX2_noteWrite_X2_inLog : GoodIn wsX2_noteWrite (wsV RX2 29 RX2 yX2_inLog wsX2_inLog) := goodIn_app (goodIn_of _ (by decide +kernel)) ggX2_noteWrite_X2_inLog
set_option maxRecDepth 20000 in
theorem ggX2_noteWrite_X2_enter : GoodIn wsX2_noteWrite wsX2_enter := goodIn_r _ [14, 9, 3, 10, 15, 16, 17, 18, 19] (by decide +kernel) (by decide +kernel)
set_option maxRecDepth 20000 in
theorem gX2_noteWrite_X2_enter : GoodIn wsX2_noteWrite (wsV RX2 33 RX2 yX2_enter wsX2_enter) := goodIn_app (goodIn_of _ (by decide +kernel)) ggX2_noteWrite_X2_enter
theorem dX2_noteWrite_0 : decode cX2_noteWrite 0 = .ok (.aload_n 0, 1) := by decide +kernel
theorem dX2_noteWrite_1 : decode cX2_noteWrite 1 = .ok (.getfield 9, 3) := by decide +kernel
theorem dX2_noteWrite_4 : decode cX2_noteWrite 4 = .ok (.iconst 1, 1) := by decide +kernel
theorem dX2_noteWrite_5 : decode cX2_noteWrite 5 = .ok (.if_icmp .ne 18, 3) := by decide +kernel
theorem dX2_noteWrite_8 : decode cX2_noteWrite 8 = .ok (.aload_n 0, 1) := by decide +kernel
theorem dX2_noteWrite_9 : decode cX2_noteWrite 9 = .ok (.getfield 19, 3) := by decide +kernel
theorem dX2_noteWrite_12 : decode cX2_noteWrite 12 = .ok (.iload_n 1, 1) := by decide +kernel
theorem dX2_noteWrite_13 : decode cX2_noteWrite 13 = .ok (.iload_n 2, 1) := by decide +kernel
theorem dX2_noteWrite_14 : decode cX2_noteWrite 14 = .ok (.iadd, 1) := by decide +kernel
theorem dX2_noteWrite_15 : decode cX2_noteWrite 15 = .ok (.bipush 64, 2) := by decide +kernel
theorem dX2_noteWrite_17 : decode cX2_noteWrite 17 = .ok (.idiv, 1) := by decide +kernel
theorem dX2_noteWrite_18 : decode cX2_noteWrite 18 = .ok (.iconst 1, 1) := by decide +kernel
theorem dX2_noteWrite_19 : decode cX2_noteWrite 19 = .ok (.iastore, 1) := by decide +kernel
theorem dX2_noteWrite_20 : decode cX2_noteWrite 20 = .ok (.goto 27, 3) := by decide +kernel
theorem dX2_noteWrite_23 : decode cX2_noteWrite 23 = .ok (.iload_n 3, 1) := by decide +kernel
theorem dX2_noteWrite_24 : decode cX2_noteWrite 24 = .ok (.ifCond .eq 23, 3) := by decide +kernel
theorem dX2_noteWrite_27 : decode cX2_noteWrite 27 = .ok (.aload_n 0, 1) := by decide +kernel
theorem dX2_noteWrite_28 : decode cX2_noteWrite 28 = .ok (.getfield 25, 3) := by decide +kernel
theorem dX2_noteWrite_31 : decode cX2_noteWrite 31 = .ok (.ifCond .ne 16, 3) := by decide +kernel
theorem dX2_noteWrite_34 : decode cX2_noteWrite 34 = .ok (.aload_n 0, 1) := by decide +kernel
theorem dX2_noteWrite_35 : decode cX2_noteWrite 35 = .ok (.iload_n 1, 1) := by decide +kernel
theorem dX2_noteWrite_36 : decode cX2_noteWrite 36 = .ok (.invokevirtual 29, 3) := by decide +kernel
theorem dX2_noteWrite_39 : decode cX2_noteWrite 39 = .ok (.ifCond .ne 8, 3) := by decide +kernel
theorem dX2_noteWrite_42 : decode cX2_noteWrite 42 = .ok (.aload_n 0, 1) := by decide +kernel
theorem dX2_noteWrite_43 : decode cX2_noteWrite 43 = .ok (.iload_n 1, 1) := by decide +kernel
theorem dX2_noteWrite_44 : decode cX2_noteWrite 44 = .ok (.invokevirtual 33, 3) := by decide +kernel
theorem dX2_noteWrite_47 : decode cX2_noteWrite 47 = .ok (.return_, 1) := by decide +kernel
theorem dX2_enter_0 : decode cX2_enter 0 = .ok (.aload_n 0, 1) := by decide +kernel
theorem dX2_enter_1 : decode cX2_enter 1 = .ok (.getfield 22, 3) := by decide +kernel
theorem dX2_enter_4 : decode cX2_enter 4 = .ok (.bipush 12, 2) := by decide +kernel
theorem dX2_enter_6 : decode cX2_enter 6 = .ok (.if_icmp .lt 9, 3) := by decide +kernel
theorem dX2_enter_9 : decode cX2_enter 9 = .ok (.aload_n 0, 1) := by decide +kernel
theorem dX2_enter_10 : decode cX2_enter 10 = .ok (.iconst 1, 1) := by decide +kernel
theorem dX2_enter_11 : decode cX2_enter 11 = .ok (.putfield 25, 3) := by decide +kernel
theorem dX2_enter_14 : decode cX2_enter 14 = .ok (.return_, 1) := by decide +kernel
theorem dX2_enter_15 : decode cX2_enter 15 = .ok (.aload_n 0, 1) := by decide +kernel
theorem dX2_enter_16 : decode cX2_enter 16 = .ok (.getfield 15, 3) := by decide +kernel
theorem dX2_enter_19 : decode cX2_enter 19 = .ok (.aload_n 0, 1) := by decide +kernel
theorem dX2_enter_20 : decode cX2_enter 20 = .ok (.getfield 22, 3) := by decide +kernel
theorem dX2_enter_23 : decode cX2_enter 23 = .ok (.iload_n 1, 1) := by decide +kernel
theorem dX2_enter_24 : decode cX2_enter 24 = .ok (.iastore, 1) := by decide +kernel
theorem dX2_enter_25 : decode cX2_enter 25 = .ok (.aload_n 0, 1) := by decide +kernel
theorem dX2_enter_26 : decode cX2_enter 26 = .ok (.dup, 1) := by decide +kernel
theorem dX2_enter_27 : decode cX2_enter 27 = .ok (.getfield 22, 3) := by decide +kernel
theorem dX2_enter_30 : decode cX2_enter 30 = .ok (.iconst 1, 1) := by decide +kernel
theorem dX2_enter_31 : decode cX2_enter 31 = .ok (.iadd, 1) := by decide +kernel
theorem dX2_enter_32 : decode cX2_enter 32 = .ok (.putfield 22, 3) := by decide +kernel
theorem dX2_enter_35 : decode cX2_enter 35 = .ok (.return_, 1) := by decide +kernel
theorem dX2_inLog_0 : decode cX2_inLog 0 = .ok (.iconst 0, 1) := by decide +kernel
theorem dX2_inLog_1 : decode cX2_inLog 1 = .ok (.istore_n 2, 1) := by decide +kernel
theorem dX2_inLog_2 : decode cX2_inLog 2 = .ok (.iload_n 2, 1) := by decide +kernel
theorem dX2_inLog_3 : decode cX2_inLog 3 = .ok (.aload_n 0, 1) := by decide +kernel
theorem dX2_inLog_4 : decode cX2_inLog 4 = .ok (.getfield 22, 3) := by decide +kernel
theorem dX2_inLog_7 : decode cX2_inLog 7 = .ok (.if_icmp .ge 21, 3) := by decide +kernel
theorem dX2_inLog_10 : decode cX2_inLog 10 = .ok (.aload_n 0, 1) := by decide +kernel
theorem dX2_inLog_11 : decode cX2_inLog 11 = .ok (.getfield 15, 3) := by decide +kernel
theorem dX2_inLog_14 : decode cX2_inLog 14 = .ok (.iload_n 2, 1) := by decide +kernel
theorem dX2_inLog_15 : decode cX2_inLog 15 = .ok (.iaload, 1) := by decide +kernel
theorem dX2_inLog_16 : decode cX2_inLog 16 = .ok (.iload_n 1, 1) := by decide +kernel
theorem dX2_inLog_17 : decode cX2_inLog 17 = .ok (.if_icmp .ne 5, 3) := by decide +kernel
theorem dX2_inLog_20 : decode cX2_inLog 20 = .ok (.iconst 1, 1) := by decide +kernel
theorem dX2_inLog_21 : decode cX2_inLog 21 = .ok (.ireturn, 1) := by decide +kernel
theorem dX2_inLog_22 : decode cX2_inLog 22 = .ok (.iinc 2 1, 3) := by decide +kernel
theorem dX2_inLog_25 : decode cX2_inLog 25 = .ok (.goto (-23), 3) := by decide +kernel
theorem dX2_inLog_28 : decode cX2_inLog 28 = .ok (.iconst 0, 1) := by decide +kernel
theorem dX2_inLog_29 : decode cX2_inLog 29 = .ok (.ireturn, 1) := by decide +kernel
set_option maxRecDepth 20000 in
theorem ggX2_counts_X3_ageOf : GoodIn wsX2_counts wsX3_ageOf := goodIn_r _ [7, 8, 9, 10, 11, 6, 12, 13, 36, 37, 38, 39, 40, 41, 42, 43, 44] (by decide +kernel) (by decide +kernel)
set_option maxRecDepth 20000 in
theorem gX2_counts_X3_ageOf : GoodIn wsX2_counts (wsV RX2 37 RX3 yX3_ageOf wsX3_ageOf) := goodIn_app (goodIn_of _ (by decide +kernel)) ggX2_counts_X3_ageOf
set_option maxRecDepth 20000 in
theorem ggX2_counts_X3_referencesOf : GoodIn wsX2_counts wsX3_referencesOf := goodIn_r _ [17, 18, 9, 10, 11, 6, 12, 13, 8, 36, 37, 38, 39, 40, 41, 42, 43, 44] (by decide +kernel) (by decide +kernel)
set_option maxRecDepth 20000 in
theorem gX2_counts_X3_referencesOf : GoodIn wsX2_counts (wsV RX2 43 RX3 yX3_referencesOf wsX3_referencesOf) := goodIn_app (goodIn_of _ (by decide +kernel)) ggX2_counts_X3_referencesOf
set_option maxRecDepth 20000 in
theorem ggX2_counts_X2_touchesDirty : GoodIn wsX2_counts wsX2_touchesDirty := goodIn_r _ [23, 24, 31, 32, 33, 34, 35] (by decide +kernel) (by decide +kernel)
set_option maxRecDepth 20000 in
theorem gX2_counts_X2_touchesDirty : GoodIn wsX2_counts (wsV RX2 46 RX2 yX2_touchesDirty wsX2_touchesDirty) := goodIn_app (goodIn_of _ (by decide +kernel)) ggX2_counts_X2_touchesDirty
set_option maxRecDepth 20000 in
theorem ggX2_counts_X2_inLog : GoodIn wsX2_counts wsX2_inLog := goodIn_r _ [28, 29, 30, 31, 32, 33, 34, 35] (by decide +kernel) (by decide +kernel)
set_option maxRecDepth 20000 in
theorem gX2_counts_X2_inLog : GoodIn wsX2_counts (wsV RX2 29 RX2 yX2_inLog wsX2_inLog) := goodIn_app (goodIn_of _ (by decide +kernel)) ggX2_counts_X2_inLog
theorem dX2_counts_0 : decode cX2_counts 0 = .ok (.aload_n 1, 1) := by decide +kernel
theorem dX2_counts_1 : decode cX2_counts 1 = .ok (.iload_n 2, 1) := by decide +kernel
theorem dX2_counts_2 : decode cX2_counts 2 = .ok (.invokevirtual 37, 3) := by decide +kernel
theorem dX2_counts_5 : decode cX2_counts 5 = .ok (.iconst 3, 1) := by decide +kernel
theorem dX2_counts_6 : decode cX2_counts 6 = .ok (.if_icmp .eq 5, 3) := by decide +kernel
theorem dX2_counts_9 : decode cX2_counts 9 = .ok (.iconst 0, 1) := by decide +kernel
theorem dX2_counts_10 : decode cX2_counts 10 = .ok (.ireturn, 1) := by decide +kernel
theorem dX2_counts_11 : decode cX2_counts 11 = .ok (.aload_n 0, 1) := by decide +kernel
theorem dX2_counts_12 : decode cX2_counts 12 = .ok (.getfield 9, 3) := by decide +kernel
theorem dX2_counts_15 : decode cX2_counts 15 = .ok (.iconst 1, 1) := by decide +kernel
theorem dX2_counts_16 : decode cX2_counts 16 = .ok (.if_icmp .ne 14, 3) := by decide +kernel
theorem dX2_counts_19 : decode cX2_counts 19 = .ok (.aload_n 0, 1) := by decide +kernel
theorem dX2_counts_20 : decode cX2_counts 20 = .ok (.iload_n 2, 1) := by decide +kernel
theorem dX2_counts_21 : decode cX2_counts 21 = .ok (.aload_n 1, 1) := by decide +kernel
theorem dX2_counts_22 : decode cX2_counts 22 = .ok (.iload_n 2, 1) := by decide +kernel
theorem dX2_counts_23 : decode cX2_counts 23 = .ok (.invokevirtual 43, 3) := by decide +kernel
theorem dX2_counts_26 : decode cX2_counts 26 = .ok (.invokevirtual 46, 3) := by decide +kernel
theorem dX2_counts_29 : decode cX2_counts 29 = .ok (.ireturn, 1) := by decide +kernel
theorem dX2_counts_30 : decode cX2_counts 30 = .ok (.aload_n 0, 1) := by decide +kernel
theorem dX2_counts_31 : decode cX2_counts 31 = .ok (.getfield 25, 3) := by decide +kernel
theorem dX2_counts_34 : decode cX2_counts 34 = .ok (.ifCond .ne 11, 3) := by decide +kernel
theorem dX2_counts_37 : decode cX2_counts 37 = .ok (.aload_n 0, 1) := by decide +kernel
theorem dX2_counts_38 : decode cX2_counts 38 = .ok (.iload_n 2, 1) := by decide +kernel
theorem dX2_counts_39 : decode cX2_counts 39 = .ok (.invokevirtual 29, 3) := by decide +kernel
theorem dX2_counts_42 : decode cX2_counts 42 = .ok (.ifCond .eq 7, 3) := by decide +kernel
theorem dX2_counts_45 : decode cX2_counts 45 = .ok (.iconst 1, 1) := by decide +kernel
theorem dX2_counts_46 : decode cX2_counts 46 = .ok (.goto 4, 3) := by decide +kernel
theorem dX2_counts_49 : decode cX2_counts 49 = .ok (.iconst 0, 1) := by decide +kernel
theorem dX2_counts_50 : decode cX2_counts 50 = .ok (.ireturn, 1) := by decide +kernel
theorem dX2_touchesDirty_0 : decode cX2_touchesDirty 0 = .ok (.iconst 0, 1) := by decide +kernel
theorem dX2_touchesDirty_1 : decode cX2_touchesDirty 1 = .ok (.istore_n 3, 1) := by decide +kernel
theorem dX2_touchesDirty_2 : decode cX2_touchesDirty 2 = .ok (.iload_n 3, 1) := by decide +kernel
theorem dX2_touchesDirty_3 : decode cX2_touchesDirty 3 = .ok (.iload_n 2, 1) := by decide +kernel
theorem dX2_touchesDirty_4 : decode cX2_touchesDirty 4 = .ok (.if_icmp .ge 26, 3) := by decide +kernel
theorem dX2_touchesDirty_7 : decode cX2_touchesDirty 7 = .ok (.aload_n 0, 1) := by decide +kernel
theorem dX2_touchesDirty_8 : decode cX2_touchesDirty 8 = .ok (.getfield 19, 3) := by decide +kernel
theorem dX2_touchesDirty_11 : decode cX2_touchesDirty 11 = .ok (.iload_n 1, 1) := by decide +kernel
theorem dX2_touchesDirty_12 : decode cX2_touchesDirty 12 = .ok (.iload_n 3, 1) := by decide +kernel
theorem dX2_touchesDirty_13 : decode cX2_touchesDirty 13 = .ok (.iadd, 1) := by decide +kernel
theorem dX2_touchesDirty_14 : decode cX2_touchesDirty 14 = .ok (.bipush 64, 2) := by decide +kernel
theorem dX2_touchesDirty_16 : decode cX2_touchesDirty 16 = .ok (.idiv, 1) := by decide +kernel
theorem dX2_touchesDirty_17 : decode cX2_touchesDirty 17 = .ok (.iaload, 1) := by decide +kernel
theorem dX2_touchesDirty_18 : decode cX2_touchesDirty 18 = .ok (.iconst 1, 1) := by decide +kernel
theorem dX2_touchesDirty_19 : decode cX2_touchesDirty 19 = .ok (.if_icmp .ne 5, 3) := by decide +kernel
theorem dX2_touchesDirty_22 : decode cX2_touchesDirty 22 = .ok (.iconst 1, 1) := by decide +kernel
theorem dX2_touchesDirty_23 : decode cX2_touchesDirty 23 = .ok (.ireturn, 1) := by decide +kernel
theorem dX2_touchesDirty_24 : decode cX2_touchesDirty 24 = .ok (.iinc 3 1, 3) := by decide +kernel
theorem dX2_touchesDirty_27 : decode cX2_touchesDirty 27 = .ok (.goto (-25), 3) := by decide +kernel
theorem dX2_touchesDirty_30 : decode cX2_touchesDirty 30 = .ok (.iconst 0, 1) := by decide +kernel
theorem dX2_touchesDirty_31 : decode cX2_touchesDirty 31 = .ok (.ireturn, 1) := by decide +kernel
theorem dX3_init_0 : decode cX3_init 0 = .ok (.aload_n 0, 1) := by decide +kernel
theorem dX3_init_1 : decode cX3_init 1 = .ok (.invokespecial 3, 3) := by decide +kernel
theorem dX3_init_4 : decode cX3_init 4 = .ok (.aload_n 0, 1) := by decide +kernel
theorem dX3_init_5 : decode cX3_init 5 = .ok (.bipush 24, 2) := by decide +kernel
theorem dX3_init_7 : decode cX3_init 7 = .ok (.newarray .int, 2) := by decide +kernel
theorem dX3_init_9 : decode cX3_init 9 = .ok (.putfield 9, 3) := by decide +kernel
theorem dX3_init_12 : decode cX3_init 12 = .ok (.aload_n 0, 1) := by decide +kernel
theorem dX3_init_13 : decode cX3_init 13 = .ok (.bipush 24, 2) := by decide +kernel
theorem dX3_init_15 : decode cX3_init 15 = .ok (.newarray .int, 2) := by decide +kernel
theorem dX3_init_17 : decode cX3_init 17 = .ok (.putfield 15, 3) := by decide +kernel
theorem dX3_init_20 : decode cX3_init 20 = .ok (.aload_n 0, 1) := by decide +kernel
theorem dX3_init_21 : decode cX3_init 21 = .ok (.bipush 24, 2) := by decide +kernel
theorem dX3_init_23 : decode cX3_init 23 = .ok (.newarray .int, 2) := by decide +kernel
theorem dX3_init_25 : decode cX3_init 25 = .ok (.putfield 18, 3) := by decide +kernel
theorem dX3_init_28 : decode cX3_init 28 = .ok (.aload_n 0, 1) := by decide +kernel
theorem dX3_init_29 : decode cX3_init 29 = .ok (.sipush 1536, 3) := by decide +kernel
theorem dX3_init_32 : decode cX3_init 32 = .ok (.newarray .int, 2) := by decide +kernel
theorem dX3_init_34 : decode cX3_init 34 = .ok (.putfield 21, 3) := by decide +kernel
theorem dX3_init_37 : decode cX3_init 37 = .ok (.aload_n 0, 1) := by decide +kernel
theorem dX3_init_38 : decode cX3_init 38 = .ok (.sipush 768, 3) := by decide +kernel
theorem dX3_init_41 : decode cX3_init 41 = .ok (.newarray .int, 2) := by decide +kernel
theorem dX3_init_43 : decode cX3_init 43 = .ok (.putfield 24, 3) := by decide +kernel
theorem dX3_init_46 : decode cX3_init 46 = .ok (.aload_n 0, 1) := by decide +kernel
theorem dX3_init_47 : decode cX3_init 47 = .ok (.sipush 768, 3) := by decide +kernel
theorem dX3_init_50 : decode cX3_init 50 = .ok (.newarray .int, 2) := by decide +kernel
theorem dX3_init_52 : decode cX3_init 52 = .ok (.putfield 27, 3) := by decide +kernel
theorem dX3_init_55 : decode cX3_init 55 = .ok (.aload_n 0, 1) := by decide +kernel
theorem dX3_init_56 : decode cX3_init 56 = .ok (.sipush 768, 3) := by decide +kernel
theorem dX3_init_59 : decode cX3_init 59 = .ok (.newarray .int, 2) := by decide +kernel
theorem dX3_init_61 : decode cX3_init 61 = .ok (.putfield 30, 3) := by decide +kernel
theorem dX3_init_64 : decode cX3_init 64 = .ok (.aload_n 0, 1) := by decide +kernel
theorem dX3_init_65 : decode cX3_init 65 = .ok (.bipush 8, 2) := by decide +kernel
theorem dX3_init_67 : decode cX3_init 67 = .ok (.putfield 33, 3) := by decide +kernel
theorem dX3_init_70 : decode cX3_init 70 = .ok (.aload_n 0, 1) := by decide +kernel
theorem dX3_init_71 : decode cX3_init 71 = .ok (.sipush 512, 3) := by decide +kernel
theorem dX3_init_74 : decode cX3_init 74 = .ok (.putfield 37, 3) := by decide +kernel
theorem dX3_init_77 : decode cX3_init 77 = .ok (.return_, 1) := by decide +kernel
set_option maxRecDepth 20000 in
theorem ggX3_reset_X3_turn : GoodIn wsX3_reset wsX3_turn := goodIn_r _ [8, 9, 10, 11, 12, 13, 14, 15, 16, 17, 18, 19, 20] (by decide +kernel) (by decide +kernel)
set_option maxRecDepth 20000 in
theorem gX3_reset_X3_turn : GoodIn wsX3_reset (wsV RX3 40 RX3 yX3_turn wsX3_turn) := goodIn_app (goodIn_of _ (by decide +kernel)) ggX3_reset_X3_turn
theorem dX3_reset_0 : decode cX3_reset 0 = .ok (.aload_n 0, 1) := by decide +kernel
theorem dX3_reset_1 : decode cX3_reset 1 = .ok (.iload_n 1, 1) := by decide +kernel
theorem dX3_reset_2 : decode cX3_reset 2 = .ok (.putfield 33, 3) := by decide +kernel
theorem dX3_reset_5 : decode cX3_reset 5 = .ok (.aload_n 0, 1) := by decide +kernel
theorem dX3_reset_6 : decode cX3_reset 6 = .ok (.iload_n 1, 1) := by decide +kernel
theorem dX3_reset_7 : decode cX3_reset 7 = .ok (.bipush 64, 2) := by decide +kernel
theorem dX3_reset_9 : decode cX3_reset 9 = .ok (.imul, 1) := by decide +kernel
theorem dX3_reset_10 : decode cX3_reset 10 = .ok (.putfield 37, 3) := by decide +kernel
theorem dX3_reset_13 : decode cX3_reset 13 = .ok (.iconst 0, 1) := by decide +kernel
theorem dX3_reset_14 : decode cX3_reset 14 = .ok (.istore_n 2, 1) := by decide +kernel
theorem dX3_reset_15 : decode cX3_reset 15 = .ok (.iload_n 2, 1) := by decide +kernel
theorem dX3_reset_16 : decode cX3_reset 16 = .ok (.bipush 24, 2) := by decide +kernel
theorem dX3_reset_18 : decode cX3_reset 18 = .ok (.if_icmp .ge 16, 3) := by decide +kernel
theorem dX3_reset_21 : decode cX3_reset 21 = .ok (.aload_n 0, 1) := by decide +kernel
theorem dX3_reset_22 : decode cX3_reset 22 = .ok (.iload_n 2, 1) := by decide +kernel
theorem dX3_reset_23 : decode cX3_reset 23 = .ok (.iconst 0, 1) := by decide +kernel
theorem dX3_reset_24 : decode cX3_reset 24 = .ok (.iconst 0, 1) := by decide +kernel
theorem dX3_reset_25 : decode cX3_reset 25 = .ok (.invokevirtual 40, 3) := by decide +kernel
theorem dX3_reset_28 : decode cX3_reset 28 = .ok (.iinc 2 1, 3) := by decide +kernel
theorem dX3_reset_31 : decode cX3_reset 31 = .ok (.goto (-16), 3) := by decide +kernel
theorem dX3_reset_34 : decode cX3_reset 34 = .ok (.iconst 0, 1) := by decide +kernel
theorem dX3_reset_35 : decode cX3_reset 35 = .ok (.istore_n 2, 1) := by decide +kernel
theorem dX3_reset_36 : decode cX3_reset 36 = .ok (.iload_n 2, 1) := by decide +kernel
theorem dX3_reset_37 : decode cX3_reset 37 = .ok (.sipush 768, 3) := by decide +kernel
theorem dX3_reset_40 : decode cX3_reset 40 = .ok (.if_icmp .ge 16, 3) := by decide +kernel
theorem dX3_reset_43 : decode cX3_reset 43 = .ok (.aload_n 0, 1) := by decide +kernel
theorem dX3_reset_44 : decode cX3_reset 44 = .ok (.getfield 30, 3) := by decide +kernel
theorem dX3_reset_47 : decode cX3_reset 47 = .ok (.iload_n 2, 1) := by decide +kernel
theorem dX3_reset_48 : decode cX3_reset 48 = .ok (.iconst 0, 1) := by decide +kernel
theorem dX3_reset_49 : decode cX3_reset 49 = .ok (.iastore, 1) := by decide +kernel
theorem dX3_reset_50 : decode cX3_reset 50 = .ok (.iinc 2 1, 3) := by decide +kernel
theorem dX3_reset_53 : decode cX3_reset 53 = .ok (.goto (-17), 3) := by decide +kernel
theorem dX3_reset_56 : decode cX3_reset 56 = .ok (.return_, 1) := by decide +kernel
theorem dX3_isThing_0 : decode cX3_isThing 0 = .ok (.iload_n 1, 1) := by decide +kernel
theorem dX3_isThing_1 : decode cX3_isThing 1 = .ok (.ifCond .lt 32, 3) := by decide +kernel
theorem dX3_isThing_4 : decode cX3_isThing 4 = .ok (.iload_n 1, 1) := by decide +kernel
theorem dX3_isThing_5 : decode cX3_isThing 5 = .ok (.aload_n 0, 1) := by decide +kernel
theorem dX3_isThing_6 : decode cX3_isThing 6 = .ok (.getfield 37, 3) := by decide +kernel
theorem dX3_isThing_9 : decode cX3_isThing 9 = .ok (.if_icmp .ge 24, 3) := by decide +kernel
theorem dX3_isThing_12 : decode cX3_isThing 12 = .ok (.iload_n 1, 1) := by decide +kernel
theorem dX3_isThing_13 : decode cX3_isThing 13 = .ok (.iconst 2, 1) := by decide +kernel
theorem dX3_isThing_14 : decode cX3_isThing 14 = .ok (.irem, 1) := by decide +kernel
theorem dX3_isThing_15 : decode cX3_isThing 15 = .ok (.ifCond .ne 18, 3) := by decide +kernel
theorem dX3_isThing_18 : decode cX3_isThing 18 = .ok (.aload_n 0, 1) := by decide +kernel
theorem dX3_isThing_19 : decode cX3_isThing 19 = .ok (.getfield 30, 3) := by decide +kernel
theorem dX3_isThing_22 : decode cX3_isThing 22 = .ok (.iload_n 1, 1) := by decide +kernel
theorem dX3_isThing_23 : decode cX3_isThing 23 = .ok (.iconst 2, 1) := by decide +kernel
theorem dX3_isThing_24 : decode cX3_isThing 24 = .ok (.idiv, 1) := by decide +kernel
theorem dX3_isThing_25 : decode cX3_isThing 25 = .ok (.iaload, 1) := by decide +kernel
theorem dX3_isThing_26 : decode cX3_isThing 26 = .ok (.ifCond .eq 7, 3) := by decide +kernel
theorem dX3_isThing_29 : decode cX3_isThing 29 = .ok (.iconst 1, 1) := by decide +kernel
theorem dX3_isThing_30 : decode cX3_isThing 30 = .ok (.goto 4, 3) := by decide +kernel
theorem dX3_isThing_33 : decode cX3_isThing 33 = .ok (.iconst 0, 1) := by decide +kernel
theorem dX3_isThing_34 : decode cX3_isThing 34 = .ok (.ireturn, 1) := by decide +kernel
set_option maxRecDepth 20000 in
theorem ggX3_ageOf_X3_isThing : GoodIn wsX3_ageOf wsX3_isThing := goodIn_r _ [6, 7, 1, 8, 9, 10, 11, 12, 13, 14, 15, 16] (by decide +kernel) (by decide +kernel)
set_option maxRecDepth 20000 in
theorem gX3_ageOf_X3_isThing : GoodIn wsX3_ageOf (wsV RX3 44 RX3 yX3_isThing wsX3_isThing) := goodIn_app (goodIn_of _ (by decide +kernel)) ggX3_ageOf_X3_isThing
theorem dX3_ageOf_0 : decode cX3_ageOf 0 = .ok (.aload_n 0, 1) := by decide +kernel
theorem dX3_ageOf_1 : decode cX3_ageOf 1 = .ok (.iload_n 1, 1) := by decide +kernel
theorem dX3_ageOf_2 : decode cX3_ageOf 2 = .ok (.invokevirtual 44, 3) := by decide +kernel
theorem dX3_ageOf_5 : decode cX3_ageOf 5 = .ok (.ifCond .eq 14, 3) := by decide +kernel
theorem dX3_ageOf_8 : decode cX3_ageOf 8 = .ok (.aload_n 0, 1) := by decide +kernel
theorem dX3_ageOf_9 : decode cX3_ageOf 9 = .ok (.getfield 30, 3) := by decide +kernel
theorem dX3_ageOf_12 : decode cX3_ageOf 12 = .ok (.iload_n 1, 1) := by decide +kernel
theorem dX3_ageOf_13 : decode cX3_ageOf 13 = .ok (.iconst 2, 1) := by decide +kernel
theorem dX3_ageOf_14 : decode cX3_ageOf 14 = .ok (.idiv, 1) := by decide +kernel
theorem dX3_ageOf_15 : decode cX3_ageOf 15 = .ok (.iaload, 1) := by decide +kernel
theorem dX3_ageOf_16 : decode cX3_ageOf 16 = .ok (.goto 4, 3) := by decide +kernel
theorem dX3_ageOf_19 : decode cX3_ageOf 19 = .ok (.iconst 0, 1) := by decide +kernel
theorem dX3_ageOf_20 : decode cX3_ageOf 20 = .ok (.ireturn, 1) := by decide +kernel
set_option maxRecDepth 20000 in
theorem ggX3_referencesOf_X3_isThing : GoodIn wsX3_referencesOf wsX3_isThing := goodIn_r _ [6, 7, 8, 9, 10, 11, 12, 13, 14, 15, 16, 17] (by decide +kernel) (by decide +kernel)
set_option maxRecDepth 20000 in
theorem gX3_referencesOf_X3_isThing : GoodIn wsX3_referencesOf (wsV RX3 44 RX3 yX3_isThing wsX3_isThing) := goodIn_app (goodIn_of _ (by decide +kernel)) ggX3_referencesOf_X3_isThing
theorem dX3_referencesOf_0 : decode cX3_referencesOf 0 = .ok (.aload_n 0, 1) := by decide +kernel
theorem dX3_referencesOf_1 : decode cX3_referencesOf 1 = .ok (.iload_n 1, 1) := by decide +kernel
theorem dX3_referencesOf_2 : decode cX3_referencesOf 2 = .ok (.invokevirtual 44, 3) := by decide +kernel
theorem dX3_referencesOf_5 : decode cX3_referencesOf 5 = .ok (.ifCond .eq 14, 3) := by decide +kernel
theorem dX3_referencesOf_8 : decode cX3_referencesOf 8 = .ok (.aload_n 0, 1) := by decide +kernel
theorem dX3_referencesOf_9 : decode cX3_referencesOf 9 = .ok (.getfield 24, 3) := by decide +kernel
theorem dX3_referencesOf_12 : decode cX3_referencesOf 12 = .ok (.iload_n 1, 1) := by decide +kernel
theorem dX3_referencesOf_13 : decode cX3_referencesOf 13 = .ok (.iconst 2, 1) := by decide +kernel
theorem dX3_referencesOf_14 : decode cX3_referencesOf 14 = .ok (.idiv, 1) := by decide +kernel
theorem dX3_referencesOf_15 : decode cX3_referencesOf 15 = .ok (.iaload, 1) := by decide +kernel
theorem dX3_referencesOf_16 : decode cX3_referencesOf 16 = .ok (.goto 4, 3) := by decide +kernel
theorem dX3_referencesOf_19 : decode cX3_referencesOf 19 = .ok (.iconst 0, 1) := by decide +kernel
theorem dX3_referencesOf_20 : decode cX3_referencesOf 20 = .ok (.ireturn, 1) := by decide +kernel
set_option maxRecDepth 20000 in
theorem ggX3_numbersOf_X3_isThing : GoodIn wsX3_numbersOf wsX3_isThing := goodIn_r _ [6, 7, 8, 9, 10, 11, 12, 13, 14, 15, 16, 17] (by decide +kernel) (by decide +kernel)
set_option maxRecDepth 20000 in
theorem gX3_numbersOf_X3_isThing : GoodIn wsX3_numbersOf (wsV RX3 44 RX3 yX3_isThing wsX3_isThing) := goodIn_app (goodIn_of _ (by decide +kernel)) ggX3_numbersOf_X3_isThing
theorem dX3_numbersOf_0 : decode cX3_numbersOf 0 = .ok (.aload_n 0, 1) := by decide +kernel
theorem dX3_numbersOf_1 : decode cX3_numbersOf 1 = .ok (.iload_n 1, 1) := by decide +kernel
theorem dX3_numbersOf_2 : decode cX3_numbersOf 2 = .ok (.invokevirtual 44, 3) := by decide +kernel
theorem dX3_numbersOf_5 : decode cX3_numbersOf 5 = .ok (.ifCond .eq 14, 3) := by decide +kernel
theorem dX3_numbersOf_8 : decode cX3_numbersOf 8 = .ok (.aload_n 0, 1) := by decide +kernel
theorem dX3_numbersOf_9 : decode cX3_numbersOf 9 = .ok (.getfield 27, 3) := by decide +kernel
theorem dX3_numbersOf_12 : decode cX3_numbersOf 12 = .ok (.iload_n 1, 1) := by decide +kernel
theorem dX3_numbersOf_13 : decode cX3_numbersOf 13 = .ok (.iconst 2, 1) := by decide +kernel
theorem dX3_numbersOf_14 : decode cX3_numbersOf 14 = .ok (.idiv, 1) := by decide +kernel
theorem dX3_numbersOf_15 : decode cX3_numbersOf 15 = .ok (.iaload, 1) := by decide +kernel
theorem dX3_numbersOf_16 : decode cX3_numbersOf 16 = .ok (.goto 4, 3) := by decide +kernel
theorem dX3_numbersOf_19 : decode cX3_numbersOf 19 = .ok (.iconst 0, 1) := by decide +kernel
theorem dX3_numbersOf_20 : decode cX3_numbersOf 20 = .ok (.ireturn, 1) := by decide +kernel
set_option maxRecDepth 20000 in
theorem ggX3_sizeOf_X3_referencesOf : GoodIn wsX3_sizeOf wsX3_referencesOf := goodIn_r _ [5, 6, 7, 8, 9, 4, 10, 11, 12, 18, 19, 20, 21, 22, 23, 24, 25, 26] (by decide +kernel) (by decide +kernel)
set_option maxRecDepth 20000 in
theorem gX3_sizeOf_X3_referencesOf : GoodIn wsX3_sizeOf (wsV RX3 48 RX3 yX3_referencesOf wsX3_referencesOf) := goodIn_app (goodIn_of _ (by decide +kernel)) ggX3_sizeOf_X3_referencesOf
set_option maxRecDepth 20000 in
theorem ggX3_sizeOf_X3_numbersOf : GoodIn wsX3_sizeOf wsX3_numbersOf := goodIn_r _ [16, 17, 7, 8, 9, 4, 10, 11, 12, 18, 19, 20, 21, 22, 23, 24, 25, 26] (by decide +kernel) (by decide +kernel)
set_option maxRecDepth 20000 in
theorem gX3_sizeOf_X3_numbersOf : GoodIn wsX3_sizeOf (wsV RX3 52 RX3 yX3_numbersOf wsX3_numbersOf) := goodIn_app (goodIn_of _ (by decide +kernel)) ggX3_sizeOf_X3_numbersOf
theorem dX3_sizeOf_0 : decode cX3_sizeOf 0 = .ok (.aload_n 0, 1) := by decide +kernel
theorem dX3_sizeOf_1 : decode cX3_sizeOf 1 = .ok (.iload_n 1, 1) := by decide +kernel
theorem dX3_sizeOf_2 : decode cX3_sizeOf 2 = .ok (.invokevirtual 48, 3) := by decide +kernel
theorem dX3_sizeOf_5 : decode cX3_sizeOf 5 = .ok (.aload_n 0, 1) := by decide +kernel
theorem dX3_sizeOf_6 : decode cX3_sizeOf 6 = .ok (.iload_n 1, 1) := by decide +kernel
theorem dX3_sizeOf_7 : decode cX3_sizeOf 7 = .ok (.invokevirtual 52, 3) := by decide +kernel
theorem dX3_sizeOf_10 : decode cX3_sizeOf 10 = .ok (.iadd, 1) := by decide +kernel
theorem dX3_sizeOf_11 : decode cX3_sizeOf 11 = .ok (.ireturn, 1) := by decide +kernel
set_option maxRecDepth 20000 in
theorem ggX3_hasReference_X3_referencesOf : GoodIn wsX3_hasReference wsX3_referencesOf := goodIn_r _ [5, 6, 7, 8, 9, 4, 10, 11, 12, 13, 14, 15, 16, 17, 18, 19, 20, 21] (by decide +kernel) (by decide +kernel)
set_option maxRecDepth 20000 in
theorem gX3_hasReference_X3_referencesOf : GoodIn wsX3_hasReference (wsV RX3 48 RX3 yX3_referencesOf wsX3_referencesOf) := goodIn_app (goodIn_of _ (by decide +kernel)) ggX3_hasReference_X3_referencesOf
theorem dX3_hasReference_0 : decode cX3_hasReference 0 = .ok (.iload_n 2, 1) := by decide +kernel
theorem dX3_hasReference_1 : decode cX3_hasReference 1 = .ok (.ifCond .lt 16, 3) := by decide +kernel
theorem dX3_hasReference_4 : decode cX3_hasReference 4 = .ok (.iload_n 2, 1) := by decide +kernel
theorem dX3_hasReference_5 : decode cX3_hasReference 5 = .ok (.aload_n 0, 1) := by decide +kernel
theorem dX3_hasReference_6 : decode cX3_hasReference 6 = .ok (.iload_n 1, 1) := by decide +kernel
theorem dX3_hasReference_7 : decode cX3_hasReference 7 = .ok (.invokevirtual 48, 3) := by decide +kernel
theorem dX3_hasReference_10 : decode cX3_hasReference 10 = .ok (.if_icmp .ge 7, 3) := by decide +kernel
theorem dX3_hasReference_13 : decode cX3_hasReference 13 = .ok (.iconst 1, 1) := by decide +kernel
theorem dX3_hasReference_14 : decode cX3_hasReference 14 = .ok (.goto 4, 3) := by decide +kernel
theorem dX3_hasReference_17 : decode cX3_hasReference 17 = .ok (.iconst 0, 1) := by decide +kernel
theorem dX3_hasReference_18 : decode cX3_hasReference 18 = .ok (.ireturn, 1) := by decide +kernel
set_option maxRecDepth 20000 in
theorem ggX3_hasNumber_X3_referencesOf : GoodIn wsX3_hasNumber wsX3_referencesOf := goodIn_r _ [5, 6, 7, 8, 9, 4, 10, 11, 12, 22, 23, 24, 25, 26, 27, 28, 29, 30] (by decide +kernel) (by decide +kernel)
set_option maxRecDepth 20000 in
theorem gX3_hasNumber_X3_referencesOf : GoodIn wsX3_hasNumber (wsV RX3 48 RX3 yX3_referencesOf wsX3_referencesOf) := goodIn_app (goodIn_of _ (by decide +kernel)) ggX3_hasNumber_X3_referencesOf
set_option maxRecDepth 20000 in
theorem ggX3_hasNumber_X3_sizeOf : GoodIn wsX3_hasNumber wsX3_sizeOf := goodIn_r _ [16, 1, 2, 3, 4, 5, 6, 7, 8, 9, 10, 11, 12, 17, 18, 19, 20, 21, 22, 23, 24, 25, 26, 27, 28, 29, 30] (by decide +kernel) (by decide +kernel)
set_option maxRecDepth 20000 in
theorem gX3_hasNumber_X3_sizeOf : GoodIn wsX3_hasNumber (wsV RX3 55 RX3 yX3_sizeOf wsX3_sizeOf) := goodIn_app (goodIn_of _ (by decide +kernel)) ggX3_hasNumber_X3_sizeOf
theorem dX3_hasNumber_0 : decode cX3_hasNumber 0 = .ok (.iload_n 2, 1) := by decide +kernel
theorem dX3_hasNumber_1 : decode cX3_hasNumber 1 = .ok (.aload_n 0, 1) := by decide +kernel
theorem dX3_hasNumber_2 : decode cX3_hasNumber 2 = .ok (.iload_n 1, 1) := by decide +kernel
theorem dX3_hasNumber_3 : decode cX3_hasNumber 3 = .ok (.invokevirtual 48, 3) := by decide +kernel
theorem dX3_hasNumber_6 : decode cX3_hasNumber 6 = .ok (.if_icmp .lt 16, 3) := by decide +kernel
theorem dX3_hasNumber_9 : decode cX3_hasNumber 9 = .ok (.iload_n 2, 1) := by decide +kernel
theorem dX3_hasNumber_10 : decode cX3_hasNumber 10 = .ok (.aload_n 0, 1) := by decide +kernel
theorem dX3_hasNumber_11 : decode cX3_hasNumber 11 = .ok (.iload_n 1, 1) := by decide +kernel
theorem dX3_hasNumber_12 : decode cX3_hasNumber 12 = .ok (.invokevirtual 55, 3) := by decide +kernel
theorem dX3_hasNumber_15 : decode cX3_hasNumber 15 = .ok (.if_icmp .ge 7, 3) := by decide +kernel
theorem dX3_hasNumber_18 : decode cX3_hasNumber 18 = .ok (.iconst 1, 1) := by decide +kernel
theorem dX3_hasNumber_19 : decode cX3_hasNumber 19 = .ok (.goto 4, 3) := by decide +kernel
theorem dX3_hasNumber_22 : decode cX3_hasNumber 22 = .ok (.iconst 0, 1) := by decide +kernel
theorem dX3_hasNumber_23 : decode cX3_hasNumber 23 = .ok (.ireturn, 1) := by decide +kernel
set_option maxRecDepth 20000 in
theorem ggX3_thingAt_X4_cellWords : GoodIn wsX3_thingAt wsX4_cellWords := goodIn_r _ [6] (by decide +kernel) (by decide +kernel)
set_option maxRecDepth 20000 in
theorem gX3_thingAt_X4_cellWords_n58 : GoodIn wsX3_thingAt (wsX4_cellWords) := ggX3_thingAt_X4_cellWords
set_option maxRecDepth 20000 in
theorem ggX3_thingAt_X3_firstBlock : GoodIn wsX3_thingAt wsX3_firstBlock := goodIn_r _ [11, 2, 17, 18, 19, 20, 21, 22, 23, 24, 25] (by decide +kernel) (by decide +kernel)
set_option maxRecDepth 20000 in
theorem gX3_thingAt_X3_firstBlock : GoodIn wsX3_thingAt (wsV RX3 61 RX3 yX3_firstBlock wsX3_firstBlock) := goodIn_app (goodIn_of _ (by decide +kernel)) ggX3_thingAt_X3_firstBlock
set_option maxRecDepth 20000 in
theorem ggX3_thingAt_X3_isThing : GoodIn wsX3_thingAt wsX3_isThing := goodIn_r _ [15, 1, 16, 17, 18, 19, 20, 21, 22, 23, 24, 25] (by decide +kernel) (by decide +kernel)
set_option maxRecDepth 20000 in
theorem gX3_thingAt_X3_isThing : GoodIn wsX3_thingAt (wsV RX3 44 RX3 yX3_isThing wsX3_isThing) := goodIn_app (goodIn_of _ (by decide +kernel)) ggX3_thingAt_X3_isThing
theorem dX3_thingAt_0 : decode cX3_thingAt 0 = .ok (.iload_n 1, 1) := by decide +kernel
theorem dX3_thingAt_1 : decode cX3_thingAt 1 = .ok (.ifCond .lt 11, 3) := by decide +kernel
theorem dX3_thingAt_4 : decode cX3_thingAt 4 = .ok (.iload_n 1, 1) := by decide +kernel
theorem dX3_thingAt_5 : decode cX3_thingAt 5 = .ok (.aload_n 0, 1) := by decide +kernel
theorem dX3_thingAt_6 : decode cX3_thingAt 6 = .ok (.getfield 37, 3) := by decide +kernel
theorem dX3_thingAt_9 : decode cX3_thingAt 9 = .ok (.if_icmp .lt 5, 3) := by decide +kernel
theorem dX3_thingAt_12 : decode cX3_thingAt 12 = .ok (.iconst (-1), 1) := by decide +kernel
theorem dX3_thingAt_13 : decode cX3_thingAt 13 = .ok (.ireturn, 1) := by decide +kernel
theorem dX3_thingAt_14 : decode cX3_thingAt 14 = .ok (.iload_n 1, 1) := by decide +kernel
theorem dX3_thingAt_15 : decode cX3_thingAt 15 = .ok (.bipush 64, 2) := by decide +kernel
theorem dX3_thingAt_17 : decode cX3_thingAt 17 = .ok (.idiv, 1) := by decide +kernel
theorem dX3_thingAt_18 : decode cX3_thingAt 18 = .ok (.istore_n 2, 1) := by decide +kernel
theorem dX3_thingAt_19 : decode cX3_thingAt 19 = .ok (.aload_n 0, 1) := by decide +kernel
theorem dX3_thingAt_20 : decode cX3_thingAt 20 = .ok (.getfield 9, 3) := by decide +kernel
theorem dX3_thingAt_23 : decode cX3_thingAt 23 = .ok (.iload_n 2, 1) := by decide +kernel
theorem dX3_thingAt_24 : decode cX3_thingAt 24 = .ok (.iaload, 1) := by decide +kernel
theorem dX3_thingAt_25 : decode cX3_thingAt 25 = .ok (.iconst 1, 1) := by decide +kernel
theorem dX3_thingAt_26 : decode cX3_thingAt 26 = .ok (.if_icmp .ne 18, 3) := by decide +kernel
theorem dX3_thingAt_29 : decode cX3_thingAt 29 = .ok (.iload_n 1, 1) := by decide +kernel
theorem dX3_thingAt_30 : decode cX3_thingAt 30 = .ok (.aload_n 0, 1) := by decide +kernel
theorem dX3_thingAt_31 : decode cX3_thingAt 31 = .ok (.getfield 15, 3) := by decide +kernel
theorem dX3_thingAt_34 : decode cX3_thingAt 34 = .ok (.iload_n 2, 1) := by decide +kernel
theorem dX3_thingAt_35 : decode cX3_thingAt 35 = .ok (.iaload, 1) := by decide +kernel
theorem dX3_thingAt_36 : decode cX3_thingAt 36 = .ok (.invokestatic 58, 3) := by decide +kernel
theorem dX3_thingAt_39 : decode cX3_thingAt 39 = .ok (.ineg, 1) := by decide +kernel
theorem dX3_thingAt_40 : decode cX3_thingAt 40 = .ok (.iand, 1) := by decide +kernel
theorem dX3_thingAt_41 : decode cX3_thingAt 41 = .ok (.goto 11, 3) := by decide +kernel
theorem dX3_thingAt_44 : decode cX3_thingAt 44 = .ok (.aload_n 0, 1) := by decide +kernel
theorem dX3_thingAt_45 : decode cX3_thingAt 45 = .ok (.iload_n 2, 1) := by decide +kernel
theorem dX3_thingAt_46 : decode cX3_thingAt 46 = .ok (.invokevirtual 61, 3) := by decide +kernel
theorem dX3_thingAt_49 : decode cX3_thingAt 49 = .ok (.bipush 64, 2) := by decide +kernel
theorem dX3_thingAt_51 : decode cX3_thingAt 51 = .ok (.imul, 1) := by decide +kernel
theorem dX3_thingAt_52 : decode cX3_thingAt 52 = .ok (.istore_n 3, 1) := by decide +kernel
theorem dX3_thingAt_53 : decode cX3_thingAt 53 = .ok (.aload_n 0, 1) := by decide +kernel
theorem dX3_thingAt_54 : decode cX3_thingAt 54 = .ok (.iload_n 3, 1) := by decide +kernel
theorem dX3_thingAt_55 : decode cX3_thingAt 55 = .ok (.invokevirtual 44, 3) := by decide +kernel
theorem dX3_thingAt_58 : decode cX3_thingAt 58 = .ok (.ifCond .eq 7, 3) := by decide +kernel
theorem dX3_thingAt_61 : decode cX3_thingAt 61 = .ok (.iload_n 3, 1) := by decide +kernel
theorem dX3_thingAt_62 : decode cX3_thingAt 62 = .ok (.goto 4, 3) := by decide +kernel
theorem dX3_thingAt_65 : decode cX3_thingAt 65 = .ok (.iconst (-1), 1) := by decide +kernel
theorem dX3_thingAt_66 : decode cX3_thingAt 66 = .ok (.ireturn, 1) := by decide +kernel
theorem dX3_firstBlock_0 : decode cX3_firstBlock 0 = .ok (.iload_n 1, 1) := by decide +kernel
theorem dX3_firstBlock_1 : decode cX3_firstBlock 1 = .ok (.istore_n 2, 1) := by decide +kernel
theorem dX3_firstBlock_2 : decode cX3_firstBlock 2 = .ok (.iload_n 2, 1) := by decide +kernel
theorem dX3_firstBlock_3 : decode cX3_firstBlock 3 = .ok (.ifCond .le 21, 3) := by decide +kernel
theorem dX3_firstBlock_6 : decode cX3_firstBlock 6 = .ok (.aload_n 0, 1) := by decide +kernel
theorem dX3_firstBlock_7 : decode cX3_firstBlock 7 = .ok (.getfield 9, 3) := by decide +kernel
theorem dX3_firstBlock_10 : decode cX3_firstBlock 10 = .ok (.iload_n 2, 1) := by decide +kernel
theorem dX3_firstBlock_11 : decode cX3_firstBlock 11 = .ok (.iaload, 1) := by decide +kernel
theorem dX3_firstBlock_12 : decode cX3_firstBlock 12 = .ok (.iconst 3, 1) := by decide +kernel
theorem dX3_firstBlock_13 : decode cX3_firstBlock 13 = .ok (.if_icmp .eq 5, 3) := by decide +kernel
theorem dX3_firstBlock_16 : decode cX3_firstBlock 16 = .ok (.iload_n 2, 1) := by decide +kernel
theorem dX3_firstBlock_17 : decode cX3_firstBlock 17 = .ok (.ireturn, 1) := by decide +kernel
theorem dX3_firstBlock_18 : decode cX3_firstBlock 18 = .ok (.iinc 2 (-1), 3) := by decide +kernel
theorem dX3_firstBlock_21 : decode cX3_firstBlock 21 = .ok (.goto (-19), 3) := by decide +kernel
theorem dX3_firstBlock_24 : decode cX3_firstBlock 24 = .ok (.iconst 0, 1) := by decide +kernel
theorem dX3_firstBlock_25 : decode cX3_firstBlock 25 = .ok (.ireturn, 1) := by decide +kernel
set_option maxRecDepth 20000 in
theorem ggX3_placeFor_X4_classFor : GoodIn wsX3_placeFor wsX4_classFor := goodIn_r _ [3, 4, 5, 2, 6] (by decide +kernel) (by decide +kernel)
set_option maxRecDepth 20000 in
theorem gX3_placeFor_X4_classFor_n64 : GoodIn wsX3_placeFor (wsX4_classFor) := ggX3_placeFor_X4_classFor
set_option maxRecDepth 20000 in
theorem ggX3_placeFor_X4_blocksFor : GoodIn wsX3_placeFor wsX4_blocksFor := goodIn_r _ [8] (by decide +kernel) (by decide +kernel)
set_option maxRecDepth 20000 in
theorem gX3_placeFor_X4_blocksFor_n67 : GoodIn wsX3_placeFor (wsX4_blocksFor) := ggX3_placeFor_X4_blocksFor
set_option maxRecDepth 20000 in
theorem ggX3_placeFor_X3_freeRow : GoodIn wsX3_placeFor wsX3_freeRow := goodIn_r _ [13, 14, 15, 16, 30, 31, 32, 33, 34, 35, 36, 37, 38] (by decide +kernel) (by decide +kernel)
set_option maxRecDepth 20000 in
theorem gX3_placeFor_X3_freeRow : GoodIn wsX3_placeFor (wsV RX3 70 RX3 yX3_freeRow wsX3_freeRow) := goodIn_app (goodIn_of _ (by decide +kernel)) ggX3_placeFor_X3_freeRow
set_option maxRecDepth 20000 in
theorem ggX3_placeFor_X3_freeCell : GoodIn wsX3_placeFor wsX3_freeCell := goodIn_r _ [20, 14, 15, 21, 22, 2, 23, 5, 6, 24, 25, 26, 12, 27, 28, 29, 30, 31, 32, 33, 34, 35, 36, 37, 38] (by decide +kernel) (by decide +kernel)
set_option maxRecDepth 20000 in
theorem gX3_placeFor_X3_freeCell : GoodIn wsX3_placeFor (wsV RX3 74 RX3 yX3_freeCell wsX3_freeCell) := goodIn_app (goodIn_of _ (by decide +kernel)) ggX3_placeFor_X3_freeCell
theorem dX3_placeFor_0 : decode cX3_placeFor 0 = .ok (.iload_n 1, 1) := by decide +kernel
theorem dX3_placeFor_1 : decode cX3_placeFor 1 = .ok (.invokestatic 64, 3) := by decide +kernel
theorem dX3_placeFor_4 : decode cX3_placeFor 4 = .ok (.istore_n 3, 1) := by decide +kernel
theorem dX3_placeFor_5 : decode cX3_placeFor 5 = .ok (.iload_n 3, 1) := by decide +kernel
theorem dX3_placeFor_6 : decode cX3_placeFor 6 = .ok (.iconst 5, 1) := by decide +kernel
theorem dX3_placeFor_7 : decode cX3_placeFor 7 = .ok (.if_icmp .ne 13, 3) := by decide +kernel
theorem dX3_placeFor_10 : decode cX3_placeFor 10 = .ok (.aload_n 0, 1) := by decide +kernel
theorem dX3_placeFor_11 : decode cX3_placeFor 11 = .ok (.iload_n 1, 1) := by decide +kernel
theorem dX3_placeFor_12 : decode cX3_placeFor 12 = .ok (.invokestatic 67, 3) := by decide +kernel
theorem dX3_placeFor_15 : decode cX3_placeFor 15 = .ok (.iload_n 2, 1) := by decide +kernel
theorem dX3_placeFor_16 : decode cX3_placeFor 16 = .ok (.invokevirtual 70, 3) := by decide +kernel
theorem dX3_placeFor_19 : decode cX3_placeFor 19 = .ok (.ireturn, 1) := by decide +kernel
theorem dX3_placeFor_20 : decode cX3_placeFor 20 = .ok (.aload_n 0, 1) := by decide +kernel
theorem dX3_placeFor_21 : decode cX3_placeFor 21 = .ok (.iload_n 3, 1) := by decide +kernel
theorem dX3_placeFor_22 : decode cX3_placeFor 22 = .ok (.invokevirtual 74, 3) := by decide +kernel
theorem dX3_placeFor_25 : decode cX3_placeFor 25 = .ok (.istore 4, 2) := by decide +kernel
theorem dX3_placeFor_27 : decode cX3_placeFor 27 = .ok (.iload 4, 2) := by decide +kernel
theorem dX3_placeFor_29 : decode cX3_placeFor 29 = .ok (.iconst (-1), 1) := by decide +kernel
theorem dX3_placeFor_30 : decode cX3_placeFor 30 = .ok (.if_icmp .ne 12, 3) := by decide +kernel
theorem dX3_placeFor_33 : decode cX3_placeFor 33 = .ok (.aload_n 0, 1) := by decide +kernel
theorem dX3_placeFor_34 : decode cX3_placeFor 34 = .ok (.iconst 1, 1) := by decide +kernel
theorem dX3_placeFor_35 : decode cX3_placeFor 35 = .ok (.iload_n 2, 1) := by decide +kernel
theorem dX3_placeFor_36 : decode cX3_placeFor 36 = .ok (.invokevirtual 70, 3) := by decide +kernel
theorem dX3_placeFor_39 : decode cX3_placeFor 39 = .ok (.goto 5, 3) := by decide +kernel
theorem dX3_placeFor_42 : decode cX3_placeFor 42 = .ok (.iload 4, 2) := by decide +kernel
theorem dX3_placeFor_44 : decode cX3_placeFor 44 = .ok (.ireturn, 1) := by decide +kernel
set_option maxRecDepth 20000 in
theorem ggX3_freeCell_X4_cellsOf : GoodIn wsX3_freeCell wsX4_cellsOf := goodIn_r _ [6] (by decide +kernel) (by decide +kernel)
set_option maxRecDepth 20000 in
theorem gX3_freeCell_X4_cellsOf_n77 : GoodIn wsX3_freeCell (wsX4_cellsOf) := ggX3_freeCell_X4_cellsOf
set_option maxRecDepth 20000 in
theorem ggX3_freeCell_X4_cellWords : GoodIn wsX3_freeCell wsX4_cellWords := goodIn_r _ [8] (by decide +kernel) (by decide +kernel)
set_option maxRecDepth 20000 in
theorem gX3_freeCell_X4_cellWords_n58 : GoodIn wsX3_freeCell (wsX4_cellWords) := ggX3_freeCell_X4_cellWords
set_option maxRecDepth 20000 in
theorem ggX3_freeCell_X3_isThing : GoodIn wsX3_freeCell wsX3_isThing := goodIn_r _ [13, 14, 15, 16, 17, 18, 19, 20, 21, 22, 23, 24] (by decide +kernel) (by decide +kernel)
set_option maxRecDepth 20000 in
theorem gX3_freeCell_X3_isThing : GoodIn wsX3_freeCell (wsV RX3 44 RX3 yX3_isThing wsX3_isThing) := goodIn_app (goodIn_of _ (by decide +kernel)) ggX3_freeCell_X3_isThing
theorem dX3_freeCell_0 : decode cX3_freeCell 0 = .ok (.iconst 0, 1) := by decide +kernel
theorem dX3_freeCell_1 : decode cX3_freeCell 1 = .ok (.istore_n 2, 1) := by decide +kernel
theorem dX3_freeCell_2 : decode cX3_freeCell 2 = .ok (.iload_n 2, 1) := by decide +kernel
theorem dX3_freeCell_3 : decode cX3_freeCell 3 = .ok (.aload_n 0, 1) := by decide +kernel
theorem dX3_freeCell_4 : decode cX3_freeCell 4 = .ok (.getfield 33, 3) := by decide +kernel
theorem dX3_freeCell_7 : decode cX3_freeCell 7 = .ok (.if_icmp .ge 73, 3) := by decide +kernel
theorem dX3_freeCell_10 : decode cX3_freeCell 10 = .ok (.aload_n 0, 1) := by decide +kernel
theorem dX3_freeCell_11 : decode cX3_freeCell 11 = .ok (.getfield 9, 3) := by decide +kernel
theorem dX3_freeCell_14 : decode cX3_freeCell 14 = .ok (.iload_n 2, 1) := by decide +kernel
theorem dX3_freeCell_15 : decode cX3_freeCell 15 = .ok (.iaload, 1) := by decide +kernel
theorem dX3_freeCell_16 : decode cX3_freeCell 16 = .ok (.iconst 1, 1) := by decide +kernel
theorem dX3_freeCell_17 : decode cX3_freeCell 17 = .ok (.if_icmp .ne 57, 3) := by decide +kernel
theorem dX3_freeCell_20 : decode cX3_freeCell 20 = .ok (.aload_n 0, 1) := by decide +kernel
theorem dX3_freeCell_21 : decode cX3_freeCell 21 = .ok (.getfield 15, 3) := by decide +kernel
theorem dX3_freeCell_24 : decode cX3_freeCell 24 = .ok (.iload_n 2, 1) := by decide +kernel
theorem dX3_freeCell_25 : decode cX3_freeCell 25 = .ok (.iaload, 1) := by decide +kernel
theorem dX3_freeCell_26 : decode cX3_freeCell 26 = .ok (.iload_n 1, 1) := by decide +kernel
theorem dX3_freeCell_27 : decode cX3_freeCell 27 = .ok (.if_icmp .eq 6, 3) := by decide +kernel
theorem dX3_freeCell_30 : decode cX3_freeCell 30 = .ok (.goto 44, 3) := by decide +kernel
theorem dX3_freeCell_33 : decode cX3_freeCell 33 = .ok (.iconst 0, 1) := by decide +kernel
theorem dX3_freeCell_34 : decode cX3_freeCell 34 = .ok (.istore_n 3, 1) := by decide +kernel
theorem dX3_freeCell_35 : decode cX3_freeCell 35 = .ok (.iload_n 3, 1) := by decide +kernel
theorem dX3_freeCell_36 : decode cX3_freeCell 36 = .ok (.iload_n 1, 1) := by decide +kernel
theorem dX3_freeCell_37 : decode cX3_freeCell 37 = .ok (.invokestatic 77, 3) := by decide +kernel
theorem dX3_freeCell_40 : decode cX3_freeCell 40 = .ok (.if_icmp .ge 34, 3) := by decide +kernel
theorem dX3_freeCell_43 : decode cX3_freeCell 43 = .ok (.iload_n 2, 1) := by decide +kernel
theorem dX3_freeCell_44 : decode cX3_freeCell 44 = .ok (.bipush 64, 2) := by decide +kernel
theorem dX3_freeCell_46 : decode cX3_freeCell 46 = .ok (.imul, 1) := by decide +kernel
theorem dX3_freeCell_47 : decode cX3_freeCell 47 = .ok (.iload_n 3, 1) := by decide +kernel
theorem dX3_freeCell_48 : decode cX3_freeCell 48 = .ok (.iload_n 1, 1) := by decide +kernel
theorem dX3_freeCell_49 : decode cX3_freeCell 49 = .ok (.invokestatic 58, 3) := by decide +kernel
theorem dX3_freeCell_52 : decode cX3_freeCell 52 = .ok (.imul, 1) := by decide +kernel
theorem dX3_freeCell_53 : decode cX3_freeCell 53 = .ok (.iadd, 1) := by decide +kernel
theorem dX3_freeCell_54 : decode cX3_freeCell 54 = .ok (.istore 4, 2) := by decide +kernel
theorem dX3_freeCell_56 : decode cX3_freeCell 56 = .ok (.aload_n 0, 1) := by decide +kernel
theorem dX3_freeCell_57 : decode cX3_freeCell 57 = .ok (.iload 4, 2) := by decide +kernel
theorem dX3_freeCell_59 : decode cX3_freeCell 59 = .ok (.invokevirtual 44, 3) := by decide +kernel
theorem dX3_freeCell_62 : decode cX3_freeCell 62 = .ok (.ifCond .ne 6, 3) := by decide +kernel
theorem dX3_freeCell_65 : decode cX3_freeCell 65 = .ok (.iload 4, 2) := by decide +kernel
theorem dX3_freeCell_67 : decode cX3_freeCell 67 = .ok (.ireturn, 1) := by decide +kernel
theorem dX3_freeCell_68 : decode cX3_freeCell 68 = .ok (.iinc 3 1, 3) := by decide +kernel
theorem dX3_freeCell_71 : decode cX3_freeCell 71 = .ok (.goto (-36), 3) := by decide +kernel
theorem dX3_freeCell_74 : decode cX3_freeCell 74 = .ok (.iinc 2 1, 3) := by decide +kernel
theorem dX3_freeCell_77 : decode cX3_freeCell 77 = .ok (.goto (-75), 3) := by decide +kernel
theorem dX3_freeCell_80 : decode cX3_freeCell 80 = .ok (.iconst (-1), 1) := by decide +kernel
theorem dX3_freeCell_81 : decode cX3_freeCell 81 = .ok (.ireturn, 1) := by decide +kernel
theorem dX3_freeRow_0 : decode cX3_freeRow 0 = .ok (.iconst 0, 1) := by decide +kernel
theorem dX3_freeRow_1 : decode cX3_freeRow 1 = .ok (.istore_n 3, 1) := by decide +kernel
theorem dX3_freeRow_2 : decode cX3_freeRow 2 = .ok (.iconst 0, 1) := by decide +kernel
theorem dX3_freeRow_3 : decode cX3_freeRow 3 = .ok (.istore 4, 2) := by decide +kernel
theorem dX3_freeRow_5 : decode cX3_freeRow 5 = .ok (.iload 4, 2) := by decide +kernel
theorem dX3_freeRow_7 : decode cX3_freeRow 7 = .ok (.aload_n 0, 1) := by decide +kernel
theorem dX3_freeRow_8 : decode cX3_freeRow 8 = .ok (.getfield 33, 3) := by decide +kernel
theorem dX3_freeRow_11 : decode cX3_freeRow 11 = .ok (.if_icmp .ge 69, 3) := by decide +kernel
theorem dX3_freeRow_14 : decode cX3_freeRow 14 = .ok (.aload_n 0, 1) := by decide +kernel
theorem dX3_freeRow_15 : decode cX3_freeRow 15 = .ok (.getfield 9, 3) := by decide +kernel
theorem dX3_freeRow_18 : decode cX3_freeRow 18 = .ok (.iload 4, 2) := by decide +kernel
theorem dX3_freeRow_20 : decode cX3_freeRow 20 = .ok (.iaload, 1) := by decide +kernel
theorem dX3_freeRow_21 : decode cX3_freeRow 21 = .ok (.ifCond .ne 22, 3) := by decide +kernel
theorem dX3_freeRow_24 : decode cX3_freeRow 24 = .ok (.iload_n 2, 1) := by decide +kernel
theorem dX3_freeRow_25 : decode cX3_freeRow 25 = .ok (.ifCond .eq 14, 3) := by decide +kernel
theorem dX3_freeRow_28 : decode cX3_freeRow 28 = .ok (.aload_n 0, 1) := by decide +kernel
theorem dX3_freeRow_29 : decode cX3_freeRow 29 = .ok (.getfield 18, 3) := by decide +kernel
theorem dX3_freeRow_32 : decode cX3_freeRow 32 = .ok (.iload 4, 2) := by decide +kernel
theorem dX3_freeRow_34 : decode cX3_freeRow 34 = .ok (.iaload, 1) := by decide +kernel
theorem dX3_freeRow_35 : decode cX3_freeRow 35 = .ok (.iconst 1, 1) := by decide +kernel
theorem dX3_freeRow_36 : decode cX3_freeRow 36 = .ok (.if_icmp .eq 7, 3) := by decide +kernel
theorem dX3_freeRow_39 : decode cX3_freeRow 39 = .ok (.iconst 1, 1) := by decide +kernel
theorem dX3_freeRow_40 : decode cX3_freeRow 40 = .ok (.goto 4, 3) := by decide +kernel
theorem dX3_freeRow_43 : decode cX3_freeRow 43 = .ok (.iconst 0, 1) := by decide +kernel
theorem dX3_freeRow_44 : decode cX3_freeRow 44 = .ok (.istore 5, 2) := by decide +kernel
theorem dX3_freeRow_46 : decode cX3_freeRow 46 = .ok (.iload 5, 2) := by decide +kernel
theorem dX3_freeRow_48 : decode cX3_freeRow 48 = .ok (.ifCond .eq 9, 3) := by decide +kernel
theorem dX3_freeRow_51 : decode cX3_freeRow 51 = .ok (.iload_n 3, 1) := by decide +kernel
theorem dX3_freeRow_52 : decode cX3_freeRow 52 = .ok (.iconst 1, 1) := by decide +kernel
theorem dX3_freeRow_53 : decode cX3_freeRow 53 = .ok (.iadd, 1) := by decide +kernel
theorem dX3_freeRow_54 : decode cX3_freeRow 54 = .ok (.goto 4, 3) := by decide +kernel
theorem dX3_freeRow_57 : decode cX3_freeRow 57 = .ok (.iconst 0, 1) := by decide +kernel
theorem dX3_freeRow_58 : decode cX3_freeRow 58 = .ok (.istore_n 3, 1) := by decide +kernel
theorem dX3_freeRow_59 : decode cX3_freeRow 59 = .ok (.iload_n 3, 1) := by decide +kernel
theorem dX3_freeRow_60 : decode cX3_freeRow 60 = .ok (.iload_n 1, 1) := by decide +kernel
theorem dX3_freeRow_61 : decode cX3_freeRow 61 = .ok (.if_icmp .ne 13, 3) := by decide +kernel
theorem dX3_freeRow_64 : decode cX3_freeRow 64 = .ok (.iload 4, 2) := by decide +kernel
theorem dX3_freeRow_66 : decode cX3_freeRow 66 = .ok (.iload_n 1, 1) := by decide +kernel
theorem dX3_freeRow_67 : decode cX3_freeRow 67 = .ok (.isub, 1) := by decide +kernel
theorem dX3_freeRow_68 : decode cX3_freeRow 68 = .ok (.iconst 1, 1) := by decide +kernel
theorem dX3_freeRow_69 : decode cX3_freeRow 69 = .ok (.iadd, 1) := by decide +kernel
theorem dX3_freeRow_70 : decode cX3_freeRow 70 = .ok (.bipush 64, 2) := by decide +kernel
theorem dX3_freeRow_72 : decode cX3_freeRow 72 = .ok (.imul, 1) := by decide +kernel
theorem dX3_freeRow_73 : decode cX3_freeRow 73 = .ok (.ireturn, 1) := by decide +kernel
theorem dX3_freeRow_74 : decode cX3_freeRow 74 = .ok (.iinc 4 1, 3) := by decide +kernel
theorem dX3_freeRow_77 : decode cX3_freeRow 77 = .ok (.goto (-72), 3) := by decide +kernel
theorem dX3_freeRow_80 : decode cX3_freeRow 80 = .ok (.iconst (-1), 1) := by decide +kernel
theorem dX3_freeRow_81 : decode cX3_freeRow 81 = .ok (.ireturn, 1) := by decide +kernel
set_option maxRecDepth 20000 in
theorem ggX3_lay_X3_take : GoodIn wsX3_lay wsX3_take := goodIn_r _ [10, 11, 12, 13, 14, 15, 16, 17, 18, 19, 9, 20, 1, 21, 22, 23, 24, 25, 26, 27, 28, 29, 30, 31, 32, 33] (by decide +kernel) (by decide +kernel)
set_option maxRecDepth 20000 in
theorem gX3_lay_X3_take : GoodIn wsX3_lay (wsV RX3 80 RX3 yX3_take wsX3_take) := goodIn_app (goodIn_of _ (by decide +kernel)) ggX3_lay_X3_take
theorem dX3_lay_0 : decode cX3_lay 0 = .ok (.iload_n 1, 1) := by decide +kernel
theorem dX3_lay_1 : decode cX3_lay 1 = .ok (.bipush 64, 2) := by decide +kernel
theorem dX3_lay_3 : decode cX3_lay 3 = .ok (.idiv, 1) := by decide +kernel
theorem dX3_lay_4 : decode cX3_lay 4 = .ok (.istore 4, 2) := by decide +kernel
theorem dX3_lay_6 : decode cX3_lay 6 = .ok (.aload_n 0, 1) := by decide +kernel
theorem dX3_lay_7 : decode cX3_lay 7 = .ok (.getfield 9, 3) := by decide +kernel
theorem dX3_lay_10 : decode cX3_lay 10 = .ok (.iload 4, 2) := by decide +kernel
theorem dX3_lay_12 : decode cX3_lay 12 = .ok (.iaload, 1) := by decide +kernel
theorem dX3_lay_13 : decode cX3_lay 13 = .ok (.ifCond .ne 12, 3) := by decide +kernel
theorem dX3_lay_16 : decode cX3_lay 16 = .ok (.aload_n 0, 1) := by decide +kernel
theorem dX3_lay_17 : decode cX3_lay 17 = .ok (.iload 4, 2) := by decide +kernel
theorem dX3_lay_19 : decode cX3_lay 19 = .ok (.iload_n 2, 1) := by decide +kernel
theorem dX3_lay_20 : decode cX3_lay 20 = .ok (.iload_n 3, 1) := by decide +kernel
theorem dX3_lay_21 : decode cX3_lay 21 = .ok (.iadd, 1) := by decide +kernel
theorem dX3_lay_22 : decode cX3_lay 22 = .ok (.invokevirtual 80, 3) := by decide +kernel
theorem dX3_lay_25 : decode cX3_lay 25 = .ok (.aload_n 0, 1) := by decide +kernel
theorem dX3_lay_26 : decode cX3_lay 26 = .ok (.getfield 24, 3) := by decide +kernel
theorem dX3_lay_29 : decode cX3_lay 29 = .ok (.iload_n 1, 1) := by decide +kernel
theorem dX3_lay_30 : decode cX3_lay 30 = .ok (.iconst 2, 1) := by decide +kernel
theorem dX3_lay_31 : decode cX3_lay 31 = .ok (.idiv, 1) := by decide +kernel
theorem dX3_lay_32 : decode cX3_lay 32 = .ok (.iload_n 2, 1) := by decide +kernel
theorem dX3_lay_33 : decode cX3_lay 33 = .ok (.iastore, 1) := by decide +kernel
theorem dX3_lay_34 : decode cX3_lay 34 = .ok (.aload_n 0, 1) := by decide +kernel
theorem dX3_lay_35 : decode cX3_lay 35 = .ok (.getfield 27, 3) := by decide +kernel
theorem dX3_lay_38 : decode cX3_lay 38 = .ok (.iload_n 1, 1) := by decide +kernel
theorem dX3_lay_39 : decode cX3_lay 39 = .ok (.iconst 2, 1) := by decide +kernel
theorem dX3_lay_40 : decode cX3_lay 40 = .ok (.idiv, 1) := by decide +kernel
theorem dX3_lay_41 : decode cX3_lay 41 = .ok (.iload_n 3, 1) := by decide +kernel
theorem dX3_lay_42 : decode cX3_lay 42 = .ok (.iastore, 1) := by decide +kernel
theorem dX3_lay_43 : decode cX3_lay 43 = .ok (.aload_n 0, 1) := by decide +kernel
theorem dX3_lay_44 : decode cX3_lay 44 = .ok (.getfield 30, 3) := by decide +kernel
theorem dX3_lay_47 : decode cX3_lay 47 = .ok (.iload_n 1, 1) := by decide +kernel
theorem dX3_lay_48 : decode cX3_lay 48 = .ok (.iconst 2, 1) := by decide +kernel
theorem dX3_lay_49 : decode cX3_lay 49 = .ok (.idiv, 1) := by decide +kernel
theorem dX3_lay_50 : decode cX3_lay 50 = .ok (.iconst 1, 1) := by decide +kernel
theorem dX3_lay_51 : decode cX3_lay 51 = .ok (.iastore, 1) := by decide +kernel
theorem dX3_lay_52 : decode cX3_lay 52 = .ok (.iconst 0, 1) := by decide +kernel
theorem dX3_lay_53 : decode cX3_lay 53 = .ok (.istore 5, 2) := by decide +kernel
theorem dX3_lay_55 : decode cX3_lay 55 = .ok (.iload 5, 2) := by decide +kernel
theorem dX3_lay_57 : decode cX3_lay 57 = .ok (.iload_n 2, 1) := by decide +kernel
theorem dX3_lay_58 : decode cX3_lay 58 = .ok (.iload_n 3, 1) := by decide +kernel
theorem dX3_lay_59 : decode cX3_lay 59 = .ok (.iadd, 1) := by decide +kernel
theorem dX3_lay_60 : decode cX3_lay 60 = .ok (.if_icmp .ge 29, 3) := by decide +kernel
theorem dX3_lay_63 : decode cX3_lay 63 = .ok (.aload_n 0, 1) := by decide +kernel
theorem dX3_lay_64 : decode cX3_lay 64 = .ok (.getfield 21, 3) := by decide +kernel
theorem dX3_lay_67 : decode cX3_lay 67 = .ok (.iload_n 1, 1) := by decide +kernel
theorem dX3_lay_68 : decode cX3_lay 68 = .ok (.iload 5, 2) := by decide +kernel
theorem dX3_lay_70 : decode cX3_lay 70 = .ok (.iadd, 1) := by decide +kernel
theorem dX3_lay_71 : decode cX3_lay 71 = .ok (.iload 5, 2) := by decide +kernel
theorem dX3_lay_73 : decode cX3_lay 73 = .ok (.iload_n 2, 1) := by decide +kernel
theorem dX3_lay_74 : decode cX3_lay 74 = .ok (.if_icmp .ge 7, 3) := by decide +kernel
theorem dX3_lay_77 : decode cX3_lay 77 = .ok (.iconst (-1), 1) := by decide +kernel
theorem dX3_lay_78 : decode cX3_lay 78 = .ok (.goto 4, 3) := by decide +kernel
theorem dX3_lay_81 : decode cX3_lay 81 = .ok (.iconst 0, 1) := by decide +kernel
theorem dX3_lay_82 : decode cX3_lay 82 = .ok (.iastore, 1) := by decide +kernel
theorem dX3_lay_83 : decode cX3_lay 83 = .ok (.iinc 5 1, 3) := by decide +kernel
theorem dX3_lay_86 : decode cX3_lay 86 = .ok (.goto (-31), 3) := by decide +kernel
theorem dX3_lay_89 : decode cX3_lay 89 = .ok (.return_, 1) := by decide +kernel
set_option maxRecDepth 20000 in
theorem ggX3_take_X4_classFor : GoodIn wsX3_take wsX4_classFor := goodIn_r _ [3, 4, 5, 2, 6] (by decide +kernel) (by decide +kernel)
set_option maxRecDepth 20000 in
theorem gX3_take_X4_classFor_n64 : GoodIn wsX3_take (wsX4_classFor) := ggX3_take_X4_classFor
set_option maxRecDepth 20000 in
theorem ggX3_take_X3_turn : GoodIn wsX3_take wsX3_turn := goodIn_r _ [11, 12, 13, 14, 17, 18, 19, 20, 21, 22, 23, 24, 25] (by decide +kernel) (by decide +kernel)
set_option maxRecDepth 20000 in
theorem gX3_take_X3_turn : GoodIn wsX3_take (wsV RX3 40 RX3 yX3_turn wsX3_turn) := goodIn_app (goodIn_of _ (by decide +kernel)) ggX3_take_X3_turn
set_option maxRecDepth 20000 in
theorem ggX3_take_X4_blocksFor : GoodIn wsX3_take wsX4_blocksFor := goodIn_r _ [16] (by decide +kernel) (by decide +kernel)
set_option maxRecDepth 20000 in
theorem gX3_take_X4_blocksFor_n67 : GoodIn wsX3_take (wsX4_blocksFor) := ggX3_take_X4_blocksFor
theorem dX3_take_0 : decode cX3_take 0 = .ok (.iload_n 2, 1) := by decide +kernel
theorem dX3_take_1 : decode cX3_take 1 = .ok (.invokestatic 64, 3) := by decide +kernel
theorem dX3_take_4 : decode cX3_take 4 = .ok (.istore_n 3, 1) := by decide +kernel
theorem dX3_take_5 : decode cX3_take 5 = .ok (.iload_n 3, 1) := by decide +kernel
theorem dX3_take_6 : decode cX3_take 6 = .ok (.iconst 5, 1) := by decide +kernel
theorem dX3_take_7 : decode cX3_take 7 = .ok (.if_icmp .eq 11, 3) := by decide +kernel
theorem dX3_take_10 : decode cX3_take 10 = .ok (.aload_n 0, 1) := by decide +kernel
theorem dX3_take_11 : decode cX3_take 11 = .ok (.iload_n 1, 1) := by decide +kernel
theorem dX3_take_12 : decode cX3_take 12 = .ok (.iconst 1, 1) := by decide +kernel
theorem dX3_take_13 : decode cX3_take 13 = .ok (.iload_n 3, 1) := by decide +kernel
theorem dX3_take_14 : decode cX3_take 14 = .ok (.invokevirtual 40, 3) := by decide +kernel
theorem dX3_take_17 : decode cX3_take 17 = .ok (.return_, 1) := by decide +kernel
theorem dX3_take_18 : decode cX3_take 18 = .ok (.iload_n 2, 1) := by decide +kernel
theorem dX3_take_19 : decode cX3_take 19 = .ok (.invokestatic 67, 3) := by decide +kernel
theorem dX3_take_22 : decode cX3_take 22 = .ok (.istore 4, 2) := by decide +kernel
theorem dX3_take_24 : decode cX3_take 24 = .ok (.aload_n 0, 1) := by decide +kernel
theorem dX3_take_25 : decode cX3_take 25 = .ok (.iload_n 1, 1) := by decide +kernel
theorem dX3_take_26 : decode cX3_take 26 = .ok (.iconst 2, 1) := by decide +kernel
theorem dX3_take_27 : decode cX3_take 27 = .ok (.iload 4, 2) := by decide +kernel
theorem dX3_take_29 : decode cX3_take 29 = .ok (.invokevirtual 40, 3) := by decide +kernel
theorem dX3_take_32 : decode cX3_take 32 = .ok (.iconst 1, 1) := by decide +kernel
theorem dX3_take_33 : decode cX3_take 33 = .ok (.istore 5, 2) := by decide +kernel
theorem dX3_take_35 : decode cX3_take 35 = .ok (.iload 5, 2) := by decide +kernel
theorem dX3_take_37 : decode cX3_take 37 = .ok (.iload 4, 2) := by decide +kernel
theorem dX3_take_39 : decode cX3_take 39 = .ok (.if_icmp .ge 19, 3) := by decide +kernel
theorem dX3_take_42 : decode cX3_take 42 = .ok (.aload_n 0, 1) := by decide +kernel
theorem dX3_take_43 : decode cX3_take 43 = .ok (.iload_n 1, 1) := by decide +kernel
theorem dX3_take_44 : decode cX3_take 44 = .ok (.iload 5, 2) := by decide +kernel
theorem dX3_take_46 : decode cX3_take 46 = .ok (.iadd, 1) := by decide +kernel
theorem dX3_take_47 : decode cX3_take 47 = .ok (.iconst 3, 1) := by decide +kernel
theorem dX3_take_48 : decode cX3_take 48 = .ok (.iconst 0, 1) := by decide +kernel
theorem dX3_take_49 : decode cX3_take 49 = .ok (.invokevirtual 40, 3) := by decide +kernel
theorem dX3_take_52 : decode cX3_take 52 = .ok (.iinc 5 1, 3) := by decide +kernel
theorem dX3_take_55 : decode cX3_take 55 = .ok (.goto (-20), 3) := by decide +kernel
theorem dX3_take_58 : decode cX3_take 58 = .ok (.return_, 1) := by decide +kernel
theorem dX3_turn_0 : decode cX3_turn 0 = .ok (.aload_n 0, 1) := by decide +kernel
theorem dX3_turn_1 : decode cX3_turn 1 = .ok (.getfield 9, 3) := by decide +kernel
theorem dX3_turn_4 : decode cX3_turn 4 = .ok (.iload_n 1, 1) := by decide +kernel
theorem dX3_turn_5 : decode cX3_turn 5 = .ok (.iload_n 2, 1) := by decide +kernel
theorem dX3_turn_6 : decode cX3_turn 6 = .ok (.iastore, 1) := by decide +kernel
theorem dX3_turn_7 : decode cX3_turn 7 = .ok (.aload_n 0, 1) := by decide +kernel
theorem dX3_turn_8 : decode cX3_turn 8 = .ok (.getfield 15, 3) := by decide +kernel
theorem dX3_turn_11 : decode cX3_turn 11 = .ok (.iload_n 1, 1) := by decide +kernel
theorem dX3_turn_12 : decode cX3_turn 12 = .ok (.iload_n 3, 1) := by decide +kernel
theorem dX3_turn_13 : decode cX3_turn 13 = .ok (.iastore, 1) := by decide +kernel
theorem dX3_turn_14 : decode cX3_turn 14 = .ok (.aload_n 0, 1) := by decide +kernel
theorem dX3_turn_15 : decode cX3_turn 15 = .ok (.getfield 18, 3) := by decide +kernel
theorem dX3_turn_18 : decode cX3_turn 18 = .ok (.iload_n 1, 1) := by decide +kernel
theorem dX3_turn_19 : decode cX3_turn 19 = .ok (.iconst 0, 1) := by decide +kernel
theorem dX3_turn_20 : decode cX3_turn 20 = .ok (.iastore, 1) := by decide +kernel
theorem dX3_turn_21 : decode cX3_turn 21 = .ok (.return_, 1) := by decide +kernel
theorem dX3_makeAllYoung_0 : decode cX3_makeAllYoung 0 = .ok (.iconst 0, 1) := by decide +kernel
theorem dX3_makeAllYoung_1 : decode cX3_makeAllYoung 1 = .ok (.istore_n 1, 1) := by decide +kernel
theorem dX3_makeAllYoung_2 : decode cX3_makeAllYoung 2 = .ok (.iload_n 1, 1) := by decide +kernel
theorem dX3_makeAllYoung_3 : decode cX3_makeAllYoung 3 = .ok (.sipush 768, 3) := by decide +kernel
theorem dX3_makeAllYoung_6 : decode cX3_makeAllYoung 6 = .ok (.if_icmp .ge 26, 3) := by decide +kernel
theorem dX3_makeAllYoung_9 : decode cX3_makeAllYoung 9 = .ok (.aload_n 0, 1) := by decide +kernel
theorem dX3_makeAllYoung_10 : decode cX3_makeAllYoung 10 = .ok (.getfield 30, 3) := by decide +kernel
theorem dX3_makeAllYoung_13 : decode cX3_makeAllYoung 13 = .ok (.iload_n 1, 1) := by decide +kernel
theorem dX3_makeAllYoung_14 : decode cX3_makeAllYoung 14 = .ok (.iaload, 1) := by decide +kernel
theorem dX3_makeAllYoung_15 : decode cX3_makeAllYoung 15 = .ok (.iconst 3, 1) := by decide +kernel
theorem dX3_makeAllYoung_16 : decode cX3_makeAllYoung 16 = .ok (.if_icmp .ne 10, 3) := by decide +kernel
theorem dX3_makeAllYoung_19 : decode cX3_makeAllYoung 19 = .ok (.aload_n 0, 1) := by decide +kernel
theorem dX3_makeAllYoung_20 : decode cX3_makeAllYoung 20 = .ok (.getfield 30, 3) := by decide +kernel
theorem dX3_makeAllYoung_23 : decode cX3_makeAllYoung 23 = .ok (.iload_n 1, 1) := by decide +kernel
theorem dX3_makeAllYoung_24 : decode cX3_makeAllYoung 24 = .ok (.iconst 1, 1) := by decide +kernel
theorem dX3_makeAllYoung_25 : decode cX3_makeAllYoung 25 = .ok (.iastore, 1) := by decide +kernel
theorem dX3_makeAllYoung_26 : decode cX3_makeAllYoung 26 = .ok (.iinc 1 1, 3) := by decide +kernel
theorem dX3_makeAllYoung_29 : decode cX3_makeAllYoung 29 = .ok (.goto (-27), 3) := by decide +kernel
theorem dX3_makeAllYoung_32 : decode cX3_makeAllYoung 32 = .ok (.return_, 1) := by decide +kernel
theorem dX3_sweep_0 : decode cX3_sweep 0 = .ok (.iconst 0, 1) := by decide +kernel
theorem dX3_sweep_1 : decode cX3_sweep 1 = .ok (.istore_n 1, 1) := by decide +kernel
theorem dX3_sweep_2 : decode cX3_sweep 2 = .ok (.iconst 0, 1) := by decide +kernel
theorem dX3_sweep_3 : decode cX3_sweep 3 = .ok (.istore_n 2, 1) := by decide +kernel
theorem dX3_sweep_4 : decode cX3_sweep 4 = .ok (.iload_n 2, 1) := by decide +kernel
theorem dX3_sweep_5 : decode cX3_sweep 5 = .ok (.sipush 768, 3) := by decide +kernel
theorem dX3_sweep_8 : decode cX3_sweep 8 = .ok (.if_icmp .ge 49, 3) := by decide +kernel
theorem dX3_sweep_11 : decode cX3_sweep 11 = .ok (.aload_n 0, 1) := by decide +kernel
theorem dX3_sweep_12 : decode cX3_sweep 12 = .ok (.getfield 30, 3) := by decide +kernel
theorem dX3_sweep_15 : decode cX3_sweep 15 = .ok (.iload_n 2, 1) := by decide +kernel
theorem dX3_sweep_16 : decode cX3_sweep 16 = .ok (.iaload, 1) := by decide +kernel
theorem dX3_sweep_17 : decode cX3_sweep 17 = .ok (.iconst 2, 1) := by decide +kernel
theorem dX3_sweep_18 : decode cX3_sweep 18 = .ok (.if_icmp .ne 13, 3) := by decide +kernel
theorem dX3_sweep_21 : decode cX3_sweep 21 = .ok (.aload_n 0, 1) := by decide +kernel
theorem dX3_sweep_22 : decode cX3_sweep 22 = .ok (.getfield 30, 3) := by decide +kernel
theorem dX3_sweep_25 : decode cX3_sweep 25 = .ok (.iload_n 2, 1) := by decide +kernel
theorem dX3_sweep_26 : decode cX3_sweep 26 = .ok (.iconst 3, 1) := by decide +kernel
theorem dX3_sweep_27 : decode cX3_sweep 27 = .ok (.iastore, 1) := by decide +kernel
theorem dX3_sweep_28 : decode cX3_sweep 28 = .ok (.goto 23, 3) := by decide +kernel
theorem dX3_sweep_31 : decode cX3_sweep 31 = .ok (.aload_n 0, 1) := by decide +kernel
theorem dX3_sweep_32 : decode cX3_sweep 32 = .ok (.getfield 30, 3) := by decide +kernel
theorem dX3_sweep_35 : decode cX3_sweep 35 = .ok (.iload_n 2, 1) := by decide +kernel
theorem dX3_sweep_36 : decode cX3_sweep 36 = .ok (.iaload, 1) := by decide +kernel
theorem dX3_sweep_37 : decode cX3_sweep 37 = .ok (.iconst 1, 1) := by decide +kernel
theorem dX3_sweep_38 : decode cX3_sweep 38 = .ok (.if_icmp .ne 13, 3) := by decide +kernel
theorem dX3_sweep_41 : decode cX3_sweep 41 = .ok (.aload_n 0, 1) := by decide +kernel
theorem dX3_sweep_42 : decode cX3_sweep 42 = .ok (.getfield 30, 3) := by decide +kernel
theorem dX3_sweep_45 : decode cX3_sweep 45 = .ok (.iload_n 2, 1) := by decide +kernel
theorem dX3_sweep_46 : decode cX3_sweep 46 = .ok (.iconst 0, 1) := by decide +kernel
theorem dX3_sweep_47 : decode cX3_sweep 47 = .ok (.iastore, 1) := by decide +kernel
theorem dX3_sweep_48 : decode cX3_sweep 48 = .ok (.iinc 1 1, 3) := by decide +kernel
theorem dX3_sweep_51 : decode cX3_sweep 51 = .ok (.iinc 2 1, 3) := by decide +kernel
theorem dX3_sweep_54 : decode cX3_sweep 54 = .ok (.goto (-50), 3) := by decide +kernel
theorem dX3_sweep_57 : decode cX3_sweep 57 = .ok (.iload_n 1, 1) := by decide +kernel
theorem dX3_sweep_58 : decode cX3_sweep 58 = .ok (.ireturn, 1) := by decide +kernel
set_option maxRecDepth 20000 in
theorem ggX3_freeEmptyBlocks_X3_thingsIn : GoodIn wsX3_freeEmptyBlocks wsX3_thingsIn := goodIn_r _ [7, 8, 15, 16, 17, 18, 19, 20, 21, 22, 23] (by decide +kernel) (by decide +kernel)
set_option maxRecDepth 20000 in
theorem gX3_freeEmptyBlocks_X3_thingsIn : GoodIn wsX3_freeEmptyBlocks (wsV RX3 84 RX3 yX3_thingsIn wsX3_thingsIn) := goodIn_app (goodIn_of _ (by decide +kernel)) ggX3_freeEmptyBlocks_X3_thingsIn
set_option maxRecDepth 20000 in
theorem ggX3_freeEmptyBlocks_X3_turn : GoodIn wsX3_freeEmptyBlocks wsX3_turn := goodIn_r _ [12, 2, 13, 14, 15, 16, 17, 18, 19, 20, 21, 22, 23] (by decide +kernel) (by decide +kernel)
set_option maxRecDepth 20000 in
theorem gX3_freeEmptyBlocks_X3_turn : GoodIn wsX3_freeEmptyBlocks (wsV RX3 40 RX3 yX3_turn wsX3_turn) := goodIn_app (goodIn_of _ (by decide +kernel)) ggX3_freeEmptyBlocks_X3_turn
theorem dX3_freeEmptyBlocks_0 : decode cX3_freeEmptyBlocks 0 = .ok (.iconst 0, 1) := by decide +kernel
theorem dX3_freeEmptyBlocks_1 : decode cX3_freeEmptyBlocks 1 = .ok (.istore_n 1, 1) := by decide +kernel
theorem dX3_freeEmptyBlocks_2 : decode cX3_freeEmptyBlocks 2 = .ok (.iload_n 1, 1) := by decide +kernel
theorem dX3_freeEmptyBlocks_3 : decode cX3_freeEmptyBlocks 3 = .ok (.aload_n 0, 1) := by decide +kernel
theorem dX3_freeEmptyBlocks_4 : decode cX3_freeEmptyBlocks 4 = .ok (.getfield 33, 3) := by decide +kernel
theorem dX3_freeEmptyBlocks_7 : decode cX3_freeEmptyBlocks 7 = .ok (.if_icmp .ge 78, 3) := by decide +kernel
theorem dX3_freeEmptyBlocks_10 : decode cX3_freeEmptyBlocks 10 = .ok (.iload_n 1, 1) := by decide +kernel
theorem dX3_freeEmptyBlocks_11 : decode cX3_freeEmptyBlocks 11 = .ok (.ifCond .le 17, 3) := by decide +kernel
theorem dX3_freeEmptyBlocks_14 : decode cX3_freeEmptyBlocks 14 = .ok (.aload_n 0, 1) := by decide +kernel
theorem dX3_freeEmptyBlocks_15 : decode cX3_freeEmptyBlocks 15 = .ok (.getfield 9, 3) := by decide +kernel
theorem dX3_freeEmptyBlocks_18 : decode cX3_freeEmptyBlocks 18 = .ok (.iload_n 1, 1) := by decide +kernel
theorem dX3_freeEmptyBlocks_19 : decode cX3_freeEmptyBlocks 19 = .ok (.iaload, 1) := by decide +kernel
theorem dX3_freeEmptyBlocks_20 : decode cX3_freeEmptyBlocks 20 = .ok (.iconst 3, 1) := by decide +kernel
theorem dX3_freeEmptyBlocks_21 : decode cX3_freeEmptyBlocks 21 = .ok (.if_icmp .ne 7, 3) := by decide +kernel
theorem dX3_freeEmptyBlocks_24 : decode cX3_freeEmptyBlocks 24 = .ok (.iconst 1, 1) := by decide +kernel
theorem dX3_freeEmptyBlocks_25 : decode cX3_freeEmptyBlocks 25 = .ok (.goto 4, 3) := by decide +kernel
theorem dX3_freeEmptyBlocks_28 : decode cX3_freeEmptyBlocks 28 = .ok (.iconst 0, 1) := by decide +kernel
theorem dX3_freeEmptyBlocks_29 : decode cX3_freeEmptyBlocks 29 = .ok (.istore_n 2, 1) := by decide +kernel
theorem dX3_freeEmptyBlocks_30 : decode cX3_freeEmptyBlocks 30 = .ok (.iload_n 2, 1) := by decide +kernel
theorem dX3_freeEmptyBlocks_31 : decode cX3_freeEmptyBlocks 31 = .ok (.ifCond .eq 22, 3) := by decide +kernel
theorem dX3_freeEmptyBlocks_34 : decode cX3_freeEmptyBlocks 34 = .ok (.aload_n 0, 1) := by decide +kernel
theorem dX3_freeEmptyBlocks_35 : decode cX3_freeEmptyBlocks 35 = .ok (.getfield 9, 3) := by decide +kernel
theorem dX3_freeEmptyBlocks_38 : decode cX3_freeEmptyBlocks 38 = .ok (.iload_n 1, 1) := by decide +kernel
theorem dX3_freeEmptyBlocks_39 : decode cX3_freeEmptyBlocks 39 = .ok (.iconst 1, 1) := by decide +kernel
theorem dX3_freeEmptyBlocks_40 : decode cX3_freeEmptyBlocks 40 = .ok (.isub, 1) := by decide +kernel
theorem dX3_freeEmptyBlocks_41 : decode cX3_freeEmptyBlocks 41 = .ok (.iaload, 1) := by decide +kernel
theorem dX3_freeEmptyBlocks_42 : decode cX3_freeEmptyBlocks 42 = .ok (.ifCond .ne 7, 3) := by decide +kernel
theorem dX3_freeEmptyBlocks_45 : decode cX3_freeEmptyBlocks 45 = .ok (.iconst 1, 1) := by decide +kernel
theorem dX3_freeEmptyBlocks_46 : decode cX3_freeEmptyBlocks 46 = .ok (.goto 21, 3) := by decide +kernel
theorem dX3_freeEmptyBlocks_49 : decode cX3_freeEmptyBlocks 49 = .ok (.iconst 0, 1) := by decide +kernel
theorem dX3_freeEmptyBlocks_50 : decode cX3_freeEmptyBlocks 50 = .ok (.goto 17, 3) := by decide +kernel
theorem dX3_freeEmptyBlocks_53 : decode cX3_freeEmptyBlocks 53 = .ok (.aload_n 0, 1) := by decide +kernel
theorem dX3_freeEmptyBlocks_54 : decode cX3_freeEmptyBlocks 54 = .ok (.iload_n 1, 1) := by decide +kernel
theorem dX3_freeEmptyBlocks_55 : decode cX3_freeEmptyBlocks 55 = .ok (.iconst 1, 1) := by decide +kernel
theorem dX3_freeEmptyBlocks_56 : decode cX3_freeEmptyBlocks 56 = .ok (.invokevirtual 84, 3) := by decide +kernel
theorem dX3_freeEmptyBlocks_59 : decode cX3_freeEmptyBlocks 59 = .ok (.ifCond .ne 7, 3) := by decide +kernel
theorem dX3_freeEmptyBlocks_62 : decode cX3_freeEmptyBlocks 62 = .ok (.iconst 1, 1) := by decide +kernel
theorem dX3_freeEmptyBlocks_63 : decode cX3_freeEmptyBlocks 63 = .ok (.goto 4, 3) := by decide +kernel
theorem dX3_freeEmptyBlocks_66 : decode cX3_freeEmptyBlocks 66 = .ok (.iconst 0, 1) := by decide +kernel
theorem dX3_freeEmptyBlocks_67 : decode cX3_freeEmptyBlocks 67 = .ok (.istore_n 3, 1) := by decide +kernel
theorem dX3_freeEmptyBlocks_68 : decode cX3_freeEmptyBlocks 68 = .ok (.iload_n 3, 1) := by decide +kernel
theorem dX3_freeEmptyBlocks_69 : decode cX3_freeEmptyBlocks 69 = .ok (.ifCond .eq 10, 3) := by decide +kernel
theorem dX3_freeEmptyBlocks_72 : decode cX3_freeEmptyBlocks 72 = .ok (.aload_n 0, 1) := by decide +kernel
theorem dX3_freeEmptyBlocks_73 : decode cX3_freeEmptyBlocks 73 = .ok (.iload_n 1, 1) := by decide +kernel
theorem dX3_freeEmptyBlocks_74 : decode cX3_freeEmptyBlocks 74 = .ok (.iconst 0, 1) := by decide +kernel
theorem dX3_freeEmptyBlocks_75 : decode cX3_freeEmptyBlocks 75 = .ok (.iconst 0, 1) := by decide +kernel
theorem dX3_freeEmptyBlocks_76 : decode cX3_freeEmptyBlocks 76 = .ok (.invokevirtual 40, 3) := by decide +kernel
theorem dX3_freeEmptyBlocks_79 : decode cX3_freeEmptyBlocks 79 = .ok (.iinc 1 1, 3) := by decide +kernel
theorem dX3_freeEmptyBlocks_82 : decode cX3_freeEmptyBlocks 82 = .ok (.goto (-80), 3) := by decide +kernel
theorem dX3_freeEmptyBlocks_85 : decode cX3_freeEmptyBlocks 85 = .ok (.return_, 1) := by decide +kernel
theorem dX3_barBy_0 : decode cX3_barBy 0 = .ok (.iconst 0, 1) := by decide +kernel
theorem dX3_barBy_1 : decode cX3_barBy 1 = .ok (.istore_n 3, 1) := by decide +kernel
theorem dX3_barBy_2 : decode cX3_barBy 2 = .ok (.iload_n 3, 1) := by decide +kernel
theorem dX3_barBy_3 : decode cX3_barBy 3 = .ok (.aload_n 0, 1) := by decide +kernel
theorem dX3_barBy_4 : decode cX3_barBy 4 = .ok (.getfield 33, 3) := by decide +kernel
theorem dX3_barBy_7 : decode cX3_barBy 7 = .ok (.if_icmp .ge 16, 3) := by decide +kernel
theorem dX3_barBy_10 : decode cX3_barBy 10 = .ok (.aload_n 0, 1) := by decide +kernel
theorem dX3_barBy_11 : decode cX3_barBy 11 = .ok (.getfield 18, 3) := by decide +kernel
theorem dX3_barBy_14 : decode cX3_barBy 14 = .ok (.iload_n 3, 1) := by decide +kernel
theorem dX3_barBy_15 : decode cX3_barBy 15 = .ok (.iconst 0, 1) := by decide +kernel
theorem dX3_barBy_16 : decode cX3_barBy 16 = .ok (.iastore, 1) := by decide +kernel
theorem dX3_barBy_17 : decode cX3_barBy 17 = .ok (.iinc 3 1, 3) := by decide +kernel
theorem dX3_barBy_20 : decode cX3_barBy 20 = .ok (.goto (-18), 3) := by decide +kernel
theorem dX3_barBy_23 : decode cX3_barBy 23 = .ok (.iconst 0, 1) := by decide +kernel
theorem dX3_barBy_24 : decode cX3_barBy 24 = .ok (.istore_n 3, 1) := by decide +kernel
theorem dX3_barBy_25 : decode cX3_barBy 25 = .ok (.iload_n 3, 1) := by decide +kernel
theorem dX3_barBy_26 : decode cX3_barBy 26 = .ok (.iload_n 2, 1) := by decide +kernel
theorem dX3_barBy_27 : decode cX3_barBy 27 = .ok (.if_icmp .ge 61, 3) := by decide +kernel
theorem dX3_barBy_30 : decode cX3_barBy 30 = .ok (.iload_n 3, 1) := by decide +kernel
theorem dX3_barBy_31 : decode cX3_barBy 31 = .ok (.aload_n 1, 1) := by decide +kernel
theorem dX3_barBy_32 : decode cX3_barBy 32 = .ok (.arraylength, 1) := by decide +kernel
theorem dX3_barBy_33 : decode cX3_barBy 33 = .ok (.if_icmp .ge 55, 3) := by decide +kernel
theorem dX3_barBy_36 : decode cX3_barBy 36 = .ok (.aload_n 1, 1) := by decide +kernel
theorem dX3_barBy_37 : decode cX3_barBy 37 = .ok (.iload_n 3, 1) := by decide +kernel
theorem dX3_barBy_38 : decode cX3_barBy 38 = .ok (.iaload, 1) := by decide +kernel
theorem dX3_barBy_39 : decode cX3_barBy 39 = .ok (.istore 4, 2) := by decide +kernel
theorem dX3_barBy_41 : decode cX3_barBy 41 = .ok (.iload 4, 2) := by decide +kernel
theorem dX3_barBy_43 : decode cX3_barBy 43 = .ok (.ifCond .lt 39, 3) := by decide +kernel
theorem dX3_barBy_46 : decode cX3_barBy 46 = .ok (.iload 4, 2) := by decide +kernel
theorem dX3_barBy_48 : decode cX3_barBy 48 = .ok (.aload_n 0, 1) := by decide +kernel
theorem dX3_barBy_49 : decode cX3_barBy 49 = .ok (.getfield 37, 3) := by decide +kernel
theorem dX3_barBy_52 : decode cX3_barBy 52 = .ok (.if_icmp .lt 6, 3) := by decide +kernel
theorem dX3_barBy_55 : decode cX3_barBy 55 = .ok (.goto 27, 3) := by decide +kernel
theorem dX3_barBy_58 : decode cX3_barBy 58 = .ok (.aload_n 0, 1) := by decide +kernel
theorem dX3_barBy_59 : decode cX3_barBy 59 = .ok (.getfield 9, 3) := by decide +kernel
theorem dX3_barBy_62 : decode cX3_barBy 62 = .ok (.iload 4, 2) := by decide +kernel
theorem dX3_barBy_64 : decode cX3_barBy 64 = .ok (.bipush 64, 2) := by decide +kernel
theorem dX3_barBy_66 : decode cX3_barBy 66 = .ok (.idiv, 1) := by decide +kernel
theorem dX3_barBy_67 : decode cX3_barBy 67 = .ok (.iaload, 1) := by decide +kernel
theorem dX3_barBy_68 : decode cX3_barBy 68 = .ok (.ifCond .ne 14, 3) := by decide +kernel
theorem dX3_barBy_71 : decode cX3_barBy 71 = .ok (.aload_n 0, 1) := by decide +kernel
theorem dX3_barBy_72 : decode cX3_barBy 72 = .ok (.getfield 18, 3) := by decide +kernel
theorem dX3_barBy_75 : decode cX3_barBy 75 = .ok (.iload 4, 2) := by decide +kernel
theorem dX3_barBy_77 : decode cX3_barBy 77 = .ok (.bipush 64, 2) := by decide +kernel
theorem dX3_barBy_79 : decode cX3_barBy 79 = .ok (.idiv, 1) := by decide +kernel
theorem dX3_barBy_80 : decode cX3_barBy 80 = .ok (.iconst 1, 1) := by decide +kernel
theorem dX3_barBy_81 : decode cX3_barBy 81 = .ok (.iastore, 1) := by decide +kernel
theorem dX3_barBy_82 : decode cX3_barBy 82 = .ok (.iinc 3 1, 3) := by decide +kernel
theorem dX3_barBy_85 : decode cX3_barBy 85 = .ok (.goto (-60), 3) := by decide +kernel
theorem dX3_barBy_88 : decode cX3_barBy 88 = .ok (.return_, 1) := by decide +kernel
theorem dX3_thingsIn_0 : decode cX3_thingsIn 0 = .ok (.iconst 0, 1) := by decide +kernel
theorem dX3_thingsIn_1 : decode cX3_thingsIn 1 = .ok (.istore_n 3, 1) := by decide +kernel
theorem dX3_thingsIn_2 : decode cX3_thingsIn 2 = .ok (.iconst 0, 1) := by decide +kernel
theorem dX3_thingsIn_3 : decode cX3_thingsIn 3 = .ok (.istore 4, 2) := by decide +kernel
theorem dX3_thingsIn_5 : decode cX3_thingsIn 5 = .ok (.iload 4, 2) := by decide +kernel
theorem dX3_thingsIn_7 : decode cX3_thingsIn 7 = .ok (.bipush 32, 2) := by decide +kernel
theorem dX3_thingsIn_9 : decode cX3_thingsIn 9 = .ok (.if_icmp .ge 28, 3) := by decide +kernel
theorem dX3_thingsIn_12 : decode cX3_thingsIn 12 = .ok (.aload_n 0, 1) := by decide +kernel
theorem dX3_thingsIn_13 : decode cX3_thingsIn 13 = .ok (.getfield 30, 3) := by decide +kernel
theorem dX3_thingsIn_16 : decode cX3_thingsIn 16 = .ok (.iload_n 1, 1) := by decide +kernel
theorem dX3_thingsIn_17 : decode cX3_thingsIn 17 = .ok (.bipush 32, 2) := by decide +kernel
theorem dX3_thingsIn_19 : decode cX3_thingsIn 19 = .ok (.imul, 1) := by decide +kernel
theorem dX3_thingsIn_20 : decode cX3_thingsIn 20 = .ok (.iload 4, 2) := by decide +kernel
theorem dX3_thingsIn_22 : decode cX3_thingsIn 22 = .ok (.iadd, 1) := by decide +kernel
theorem dX3_thingsIn_23 : decode cX3_thingsIn 23 = .ok (.iaload, 1) := by decide +kernel
theorem dX3_thingsIn_24 : decode cX3_thingsIn 24 = .ok (.iload_n 2, 1) := by decide +kernel
theorem dX3_thingsIn_25 : decode cX3_thingsIn 25 = .ok (.if_icmp .lt 6, 3) := by decide +kernel
theorem dX3_thingsIn_28 : decode cX3_thingsIn 28 = .ok (.iinc 3 1, 3) := by decide +kernel
theorem dX3_thingsIn_31 : decode cX3_thingsIn 31 = .ok (.iinc 4 1, 3) := by decide +kernel
theorem dX3_thingsIn_34 : decode cX3_thingsIn 34 = .ok (.goto (-29), 3) := by decide +kernel
theorem dX3_thingsIn_37 : decode cX3_thingsIn 37 = .ok (.iload_n 3, 1) := by decide +kernel
theorem dX3_thingsIn_38 : decode cX3_thingsIn 38 = .ok (.ireturn, 1) := by decide +kernel
set_option maxRecDepth 20000 in
theorem ggX3_things_X3_thingsIn : GoodIn wsX3_things wsX3_thingsIn := goodIn_r _ [6, 7, 8, 9, 10, 11, 12, 13, 14, 15, 16] (by decide +kernel) (by decide +kernel)
set_option maxRecDepth 20000 in
theorem gX3_things_X3_thingsIn : GoodIn wsX3_things (wsV RX3 84 RX3 yX3_thingsIn wsX3_thingsIn) := goodIn_app (goodIn_of _ (by decide +kernel)) ggX3_things_X3_thingsIn
theorem dX3_things_0 : decode cX3_things 0 = .ok (.iconst 0, 1) := by decide +kernel
theorem dX3_things_1 : decode cX3_things 1 = .ok (.istore_n 2, 1) := by decide +kernel
theorem dX3_things_2 : decode cX3_things 2 = .ok (.iconst 0, 1) := by decide +kernel
theorem dX3_things_3 : decode cX3_things 3 = .ok (.istore_n 3, 1) := by decide +kernel
theorem dX3_things_4 : decode cX3_things 4 = .ok (.iload_n 3, 1) := by decide +kernel
theorem dX3_things_5 : decode cX3_things 5 = .ok (.aload_n 0, 1) := by decide +kernel
theorem dX3_things_6 : decode cX3_things 6 = .ok (.getfield 33, 3) := by decide +kernel
theorem dX3_things_9 : decode cX3_things 9 = .ok (.if_icmp .ge 18, 3) := by decide +kernel
theorem dX3_things_12 : decode cX3_things 12 = .ok (.iload_n 2, 1) := by decide +kernel
theorem dX3_things_13 : decode cX3_things 13 = .ok (.aload_n 0, 1) := by decide +kernel
theorem dX3_things_14 : decode cX3_things 14 = .ok (.iload_n 3, 1) := by decide +kernel
theorem dX3_things_15 : decode cX3_things 15 = .ok (.iload_n 1, 1) := by decide +kernel
theorem dX3_things_16 : decode cX3_things 16 = .ok (.invokevirtual 84, 3) := by decide +kernel
theorem dX3_things_19 : decode cX3_things 19 = .ok (.iadd, 1) := by decide +kernel
theorem dX3_things_20 : decode cX3_things 20 = .ok (.istore_n 2, 1) := by decide +kernel
theorem dX3_things_21 : decode cX3_things 21 = .ok (.iinc 3 1, 3) := by decide +kernel
theorem dX3_things_24 : decode cX3_things 24 = .ok (.goto (-20), 3) := by decide +kernel
theorem dX3_things_27 : decode cX3_things 27 = .ok (.iload_n 2, 1) := by decide +kernel
theorem dX3_things_28 : decode cX3_things 28 = .ok (.ireturn, 1) := by decide +kernel
theorem dX3_freeBlocks_0 : decode cX3_freeBlocks 0 = .ok (.iconst 0, 1) := by decide +kernel
theorem dX3_freeBlocks_1 : decode cX3_freeBlocks 1 = .ok (.istore_n 1, 1) := by decide +kernel
theorem dX3_freeBlocks_2 : decode cX3_freeBlocks 2 = .ok (.iconst 0, 1) := by decide +kernel
theorem dX3_freeBlocks_3 : decode cX3_freeBlocks 3 = .ok (.istore_n 2, 1) := by decide +kernel
theorem dX3_freeBlocks_4 : decode cX3_freeBlocks 4 = .ok (.iload_n 2, 1) := by decide +kernel
theorem dX3_freeBlocks_5 : decode cX3_freeBlocks 5 = .ok (.aload_n 0, 1) := by decide +kernel
theorem dX3_freeBlocks_6 : decode cX3_freeBlocks 6 = .ok (.getfield 33, 3) := by decide +kernel
theorem dX3_freeBlocks_9 : decode cX3_freeBlocks 9 = .ok (.if_icmp .ge 21, 3) := by decide +kernel
theorem dX3_freeBlocks_12 : decode cX3_freeBlocks 12 = .ok (.aload_n 0, 1) := by decide +kernel
theorem dX3_freeBlocks_13 : decode cX3_freeBlocks 13 = .ok (.getfield 9, 3) := by decide +kernel
theorem dX3_freeBlocks_16 : decode cX3_freeBlocks 16 = .ok (.iload_n 2, 1) := by decide +kernel
theorem dX3_freeBlocks_17 : decode cX3_freeBlocks 17 = .ok (.iaload, 1) := by decide +kernel
theorem dX3_freeBlocks_18 : decode cX3_freeBlocks 18 = .ok (.ifCond .ne 6, 3) := by decide +kernel
theorem dX3_freeBlocks_21 : decode cX3_freeBlocks 21 = .ok (.iinc 1 1, 3) := by decide +kernel
theorem dX3_freeBlocks_24 : decode cX3_freeBlocks 24 = .ok (.iinc 2 1, 3) := by decide +kernel
theorem dX3_freeBlocks_27 : decode cX3_freeBlocks 27 = .ok (.goto (-23), 3) := by decide +kernel
theorem dX3_freeBlocks_30 : decode cX3_freeBlocks 30 = .ok (.iload_n 1, 1) := by decide +kernel
theorem dX3_freeBlocks_31 : decode cX3_freeBlocks 31 = .ok (.ireturn, 1) := by decide +kernel
theorem dX3_barredBlocks_0 : decode cX3_barredBlocks 0 = .ok (.iconst 0, 1) := by decide +kernel
theorem dX3_barredBlocks_1 : decode cX3_barredBlocks 1 = .ok (.istore_n 1, 1) := by decide +kernel
theorem dX3_barredBlocks_2 : decode cX3_barredBlocks 2 = .ok (.iconst 0, 1) := by decide +kernel
theorem dX3_barredBlocks_3 : decode cX3_barredBlocks 3 = .ok (.istore_n 2, 1) := by decide +kernel
theorem dX3_barredBlocks_4 : decode cX3_barredBlocks 4 = .ok (.iload_n 2, 1) := by decide +kernel
theorem dX3_barredBlocks_5 : decode cX3_barredBlocks 5 = .ok (.aload_n 0, 1) := by decide +kernel
theorem dX3_barredBlocks_6 : decode cX3_barredBlocks 6 = .ok (.getfield 33, 3) := by decide +kernel
theorem dX3_barredBlocks_9 : decode cX3_barredBlocks 9 = .ok (.if_icmp .ge 18, 3) := by decide +kernel
theorem dX3_barredBlocks_12 : decode cX3_barredBlocks 12 = .ok (.iload_n 1, 1) := by decide +kernel
theorem dX3_barredBlocks_13 : decode cX3_barredBlocks 13 = .ok (.aload_n 0, 1) := by decide +kernel
theorem dX3_barredBlocks_14 : decode cX3_barredBlocks 14 = .ok (.getfield 18, 3) := by decide +kernel
theorem dX3_barredBlocks_17 : decode cX3_barredBlocks 17 = .ok (.iload_n 2, 1) := by decide +kernel
theorem dX3_barredBlocks_18 : decode cX3_barredBlocks 18 = .ok (.iaload, 1) := by decide +kernel
theorem dX3_barredBlocks_19 : decode cX3_barredBlocks 19 = .ok (.iadd, 1) := by decide +kernel
theorem dX3_barredBlocks_20 : decode cX3_barredBlocks 20 = .ok (.istore_n 1, 1) := by decide +kernel
theorem dX3_barredBlocks_21 : decode cX3_barredBlocks 21 = .ok (.iinc 2 1, 3) := by decide +kernel
theorem dX3_barredBlocks_24 : decode cX3_barredBlocks 24 = .ok (.goto (-20), 3) := by decide +kernel
theorem dX3_barredBlocks_27 : decode cX3_barredBlocks 27 = .ok (.iload_n 1, 1) := by decide +kernel
theorem dX3_barredBlocks_28 : decode cX3_barredBlocks 28 = .ok (.ireturn, 1) := by decide +kernel
set_option maxRecDepth 20000 in
theorem ggX3_roomFor_X3_freeBlocks : GoodIn wsX3_roomFor wsX3_freeBlocks := goodIn_r _ [8, 1, 2, 17, 18, 19, 20, 21, 22, 23, 24, 25] (by decide +kernel) (by decide +kernel)
set_option maxRecDepth 20000 in
theorem gX3_roomFor_X3_freeBlocks : GoodIn wsX3_roomFor (wsV RX3 88 RX3 yX3_freeBlocks wsX3_freeBlocks) := goodIn_app (goodIn_of _ (by decide +kernel)) ggX3_roomFor_X3_freeBlocks
set_option maxRecDepth 20000 in
theorem ggX3_roomFor_X4_cellsOf : GoodIn wsX3_roomFor wsX4_cellsOf := goodIn_r _ [11] (by decide +kernel) (by decide +kernel)
set_option maxRecDepth 20000 in
theorem gX3_roomFor_X4_cellsOf_n77 : GoodIn wsX3_roomFor (wsX4_cellsOf) := ggX3_roomFor_X4_cellsOf
set_option maxRecDepth 20000 in
theorem ggX3_roomFor_X3_thingsIn : GoodIn wsX3_roomFor wsX3_thingsIn := goodIn_r _ [15, 16, 17, 18, 19, 20, 21, 22, 23, 24, 25] (by decide +kernel) (by decide +kernel)
set_option maxRecDepth 20000 in
theorem gX3_roomFor_X3_thingsIn : GoodIn wsX3_roomFor (wsV RX3 84 RX3 yX3_thingsIn wsX3_thingsIn) := goodIn_app (goodIn_of _ (by decide +kernel)) ggX3_roomFor_X3_thingsIn
theorem dX3_roomFor_0 : decode cX3_roomFor 0 = .ok (.iload_n 1, 1) := by decide +kernel
theorem dX3_roomFor_1 : decode cX3_roomFor 1 = .ok (.iconst 5, 1) := by decide +kernel
theorem dX3_roomFor_2 : decode cX3_roomFor 2 = .ok (.if_icmp .ne 8, 3) := by decide +kernel
theorem dX3_roomFor_5 : decode cX3_roomFor 5 = .ok (.aload_n 0, 1) := by decide +kernel
theorem dX3_roomFor_6 : decode cX3_roomFor 6 = .ok (.invokevirtual 88, 3) := by decide +kernel
theorem dX3_roomFor_9 : decode cX3_roomFor 9 = .ok (.ireturn, 1) := by decide +kernel
theorem dX3_roomFor_10 : decode cX3_roomFor 10 = .ok (.aload_n 0, 1) := by decide +kernel
theorem dX3_roomFor_11 : decode cX3_roomFor 11 = .ok (.invokevirtual 88, 3) := by decide +kernel
theorem dX3_roomFor_14 : decode cX3_roomFor 14 = .ok (.iload_n 1, 1) := by decide +kernel
theorem dX3_roomFor_15 : decode cX3_roomFor 15 = .ok (.invokestatic 77, 3) := by decide +kernel
theorem dX3_roomFor_18 : decode cX3_roomFor 18 = .ok (.imul, 1) := by decide +kernel
theorem dX3_roomFor_19 : decode cX3_roomFor 19 = .ok (.istore_n 2, 1) := by decide +kernel
theorem dX3_roomFor_20 : decode cX3_roomFor 20 = .ok (.iconst 0, 1) := by decide +kernel
theorem dX3_roomFor_21 : decode cX3_roomFor 21 = .ok (.istore_n 3, 1) := by decide +kernel
theorem dX3_roomFor_22 : decode cX3_roomFor 22 = .ok (.iload_n 3, 1) := by decide +kernel
theorem dX3_roomFor_23 : decode cX3_roomFor 23 = .ok (.aload_n 0, 1) := by decide +kernel
theorem dX3_roomFor_24 : decode cX3_roomFor 24 = .ok (.getfield 33, 3) := by decide +kernel
theorem dX3_roomFor_27 : decode cX3_roomFor 27 = .ok (.if_icmp .ge 43, 3) := by decide +kernel
theorem dX3_roomFor_30 : decode cX3_roomFor 30 = .ok (.aload_n 0, 1) := by decide +kernel
theorem dX3_roomFor_31 : decode cX3_roomFor 31 = .ok (.getfield 9, 3) := by decide +kernel
theorem dX3_roomFor_34 : decode cX3_roomFor 34 = .ok (.iload_n 3, 1) := by decide +kernel
theorem dX3_roomFor_35 : decode cX3_roomFor 35 = .ok (.iaload, 1) := by decide +kernel
theorem dX3_roomFor_36 : decode cX3_roomFor 36 = .ok (.iconst 1, 1) := by decide +kernel
theorem dX3_roomFor_37 : decode cX3_roomFor 37 = .ok (.if_icmp .ne 27, 3) := by decide +kernel
theorem dX3_roomFor_40 : decode cX3_roomFor 40 = .ok (.aload_n 0, 1) := by decide +kernel
theorem dX3_roomFor_41 : decode cX3_roomFor 41 = .ok (.getfield 15, 3) := by decide +kernel
theorem dX3_roomFor_44 : decode cX3_roomFor 44 = .ok (.iload_n 3, 1) := by decide +kernel
theorem dX3_roomFor_45 : decode cX3_roomFor 45 = .ok (.iaload, 1) := by decide +kernel
theorem dX3_roomFor_46 : decode cX3_roomFor 46 = .ok (.iload_n 1, 1) := by decide +kernel
theorem dX3_roomFor_47 : decode cX3_roomFor 47 = .ok (.if_icmp .ne 17, 3) := by decide +kernel
theorem dX3_roomFor_50 : decode cX3_roomFor 50 = .ok (.iload_n 2, 1) := by decide +kernel
theorem dX3_roomFor_51 : decode cX3_roomFor 51 = .ok (.iload_n 1, 1) := by decide +kernel
theorem dX3_roomFor_52 : decode cX3_roomFor 52 = .ok (.invokestatic 77, 3) := by decide +kernel
theorem dX3_roomFor_55 : decode cX3_roomFor 55 = .ok (.aload_n 0, 1) := by decide +kernel
theorem dX3_roomFor_56 : decode cX3_roomFor 56 = .ok (.iload_n 3, 1) := by decide +kernel
theorem dX3_roomFor_57 : decode cX3_roomFor 57 = .ok (.iconst 1, 1) := by decide +kernel
theorem dX3_roomFor_58 : decode cX3_roomFor 58 = .ok (.invokevirtual 84, 3) := by decide +kernel
theorem dX3_roomFor_61 : decode cX3_roomFor 61 = .ok (.isub, 1) := by decide +kernel
theorem dX3_roomFor_62 : decode cX3_roomFor 62 = .ok (.iadd, 1) := by decide +kernel
theorem dX3_roomFor_63 : decode cX3_roomFor 63 = .ok (.istore_n 2, 1) := by decide +kernel
theorem dX3_roomFor_64 : decode cX3_roomFor 64 = .ok (.iinc 3 1, 3) := by decide +kernel
theorem dX3_roomFor_67 : decode cX3_roomFor 67 = .ok (.goto (-45), 3) := by decide +kernel
theorem dX3_roomFor_70 : decode cX3_roomFor 70 = .ok (.iload_n 2, 1) := by decide +kernel
theorem dX3_roomFor_71 : decode cX3_roomFor 71 = .ok (.ireturn, 1) := by decide +kernel
set_option maxRecDepth 20000 in
theorem ggX4_init_X3_init : GoodIn wsX4_init wsX3_init := goodIn_r _ [23, 24, 2, 3, 25, 26, 27, 28, 29, 30, 31, 32, 33, 34, 60, 61, 62, 63, 64, 65, 66, 67, 68] (by decide +kernel) (by decide +kernel)
set_option maxRecDepth 20000 in
theorem gX4_init_X3_init : GoodIn wsX4_init (wsX3_init) := ggX4_init_X3_init
set_option maxRecDepth 20000 in
theorem ggX4_init_X2_init : GoodIn wsX4_init wsX2_init := goodIn_r _ [36, 37, 2, 3, 38, 25, 39, 40, 76, 77, 78, 79, 80] (by decide +kernel) (by decide +kernel)
set_option maxRecDepth 20000 in
theorem gX4_init_X2_init_n18 : GoodIn wsX4_init (wsX2_init) := ggX4_init_X2_init
set_option maxRecDepth 20000 in
theorem ggX4_init_X1_init : GoodIn wsX4_init wsX1_init := goodIn_r _ [43, 44, 2, 3, 25, 45, 46, 47, 48, 49, 14, 50, 51, 81, 82, 83] (by decide +kernel) (by decide +kernel)
set_option maxRecDepth 20000 in
theorem gX4_init_X1_init : GoodIn wsX4_init (wsX1_init) := ggX4_init_X1_init
set_option maxRecDepth 20000 in
theorem ggX4_init_X0_init : GoodIn wsX4_init wsX0_init := goodIn_r _ [54, 55, 2, 3, 25, 56, 57, 58, 59, 84, 85, 86, 87, 88, 89, 90, 91, 92] (by decide +kernel) (by decide +kernel)
set_option maxRecDepth 20000 in
theorem gX4_init_X0_init : GoodIn wsX4_init (wsX0_init) := ggX4_init_X0_init
theorem dX4_init_0 : decode cX4_init 0 = .ok (.aload_n 0, 1) := by decide +kernel
theorem dX4_init_1 : decode cX4_init 1 = .ok (.invokespecial 3, 3) := by decide +kernel
theorem dX4_init_4 : decode cX4_init 4 = .ok (.aload_n 0, 1) := by decide +kernel
theorem dX4_init_5 : decode cX4_init 5 = .ok (.new 9, 3) := by decide +kernel
theorem dX4_init_8 : decode cX4_init 8 = .ok (.dup, 1) := by decide +kernel
theorem dX4_init_9 : decode cX4_init 9 = .ok (.invokespecial 11, 3) := by decide +kernel
theorem dX4_init_12 : decode cX4_init 12 = .ok (.putfield 12, 3) := by decide +kernel
theorem dX4_init_15 : decode cX4_init 15 = .ok (.aload_n 0, 1) := by decide +kernel
theorem dX4_init_16 : decode cX4_init 16 = .ok (.new 16, 3) := by decide +kernel
theorem dX4_init_19 : decode cX4_init 19 = .ok (.dup, 1) := by decide +kernel
theorem dX4_init_20 : decode cX4_init 20 = .ok (.invokespecial 18, 3) := by decide +kernel
theorem dX4_init_23 : decode cX4_init 23 = .ok (.putfield 19, 3) := by decide +kernel
theorem dX4_init_26 : decode cX4_init 26 = .ok (.aload_n 0, 1) := by decide +kernel
theorem dX4_init_27 : decode cX4_init 27 = .ok (.new 23, 3) := by decide +kernel
theorem dX4_init_30 : decode cX4_init 30 = .ok (.dup, 1) := by decide +kernel
theorem dX4_init_31 : decode cX4_init 31 = .ok (.invokespecial 25, 3) := by decide +kernel
theorem dX4_init_34 : decode cX4_init 34 = .ok (.putfield 26, 3) := by decide +kernel
theorem dX4_init_37 : decode cX4_init 37 = .ok (.aload_n 0, 1) := by decide +kernel
theorem dX4_init_38 : decode cX4_init 38 = .ok (.new 30, 3) := by decide +kernel
theorem dX4_init_41 : decode cX4_init 41 = .ok (.dup, 1) := by decide +kernel
theorem dX4_init_42 : decode cX4_init 42 = .ok (.aload_n 0, 1) := by decide +kernel
theorem dX4_init_43 : decode cX4_init 43 = .ok (.getfield 12, 3) := by decide +kernel
theorem dX4_init_46 : decode cX4_init 46 = .ok (.aload_n 0, 1) := by decide +kernel
theorem dX4_init_47 : decode cX4_init 47 = .ok (.getfield 19, 3) := by decide +kernel
theorem dX4_init_50 : decode cX4_init 50 = .ok (.aload_n 0, 1) := by decide +kernel
theorem dX4_init_51 : decode cX4_init 51 = .ok (.getfield 26, 3) := by decide +kernel
theorem dX4_init_54 : decode cX4_init 54 = .ok (.invokespecial 32, 3) := by decide +kernel
theorem dX4_init_57 : decode cX4_init 57 = .ok (.putfield 35, 3) := by decide +kernel
theorem dX4_init_60 : decode cX4_init 60 = .ok (.aload_n 0, 1) := by decide +kernel
theorem dX4_init_61 : decode cX4_init 61 = .ok (.iconst 1, 1) := by decide +kernel
theorem dX4_init_62 : decode cX4_init 62 = .ok (.putfield 39, 3) := by decide +kernel
theorem dX4_init_65 : decode cX4_init 65 = .ok (.return_, 1) := by decide +kernel
set_option maxRecDepth 20000 in
theorem ggX4_open_X3_things : GoodIn wsX4_open wsX3_things := goodIn_r _ [9, 10, 11, 12, 13, 8, 14, 15, 50, 51, 52, 53, 54, 55, 56, 57, 58] (by decide +kernel) (by decide +kernel)
set_option maxRecDepth 20000 in
theorem gX4_open_X3_things : GoodIn wsX4_open (wsV RX4 43 RX3 yX3_things wsX3_things) := goodIn_app (goodIn_of _ (by decide +kernel)) ggX4_open_X3_things
set_option maxRecDepth 20000 in
theorem ggX4_open_X3_reset : GoodIn wsX4_open wsX3_reset := goodIn_r _ [19, 10, 20, 15, 21, 22, 23, 8, 24, 25, 26, 27, 50, 51, 52, 53, 54, 55, 56, 57, 58] (by decide +kernel) (by decide +kernel)
set_option maxRecDepth 20000 in
theorem gX4_open_X3_reset : GoodIn wsX4_open (wsV RX4 47 RX3 yX3_reset wsX3_reset) := goodIn_app (goodIn_of _ (by decide +kernel)) ggX4_open_X3_reset
set_option maxRecDepth 20000 in
theorem ggX4_open_X2_forget : GoodIn wsX4_open wsX2_forget := goodIn_r _ [32, 33, 34, 35, 59, 60, 61, 62, 63] (by decide +kernel) (by decide +kernel)
set_option maxRecDepth 20000 in
theorem gX4_open_X2_forget : GoodIn wsX4_open (wsV RX4 51 RX2 yX2_forget wsX2_forget) := goodIn_app (goodIn_of _ (by decide +kernel)) ggX4_open_X2_forget
set_option maxRecDepth 20000 in
theorem ggX4_open_X1_reset : GoodIn wsX4_open wsX1_reset := goodIn_r _ [40, 41, 42, 64, 65, 66] (by decide +kernel) (by decide +kernel)
set_option maxRecDepth 20000 in
theorem gX4_open_X1_reset : GoodIn wsX4_open (wsV RX4 54 RX1 yX1_reset wsX1_reset) := goodIn_app (goodIn_of _ (by decide +kernel)) ggX4_open_X1_reset
theorem dX4_open_0 : decode cX4_open 0 = .ok (.iload_n 1, 1) := by decide +kernel
theorem dX4_open_1 : decode cX4_open 1 = .ok (.iconst 1, 1) := by decide +kernel
theorem dX4_open_2 : decode cX4_open 2 = .ok (.if_icmp .lt 9, 3) := by decide +kernel
theorem dX4_open_5 : decode cX4_open 5 = .ok (.iload_n 1, 1) := by decide +kernel
theorem dX4_open_6 : decode cX4_open 6 = .ok (.bipush 24, 2) := by decide +kernel
theorem dX4_open_8 : decode cX4_open 8 = .ok (.if_icmp .le 6, 3) := by decide +kernel
theorem dX4_open_11 : decode cX4_open 11 = .ok (.bipush (-102), 2) := by decide +kernel
theorem dX4_open_13 : decode cX4_open 13 = .ok (.ireturn, 1) := by decide +kernel
theorem dX4_open_14 : decode cX4_open 14 = .ok (.aload_n 0, 1) := by decide +kernel
theorem dX4_open_15 : decode cX4_open 15 = .ok (.getfield 12, 3) := by decide +kernel
theorem dX4_open_18 : decode cX4_open 18 = .ok (.iconst 1, 1) := by decide +kernel
theorem dX4_open_19 : decode cX4_open 19 = .ok (.invokevirtual 43, 3) := by decide +kernel
theorem dX4_open_22 : decode cX4_open 22 = .ok (.istore_n 2, 1) := by decide +kernel
theorem dX4_open_23 : decode cX4_open 23 = .ok (.aload_n 0, 1) := by decide +kernel
theorem dX4_open_24 : decode cX4_open 24 = .ok (.getfield 12, 3) := by decide +kernel
theorem dX4_open_27 : decode cX4_open 27 = .ok (.iload_n 1, 1) := by decide +kernel
theorem dX4_open_28 : decode cX4_open 28 = .ok (.invokevirtual 47, 3) := by decide +kernel
theorem dX4_open_31 : decode cX4_open 31 = .ok (.aload_n 0, 1) := by decide +kernel
theorem dX4_open_32 : decode cX4_open 32 = .ok (.getfield 19, 3) := by decide +kernel
theorem dX4_open_35 : decode cX4_open 35 = .ok (.invokevirtual 51, 3) := by decide +kernel
theorem dX4_open_38 : decode cX4_open 38 = .ok (.aload_n 0, 1) := by decide +kernel
theorem dX4_open_39 : decode cX4_open 39 = .ok (.getfield 26, 3) := by decide +kernel
theorem dX4_open_42 : decode cX4_open 42 = .ok (.invokevirtual 54, 3) := by decide +kernel
theorem dX4_open_45 : decode cX4_open 45 = .ok (.aload_n 0, 1) := by decide +kernel
theorem dX4_open_46 : decode cX4_open 46 = .ok (.iconst 0, 1) := by decide +kernel
theorem dX4_open_47 : decode cX4_open 47 = .ok (.putfield 56, 3) := by decide +kernel
theorem dX4_open_50 : decode cX4_open 50 = .ok (.iload_n 2, 1) := by decide +kernel
theorem dX4_open_51 : decode cX4_open 51 = .ok (.ireturn, 1) := by decide +kernel
set_option maxRecDepth 20000 in
theorem ggX4_way_X3_things : GoodIn wsX4_way wsX3_things := goodIn_r _ [8, 9, 10, 11, 12, 7, 13, 14, 27, 28, 29, 30, 31, 32, 33, 34, 35] (by decide +kernel) (by decide +kernel)
set_option maxRecDepth 20000 in
theorem gX4_way_X3_things : GoodIn wsX4_way (wsV RX4 43 RX3 yX3_things wsX3_things) := goodIn_app (goodIn_of _ (by decide +kernel)) ggX4_way_X3_things
theorem dX4_way_0 : decode cX4_way 0 = .ok (.iload_n 1, 1) := by decide +kernel
theorem dX4_way_1 : decode cX4_way 1 = .ok (.ifCond .eq 11, 3) := by decide +kernel
theorem dX4_way_4 : decode cX4_way 4 = .ok (.iload_n 1, 1) := by decide +kernel
theorem dX4_way_5 : decode cX4_way 5 = .ok (.iconst 1, 1) := by decide +kernel
theorem dX4_way_6 : decode cX4_way 6 = .ok (.if_icmp .eq 6, 3) := by decide +kernel
theorem dX4_way_9 : decode cX4_way 9 = .ok (.bipush (-102), 2) := by decide +kernel
theorem dX4_way_11 : decode cX4_way 11 = .ok (.ireturn, 1) := by decide +kernel
theorem dX4_way_12 : decode cX4_way 12 = .ok (.aload_n 0, 1) := by decide +kernel
theorem dX4_way_13 : decode cX4_way 13 = .ok (.getfield 12, 3) := by decide +kernel
theorem dX4_way_16 : decode cX4_way 16 = .ok (.iconst 1, 1) := by decide +kernel
theorem dX4_way_17 : decode cX4_way 17 = .ok (.invokevirtual 43, 3) := by decide +kernel
theorem dX4_way_20 : decode cX4_way 20 = .ok (.ifCond .le 6, 3) := by decide +kernel
theorem dX4_way_23 : decode cX4_way 23 = .ok (.bipush (-103), 2) := by decide +kernel
theorem dX4_way_25 : decode cX4_way 25 = .ok (.ireturn, 1) := by decide +kernel
theorem dX4_way_26 : decode cX4_way 26 = .ok (.aload_n 0, 1) := by decide +kernel
theorem dX4_way_27 : decode cX4_way 27 = .ok (.getfield 19, 3) := by decide +kernel
theorem dX4_way_30 : decode cX4_way 30 = .ok (.getfield 60, 3) := by decide +kernel
theorem dX4_way_33 : decode cX4_way 33 = .ok (.istore_n 2, 1) := by decide +kernel
theorem dX4_way_34 : decode cX4_way 34 = .ok (.aload_n 0, 1) := by decide +kernel
theorem dX4_way_35 : decode cX4_way 35 = .ok (.getfield 19, 3) := by decide +kernel
theorem dX4_way_38 : decode cX4_way 38 = .ok (.iload_n 1, 1) := by decide +kernel
theorem dX4_way_39 : decode cX4_way 39 = .ok (.putfield 60, 3) := by decide +kernel
theorem dX4_way_42 : decode cX4_way 42 = .ok (.iload_n 2, 1) := by decide +kernel
theorem dX4_way_43 : decode cX4_way 43 = .ok (.ireturn, 1) := by decide +kernel
set_option maxRecDepth 20000 in
theorem ggX4_auto_X4_flag : GoodIn wsX4_auto wsX4_flag := goodIn_r _ [5] (by decide +kernel) (by decide +kernel)
set_option maxRecDepth 20000 in
theorem gX4_auto_X4_flag : GoodIn wsX4_auto (va_wsS RX4 63 yX4_flag wsX4_flag) := goodIn_app (goodIn_of _ (by decide +kernel)) ggX4_auto_X4_flag
theorem dX4_auto_0 : decode cX4_auto 0 = .ok (.aload_n 0, 1) := by decide +kernel
theorem dX4_auto_1 : decode cX4_auto 1 = .ok (.getfield 39, 3) := by decide +kernel
theorem dX4_auto_4 : decode cX4_auto 4 = .ok (.invokestatic 63, 3) := by decide +kernel
theorem dX4_auto_7 : decode cX4_auto 7 = .ok (.istore_n 2, 1) := by decide +kernel
theorem dX4_auto_8 : decode cX4_auto 8 = .ok (.aload_n 0, 1) := by decide +kernel
theorem dX4_auto_9 : decode cX4_auto 9 = .ok (.iload_n 1, 1) := by decide +kernel
theorem dX4_auto_10 : decode cX4_auto 10 = .ok (.putfield 39, 3) := by decide +kernel
theorem dX4_auto_13 : decode cX4_auto 13 = .ok (.iload_n 2, 1) := by decide +kernel
theorem dX4_auto_14 : decode cX4_auto 14 = .ok (.ireturn, 1) := by decide +kernel
set_option maxRecDepth 20000 in
theorem ggX4_make_X4_isShape : GoodIn wsX4_make wsX4_isShape := goodIn_r _ [6] (by decide +kernel) (by decide +kernel)
set_option maxRecDepth 20000 in
theorem gX4_make_X4_isShape : GoodIn wsX4_make (va_wsS RX4 67 yX4_isShape wsX4_isShape) := goodIn_app (goodIn_of _ (by decide +kernel)) ggX4_make_X4_isShape
set_option maxRecDepth 20000 in
theorem ggX4_make_X4_placeFor : GoodIn wsX4_make wsX4_placeFor := goodIn_r _ [10, 1, 11, 12, 13, 14, 15, 16, 17, 18, 5, 19, 20, 21, 22, 23, 24, 25, 26, 27, 28, 29, 30, 31, 32, 33, 34, 35, 36, 37, 38, 39, 40, 41, 42, 43, 44, 45, 46, 47, 48, 49, 50, 51, 52, 53, 54, 55, 56, 57, 58, 59, 60, 61, 62, 63, 64, 65, 66, 67, 68, 69, 70, 71, 72, 73, 74, 75, 76, 77, 78, 79, 80, 81, 82, 83, 84, 85, 86, 87, 88, 89, 90, 91, 92, 93, 94, 95, 96, 97, 98, 99, 100, 101, 102, 103, 104, 105, 106, 107, 108, 109, 110, 111, 112, 113, 114, 115, 116, 117, 118, 119, 120, 121, 122, 123, 124, 125, 126, 127, 128, 129, 130, 131, 132, 133, 134, 135, 136, 137, 138, 139, 140, 141, 142, 143, 144, 145, 146, 147, 148, 149, 150, 151, 152, 153, 154, 155, 156, 157, 168, 169, 170, 171, 172, 173, 174, 175, 176, 177, 178, 179, 180, 181, 182, 183, 184, 185, 186, 187, 188, 189, 190, 191, 192, 193, 194, 195, 196, 197, 198, 199, 200] (by decide +kernel) (by decide +kernel)
set_option maxRecDepth 20000 in
theorem gX4_make_X4_placeFor : GoodIn wsX4_make (wsV RX4 71 RX4 yX4_placeFor wsX4_placeFor) := goodIn_app (goodIn_of _ (by decide +kernel)) ggX4_make_X4_placeFor
set_option maxRecDepth 20000 in
theorem ggX4_make_X3_lay : GoodIn wsX4_make wsX3_lay := goodIn_r _ [161, 30, 97, 162, 44, 163, 164, 165, 166, 16, 167, 18, 5, 19, 20, 21, 22, 141, 142, 143, 144, 36, 31, 23, 24, 175, 176, 177, 178, 179, 180, 181, 182, 183] (by decide +kernel) (by decide +kernel)
set_option maxRecDepth 20000 in
theorem gX4_make_X3_lay : GoodIn wsX4_make (wsV RX4 74 RX3 yX3_lay wsX3_lay) := goodIn_app (goodIn_of _ (by decide +kernel)) ggX4_make_X3_lay
theorem dX4_make_0 : decode cX4_make 0 = .ok (.iload_n 1, 1) := by decide +kernel
theorem dX4_make_1 : decode cX4_make 1 = .ok (.iload_n 2, 1) := by decide +kernel
theorem dX4_make_2 : decode cX4_make 2 = .ok (.invokestatic 67, 3) := by decide +kernel
theorem dX4_make_5 : decode cX4_make 5 = .ok (.ifCond .ne 6, 3) := by decide +kernel
theorem dX4_make_8 : decode cX4_make 8 = .ok (.bipush (-102), 2) := by decide +kernel
theorem dX4_make_10 : decode cX4_make 10 = .ok (.ireturn, 1) := by decide +kernel
theorem dX4_make_11 : decode cX4_make 11 = .ok (.aload_n 0, 1) := by decide +kernel
theorem dX4_make_12 : decode cX4_make 12 = .ok (.iload_n 1, 1) := by decide +kernel
theorem dX4_make_13 : decode cX4_make 13 = .ok (.iload_n 2, 1) := by decide +kernel
theorem dX4_make_14 : decode cX4_make 14 = .ok (.iadd, 1) := by decide +kernel
theorem dX4_make_15 : decode cX4_make 15 = .ok (.invokevirtual 71, 3) := by decide +kernel
theorem dX4_make_18 : decode cX4_make 18 = .ok (.istore_n 3, 1) := by decide +kernel
theorem dX4_make_19 : decode cX4_make 19 = .ok (.iload_n 3, 1) := by decide +kernel
theorem dX4_make_20 : decode cX4_make 20 = .ok (.iconst (-1), 1) := by decide +kernel
theorem dX4_make_21 : decode cX4_make 21 = .ok (.if_icmp .ne 6, 3) := by decide +kernel
theorem dX4_make_24 : decode cX4_make 24 = .ok (.bipush (-104), 2) := by decide +kernel
theorem dX4_make_26 : decode cX4_make 26 = .ok (.ireturn, 1) := by decide +kernel
theorem dX4_make_27 : decode cX4_make 27 = .ok (.aload_n 0, 1) := by decide +kernel
theorem dX4_make_28 : decode cX4_make 28 = .ok (.getfield 12, 3) := by decide +kernel
theorem dX4_make_31 : decode cX4_make 31 = .ok (.iload_n 3, 1) := by decide +kernel
theorem dX4_make_32 : decode cX4_make 32 = .ok (.iload_n 1, 1) := by decide +kernel
theorem dX4_make_33 : decode cX4_make 33 = .ok (.iload_n 2, 1) := by decide +kernel
theorem dX4_make_34 : decode cX4_make 34 = .ok (.invokevirtual 74, 3) := by decide +kernel
theorem dX4_make_37 : decode cX4_make 37 = .ok (.aload_n 0, 1) := by decide +kernel
theorem dX4_make_38 : decode cX4_make 38 = .ok (.dup, 1) := by decide +kernel
theorem dX4_make_39 : decode cX4_make 39 = .ok (.getfield 78, 3) := by decide +kernel
theorem dX4_make_42 : decode cX4_make 42 = .ok (.iconst 1, 1) := by decide +kernel
theorem dX4_make_43 : decode cX4_make 43 = .ok (.iadd, 1) := by decide +kernel
theorem dX4_make_44 : decode cX4_make 44 = .ok (.putfield 78, 3) := by decide +kernel
theorem dX4_make_47 : decode cX4_make 47 = .ok (.iload_n 3, 1) := by decide +kernel
theorem dX4_make_48 : decode cX4_make 48 = .ok (.ireturn, 1) := by decide +kernel
set_option maxRecDepth 20000 in
theorem ggX4_put_X3_isThing : GoodIn wsX4_put wsX3_isThing := goodIn_r _ [8, 9, 10, 55, 56, 57, 58, 59, 60, 61, 62, 63] (by decide +kernel) (by decide +kernel)
set_option maxRecDepth 20000 in
theorem gX4_put_X3_isThing : GoodIn wsX4_put (wsV RX4 81 RX3 yX3_isThing wsX3_isThing) := goodIn_app (goodIn_of _ (by decide +kernel)) ggX4_put_X3_isThing
set_option maxRecDepth 20000 in
theorem ggX4_put_X4_isThingOrNone : GoodIn wsX4_put wsX4_isThingOrNone := goodIn_r _ [15, 1, 4, 5, 6, 7, 8, 9, 10, 48, 49, 50, 51, 52, 53, 54, 55, 56, 57, 58, 59, 60, 61, 62, 63] (by decide +kernel) (by decide +kernel)
set_option maxRecDepth 20000 in
theorem gX4_put_X4_isThingOrNone : GoodIn wsX4_put (wsV RX4 85 RX4 yX4_isThingOrNone wsX4_isThingOrNone) := goodIn_app (goodIn_of _ (by decide +kernel)) ggX4_put_X4_isThingOrNone
set_option maxRecDepth 20000 in
theorem ggX4_put_X3_hasReference : GoodIn wsX4_put wsX3_hasReference := goodIn_r _ [19, 20, 21, 22, 7, 23, 24, 25, 5, 6, 8, 9, 10, 55, 56, 57, 58, 59, 60, 61, 62, 63] (by decide +kernel) (by decide +kernel)
set_option maxRecDepth 20000 in
theorem gX4_put_X3_hasReference : GoodIn wsX4_put (wsV RX4 88 RX3 yX3_hasReference wsX3_hasReference) := goodIn_app (goodIn_of _ (by decide +kernel)) ggX4_put_X3_hasReference
set_option maxRecDepth 20000 in
theorem ggX4_put_X3_ageOf : GoodIn wsX4_put wsX3_ageOf := goodIn_r _ [29, 10, 25, 5, 6, 7, 8, 9, 55, 56, 57, 58, 59, 60, 61, 62, 63] (by decide +kernel) (by decide +kernel)
set_option maxRecDepth 20000 in
theorem gX4_put_X3_ageOf : GoodIn wsX4_put (wsV RX4 95 RX3 yX3_ageOf wsX3_ageOf) := goodIn_app (goodIn_of _ (by decide +kernel)) ggX4_put_X3_ageOf
set_option maxRecDepth 20000 in
theorem ggX4_put_X2_noteWrite : GoodIn wsX4_put wsX2_noteWrite := goodIn_r _ [34, 35, 36, 37, 38, 39, 40, 33, 41, 42, 43, 44, 45, 46, 47, 64, 65, 66, 67, 68] (by decide +kernel) (by decide +kernel)
set_option maxRecDepth 20000 in
theorem gX4_put_X2_noteWrite : GoodIn wsX4_put (wsV RX4 98 RX2 yX2_noteWrite wsX2_noteWrite) := goodIn_app (goodIn_of _ (by decide +kernel)) ggX4_put_X2_noteWrite
theorem dX4_put_0 : decode cX4_put 0 = .ok (.aload_n 0, 1) := by decide +kernel
theorem dX4_put_1 : decode cX4_put 1 = .ok (.getfield 12, 3) := by decide +kernel
theorem dX4_put_4 : decode cX4_put 4 = .ok (.iload_n 1, 1) := by decide +kernel
theorem dX4_put_5 : decode cX4_put 5 = .ok (.invokevirtual 81, 3) := by decide +kernel
theorem dX4_put_8 : decode cX4_put 8 = .ok (.ifCond .eq 11, 3) := by decide +kernel
theorem dX4_put_11 : decode cX4_put 11 = .ok (.aload_n 0, 1) := by decide +kernel
theorem dX4_put_12 : decode cX4_put 12 = .ok (.iload_n 3, 1) := by decide +kernel
theorem dX4_put_13 : decode cX4_put 13 = .ok (.invokevirtual 85, 3) := by decide +kernel
theorem dX4_put_16 : decode cX4_put 16 = .ok (.ifCond .ne 6, 3) := by decide +kernel
theorem dX4_put_19 : decode cX4_put 19 = .ok (.bipush (-101), 2) := by decide +kernel
theorem dX4_put_21 : decode cX4_put 21 = .ok (.ireturn, 1) := by decide +kernel
theorem dX4_put_22 : decode cX4_put 22 = .ok (.aload_n 0, 1) := by decide +kernel
theorem dX4_put_23 : decode cX4_put 23 = .ok (.getfield 12, 3) := by decide +kernel
theorem dX4_put_26 : decode cX4_put 26 = .ok (.iload_n 1, 1) := by decide +kernel
theorem dX4_put_27 : decode cX4_put 27 = .ok (.iload_n 2, 1) := by decide +kernel
theorem dX4_put_28 : decode cX4_put 28 = .ok (.invokevirtual 88, 3) := by decide +kernel
theorem dX4_put_31 : decode cX4_put 31 = .ok (.ifCond .ne 6, 3) := by decide +kernel
theorem dX4_put_34 : decode cX4_put 34 = .ok (.bipush (-12), 2) := by decide +kernel
theorem dX4_put_36 : decode cX4_put 36 = .ok (.ireturn, 1) := by decide +kernel
theorem dX4_put_37 : decode cX4_put 37 = .ok (.aload_n 0, 1) := by decide +kernel
theorem dX4_put_38 : decode cX4_put 38 = .ok (.getfield 12, 3) := by decide +kernel
theorem dX4_put_41 : decode cX4_put 41 = .ok (.getfield 91, 3) := by decide +kernel
theorem dX4_put_44 : decode cX4_put 44 = .ok (.iload_n 1, 1) := by decide +kernel
theorem dX4_put_45 : decode cX4_put 45 = .ok (.iload_n 2, 1) := by decide +kernel
theorem dX4_put_46 : decode cX4_put 46 = .ok (.iadd, 1) := by decide +kernel
theorem dX4_put_47 : decode cX4_put 47 = .ok (.iload_n 3, 1) := by decide +kernel
theorem dX4_put_48 : decode cX4_put 48 = .ok (.iastore, 1) := by decide +kernel
theorem dX4_put_49 : decode cX4_put 49 = .ok (.aload_n 0, 1) := by decide +kernel
theorem dX4_put_50 : decode cX4_put 50 = .ok (.getfield 19, 3) := by decide +kernel
theorem dX4_put_53 : decode cX4_put 53 = .ok (.iload_n 1, 1) := by decide +kernel
theorem dX4_put_54 : decode cX4_put 54 = .ok (.iload_n 2, 1) := by decide +kernel
theorem dX4_put_55 : decode cX4_put 55 = .ok (.aload_n 0, 1) := by decide +kernel
theorem dX4_put_56 : decode cX4_put 56 = .ok (.getfield 12, 3) := by decide +kernel
theorem dX4_put_59 : decode cX4_put 59 = .ok (.iload_n 1, 1) := by decide +kernel
theorem dX4_put_60 : decode cX4_put 60 = .ok (.invokevirtual 95, 3) := by decide +kernel
theorem dX4_put_63 : decode cX4_put 63 = .ok (.iconst 3, 1) := by decide +kernel
theorem dX4_put_64 : decode cX4_put 64 = .ok (.if_icmp .ne 7, 3) := by decide +kernel
theorem dX4_put_67 : decode cX4_put 67 = .ok (.iconst 1, 1) := by decide +kernel
theorem dX4_put_68 : decode cX4_put 68 = .ok (.goto 4, 3) := by decide +kernel
theorem dX4_put_71 : decode cX4_put 71 = .ok (.iconst 0, 1) := by decide +kernel
theorem dX4_put_72 : decode cX4_put 72 = .ok (.invokevirtual 98, 3) := by decide +kernel
theorem dX4_put_75 : decode cX4_put 75 = .ok (.iconst 1, 1) := by decide +kernel
theorem dX4_put_76 : decode cX4_put 76 = .ok (.ireturn, 1) := by decide +kernel
set_option maxRecDepth 20000 in
theorem ggX4_link_X3_isThing : GoodIn wsX4_link wsX3_isThing := goodIn_r _ [7, 8, 9, 27, 28, 29, 30, 31, 32, 33, 34, 35] (by decide +kernel) (by decide +kernel)
set_option maxRecDepth 20000 in
theorem gX4_link_X3_isThing : GoodIn wsX4_link (wsV RX4 81 RX3 yX3_isThing wsX3_isThing) := goodIn_app (goodIn_of _ (by decide +kernel)) ggX4_link_X3_isThing
set_option maxRecDepth 20000 in
theorem ggX4_link_X3_hasReference : GoodIn wsX4_link wsX3_hasReference := goodIn_r _ [13, 14, 15, 16, 6, 17, 18, 19, 4, 5, 7, 8, 9, 27, 28, 29, 30, 31, 32, 33, 34, 35] (by decide +kernel) (by decide +kernel)
set_option maxRecDepth 20000 in
theorem gX4_link_X3_hasReference : GoodIn wsX4_link (wsV RX4 88 RX3 yX3_hasReference wsX3_hasReference) := goodIn_app (goodIn_of _ (by decide +kernel)) ggX4_link_X3_hasReference
theorem dX4_link_0 : decode cX4_link 0 = .ok (.aload_n 0, 1) := by decide +kernel
theorem dX4_link_1 : decode cX4_link 1 = .ok (.getfield 12, 3) := by decide +kernel
theorem dX4_link_4 : decode cX4_link 4 = .ok (.iload_n 1, 1) := by decide +kernel
theorem dX4_link_5 : decode cX4_link 5 = .ok (.invokevirtual 81, 3) := by decide +kernel
theorem dX4_link_8 : decode cX4_link 8 = .ok (.ifCond .ne 6, 3) := by decide +kernel
theorem dX4_link_11 : decode cX4_link 11 = .ok (.bipush (-101), 2) := by decide +kernel
theorem dX4_link_13 : decode cX4_link 13 = .ok (.ireturn, 1) := by decide +kernel
theorem dX4_link_14 : decode cX4_link 14 = .ok (.aload_n 0, 1) := by decide +kernel
theorem dX4_link_15 : decode cX4_link 15 = .ok (.getfield 12, 3) := by decide +kernel
theorem dX4_link_18 : decode cX4_link 18 = .ok (.iload_n 1, 1) := by decide +kernel
theorem dX4_link_19 : decode cX4_link 19 = .ok (.iload_n 2, 1) := by decide +kernel
theorem dX4_link_20 : decode cX4_link 20 = .ok (.invokevirtual 88, 3) := by decide +kernel
theorem dX4_link_23 : decode cX4_link 23 = .ok (.ifCond .ne 6, 3) := by decide +kernel
theorem dX4_link_26 : decode cX4_link 26 = .ok (.bipush (-12), 2) := by decide +kernel
theorem dX4_link_28 : decode cX4_link 28 = .ok (.ireturn, 1) := by decide +kernel
theorem dX4_link_29 : decode cX4_link 29 = .ok (.aload_n 0, 1) := by decide +kernel
theorem dX4_link_30 : decode cX4_link 30 = .ok (.getfield 12, 3) := by decide +kernel
theorem dX4_link_33 : decode cX4_link 33 = .ok (.getfield 91, 3) := by decide +kernel
theorem dX4_link_36 : decode cX4_link 36 = .ok (.iload_n 1, 1) := by decide +kernel
theorem dX4_link_37 : decode cX4_link 37 = .ok (.iload_n 2, 1) := by decide +kernel
theorem dX4_link_38 : decode cX4_link 38 = .ok (.iadd, 1) := by decide +kernel
theorem dX4_link_39 : decode cX4_link 39 = .ok (.iaload, 1) := by decide +kernel
theorem dX4_link_40 : decode cX4_link 40 = .ok (.ireturn, 1) := by decide +kernel
set_option maxRecDepth 20000 in
theorem ggX4_set_X3_isThing : GoodIn wsX4_set wsX3_isThing := goodIn_r _ [7, 8, 9, 36, 37, 38, 39, 40, 41, 42, 43, 44] (by decide +kernel) (by decide +kernel)
set_option maxRecDepth 20000 in
theorem gX4_set_X3_isThing : GoodIn wsX4_set (wsV RX4 81 RX3 yX3_isThing wsX3_isThing) := goodIn_app (goodIn_of _ (by decide +kernel)) ggX4_set_X3_isThing
set_option maxRecDepth 20000 in
theorem ggX4_set_X3_hasNumber : GoodIn wsX4_set wsX3_hasNumber := goodIn_r _ [13, 14, 15, 16, 6, 17, 18, 19, 4, 5, 7, 8, 9, 20, 21, 22, 23, 24, 25, 26, 27, 28, 36, 37, 38, 39, 40, 41, 42, 43, 44] (by decide +kernel) (by decide +kernel)
set_option maxRecDepth 20000 in
theorem gX4_set_X3_hasNumber : GoodIn wsX4_set (wsV RX4 102 RX3 yX3_hasNumber wsX3_hasNumber) := goodIn_app (goodIn_of _ (by decide +kernel)) ggX4_set_X3_hasNumber
theorem dX4_set_0 : decode cX4_set 0 = .ok (.aload_n 0, 1) := by decide +kernel
theorem dX4_set_1 : decode cX4_set 1 = .ok (.getfield 12, 3) := by decide +kernel
theorem dX4_set_4 : decode cX4_set 4 = .ok (.iload_n 1, 1) := by decide +kernel
theorem dX4_set_5 : decode cX4_set 5 = .ok (.invokevirtual 81, 3) := by decide +kernel
theorem dX4_set_8 : decode cX4_set 8 = .ok (.ifCond .ne 6, 3) := by decide +kernel
theorem dX4_set_11 : decode cX4_set 11 = .ok (.bipush (-101), 2) := by decide +kernel
theorem dX4_set_13 : decode cX4_set 13 = .ok (.ireturn, 1) := by decide +kernel
theorem dX4_set_14 : decode cX4_set 14 = .ok (.aload_n 0, 1) := by decide +kernel
theorem dX4_set_15 : decode cX4_set 15 = .ok (.getfield 12, 3) := by decide +kernel
theorem dX4_set_18 : decode cX4_set 18 = .ok (.iload_n 1, 1) := by decide +kernel
theorem dX4_set_19 : decode cX4_set 19 = .ok (.iload_n 2, 1) := by decide +kernel
theorem dX4_set_20 : decode cX4_set 20 = .ok (.invokevirtual 102, 3) := by decide +kernel
theorem dX4_set_23 : decode cX4_set 23 = .ok (.ifCond .ne 6, 3) := by decide +kernel
theorem dX4_set_26 : decode cX4_set 26 = .ok (.bipush (-12), 2) := by decide +kernel
theorem dX4_set_28 : decode cX4_set 28 = .ok (.ireturn, 1) := by decide +kernel
theorem dX4_set_29 : decode cX4_set 29 = .ok (.aload_n 0, 1) := by decide +kernel
theorem dX4_set_30 : decode cX4_set 30 = .ok (.getfield 12, 3) := by decide +kernel
theorem dX4_set_33 : decode cX4_set 33 = .ok (.getfield 91, 3) := by decide +kernel
theorem dX4_set_36 : decode cX4_set 36 = .ok (.iload_n 1, 1) := by decide +kernel
theorem dX4_set_37 : decode cX4_set 37 = .ok (.iload_n 2, 1) := by decide +kernel
theorem dX4_set_38 : decode cX4_set 38 = .ok (.iadd, 1) := by decide +kernel
theorem dX4_set_39 : decode cX4_set 39 = .ok (.iload_n 3, 1) := by decide +kernel
theorem dX4_set_40 : decode cX4_set 40 = .ok (.iastore, 1) := by decide +kernel
theorem dX4_set_41 : decode cX4_set 41 = .ok (.iconst 1, 1) := by decide +kernel
theorem dX4_set_42 : decode cX4_set 42 = .ok (.ireturn, 1) := by decide +kernel
set_option maxRecDepth 20000 in
theorem ggX4_get_X3_isThing : GoodIn wsX4_get wsX3_isThing := goodIn_r _ [8, 9, 10, 37, 38, 39, 40, 41, 42, 43, 44, 45] (by decide +kernel) (by decide +kernel)
set_option maxRecDepth 20000 in
theorem gX4_get_X3_isThing : GoodIn wsX4_get (wsV RX4 81 RX3 yX3_isThing wsX3_isThing) := goodIn_app (goodIn_of _ (by decide +kernel)) ggX4_get_X3_isThing
set_option maxRecDepth 20000 in
theorem ggX4_get_X3_hasNumber : GoodIn wsX4_get wsX3_hasNumber := goodIn_r _ [14, 15, 16, 17, 7, 18, 19, 20, 5, 6, 8, 9, 10, 21, 22, 23, 24, 25, 26, 27, 28, 29, 37, 38, 39, 40, 41, 42, 43, 44, 45] (by decide +kernel) (by decide +kernel)
set_option maxRecDepth 20000 in
theorem gX4_get_X3_hasNumber : GoodIn wsX4_get (wsV RX4 102 RX3 yX3_hasNumber wsX3_hasNumber) := goodIn_app (goodIn_of _ (by decide +kernel)) ggX4_get_X3_hasNumber
theorem dX4_get_0 : decode cX4_get 0 = .ok (.aload_n 0, 1) := by decide +kernel
theorem dX4_get_1 : decode cX4_get 1 = .ok (.getfield 12, 3) := by decide +kernel
theorem dX4_get_4 : decode cX4_get 4 = .ok (.iload_n 1, 1) := by decide +kernel
theorem dX4_get_5 : decode cX4_get 5 = .ok (.invokevirtual 81, 3) := by decide +kernel
theorem dX4_get_8 : decode cX4_get 8 = .ok (.ifCond .ne 6, 3) := by decide +kernel
theorem dX4_get_11 : decode cX4_get 11 = .ok (.bipush (-101), 2) := by decide +kernel
theorem dX4_get_13 : decode cX4_get 13 = .ok (.ireturn, 1) := by decide +kernel
theorem dX4_get_14 : decode cX4_get 14 = .ok (.aload_n 0, 1) := by decide +kernel
theorem dX4_get_15 : decode cX4_get 15 = .ok (.getfield 12, 3) := by decide +kernel
theorem dX4_get_18 : decode cX4_get 18 = .ok (.iload_n 1, 1) := by decide +kernel
theorem dX4_get_19 : decode cX4_get 19 = .ok (.iload_n 2, 1) := by decide +kernel
theorem dX4_get_20 : decode cX4_get 20 = .ok (.invokevirtual 102, 3) := by decide +kernel
theorem dX4_get_23 : decode cX4_get 23 = .ok (.ifCond .ne 6, 3) := by decide +kernel
theorem dX4_get_26 : decode cX4_get 26 = .ok (.bipush (-12), 2) := by decide +kernel
theorem dX4_get_28 : decode cX4_get 28 = .ok (.ireturn, 1) := by decide +kernel
theorem dX4_get_29 : decode cX4_get 29 = .ok (.aload_n 0, 1) := by decide +kernel
theorem dX4_get_30 : decode cX4_get 30 = .ok (.aload_n 0, 1) := by decide +kernel
theorem dX4_get_31 : decode cX4_get 31 = .ok (.getfield 12, 3) := by decide +kernel
theorem dX4_get_34 : decode cX4_get 34 = .ok (.getfield 91, 3) := by decide +kernel
theorem dX4_get_37 : decode cX4_get 37 = .ok (.iload_n 1, 1) := by decide +kernel
theorem dX4_get_38 : decode cX4_get 38 = .ok (.iload_n 2, 1) := by decide +kernel
theorem dX4_get_39 : decode cX4_get 39 = .ok (.iadd, 1) := by decide +kernel
theorem dX4_get_40 : decode cX4_get 40 = .ok (.iaload, 1) := by decide +kernel
theorem dX4_get_41 : decode cX4_get 41 = .ok (.putfield 56, 3) := by decide +kernel
theorem dX4_get_44 : decode cX4_get 44 = .ok (.iconst 1, 1) := by decide +kernel
theorem dX4_get_45 : decode cX4_get 45 = .ok (.ireturn, 1) := by decide +kernel
theorem dX4_seen_0 : decode cX4_seen 0 = .ok (.aload_n 0, 1) := by decide +kernel
theorem dX4_seen_1 : decode cX4_seen 1 = .ok (.getfield 56, 3) := by decide +kernel
theorem dX4_seen_4 : decode cX4_seen 4 = .ok (.ireturn, 1) := by decide +kernel
set_option maxRecDepth 20000 in
theorem ggX4_about_X3_isThing : GoodIn wsX4_about wsX3_isThing := goodIn_r _ [7, 8, 9, 74, 75, 76, 77, 78, 79, 80, 81, 82] (by decide +kernel) (by decide +kernel)
set_option maxRecDepth 20000 in
theorem gX4_about_X3_isThing : GoodIn wsX4_about (wsV RX4 81 RX3 yX3_isThing wsX3_isThing) := goodIn_app (goodIn_of _ (by decide +kernel)) ggX4_about_X3_isThing
set_option maxRecDepth 20000 in
theorem ggX4_about_X3_referencesOf : GoodIn wsX4_about wsX3_referencesOf := goodIn_r _ [13, 14, 15, 4, 5, 6, 7, 8, 9, 74, 75, 76, 77, 78, 79, 80, 81, 82] (by decide +kernel) (by decide +kernel)
set_option maxRecDepth 20000 in
theorem gX4_about_X3_referencesOf : GoodIn wsX4_about (wsV RX4 105 RX3 yX3_referencesOf wsX3_referencesOf) := goodIn_app (goodIn_of _ (by decide +kernel)) ggX4_about_X3_referencesOf
set_option maxRecDepth 20000 in
theorem ggX4_about_X3_numbersOf : GoodIn wsX4_about wsX3_numbersOf := goodIn_r _ [19, 20, 15, 4, 5, 6, 7, 8, 9, 74, 75, 76, 77, 78, 79, 80, 81, 82] (by decide +kernel) (by decide +kernel)
set_option maxRecDepth 20000 in
theorem gX4_about_X3_numbersOf : GoodIn wsX4_about (wsV RX4 108 RX3 yX3_numbersOf wsX3_numbersOf) := goodIn_app (goodIn_of _ (by decide +kernel)) ggX4_about_X3_numbersOf
set_option maxRecDepth 20000 in
theorem ggX4_about_X3_ageOf : GoodIn wsX4_about wsX3_ageOf := goodIn_r _ [24, 9, 15, 4, 5, 6, 7, 8, 74, 75, 76, 77, 78, 79, 80, 81, 82] (by decide +kernel) (by decide +kernel)
set_option maxRecDepth 20000 in
theorem gX4_about_X3_ageOf : GoodIn wsX4_about (wsV RX4 95 RX3 yX3_ageOf wsX3_ageOf) := goodIn_app (goodIn_of _ (by decide +kernel)) ggX4_about_X3_ageOf
set_option maxRecDepth 20000 in
theorem ggX4_about_X4_flag : GoodIn wsX4_about wsX4_flag := goodIn_r _ [28] (by decide +kernel) (by decide +kernel)
set_option maxRecDepth 20000 in
theorem gX4_about_X4_flag : GoodIn wsX4_about (va_wsS RX4 63 yX4_flag wsX4_flag) := goodIn_app (goodIn_of _ (by decide +kernel)) ggX4_about_X4_flag
set_option maxRecDepth 20000 in
theorem ggX4_about_X2_counts : GoodIn wsX4_about wsX2_counts := goodIn_r _ [33, 34, 35, 36, 22, 23, 6, 24, 9, 15, 4, 5, 7, 8, 37, 11, 12, 13, 14, 38, 39, 40, 32, 41, 42, 43, 44, 45, 46, 47, 48, 83, 84, 85, 86, 87, 74, 75, 76, 77, 78, 79, 80, 81, 82] (by decide +kernel) (by decide +kernel)
set_option maxRecDepth 20000 in
theorem gX4_about_X2_counts : GoodIn wsX4_about (wsV RX4 111 RX2 yX2_counts wsX2_counts) := goodIn_app (goodIn_of _ (by decide +kernel)) ggX4_about_X2_counts
set_option maxRecDepth 20000 in
theorem ggX4_about_X3_sizeOf : GoodIn wsX4_about wsX3_sizeOf := goodIn_r _ [52, 53, 11, 12, 6, 13, 14, 15, 4, 5, 7, 8, 9, 54, 17, 18, 19, 20, 74, 75, 76, 77, 78, 79, 80, 81, 82] (by decide +kernel) (by decide +kernel)
set_option maxRecDepth 20000 in
theorem gX4_about_X3_sizeOf : GoodIn wsX4_about (wsV RX4 115 RX3 yX3_sizeOf wsX3_sizeOf) := goodIn_app (goodIn_of _ (by decide +kernel)) ggX4_about_X3_sizeOf
set_option maxRecDepth 20000 in
theorem ggX4_about_X4_wordsFor : GoodIn wsX4_about wsX4_wordsFor := goodIn_r _ [57, 58, 59, 27, 60, 61, 62, 63, 64, 65, 66] (by decide +kernel) (by decide +kernel)
set_option maxRecDepth 20000 in
theorem gX4_about_X4_wordsFor : GoodIn wsX4_about (va_wsS RX4 118 yX4_wordsFor wsX4_wordsFor) := goodIn_app (goodIn_of _ (by decide +kernel)) ggX4_about_X4_wordsFor
set_option maxRecDepth 20000 in
theorem ggX4_about_X4_classFor : GoodIn wsX4_about wsX4_classFor := goodIn_r _ [60, 61, 62, 27, 63] (by decide +kernel) (by decide +kernel)
set_option maxRecDepth 20000 in
theorem gX4_about_X4_classFor : GoodIn wsX4_about (va_wsS RX4 121 yX4_classFor wsX4_classFor) := goodIn_app (goodIn_of _ (by decide +kernel)) ggX4_about_X4_classFor
theorem dX4_about_0 : decode cX4_about 0 = .ok (.aload_n 0, 1) := by decide +kernel
theorem dX4_about_1 : decode cX4_about 1 = .ok (.getfield 12, 3) := by decide +kernel
theorem dX4_about_4 : decode cX4_about 4 = .ok (.iload_n 1, 1) := by decide +kernel
theorem dX4_about_5 : decode cX4_about 5 = .ok (.invokevirtual 81, 3) := by decide +kernel
theorem dX4_about_8 : decode cX4_about 8 = .ok (.ifCond .ne 6, 3) := by decide +kernel
theorem dX4_about_11 : decode cX4_about 11 = .ok (.bipush (-101), 2) := by decide +kernel
theorem dX4_about_13 : decode cX4_about 13 = .ok (.ireturn, 1) := by decide +kernel
theorem dX4_about_14 : decode cX4_about 14 = .ok (.iload_n 2, 1) := by decide +kernel
theorem dX4_about_15 : decode cX4_about 15 = .ok (.tableswitch 116 0 5 #[37, 46, 55, 76, 92, 104], 37) := by decide +kernel
theorem dX4_about_52 : decode cX4_about 52 = .ok (.aload_n 0, 1) := by decide +kernel
theorem dX4_about_53 : decode cX4_about 53 = .ok (.getfield 12, 3) := by decide +kernel
theorem dX4_about_56 : decode cX4_about 56 = .ok (.iload_n 1, 1) := by decide +kernel
theorem dX4_about_57 : decode cX4_about 57 = .ok (.invokevirtual 105, 3) := by decide +kernel
theorem dX4_about_60 : decode cX4_about 60 = .ok (.ireturn, 1) := by decide +kernel
theorem dX4_about_61 : decode cX4_about 61 = .ok (.aload_n 0, 1) := by decide +kernel
theorem dX4_about_62 : decode cX4_about 62 = .ok (.getfield 12, 3) := by decide +kernel
theorem dX4_about_65 : decode cX4_about 65 = .ok (.iload_n 1, 1) := by decide +kernel
theorem dX4_about_66 : decode cX4_about 66 = .ok (.invokevirtual 108, 3) := by decide +kernel
theorem dX4_about_69 : decode cX4_about 69 = .ok (.ireturn, 1) := by decide +kernel
theorem dX4_about_70 : decode cX4_about 70 = .ok (.aload_n 0, 1) := by decide +kernel
theorem dX4_about_71 : decode cX4_about 71 = .ok (.getfield 12, 3) := by decide +kernel
theorem dX4_about_74 : decode cX4_about 74 = .ok (.iload_n 1, 1) := by decide +kernel
theorem dX4_about_75 : decode cX4_about 75 = .ok (.invokevirtual 95, 3) := by decide +kernel
theorem dX4_about_78 : decode cX4_about 78 = .ok (.iconst 3, 1) := by decide +kernel
theorem dX4_about_79 : decode cX4_about 79 = .ok (.if_icmp .ne 7, 3) := by decide +kernel
theorem dX4_about_82 : decode cX4_about 82 = .ok (.iconst 1, 1) := by decide +kernel
theorem dX4_about_83 : decode cX4_about 83 = .ok (.goto 4, 3) := by decide +kernel
theorem dX4_about_86 : decode cX4_about 86 = .ok (.iconst 0, 1) := by decide +kernel
theorem dX4_about_87 : decode cX4_about 87 = .ok (.invokestatic 63, 3) := by decide +kernel
theorem dX4_about_90 : decode cX4_about 90 = .ok (.ireturn, 1) := by decide +kernel
theorem dX4_about_91 : decode cX4_about 91 = .ok (.aload_n 0, 1) := by decide +kernel
theorem dX4_about_92 : decode cX4_about 92 = .ok (.getfield 19, 3) := by decide +kernel
theorem dX4_about_95 : decode cX4_about 95 = .ok (.aload_n 0, 1) := by decide +kernel
theorem dX4_about_96 : decode cX4_about 96 = .ok (.getfield 12, 3) := by decide +kernel
theorem dX4_about_99 : decode cX4_about 99 = .ok (.iload_n 1, 1) := by decide +kernel
theorem dX4_about_100 : decode cX4_about 100 = .ok (.invokevirtual 111, 3) := by decide +kernel
theorem dX4_about_103 : decode cX4_about 103 = .ok (.invokestatic 63, 3) := by decide +kernel
theorem dX4_about_106 : decode cX4_about 106 = .ok (.ireturn, 1) := by decide +kernel
theorem dX4_about_107 : decode cX4_about 107 = .ok (.aload_n 0, 1) := by decide +kernel
theorem dX4_about_108 : decode cX4_about 108 = .ok (.getfield 12, 3) := by decide +kernel
theorem dX4_about_111 : decode cX4_about 111 = .ok (.iload_n 1, 1) := by decide +kernel
theorem dX4_about_112 : decode cX4_about 112 = .ok (.invokevirtual 115, 3) := by decide +kernel
theorem dX4_about_115 : decode cX4_about 115 = .ok (.invokestatic 118, 3) := by decide +kernel
theorem dX4_about_118 : decode cX4_about 118 = .ok (.ireturn, 1) := by decide +kernel
theorem dX4_about_119 : decode cX4_about 119 = .ok (.aload_n 0, 1) := by decide +kernel
theorem dX4_about_120 : decode cX4_about 120 = .ok (.getfield 12, 3) := by decide +kernel
theorem dX4_about_123 : decode cX4_about 123 = .ok (.iload_n 1, 1) := by decide +kernel
theorem dX4_about_124 : decode cX4_about 124 = .ok (.invokevirtual 115, 3) := by decide +kernel
theorem dX4_about_127 : decode cX4_about 127 = .ok (.invokestatic 121, 3) := by decide +kernel
theorem dX4_about_130 : decode cX4_about 130 = .ok (.ireturn, 1) := by decide +kernel
theorem dX4_about_131 : decode cX4_about 131 = .ok (.bipush (-102), 2) := by decide +kernel
theorem dX4_about_133 : decode cX4_about 133 = .ok (.ireturn, 1) := by decide +kernel
set_option maxRecDepth 20000 in
theorem ggX4_points_X3_thingAt : GoodIn wsX4_points wsX3_thingAt := goodIn_r _ [6, 7, 8, 9, 10, 11, 12, 13, 14, 15, 5, 16, 17, 18, 19, 20, 21, 29, 30, 31, 32, 33, 34, 35, 36, 37] (by decide +kernel) (by decide +kernel)
set_option maxRecDepth 20000 in
theorem gX4_points_X3_thingAt : GoodIn wsX4_points (wsV RX4 124 RX3 yX3_thingAt wsX3_thingAt) := goodIn_app (goodIn_of _ (by decide +kernel)) ggX4_points_X3_thingAt
theorem dX4_points_0 : decode cX4_points 0 = .ok (.aload_n 0, 1) := by decide +kernel
theorem dX4_points_1 : decode cX4_points 1 = .ok (.getfield 12, 3) := by decide +kernel
theorem dX4_points_4 : decode cX4_points 4 = .ok (.iload_n 1, 1) := by decide +kernel
theorem dX4_points_5 : decode cX4_points 5 = .ok (.invokevirtual 124, 3) := by decide +kernel
theorem dX4_points_8 : decode cX4_points 8 = .ok (.ireturn, 1) := by decide +kernel
set_option maxRecDepth 20000 in
theorem ggX4_root_X4_isRoot : GoodIn wsX4_root wsX4_isRoot := goodIn_r _ [6] (by decide +kernel) (by decide +kernel)
set_option maxRecDepth 20000 in
theorem gX4_root_X4_isRoot : GoodIn wsX4_root (va_wsS RX4 127 yX4_isRoot wsX4_isRoot) := goodIn_app (goodIn_of _ (by decide +kernel)) ggX4_root_X4_isRoot
set_option maxRecDepth 20000 in
theorem ggX4_root_X4_isThingOrNone : GoodIn wsX4_root wsX4_isThingOrNone := goodIn_r _ [10, 11, 12, 13, 14, 15, 16, 17, 18, 19, 20, 21, 22, 23, 24, 25, 29, 30, 31, 32, 33, 34, 35, 36, 37] (by decide +kernel) (by decide +kernel)
set_option maxRecDepth 20000 in
theorem gX4_root_X4_isThingOrNone : GoodIn wsX4_root (wsV RX4 85 RX4 yX4_isThingOrNone wsX4_isThingOrNone) := goodIn_app (goodIn_of _ (by decide +kernel)) ggX4_root_X4_isThingOrNone
theorem dX4_root_0 : decode cX4_root 0 = .ok (.iload_n 1, 1) := by decide +kernel
theorem dX4_root_1 : decode cX4_root 1 = .ok (.invokestatic 127, 3) := by decide +kernel
theorem dX4_root_4 : decode cX4_root 4 = .ok (.ifCond .eq 11, 3) := by decide +kernel
theorem dX4_root_7 : decode cX4_root 7 = .ok (.aload_n 0, 1) := by decide +kernel
theorem dX4_root_8 : decode cX4_root 8 = .ok (.iload_n 2, 1) := by decide +kernel
theorem dX4_root_9 : decode cX4_root 9 = .ok (.invokevirtual 85, 3) := by decide +kernel
theorem dX4_root_12 : decode cX4_root 12 = .ok (.ifCond .ne 6, 3) := by decide +kernel
theorem dX4_root_15 : decode cX4_root 15 = .ok (.bipush (-101), 2) := by decide +kernel
theorem dX4_root_17 : decode cX4_root 17 = .ok (.ireturn, 1) := by decide +kernel
theorem dX4_root_18 : decode cX4_root 18 = .ok (.aload_n 0, 1) := by decide +kernel
theorem dX4_root_19 : decode cX4_root 19 = .ok (.getfield 26, 3) := by decide +kernel
theorem dX4_root_22 : decode cX4_root 22 = .ok (.getfield 130, 3) := by decide +kernel
theorem dX4_root_25 : decode cX4_root 25 = .ok (.iload_n 1, 1) := by decide +kernel
theorem dX4_root_26 : decode cX4_root 26 = .ok (.iaload, 1) := by decide +kernel
theorem dX4_root_27 : decode cX4_root 27 = .ok (.istore_n 3, 1) := by decide +kernel
theorem dX4_root_28 : decode cX4_root 28 = .ok (.aload_n 0, 1) := by decide +kernel
theorem dX4_root_29 : decode cX4_root 29 = .ok (.getfield 26, 3) := by decide +kernel
theorem dX4_root_32 : decode cX4_root 32 = .ok (.getfield 130, 3) := by decide +kernel
theorem dX4_root_35 : decode cX4_root 35 = .ok (.iload_n 1, 1) := by decide +kernel
theorem dX4_root_36 : decode cX4_root 36 = .ok (.iload_n 2, 1) := by decide +kernel
theorem dX4_root_37 : decode cX4_root 37 = .ok (.iastore, 1) := by decide +kernel
theorem dX4_root_38 : decode cX4_root 38 = .ok (.iload_n 3, 1) := by decide +kernel
theorem dX4_root_39 : decode cX4_root 39 = .ok (.ireturn, 1) := by decide +kernel
set_option maxRecDepth 20000 in
theorem ggX4_rooted_X4_isRoot : GoodIn wsX4_rooted wsX4_isRoot := goodIn_r _ [6] (by decide +kernel) (by decide +kernel)
set_option maxRecDepth 20000 in
theorem gX4_rooted_X4_isRoot : GoodIn wsX4_rooted (va_wsS RX4 127 yX4_isRoot wsX4_isRoot) := goodIn_app (goodIn_of _ (by decide +kernel)) ggX4_rooted_X4_isRoot
theorem dX4_rooted_0 : decode cX4_rooted 0 = .ok (.iload_n 1, 1) := by decide +kernel
theorem dX4_rooted_1 : decode cX4_rooted 1 = .ok (.invokestatic 127, 3) := by decide +kernel
theorem dX4_rooted_4 : decode cX4_rooted 4 = .ok (.ifCond .eq 15, 3) := by decide +kernel
theorem dX4_rooted_7 : decode cX4_rooted 7 = .ok (.aload_n 0, 1) := by decide +kernel
theorem dX4_rooted_8 : decode cX4_rooted 8 = .ok (.getfield 26, 3) := by decide +kernel
theorem dX4_rooted_11 : decode cX4_rooted 11 = .ok (.getfield 130, 3) := by decide +kernel
theorem dX4_rooted_14 : decode cX4_rooted 14 = .ok (.iload_n 1, 1) := by decide +kernel
theorem dX4_rooted_15 : decode cX4_rooted 15 = .ok (.iaload, 1) := by decide +kernel
theorem dX4_rooted_16 : decode cX4_rooted 16 = .ok (.goto 5, 3) := by decide +kernel
theorem dX4_rooted_19 : decode cX4_rooted 19 = .ok (.bipush (-101), 2) := by decide +kernel
theorem dX4_rooted_21 : decode cX4_rooted 21 = .ok (.ireturn, 1) := by decide +kernel
theorem dX4_push_0 : decode cX4_push 0 = .ok (.aload_n 0, 1) := by decide +kernel
theorem dX4_push_1 : decode cX4_push 1 = .ok (.getfield 26, 3) := by decide +kernel
theorem dX4_push_4 : decode cX4_push 4 = .ok (.getfield 133, 3) := by decide +kernel
theorem dX4_push_7 : decode cX4_push 7 = .ok (.bipush 24, 2) := by decide +kernel
theorem dX4_push_9 : decode cX4_push 9 = .ok (.if_icmp .lt 6, 3) := by decide +kernel
theorem dX4_push_12 : decode cX4_push 12 = .ok (.bipush (-104), 2) := by decide +kernel
theorem dX4_push_14 : decode cX4_push 14 = .ok (.ireturn, 1) := by decide +kernel
theorem dX4_push_15 : decode cX4_push 15 = .ok (.aload_n 0, 1) := by decide +kernel
theorem dX4_push_16 : decode cX4_push 16 = .ok (.getfield 26, 3) := by decide +kernel
theorem dX4_push_19 : decode cX4_push 19 = .ok (.getfield 136, 3) := by decide +kernel
theorem dX4_push_22 : decode cX4_push 22 = .ok (.aload_n 0, 1) := by decide +kernel
theorem dX4_push_23 : decode cX4_push 23 = .ok (.getfield 26, 3) := by decide +kernel
theorem dX4_push_26 : decode cX4_push 26 = .ok (.getfield 133, 3) := by decide +kernel
theorem dX4_push_29 : decode cX4_push 29 = .ok (.iload_n 1, 1) := by decide +kernel
theorem dX4_push_30 : decode cX4_push 30 = .ok (.iastore, 1) := by decide +kernel
theorem dX4_push_31 : decode cX4_push 31 = .ok (.aload_n 0, 1) := by decide +kernel
theorem dX4_push_32 : decode cX4_push 32 = .ok (.getfield 26, 3) := by decide +kernel
theorem dX4_push_35 : decode cX4_push 35 = .ok (.dup, 1) := by decide +kernel
theorem dX4_push_36 : decode cX4_push 36 = .ok (.getfield 133, 3) := by decide +kernel
theorem dX4_push_39 : decode cX4_push 39 = .ok (.iconst 1, 1) := by decide +kernel
theorem dX4_push_40 : decode cX4_push 40 = .ok (.iadd, 1) := by decide +kernel
theorem dX4_push_41 : decode cX4_push 41 = .ok (.putfield 133, 3) := by decide +kernel
theorem dX4_push_44 : decode cX4_push 44 = .ok (.aload_n 0, 1) := by decide +kernel
theorem dX4_push_45 : decode cX4_push 45 = .ok (.getfield 26, 3) := by decide +kernel
theorem dX4_push_48 : decode cX4_push 48 = .ok (.getfield 133, 3) := by decide +kernel
theorem dX4_push_51 : decode cX4_push 51 = .ok (.ireturn, 1) := by decide +kernel
theorem dX4_pop_0 : decode cX4_pop 0 = .ok (.aload_n 0, 1) := by decide +kernel
theorem dX4_pop_1 : decode cX4_pop 1 = .ok (.getfield 26, 3) := by decide +kernel
theorem dX4_pop_4 : decode cX4_pop 4 = .ok (.getfield 133, 3) := by decide +kernel
theorem dX4_pop_7 : decode cX4_pop 7 = .ok (.ifCond .gt 6, 3) := by decide +kernel
theorem dX4_pop_10 : decode cX4_pop 10 = .ok (.bipush (-103), 2) := by decide +kernel
theorem dX4_pop_12 : decode cX4_pop 12 = .ok (.ireturn, 1) := by decide +kernel
theorem dX4_pop_13 : decode cX4_pop 13 = .ok (.aload_n 0, 1) := by decide +kernel
theorem dX4_pop_14 : decode cX4_pop 14 = .ok (.getfield 26, 3) := by decide +kernel
theorem dX4_pop_17 : decode cX4_pop 17 = .ok (.dup, 1) := by decide +kernel
theorem dX4_pop_18 : decode cX4_pop 18 = .ok (.getfield 133, 3) := by decide +kernel
theorem dX4_pop_21 : decode cX4_pop 21 = .ok (.iconst 1, 1) := by decide +kernel
theorem dX4_pop_22 : decode cX4_pop 22 = .ok (.isub, 1) := by decide +kernel
theorem dX4_pop_23 : decode cX4_pop 23 = .ok (.putfield 133, 3) := by decide +kernel
theorem dX4_pop_26 : decode cX4_pop 26 = .ok (.aload_n 0, 1) := by decide +kernel
theorem dX4_pop_27 : decode cX4_pop 27 = .ok (.aload_n 0, 1) := by decide +kernel
theorem dX4_pop_28 : decode cX4_pop 28 = .ok (.getfield 26, 3) := by decide +kernel
theorem dX4_pop_31 : decode cX4_pop 31 = .ok (.getfield 136, 3) := by decide +kernel
theorem dX4_pop_34 : decode cX4_pop 34 = .ok (.aload_n 0, 1) := by decide +kernel
theorem dX4_pop_35 : decode cX4_pop 35 = .ok (.getfield 26, 3) := by decide +kernel
theorem dX4_pop_38 : decode cX4_pop 38 = .ok (.getfield 133, 3) := by decide +kernel
theorem dX4_pop_41 : decode cX4_pop 41 = .ok (.iaload, 1) := by decide +kernel
theorem dX4_pop_42 : decode cX4_pop 42 = .ok (.putfield 56, 3) := by decide +kernel
theorem dX4_pop_45 : decode cX4_pop 45 = .ok (.aload_n 0, 1) := by decide +kernel
theorem dX4_pop_46 : decode cX4_pop 46 = .ok (.getfield 26, 3) := by decide +kernel
theorem dX4_pop_49 : decode cX4_pop 49 = .ok (.getfield 133, 3) := by decide +kernel
theorem dX4_pop_52 : decode cX4_pop 52 = .ok (.ireturn, 1) := by decide +kernel
theorem dX4_top_0 : decode cX4_top 0 = .ok (.iload_n 1, 1) := by decide +kernel
theorem dX4_top_1 : decode cX4_top 1 = .ok (.ifCond .lt 14, 3) := by decide +kernel
theorem dX4_top_4 : decode cX4_top 4 = .ok (.iload_n 1, 1) := by decide +kernel
theorem dX4_top_5 : decode cX4_top 5 = .ok (.aload_n 0, 1) := by decide +kernel
theorem dX4_top_6 : decode cX4_top 6 = .ok (.getfield 26, 3) := by decide +kernel
theorem dX4_top_9 : decode cX4_top 9 = .ok (.getfield 133, 3) := by decide +kernel
theorem dX4_top_12 : decode cX4_top 12 = .ok (.if_icmp .lt 5, 3) := by decide +kernel
theorem dX4_top_15 : decode cX4_top 15 = .ok (.iconst 0, 1) := by decide +kernel
theorem dX4_top_16 : decode cX4_top 16 = .ok (.ireturn, 1) := by decide +kernel
theorem dX4_top_17 : decode cX4_top 17 = .ok (.aload_n 0, 1) := by decide +kernel
theorem dX4_top_18 : decode cX4_top 18 = .ok (.aload_n 0, 1) := by decide +kernel
theorem dX4_top_19 : decode cX4_top 19 = .ok (.getfield 26, 3) := by decide +kernel
theorem dX4_top_22 : decode cX4_top 22 = .ok (.getfield 136, 3) := by decide +kernel
theorem dX4_top_25 : decode cX4_top 25 = .ok (.aload_n 0, 1) := by decide +kernel
theorem dX4_top_26 : decode cX4_top 26 = .ok (.getfield 26, 3) := by decide +kernel
theorem dX4_top_29 : decode cX4_top 29 = .ok (.getfield 133, 3) := by decide +kernel
theorem dX4_top_32 : decode cX4_top 32 = .ok (.iconst 1, 1) := by decide +kernel
theorem dX4_top_33 : decode cX4_top 33 = .ok (.isub, 1) := by decide +kernel
theorem dX4_top_34 : decode cX4_top 34 = .ok (.iload_n 1, 1) := by decide +kernel
theorem dX4_top_35 : decode cX4_top 35 = .ok (.isub, 1) := by decide +kernel
theorem dX4_top_36 : decode cX4_top 36 = .ok (.iaload, 1) := by decide +kernel
theorem dX4_top_37 : decode cX4_top 37 = .ok (.putfield 56, 3) := by decide +kernel
theorem dX4_top_40 : decode cX4_top 40 = .ok (.iconst 1, 1) := by decide +kernel
theorem dX4_top_41 : decode cX4_top 41 = .ok (.ireturn, 1) := by decide +kernel
set_option maxRecDepth 20000 in
theorem ggX4_minor_X0_collectYoung : GoodIn wsX4_minor wsX0_collectYoung := goodIn_r _ [6, 7, 8, 9, 10, 11, 5, 12, 13, 14, 15, 16, 17, 18, 19, 20, 21, 22, 23, 24, 25, 26, 27, 28, 29, 30, 31, 32, 33, 34, 35, 36, 37, 38, 39, 40, 41, 42, 43, 44, 45, 46, 47, 48, 49, 50, 51, 52, 53, 54, 55, 56, 57, 58, 59, 60, 61, 62, 63, 64, 65, 66, 67, 68, 69, 70, 71, 72, 73, 74, 75, 76, 77, 78, 79, 80, 81, 82, 83, 84, 85, 86, 87, 88, 89, 90, 91, 92, 93, 94, 95, 96, 97, 98, 99, 100, 101, 102, 103, 104, 105, 106, 107, 108, 109, 110, 111, 112, 113, 114, 115, 116, 117, 118, 119, 127, 128, 129, 130, 131, 132, 133, 134, 135, 136, 137, 138, 139, 140, 141, 142, 143, 144, 145, 146, 147, 148, 149, 150, 151, 152] (by decide +kernel) (by decide +kernel)
set_option maxRecDepth 20000 in
theorem gX4_minor_X0_collectYoung : GoodIn wsX4_minor (wsV RX4 139 RX0 yX0_collectYoung wsX0_collectYoung) := goodIn_app (goodIn_of _ (by decide +kernel)) ggX4_minor_X0_collectYoung
theorem dX4_minor_0 : decode cX4_minor 0 = .ok (.aload_n 0, 1) := by decide +kernel
theorem dX4_minor_1 : decode cX4_minor 1 = .ok (.getfield 35, 3) := by decide +kernel
theorem dX4_minor_4 : decode cX4_minor 4 = .ok (.invokevirtual 139, 3) := by decide +kernel
theorem dX4_minor_7 : decode cX4_minor 7 = .ok (.ireturn, 1) := by decide +kernel
set_option maxRecDepth 20000 in
theorem ggX4_full_X0_collectAll : GoodIn wsX4_full wsX0_collectAll := goodIn_r _ [6, 7, 8, 9, 10, 11, 12, 13, 14, 15, 16, 17, 18, 5, 19, 20, 21, 22, 23, 24, 25, 26, 27, 28, 29, 30, 31, 32, 33, 34, 35, 36, 37, 38, 39, 40, 41, 42, 43, 44, 45, 46, 47, 48, 49, 50, 51, 52, 53, 54, 55, 56, 57, 58, 59, 60, 61, 62, 63, 64, 65, 66, 67, 68, 69, 70, 71, 72, 73, 74, 75, 76, 77, 78, 79, 80, 81, 82, 83, 84, 85, 86, 87, 88, 89, 90, 91, 92, 93, 94, 95, 96, 97, 98, 99, 107, 108, 109, 110, 111, 112, 113, 114, 115, 116, 117, 118, 119, 120, 121, 122, 123, 124, 125, 126, 127, 128, 129, 130, 131, 132] (by decide +kernel) (by decide +kernel)
set_option maxRecDepth 20000 in
theorem gX4_full_X0_collectAll : GoodIn wsX4_full (wsV RX4 143 RX0 yX0_collectAll wsX0_collectAll) := goodIn_app (goodIn_of _ (by decide +kernel)) ggX4_full_X0_collectAll
theorem dX4_full_0 : decode cX4_full 0 = .ok (.aload_n 0, 1) := by decide +kernel
theorem dX4_full_1 : decode cX4_full 1 = .ok (.getfield 35, 3) := by decide +kernel
theorem dX4_full_4 : decode cX4_full 4 = .ok (.invokevirtual 143, 3) := by decide +kernel
theorem dX4_full_7 : decode cX4_full 7 = .ok (.ireturn, 1) := by decide +kernel
theorem dX4_logged_0 : decode cX4_logged 0 = .ok (.iload_n 1, 1) := by decide +kernel
theorem dX4_logged_1 : decode cX4_logged 1 = .ok (.ifCond .lt 26, 3) := by decide +kernel
theorem dX4_logged_4 : decode cX4_logged 4 = .ok (.iload_n 1, 1) := by decide +kernel
theorem dX4_logged_5 : decode cX4_logged 5 = .ok (.aload_n 0, 1) := by decide +kernel
theorem dX4_logged_6 : decode cX4_logged 6 = .ok (.getfield 19, 3) := by decide +kernel
theorem dX4_logged_9 : decode cX4_logged 9 = .ok (.getfield 146, 3) := by decide +kernel
theorem dX4_logged_12 : decode cX4_logged 12 = .ok (.if_icmp .ge 15, 3) := by decide +kernel
theorem dX4_logged_15 : decode cX4_logged 15 = .ok (.aload_n 0, 1) := by decide +kernel
theorem dX4_logged_16 : decode cX4_logged 16 = .ok (.getfield 19, 3) := by decide +kernel
theorem dX4_logged_19 : decode cX4_logged 19 = .ok (.getfield 149, 3) := by decide +kernel
theorem dX4_logged_22 : decode cX4_logged 22 = .ok (.iload_n 1, 1) := by decide +kernel
theorem dX4_logged_23 : decode cX4_logged 23 = .ok (.iaload, 1) := by decide +kernel
theorem dX4_logged_24 : decode cX4_logged 24 = .ok (.goto 4, 3) := by decide +kernel
theorem dX4_logged_27 : decode cX4_logged 27 = .ok (.iconst (-1), 1) := by decide +kernel
theorem dX4_logged_28 : decode cX4_logged 28 = .ok (.ireturn, 1) := by decide +kernel
set_option maxRecDepth 20000 in
theorem ggX4_block_X3_thingsIn : GoodIn wsX4_block wsX3_thingsIn := goodIn_r _ [12, 13, 21, 22, 23, 24, 25, 26, 27, 28, 29] (by decide +kernel) (by decide +kernel)
set_option maxRecDepth 20000 in
theorem gX4_block_X3_thingsIn : GoodIn wsX4_block (wsV RX4 161 RX3 yX3_thingsIn wsX3_thingsIn) := goodIn_app (goodIn_of _ (by decide +kernel)) ggX4_block_X3_thingsIn
theorem dX4_block_0 : decode cX4_block 0 = .ok (.iload_n 1, 1) := by decide +kernel
theorem dX4_block_1 : decode cX4_block 1 = .ok (.ifCond .lt 14, 3) := by decide +kernel
theorem dX4_block_4 : decode cX4_block 4 = .ok (.iload_n 1, 1) := by decide +kernel
theorem dX4_block_5 : decode cX4_block 5 = .ok (.aload_n 0, 1) := by decide +kernel
theorem dX4_block_6 : decode cX4_block 6 = .ok (.getfield 12, 3) := by decide +kernel
theorem dX4_block_9 : decode cX4_block 9 = .ok (.getfield 152, 3) := by decide +kernel
theorem dX4_block_12 : decode cX4_block 12 = .ok (.if_icmp .lt 6, 3) := by decide +kernel
theorem dX4_block_15 : decode cX4_block 15 = .ok (.bipush (-101), 2) := by decide +kernel
theorem dX4_block_17 : decode cX4_block 17 = .ok (.ireturn, 1) := by decide +kernel
theorem dX4_block_18 : decode cX4_block 18 = .ok (.iload_n 2, 1) := by decide +kernel
theorem dX4_block_19 : decode cX4_block 19 = .ok (.tableswitch 97 0 5 #[37, 47, 57, 67, 77, 87], 37) := by decide +kernel
theorem dX4_block_56 : decode cX4_block 56 = .ok (.aload_n 0, 1) := by decide +kernel
theorem dX4_block_57 : decode cX4_block 57 = .ok (.getfield 12, 3) := by decide +kernel
theorem dX4_block_60 : decode cX4_block 60 = .ok (.getfield 155, 3) := by decide +kernel
theorem dX4_block_63 : decode cX4_block 63 = .ok (.iload_n 1, 1) := by decide +kernel
theorem dX4_block_64 : decode cX4_block 64 = .ok (.iaload, 1) := by decide +kernel
theorem dX4_block_65 : decode cX4_block 65 = .ok (.ireturn, 1) := by decide +kernel
theorem dX4_block_66 : decode cX4_block 66 = .ok (.aload_n 0, 1) := by decide +kernel
theorem dX4_block_67 : decode cX4_block 67 = .ok (.getfield 12, 3) := by decide +kernel
theorem dX4_block_70 : decode cX4_block 70 = .ok (.getfield 158, 3) := by decide +kernel
theorem dX4_block_73 : decode cX4_block 73 = .ok (.iload_n 1, 1) := by decide +kernel
theorem dX4_block_74 : decode cX4_block 74 = .ok (.iaload, 1) := by decide +kernel
theorem dX4_block_75 : decode cX4_block 75 = .ok (.ireturn, 1) := by decide +kernel
theorem dX4_block_76 : decode cX4_block 76 = .ok (.aload_n 0, 1) := by decide +kernel
theorem dX4_block_77 : decode cX4_block 77 = .ok (.getfield 12, 3) := by decide +kernel
theorem dX4_block_80 : decode cX4_block 80 = .ok (.iload_n 1, 1) := by decide +kernel
theorem dX4_block_81 : decode cX4_block 81 = .ok (.iconst 1, 1) := by decide +kernel
theorem dX4_block_82 : decode cX4_block 82 = .ok (.invokevirtual 161, 3) := by decide +kernel
theorem dX4_block_85 : decode cX4_block 85 = .ok (.ireturn, 1) := by decide +kernel
theorem dX4_block_86 : decode cX4_block 86 = .ok (.aload_n 0, 1) := by decide +kernel
theorem dX4_block_87 : decode cX4_block 87 = .ok (.getfield 12, 3) := by decide +kernel
theorem dX4_block_90 : decode cX4_block 90 = .ok (.iload_n 1, 1) := by decide +kernel
theorem dX4_block_91 : decode cX4_block 91 = .ok (.iconst 3, 1) := by decide +kernel
theorem dX4_block_92 : decode cX4_block 92 = .ok (.invokevirtual 161, 3) := by decide +kernel
theorem dX4_block_95 : decode cX4_block 95 = .ok (.ireturn, 1) := by decide +kernel
theorem dX4_block_96 : decode cX4_block 96 = .ok (.aload_n 0, 1) := by decide +kernel
theorem dX4_block_97 : decode cX4_block 97 = .ok (.getfield 19, 3) := by decide +kernel
theorem dX4_block_100 : decode cX4_block 100 = .ok (.getfield 165, 3) := by decide +kernel
theorem dX4_block_103 : decode cX4_block 103 = .ok (.iload_n 1, 1) := by decide +kernel
theorem dX4_block_104 : decode cX4_block 104 = .ok (.iaload, 1) := by decide +kernel
theorem dX4_block_105 : decode cX4_block 105 = .ok (.ireturn, 1) := by decide +kernel
theorem dX4_block_106 : decode cX4_block 106 = .ok (.aload_n 0, 1) := by decide +kernel
theorem dX4_block_107 : decode cX4_block 107 = .ok (.getfield 12, 3) := by decide +kernel
theorem dX4_block_110 : decode cX4_block 110 = .ok (.getfield 168, 3) := by decide +kernel
theorem dX4_block_113 : decode cX4_block 113 = .ok (.iload_n 1, 1) := by decide +kernel
theorem dX4_block_114 : decode cX4_block 114 = .ok (.iaload, 1) := by decide +kernel
theorem dX4_block_115 : decode cX4_block 115 = .ok (.ireturn, 1) := by decide +kernel
theorem dX4_block_116 : decode cX4_block 116 = .ok (.bipush (-102), 2) := by decide +kernel
theorem dX4_block_118 : decode cX4_block 118 = .ok (.ireturn, 1) := by decide +kernel
set_option maxRecDepth 20000 in
theorem ggX4_room_X3_roomFor : GoodIn wsX4_room wsX3_roomFor := goodIn_r _ [6, 7, 8, 9, 10, 11, 12, 5, 13, 14, 15, 16, 17, 18, 19, 20, 21, 29, 30, 31, 32, 33, 34, 35, 36, 37] (by decide +kernel) (by decide +kernel)
set_option maxRecDepth 20000 in
theorem gX4_room_X3_roomFor : GoodIn wsX4_room (wsV RX4 171 RX3 yX3_roomFor wsX3_roomFor) := goodIn_app (goodIn_of _ (by decide +kernel)) ggX4_room_X3_roomFor
theorem dX4_room_0 : decode cX4_room 0 = .ok (.iload_n 1, 1) := by decide +kernel
theorem dX4_room_1 : decode cX4_room 1 = .ok (.ifCond .lt 8, 3) := by decide +kernel
theorem dX4_room_4 : decode cX4_room 4 = .ok (.iload_n 1, 1) := by decide +kernel
theorem dX4_room_5 : decode cX4_room 5 = .ok (.iconst 5, 1) := by decide +kernel
theorem dX4_room_6 : decode cX4_room 6 = .ok (.if_icmp .le 8, 3) := by decide +kernel
theorem dX4_room_9 : decode cX4_room 9 = .ok (.bipush (-102), 2) := by decide +kernel
theorem dX4_room_11 : decode cX4_room 11 = .ok (.goto 11, 3) := by decide +kernel
theorem dX4_room_14 : decode cX4_room 14 = .ok (.aload_n 0, 1) := by decide +kernel
theorem dX4_room_15 : decode cX4_room 15 = .ok (.getfield 12, 3) := by decide +kernel
theorem dX4_room_18 : decode cX4_room 18 = .ok (.iload_n 1, 1) := by decide +kernel
theorem dX4_room_19 : decode cX4_room 19 = .ok (.invokevirtual 171, 3) := by decide +kernel
theorem dX4_room_22 : decode cX4_room 22 = .ok (.ireturn, 1) := by decide +kernel
set_option maxRecDepth 20000 in
theorem ggX4_count_X3_things : GoodIn wsX4_count wsX3_things := goodIn_r _ [15, 16, 17, 18, 19, 14, 20, 21, 80, 81, 82, 83, 84, 85, 86, 87, 88] (by decide +kernel) (by decide +kernel)
set_option maxRecDepth 20000 in
theorem gX4_count_X3_things : GoodIn wsX4_count (wsV RX4 43 RX3 yX3_things wsX3_things) := goodIn_app (goodIn_of _ (by decide +kernel)) ggX4_count_X3_things
set_option maxRecDepth 20000 in
theorem ggX4_count_X3_freeBlocks : GoodIn wsX4_count wsX3_freeBlocks := goodIn_r _ [25, 16, 26, 80, 81, 82, 83, 84, 85, 86, 87, 88] (by decide +kernel) (by decide +kernel)
set_option maxRecDepth 20000 in
theorem gX4_count_X3_freeBlocks : GoodIn wsX4_count (wsV RX4 174 RX3 yX3_freeBlocks wsX3_freeBlocks) := goodIn_app (goodIn_of _ (by decide +kernel)) ggX4_count_X3_freeBlocks
set_option maxRecDepth 20000 in
theorem ggX4_count_X3_barredBlocks : GoodIn wsX4_count wsX3_barredBlocks := goodIn_r _ [30, 16, 31, 80, 81, 82, 83, 84, 85, 86, 87, 88] (by decide +kernel) (by decide +kernel)
set_option maxRecDepth 20000 in
theorem gX4_count_X3_barredBlocks : GoodIn wsX4_count (wsV RX4 177 RX3 yX3_barredBlocks wsX3_barredBlocks) := goodIn_app (goodIn_of _ (by decide +kernel)) ggX4_count_X3_barredBlocks
set_option maxRecDepth 20000 in
theorem ggX4_count_X4_thingsInLog : GoodIn wsX4_count wsX4_thingsInLog := goodIn_r _ [36, 1, 37, 3, 38, 39, 40, 41, 42, 43, 44, 45, 46, 47, 14, 48, 21, 49, 50, 51, 52, 53, 54, 55, 56, 57, 58, 59, 60, 61, 62, 63, 64, 65, 66, 67, 68, 69, 73, 74, 75, 76, 77, 78, 79, 80, 81, 82, 83, 84, 85, 86, 87, 88, 89, 90, 91, 92, 93] (by decide +kernel) (by decide +kernel)
set_option maxRecDepth 20000 in
theorem gX4_count_X4_thingsInLog : GoodIn wsX4_count (wsV RX4 180 RX4 yX4_thingsInLog wsX4_thingsInLog) := goodIn_app (goodIn_of _ (by decide +kernel)) ggX4_count_X4_thingsInLog
set_option maxRecDepth 20000 in
theorem ggX4_count_X4_flag : GoodIn wsX4_count wsX4_flag := goodIn_r _ [72] (by decide +kernel) (by decide +kernel)
set_option maxRecDepth 20000 in
theorem gX4_count_X4_flag : GoodIn wsX4_count (va_wsS RX4 63 yX4_flag wsX4_flag) := goodIn_app (goodIn_of _ (by decide +kernel)) ggX4_count_X4_flag
theorem dX4_count_0 : decode cX4_count 0 = .ok (.iload_n 1, 1) := by decide +kernel
theorem dX4_count_1 : decode cX4_count 1 = .ok (.tableswitch 158 0 11 #[63, 71, 80, 89, 97, 105, 110, 121, 126, 134, 142, 150], 63) := by decide +kernel
theorem dX4_count_64 : decode cX4_count 64 = .ok (.aload_n 0, 1) := by decide +kernel
theorem dX4_count_65 : decode cX4_count 65 = .ok (.getfield 12, 3) := by decide +kernel
theorem dX4_count_68 : decode cX4_count 68 = .ok (.getfield 152, 3) := by decide +kernel
theorem dX4_count_71 : decode cX4_count 71 = .ok (.ireturn, 1) := by decide +kernel
theorem dX4_count_72 : decode cX4_count 72 = .ok (.aload_n 0, 1) := by decide +kernel
theorem dX4_count_73 : decode cX4_count 73 = .ok (.getfield 12, 3) := by decide +kernel
theorem dX4_count_76 : decode cX4_count 76 = .ok (.iconst 1, 1) := by decide +kernel
theorem dX4_count_77 : decode cX4_count 77 = .ok (.invokevirtual 43, 3) := by decide +kernel
theorem dX4_count_80 : decode cX4_count 80 = .ok (.ireturn, 1) := by decide +kernel
theorem dX4_count_81 : decode cX4_count 81 = .ok (.aload_n 0, 1) := by decide +kernel
theorem dX4_count_82 : decode cX4_count 82 = .ok (.getfield 12, 3) := by decide +kernel
theorem dX4_count_85 : decode cX4_count 85 = .ok (.iconst 3, 1) := by decide +kernel
theorem dX4_count_86 : decode cX4_count 86 = .ok (.invokevirtual 43, 3) := by decide +kernel
theorem dX4_count_89 : decode cX4_count 89 = .ok (.ireturn, 1) := by decide +kernel
theorem dX4_count_90 : decode cX4_count 90 = .ok (.aload_n 0, 1) := by decide +kernel
theorem dX4_count_91 : decode cX4_count 91 = .ok (.getfield 12, 3) := by decide +kernel
theorem dX4_count_94 : decode cX4_count 94 = .ok (.invokevirtual 174, 3) := by decide +kernel
theorem dX4_count_97 : decode cX4_count 97 = .ok (.ireturn, 1) := by decide +kernel
theorem dX4_count_98 : decode cX4_count 98 = .ok (.aload_n 0, 1) := by decide +kernel
theorem dX4_count_99 : decode cX4_count 99 = .ok (.getfield 12, 3) := by decide +kernel
theorem dX4_count_102 : decode cX4_count 102 = .ok (.invokevirtual 177, 3) := by decide +kernel
theorem dX4_count_105 : decode cX4_count 105 = .ok (.ireturn, 1) := by decide +kernel
theorem dX4_count_106 : decode cX4_count 106 = .ok (.aload_n 0, 1) := by decide +kernel
theorem dX4_count_107 : decode cX4_count 107 = .ok (.invokevirtual 180, 3) := by decide +kernel
theorem dX4_count_110 : decode cX4_count 110 = .ok (.ireturn, 1) := by decide +kernel
theorem dX4_count_111 : decode cX4_count 111 = .ok (.aload_n 0, 1) := by decide +kernel
theorem dX4_count_112 : decode cX4_count 112 = .ok (.getfield 19, 3) := by decide +kernel
theorem dX4_count_115 : decode cX4_count 115 = .ok (.getfield 183, 3) := by decide +kernel
theorem dX4_count_118 : decode cX4_count 118 = .ok (.invokestatic 63, 3) := by decide +kernel
theorem dX4_count_121 : decode cX4_count 121 = .ok (.ireturn, 1) := by decide +kernel
theorem dX4_count_122 : decode cX4_count 122 = .ok (.aload_n 0, 1) := by decide +kernel
theorem dX4_count_123 : decode cX4_count 123 = .ok (.getfield 78, 3) := by decide +kernel
theorem dX4_count_126 : decode cX4_count 126 = .ok (.ireturn, 1) := by decide +kernel
theorem dX4_count_127 : decode cX4_count 127 = .ok (.aload_n 0, 1) := by decide +kernel
theorem dX4_count_128 : decode cX4_count 128 = .ok (.getfield 35, 3) := by decide +kernel
theorem dX4_count_131 : decode cX4_count 131 = .ok (.getfield 186, 3) := by decide +kernel
theorem dX4_count_134 : decode cX4_count 134 = .ok (.ireturn, 1) := by decide +kernel
theorem dX4_count_135 : decode cX4_count 135 = .ok (.aload_n 0, 1) := by decide +kernel
theorem dX4_count_136 : decode cX4_count 136 = .ok (.getfield 35, 3) := by decide +kernel
theorem dX4_count_139 : decode cX4_count 139 = .ok (.getfield 189, 3) := by decide +kernel
theorem dX4_count_142 : decode cX4_count 142 = .ok (.ireturn, 1) := by decide +kernel
theorem dX4_count_143 : decode cX4_count 143 = .ok (.aload_n 0, 1) := by decide +kernel
theorem dX4_count_144 : decode cX4_count 144 = .ok (.getfield 35, 3) := by decide +kernel
theorem dX4_count_147 : decode cX4_count 147 = .ok (.getfield 192, 3) := by decide +kernel
theorem dX4_count_150 : decode cX4_count 150 = .ok (.ireturn, 1) := by decide +kernel
theorem dX4_count_151 : decode cX4_count 151 = .ok (.aload_n 0, 1) := by decide +kernel
theorem dX4_count_152 : decode cX4_count 152 = .ok (.getfield 35, 3) := by decide +kernel
theorem dX4_count_155 : decode cX4_count 155 = .ok (.getfield 195, 3) := by decide +kernel
theorem dX4_count_158 : decode cX4_count 158 = .ok (.ireturn, 1) := by decide +kernel
theorem dX4_count_159 : decode cX4_count 159 = .ok (.bipush (-102), 2) := by decide +kernel
theorem dX4_count_161 : decode cX4_count 161 = .ok (.ireturn, 1) := by decide +kernel
set_option maxRecDepth 20000 in
theorem ggX4_digest_X4_mix : GoodIn wsX4_digest wsX4_mix := goodIn_r _ [19, 20] (by decide +kernel) (by decide +kernel)
set_option maxRecDepth 20000 in
theorem gX4_digest_X4_mix : GoodIn wsX4_digest (va_wsS RX4 200 yX4_mix wsX4_mix) := goodIn_app (goodIn_of _ (by decide +kernel)) ggX4_digest_X4_mix
set_option maxRecDepth 20000 in
theorem ggX4_digest_X3_isThing : GoodIn wsX4_digest wsX3_isThing := goodIn_r _ [25, 26, 27, 67, 68, 69, 70, 71, 72, 73, 74, 75] (by decide +kernel) (by decide +kernel)
set_option maxRecDepth 20000 in
theorem gX4_digest_X3_isThing : GoodIn wsX4_digest (wsV RX4 81 RX3 yX3_isThing wsX3_isThing) := goodIn_app (goodIn_of _ (by decide +kernel)) ggX4_digest_X3_isThing
set_option maxRecDepth 20000 in
theorem ggX4_digest_X4_mixThing : GoodIn wsX4_digest wsX4_mixThing := goodIn_r _ [31, 2, 32, 16, 17, 18, 19, 20, 33, 34, 35, 24, 36, 37, 38, 22, 23, 25, 26, 27, 39, 40, 41, 42, 43, 44, 45, 46, 47, 48, 49, 50, 51, 52, 53, 54, 55, 56, 60, 61, 62, 63, 64, 65, 66, 67, 68, 69, 70, 71, 72, 73, 74, 75] (by decide +kernel) (by decide +kernel)
set_option maxRecDepth 20000 in
theorem gX4_digest_X4_mixThing : GoodIn wsX4_digest (wsV RX4 207 RX4 yX4_mixThing wsX4_mixThing) := goodIn_app (goodIn_of _ (by decide +kernel)) ggX4_digest_X4_mixThing
set_option maxRecDepth 20000 in
theorem ggX4_digest_X4_mixRow : GoodIn wsX4_digest wsX4_mixRow := goodIn_r _ [59, 16, 17, 18, 19, 20] (by decide +kernel) (by decide +kernel)
set_option maxRecDepth 20000 in
theorem gX4_digest_X4_mixRow : GoodIn wsX4_digest (va_wsS RX4 211 yX4_mixRow wsX4_mixRow) := goodIn_app (goodIn_of _ (by decide +kernel)) ggX4_digest_X4_mixRow
set_option maxRecDepth 20000 in
theorem ggX4_digest_X4_flag : GoodIn wsX4_digest wsX4_flag := goodIn_r _ [50] (by decide +kernel) (by decide +kernel)
set_option maxRecDepth 20000 in
theorem gX4_digest_X4_flag : GoodIn wsX4_digest (va_wsS RX4 63 yX4_flag wsX4_flag) := goodIn_app (goodIn_of _ (by decide +kernel)) ggX4_digest_X4_flag
theorem dX4_digest_0 : decode cX4_digest 0 = .ok (.ldc2_w 198, 3) := by decide +kernel
theorem dX4_digest_3 : decode cX4_digest 3 = .ok (.aload_n 0, 1) := by decide +kernel
theorem dX4_digest_4 : decode cX4_digest 4 = .ok (.getfield 12, 3) := by decide +kernel
theorem dX4_digest_7 : decode cX4_digest 7 = .ok (.getfield 152, 3) := by decide +kernel
theorem dX4_digest_10 : decode cX4_digest 10 = .ok (.i2l, 1) := by decide +kernel
theorem dX4_digest_11 : decode cX4_digest 11 = .ok (.invokestatic 200, 3) := by decide +kernel
theorem dX4_digest_14 : decode cX4_digest 14 = .ok (.lstore_n 1, 1) := by decide +kernel
theorem dX4_digest_15 : decode cX4_digest 15 = .ok (.iconst 0, 1) := by decide +kernel
theorem dX4_digest_16 : decode cX4_digest 16 = .ok (.istore_n 3, 1) := by decide +kernel
theorem dX4_digest_17 : decode cX4_digest 17 = .ok (.iload_n 3, 1) := by decide +kernel
theorem dX4_digest_18 : decode cX4_digest 18 = .ok (.aload_n 0, 1) := by decide +kernel
theorem dX4_digest_19 : decode cX4_digest 19 = .ok (.getfield 12, 3) := by decide +kernel
theorem dX4_digest_22 : decode cX4_digest 22 = .ok (.getfield 204, 3) := by decide +kernel
theorem dX4_digest_25 : decode cX4_digest 25 = .ok (.if_icmp .ge 27, 3) := by decide +kernel
theorem dX4_digest_28 : decode cX4_digest 28 = .ok (.aload_n 0, 1) := by decide +kernel
theorem dX4_digest_29 : decode cX4_digest 29 = .ok (.getfield 12, 3) := by decide +kernel
theorem dX4_digest_32 : decode cX4_digest 32 = .ok (.iload_n 3, 1) := by decide +kernel
theorem dX4_digest_33 : decode cX4_digest 33 = .ok (.invokevirtual 81, 3) := by decide +kernel
theorem dX4_digest_36 : decode cX4_digest 36 = .ok (.ifCond .eq 10, 3) := by decide +kernel
theorem dX4_digest_39 : decode cX4_digest 39 = .ok (.aload_n 0, 1) := by decide +kernel
theorem dX4_digest_40 : decode cX4_digest 40 = .ok (.lload_n 1, 1) := by decide +kernel
theorem dX4_digest_41 : decode cX4_digest 41 = .ok (.iload_n 3, 1) := by decide +kernel
theorem dX4_digest_42 : decode cX4_digest 42 = .ok (.invokevirtual 207, 3) := by decide +kernel
theorem dX4_digest_45 : decode cX4_digest 45 = .ok (.lstore_n 1, 1) := by decide +kernel
theorem dX4_digest_46 : decode cX4_digest 46 = .ok (.iinc 3 2, 3) := by decide +kernel
theorem dX4_digest_49 : decode cX4_digest 49 = .ok (.goto (-32), 3) := by decide +kernel
theorem dX4_digest_52 : decode cX4_digest 52 = .ok (.lload_n 1, 1) := by decide +kernel
theorem dX4_digest_53 : decode cX4_digest 53 = .ok (.aload_n 0, 1) := by decide +kernel
theorem dX4_digest_54 : decode cX4_digest 54 = .ok (.getfield 26, 3) := by decide +kernel
theorem dX4_digest_57 : decode cX4_digest 57 = .ok (.getfield 130, 3) := by decide +kernel
theorem dX4_digest_60 : decode cX4_digest 60 = .ok (.bipush 10, 2) := by decide +kernel
theorem dX4_digest_62 : decode cX4_digest 62 = .ok (.invokestatic 211, 3) := by decide +kernel
theorem dX4_digest_65 : decode cX4_digest 65 = .ok (.lstore_n 1, 1) := by decide +kernel
theorem dX4_digest_66 : decode cX4_digest 66 = .ok (.lload_n 1, 1) := by decide +kernel
theorem dX4_digest_67 : decode cX4_digest 67 = .ok (.aload_n 0, 1) := by decide +kernel
theorem dX4_digest_68 : decode cX4_digest 68 = .ok (.getfield 26, 3) := by decide +kernel
theorem dX4_digest_71 : decode cX4_digest 71 = .ok (.getfield 136, 3) := by decide +kernel
theorem dX4_digest_74 : decode cX4_digest 74 = .ok (.aload_n 0, 1) := by decide +kernel
theorem dX4_digest_75 : decode cX4_digest 75 = .ok (.getfield 26, 3) := by decide +kernel
theorem dX4_digest_78 : decode cX4_digest 78 = .ok (.getfield 133, 3) := by decide +kernel
theorem dX4_digest_81 : decode cX4_digest 81 = .ok (.invokestatic 211, 3) := by decide +kernel
theorem dX4_digest_84 : decode cX4_digest 84 = .ok (.lstore_n 1, 1) := by decide +kernel
theorem dX4_digest_85 : decode cX4_digest 85 = .ok (.iconst 0, 1) := by decide +kernel
theorem dX4_digest_86 : decode cX4_digest 86 = .ok (.istore_n 3, 1) := by decide +kernel
theorem dX4_digest_87 : decode cX4_digest 87 = .ok (.iload_n 3, 1) := by decide +kernel
theorem dX4_digest_88 : decode cX4_digest 88 = .ok (.aload_n 0, 1) := by decide +kernel
theorem dX4_digest_89 : decode cX4_digest 89 = .ok (.getfield 12, 3) := by decide +kernel
theorem dX4_digest_92 : decode cX4_digest 92 = .ok (.getfield 152, 3) := by decide +kernel
theorem dX4_digest_95 : decode cX4_digest 95 = .ok (.if_icmp .ge 50, 3) := by decide +kernel
theorem dX4_digest_98 : decode cX4_digest 98 = .ok (.lload_n 1, 1) := by decide +kernel
theorem dX4_digest_99 : decode cX4_digest 99 = .ok (.aload_n 0, 1) := by decide +kernel
theorem dX4_digest_100 : decode cX4_digest 100 = .ok (.getfield 12, 3) := by decide +kernel
theorem dX4_digest_103 : decode cX4_digest 103 = .ok (.getfield 155, 3) := by decide +kernel
theorem dX4_digest_106 : decode cX4_digest 106 = .ok (.iload_n 3, 1) := by decide +kernel
theorem dX4_digest_107 : decode cX4_digest 107 = .ok (.iaload, 1) := by decide +kernel
theorem dX4_digest_108 : decode cX4_digest 108 = .ok (.i2l, 1) := by decide +kernel
theorem dX4_digest_109 : decode cX4_digest 109 = .ok (.invokestatic 200, 3) := by decide +kernel
theorem dX4_digest_112 : decode cX4_digest 112 = .ok (.aload_n 0, 1) := by decide +kernel
theorem dX4_digest_113 : decode cX4_digest 113 = .ok (.getfield 19, 3) := by decide +kernel
theorem dX4_digest_116 : decode cX4_digest 116 = .ok (.getfield 165, 3) := by decide +kernel
theorem dX4_digest_119 : decode cX4_digest 119 = .ok (.iload_n 3, 1) := by decide +kernel
theorem dX4_digest_120 : decode cX4_digest 120 = .ok (.iaload, 1) := by decide +kernel
theorem dX4_digest_121 : decode cX4_digest 121 = .ok (.i2l, 1) := by decide +kernel
theorem dX4_digest_122 : decode cX4_digest 122 = .ok (.invokestatic 200, 3) := by decide +kernel
theorem dX4_digest_125 : decode cX4_digest 125 = .ok (.aload_n 0, 1) := by decide +kernel
theorem dX4_digest_126 : decode cX4_digest 126 = .ok (.getfield 12, 3) := by decide +kernel
theorem dX4_digest_129 : decode cX4_digest 129 = .ok (.getfield 168, 3) := by decide +kernel
theorem dX4_digest_132 : decode cX4_digest 132 = .ok (.iload_n 3, 1) := by decide +kernel
theorem dX4_digest_133 : decode cX4_digest 133 = .ok (.iaload, 1) := by decide +kernel
theorem dX4_digest_134 : decode cX4_digest 134 = .ok (.i2l, 1) := by decide +kernel
theorem dX4_digest_135 : decode cX4_digest 135 = .ok (.invokestatic 200, 3) := by decide +kernel
theorem dX4_digest_138 : decode cX4_digest 138 = .ok (.lstore_n 1, 1) := by decide +kernel
theorem dX4_digest_139 : decode cX4_digest 139 = .ok (.iinc 3 1, 3) := by decide +kernel
theorem dX4_digest_142 : decode cX4_digest 142 = .ok (.goto (-55), 3) := by decide +kernel
theorem dX4_digest_145 : decode cX4_digest 145 = .ok (.lload_n 1, 1) := by decide +kernel
theorem dX4_digest_146 : decode cX4_digest 146 = .ok (.aload_n 0, 1) := by decide +kernel
theorem dX4_digest_147 : decode cX4_digest 147 = .ok (.getfield 19, 3) := by decide +kernel
theorem dX4_digest_150 : decode cX4_digest 150 = .ok (.getfield 149, 3) := by decide +kernel
theorem dX4_digest_153 : decode cX4_digest 153 = .ok (.aload_n 0, 1) := by decide +kernel
theorem dX4_digest_154 : decode cX4_digest 154 = .ok (.getfield 19, 3) := by decide +kernel
theorem dX4_digest_157 : decode cX4_digest 157 = .ok (.getfield 146, 3) := by decide +kernel
theorem dX4_digest_160 : decode cX4_digest 160 = .ok (.invokestatic 211, 3) := by decide +kernel
theorem dX4_digest_163 : decode cX4_digest 163 = .ok (.lstore_n 1, 1) := by decide +kernel
theorem dX4_digest_164 : decode cX4_digest 164 = .ok (.lload_n 1, 1) := by decide +kernel
theorem dX4_digest_165 : decode cX4_digest 165 = .ok (.aload_n 0, 1) := by decide +kernel
theorem dX4_digest_166 : decode cX4_digest 166 = .ok (.getfield 19, 3) := by decide +kernel
theorem dX4_digest_169 : decode cX4_digest 169 = .ok (.getfield 183, 3) := by decide +kernel
theorem dX4_digest_172 : decode cX4_digest 172 = .ok (.invokestatic 63, 3) := by decide +kernel
theorem dX4_digest_175 : decode cX4_digest 175 = .ok (.i2l, 1) := by decide +kernel
theorem dX4_digest_176 : decode cX4_digest 176 = .ok (.invokestatic 200, 3) := by decide +kernel
theorem dX4_digest_179 : decode cX4_digest 179 = .ok (.lreturn, 1) := by decide +kernel
set_option maxRecDepth 20000 in
theorem ggX4_isThingOrNone_X3_isThing : GoodIn wsX4_isThingOrNone wsX3_isThing := goodIn_r _ [6, 7, 8, 16, 17, 18, 19, 20, 21, 22, 23, 24] (by decide +kernel) (by decide +kernel)
set_option maxRecDepth 20000 in
theorem gX4_isThingOrNone_X3_isThing : GoodIn wsX4_isThingOrNone (wsV RX4 81 RX3 yX3_isThing wsX3_isThing) := goodIn_app (goodIn_of _ (by decide +kernel)) ggX4_isThingOrNone_X3_isThing
theorem dX4_isThingOrNone_0 : decode cX4_isThingOrNone 0 = .ok (.iload_n 1, 1) := by decide +kernel
theorem dX4_isThingOrNone_1 : decode cX4_isThingOrNone 1 = .ok (.iconst (-1), 1) := by decide +kernel
theorem dX4_isThingOrNone_2 : decode cX4_isThingOrNone 2 = .ok (.if_icmp .eq 14, 3) := by decide +kernel
theorem dX4_isThingOrNone_5 : decode cX4_isThingOrNone 5 = .ok (.aload_n 0, 1) := by decide +kernel
theorem dX4_isThingOrNone_6 : decode cX4_isThingOrNone 6 = .ok (.getfield 12, 3) := by decide +kernel
theorem dX4_isThingOrNone_9 : decode cX4_isThingOrNone 9 = .ok (.iload_n 1, 1) := by decide +kernel
theorem dX4_isThingOrNone_10 : decode cX4_isThingOrNone 10 = .ok (.invokevirtual 81, 3) := by decide +kernel
theorem dX4_isThingOrNone_13 : decode cX4_isThingOrNone 13 = .ok (.ifCond .eq 7, 3) := by decide +kernel
theorem dX4_isThingOrNone_16 : decode cX4_isThingOrNone 16 = .ok (.iconst 1, 1) := by decide +kernel
theorem dX4_isThingOrNone_17 : decode cX4_isThingOrNone 17 = .ok (.goto 4, 3) := by decide +kernel
theorem dX4_isThingOrNone_20 : decode cX4_isThingOrNone 20 = .ok (.iconst 0, 1) := by decide +kernel
theorem dX4_isThingOrNone_21 : decode cX4_isThingOrNone 21 = .ok (.ireturn, 1) := by decide +kernel
set_option maxRecDepth 20000 in
theorem ggX4_placeFor_X3_placeFor : GoodIn wsX4_placeFor wsX3_placeFor := goodIn_r _ [8, 9, 10, 11, 12, 13, 14, 15, 16, 17, 18, 19, 7, 20, 21, 22, 23, 24, 25, 26, 27, 28, 29, 30, 31, 32, 33, 34, 35, 36, 157, 158, 159, 160, 161, 162, 163, 164, 165] (by decide +kernel) (by decide +kernel)
set_option maxRecDepth 20000 in
theorem gX4_placeFor_X3_placeFor : GoodIn wsX4_placeFor (wsV RX4 215 RX3 yX3_placeFor wsX3_placeFor) := goodIn_app (goodIn_of _ (by decide +kernel)) ggX4_placeFor_X3_placeFor
set_option maxRecDepth 20000 in
theorem ggX4_placeFor_X0_collectYoung : GoodIn wsX4_placeFor wsX0_collectYoung := goodIn_r _ [41, 42, 43, 44, 45, 46, 40, 47, 48, 49, 50, 51, 52, 53, 54, 55, 56, 57, 58, 59, 32, 33, 7, 34, 35, 36, 60, 61, 62, 63, 22, 28, 13, 10, 14, 64, 65, 66, 67, 31, 68, 69, 70, 71, 72, 73, 74, 75, 76, 77, 78, 79, 80, 81, 82, 83, 84, 85, 86, 87, 88, 89, 90, 91, 92, 93, 94, 95, 96, 97, 98, 99, 100, 101, 102, 103, 104, 105, 106, 107, 108, 109, 110, 111, 112, 113, 114, 115, 116, 117, 118, 119, 120, 121, 122, 123, 124, 125, 126, 127, 128, 21, 129, 130, 131, 132, 133, 134, 135, 136, 23, 137, 138, 139, 140, 166, 167, 168, 169, 170, 171, 172, 173, 174, 175, 176, 177, 157, 158, 159, 160, 161, 162, 163, 164, 165, 178, 179, 180, 181, 182] (by decide +kernel) (by decide +kernel)
set_option maxRecDepth 20000 in
theorem gX4_placeFor_X0_collectYoung : GoodIn wsX4_placeFor (wsV RX4 139 RX0 yX0_collectYoung wsX0_collectYoung) := goodIn_app (goodIn_of _ (by decide +kernel)) ggX4_placeFor_X0_collectYoung
set_option maxRecDepth 20000 in
theorem ggX4_placeFor_X0_collectAll : GoodIn wsX4_placeFor wsX0_collectAll := goodIn_r _ [144, 145, 43, 51, 146, 147, 148, 7, 149, 36, 44, 45, 46, 40, 47, 48, 49, 50, 52, 53, 54, 55, 56, 57, 58, 59, 32, 33, 34, 35, 60, 61, 62, 63, 22, 28, 13, 10, 14, 64, 65, 66, 67, 31, 108, 109, 110, 111, 101, 102, 103, 104, 105, 106, 107, 86, 87, 88, 89, 112, 113, 114, 115, 116, 73, 117, 118, 119, 120, 121, 122, 123, 77, 124, 99, 80, 94, 125, 126, 127, 128, 21, 129, 130, 131, 132, 133, 134, 135, 136, 23, 137, 138, 139, 140, 166, 167, 168, 169, 170, 171, 172, 173, 174, 157, 158, 159, 160, 161, 162, 163, 164, 165, 175, 176, 177, 178, 179, 180, 181, 182] (by decide +kernel) (by decide +kernel)
set_option maxRecDepth 20000 in
theorem gX4_placeFor_X0_collectAll : GoodIn wsX4_placeFor (wsV RX4 143 RX0 yX0_collectAll wsX0_collectAll) := goodIn_app (goodIn_of _ (by decide +kernel)) ggX4_placeFor_X0_collectAll
theorem dX4_placeFor_0 : decode cX4_placeFor 0 = .ok (.aload_n 0, 1) := by decide +kernel
theorem dX4_placeFor_1 : decode cX4_placeFor 1 = .ok (.getfield 12, 3) := by decide +kernel
theorem dX4_placeFor_4 : decode cX4_placeFor 4 = .ok (.iload_n 1, 1) := by decide +kernel
theorem dX4_placeFor_5 : decode cX4_placeFor 5 = .ok (.iconst 1, 1) := by decide +kernel
theorem dX4_placeFor_6 : decode cX4_placeFor 6 = .ok (.invokevirtual 215, 3) := by decide +kernel
theorem dX4_placeFor_9 : decode cX4_placeFor 9 = .ok (.istore_n 2, 1) := by decide +kernel
theorem dX4_placeFor_10 : decode cX4_placeFor 10 = .ok (.iload_n 2, 1) := by decide +kernel
theorem dX4_placeFor_11 : decode cX4_placeFor 11 = .ok (.iconst (-1), 1) := by decide +kernel
theorem dX4_placeFor_12 : decode cX4_placeFor 12 = .ok (.if_icmp .ne 28, 3) := by decide +kernel
theorem dX4_placeFor_15 : decode cX4_placeFor 15 = .ok (.aload_n 0, 1) := by decide +kernel
theorem dX4_placeFor_16 : decode cX4_placeFor 16 = .ok (.getfield 39, 3) := by decide +kernel
theorem dX4_placeFor_19 : decode cX4_placeFor 19 = .ok (.ifCond .eq 21, 3) := by decide +kernel
theorem dX4_placeFor_22 : decode cX4_placeFor 22 = .ok (.aload_n 0, 1) := by decide +kernel
theorem dX4_placeFor_23 : decode cX4_placeFor 23 = .ok (.getfield 35, 3) := by decide +kernel
theorem dX4_placeFor_26 : decode cX4_placeFor 26 = .ok (.invokevirtual 139, 3) := by decide +kernel
theorem dX4_placeFor_29 : decode cX4_placeFor 29 = .ok (.pop, 1) := by decide +kernel
theorem dX4_placeFor_30 : decode cX4_placeFor 30 = .ok (.aload_n 0, 1) := by decide +kernel
theorem dX4_placeFor_31 : decode cX4_placeFor 31 = .ok (.getfield 12, 3) := by decide +kernel
theorem dX4_placeFor_34 : decode cX4_placeFor 34 = .ok (.iload_n 1, 1) := by decide +kernel
theorem dX4_placeFor_35 : decode cX4_placeFor 35 = .ok (.iconst 1, 1) := by decide +kernel
theorem dX4_placeFor_36 : decode cX4_placeFor 36 = .ok (.invokevirtual 215, 3) := by decide +kernel
theorem dX4_placeFor_39 : decode cX4_placeFor 39 = .ok (.istore_n 2, 1) := by decide +kernel
theorem dX4_placeFor_40 : decode cX4_placeFor 40 = .ok (.iload_n 2, 1) := by decide +kernel
theorem dX4_placeFor_41 : decode cX4_placeFor 41 = .ok (.iconst (-1), 1) := by decide +kernel
theorem dX4_placeFor_42 : decode cX4_placeFor 42 = .ok (.if_icmp .ne 28, 3) := by decide +kernel
theorem dX4_placeFor_45 : decode cX4_placeFor 45 = .ok (.aload_n 0, 1) := by decide +kernel
theorem dX4_placeFor_46 : decode cX4_placeFor 46 = .ok (.getfield 39, 3) := by decide +kernel
theorem dX4_placeFor_49 : decode cX4_placeFor 49 = .ok (.ifCond .eq 21, 3) := by decide +kernel
theorem dX4_placeFor_52 : decode cX4_placeFor 52 = .ok (.aload_n 0, 1) := by decide +kernel
theorem dX4_placeFor_53 : decode cX4_placeFor 53 = .ok (.getfield 35, 3) := by decide +kernel
theorem dX4_placeFor_56 : decode cX4_placeFor 56 = .ok (.invokevirtual 143, 3) := by decide +kernel
theorem dX4_placeFor_59 : decode cX4_placeFor 59 = .ok (.pop, 1) := by decide +kernel
theorem dX4_placeFor_60 : decode cX4_placeFor 60 = .ok (.aload_n 0, 1) := by decide +kernel
theorem dX4_placeFor_61 : decode cX4_placeFor 61 = .ok (.getfield 12, 3) := by decide +kernel
theorem dX4_placeFor_64 : decode cX4_placeFor 64 = .ok (.iload_n 1, 1) := by decide +kernel
theorem dX4_placeFor_65 : decode cX4_placeFor 65 = .ok (.iconst 1, 1) := by decide +kernel
theorem dX4_placeFor_66 : decode cX4_placeFor 66 = .ok (.invokevirtual 215, 3) := by decide +kernel
theorem dX4_placeFor_69 : decode cX4_placeFor 69 = .ok (.istore_n 2, 1) := by decide +kernel
theorem dX4_placeFor_70 : decode cX4_placeFor 70 = .ok (.iload_n 2, 1) := by decide +kernel
theorem dX4_placeFor_71 : decode cX4_placeFor 71 = .ok (.iconst (-1), 1) := by decide +kernel
theorem dX4_placeFor_72 : decode cX4_placeFor 72 = .ok (.if_icmp .ne 15, 3) := by decide +kernel
theorem dX4_placeFor_75 : decode cX4_placeFor 75 = .ok (.aload_n 0, 1) := by decide +kernel
theorem dX4_placeFor_76 : decode cX4_placeFor 76 = .ok (.getfield 12, 3) := by decide +kernel
theorem dX4_placeFor_79 : decode cX4_placeFor 79 = .ok (.iload_n 1, 1) := by decide +kernel
theorem dX4_placeFor_80 : decode cX4_placeFor 80 = .ok (.iconst 0, 1) := by decide +kernel
theorem dX4_placeFor_81 : decode cX4_placeFor 81 = .ok (.invokevirtual 215, 3) := by decide +kernel
theorem dX4_placeFor_84 : decode cX4_placeFor 84 = .ok (.goto 4, 3) := by decide +kernel
theorem dX4_placeFor_87 : decode cX4_placeFor 87 = .ok (.iload_n 2, 1) := by decide +kernel
theorem dX4_placeFor_88 : decode cX4_placeFor 88 = .ok (.ireturn, 1) := by decide +kernel
set_option maxRecDepth 20000 in
theorem ggX4_thingsInLog_X2_counts : GoodIn wsX4_thingsInLog wsX2_counts := goodIn_r _ [8, 9, 10, 11, 12, 13, 14, 15, 16, 17, 18, 19, 20, 21, 22, 23, 24, 25, 26, 27, 28, 29, 7, 30, 31, 32, 33, 34, 35, 36, 37, 54, 55, 56, 57, 58, 45, 46, 47, 48, 49, 50, 51, 52, 53] (by decide +kernel) (by decide +kernel)
set_option maxRecDepth 20000 in
theorem gX4_thingsInLog_X2_counts : GoodIn wsX4_thingsInLog (wsV RX4 111 RX2 yX2_counts wsX2_counts) := goodIn_app (goodIn_of _ (by decide +kernel)) ggX4_thingsInLog_X2_counts
theorem dX4_thingsInLog_0 : decode cX4_thingsInLog 0 = .ok (.iconst 0, 1) := by decide +kernel
theorem dX4_thingsInLog_1 : decode cX4_thingsInLog 1 = .ok (.istore_n 1, 1) := by decide +kernel
theorem dX4_thingsInLog_2 : decode cX4_thingsInLog 2 = .ok (.iconst 0, 1) := by decide +kernel
theorem dX4_thingsInLog_3 : decode cX4_thingsInLog 3 = .ok (.istore_n 2, 1) := by decide +kernel
theorem dX4_thingsInLog_4 : decode cX4_thingsInLog 4 = .ok (.iload_n 2, 1) := by decide +kernel
theorem dX4_thingsInLog_5 : decode cX4_thingsInLog 5 = .ok (.aload_n 0, 1) := by decide +kernel
theorem dX4_thingsInLog_6 : decode cX4_thingsInLog 6 = .ok (.getfield 12, 3) := by decide +kernel
theorem dX4_thingsInLog_9 : decode cX4_thingsInLog 9 = .ok (.getfield 204, 3) := by decide +kernel
theorem dX4_thingsInLog_12 : decode cX4_thingsInLog 12 = .ok (.if_icmp .ge 27, 3) := by decide +kernel
theorem dX4_thingsInLog_15 : decode cX4_thingsInLog 15 = .ok (.aload_n 0, 1) := by decide +kernel
theorem dX4_thingsInLog_16 : decode cX4_thingsInLog 16 = .ok (.getfield 19, 3) := by decide +kernel
theorem dX4_thingsInLog_19 : decode cX4_thingsInLog 19 = .ok (.aload_n 0, 1) := by decide +kernel
theorem dX4_thingsInLog_20 : decode cX4_thingsInLog 20 = .ok (.getfield 12, 3) := by decide +kernel
theorem dX4_thingsInLog_23 : decode cX4_thingsInLog 23 = .ok (.iload_n 2, 1) := by decide +kernel
theorem dX4_thingsInLog_24 : decode cX4_thingsInLog 24 = .ok (.invokevirtual 111, 3) := by decide +kernel
theorem dX4_thingsInLog_27 : decode cX4_thingsInLog 27 = .ok (.ifCond .eq 6, 3) := by decide +kernel
theorem dX4_thingsInLog_30 : decode cX4_thingsInLog 30 = .ok (.iinc 1 1, 3) := by decide +kernel
theorem dX4_thingsInLog_33 : decode cX4_thingsInLog 33 = .ok (.iinc 2 2, 3) := by decide +kernel
theorem dX4_thingsInLog_36 : decode cX4_thingsInLog 36 = .ok (.goto (-32), 3) := by decide +kernel
theorem dX4_thingsInLog_39 : decode cX4_thingsInLog 39 = .ok (.iload_n 1, 1) := by decide +kernel
theorem dX4_thingsInLog_40 : decode cX4_thingsInLog 40 = .ok (.ireturn, 1) := by decide +kernel
set_option maxRecDepth 20000 in
theorem ggX4_mixThing_X4_mix : GoodIn wsX4_mixThing wsX4_mix := goodIn_r _ [6, 7] (by decide +kernel) (by decide +kernel)
set_option maxRecDepth 20000 in
theorem gX4_mixThing_X4_mix : GoodIn wsX4_mixThing (va_wsS RX4 200 yX4_mix wsX4_mix) := goodIn_app (goodIn_of _ (by decide +kernel)) ggX4_mixThing_X4_mix
set_option maxRecDepth 20000 in
theorem ggX4_mixThing_X3_referencesOf : GoodIn wsX4_mixThing wsX3_referencesOf := goodIn_r _ [12, 13, 14, 15, 16, 11, 17, 18, 19, 45, 46, 47, 48, 49, 50, 51, 52, 53] (by decide +kernel) (by decide +kernel)
set_option maxRecDepth 20000 in
theorem gX4_mixThing_X3_referencesOf : GoodIn wsX4_mixThing (wsV RX4 105 RX3 yX3_referencesOf wsX3_referencesOf) := goodIn_app (goodIn_of _ (by decide +kernel)) ggX4_mixThing_X3_referencesOf
set_option maxRecDepth 20000 in
theorem ggX4_mixThing_X3_numbersOf : GoodIn wsX4_mixThing wsX3_numbersOf := goodIn_r _ [23, 24, 14, 15, 16, 11, 17, 18, 19, 45, 46, 47, 48, 49, 50, 51, 52, 53] (by decide +kernel) (by decide +kernel)
set_option maxRecDepth 20000 in
theorem gX4_mixThing_X3_numbersOf : GoodIn wsX4_mixThing (wsV RX4 108 RX3 yX3_numbersOf wsX3_numbersOf) := goodIn_app (goodIn_of _ (by decide +kernel)) ggX4_mixThing_X3_numbersOf
set_option maxRecDepth 20000 in
theorem ggX4_mixThing_X3_ageOf : GoodIn wsX4_mixThing wsX3_ageOf := goodIn_r _ [28, 19, 14, 15, 16, 11, 17, 18, 45, 46, 47, 48, 49, 50, 51, 52, 53] (by decide +kernel) (by decide +kernel)
set_option maxRecDepth 20000 in
theorem gX4_mixThing_X3_ageOf : GoodIn wsX4_mixThing (wsV RX4 95 RX3 yX3_ageOf wsX3_ageOf) := goodIn_app (goodIn_of _ (by decide +kernel)) ggX4_mixThing_X3_ageOf
set_option maxRecDepth 20000 in
theorem ggX4_mixThing_X4_flag : GoodIn wsX4_mixThing wsX4_flag := goodIn_r _ [31] (by decide +kernel) (by decide +kernel)
set_option maxRecDepth 20000 in
theorem gX4_mixThing_X4_flag : GoodIn wsX4_mixThing (va_wsS RX4 63 yX4_flag wsX4_flag) := goodIn_app (goodIn_of _ (by decide +kernel)) ggX4_mixThing_X4_flag
set_option maxRecDepth 20000 in
theorem ggX4_mixThing_X3_sizeOf : GoodIn wsX4_mixThing wsX3_sizeOf := goodIn_r _ [35, 36, 9, 10, 11, 12, 13, 14, 15, 16, 17, 18, 19, 37, 21, 22, 23, 24, 45, 46, 47, 48, 49, 50, 51, 52, 53] (by decide +kernel) (by decide +kernel)
set_option maxRecDepth 20000 in
theorem gX4_mixThing_X3_sizeOf : GoodIn wsX4_mixThing (wsV RX4 115 RX3 yX3_sizeOf wsX3_sizeOf) := goodIn_app (goodIn_of _ (by decide +kernel)) ggX4_mixThing_X3_sizeOf
theorem dX4_mixThing_0 : decode cX4_mixThing 0 = .ok (.lload_n 1, 1) := by decide +kernel
theorem dX4_mixThing_1 : decode cX4_mixThing 1 = .ok (.iload_n 3, 1) := by decide +kernel
theorem dX4_mixThing_2 : decode cX4_mixThing 2 = .ok (.i2l, 1) := by decide +kernel
theorem dX4_mixThing_3 : decode cX4_mixThing 3 = .ok (.invokestatic 200, 3) := by decide +kernel
theorem dX4_mixThing_6 : decode cX4_mixThing 6 = .ok (.lstore 4, 2) := by decide +kernel
theorem dX4_mixThing_8 : decode cX4_mixThing 8 = .ok (.lload 4, 2) := by decide +kernel
theorem dX4_mixThing_10 : decode cX4_mixThing 10 = .ok (.aload_n 0, 1) := by decide +kernel
theorem dX4_mixThing_11 : decode cX4_mixThing 11 = .ok (.getfield 12, 3) := by decide +kernel
theorem dX4_mixThing_14 : decode cX4_mixThing 14 = .ok (.iload_n 3, 1) := by decide +kernel
theorem dX4_mixThing_15 : decode cX4_mixThing 15 = .ok (.invokevirtual 105, 3) := by decide +kernel
theorem dX4_mixThing_18 : decode cX4_mixThing 18 = .ok (.i2l, 1) := by decide +kernel
theorem dX4_mixThing_19 : decode cX4_mixThing 19 = .ok (.invokestatic 200, 3) := by decide +kernel
theorem dX4_mixThing_22 : decode cX4_mixThing 22 = .ok (.lstore 4, 2) := by decide +kernel
theorem dX4_mixThing_24 : decode cX4_mixThing 24 = .ok (.lload 4, 2) := by decide +kernel
theorem dX4_mixThing_26 : decode cX4_mixThing 26 = .ok (.aload_n 0, 1) := by decide +kernel
theorem dX4_mixThing_27 : decode cX4_mixThing 27 = .ok (.getfield 12, 3) := by decide +kernel
theorem dX4_mixThing_30 : decode cX4_mixThing 30 = .ok (.iload_n 3, 1) := by decide +kernel
theorem dX4_mixThing_31 : decode cX4_mixThing 31 = .ok (.invokevirtual 108, 3) := by decide +kernel
theorem dX4_mixThing_34 : decode cX4_mixThing 34 = .ok (.i2l, 1) := by decide +kernel
theorem dX4_mixThing_35 : decode cX4_mixThing 35 = .ok (.invokestatic 200, 3) := by decide +kernel
theorem dX4_mixThing_38 : decode cX4_mixThing 38 = .ok (.lstore 4, 2) := by decide +kernel
theorem dX4_mixThing_40 : decode cX4_mixThing 40 = .ok (.lload 4, 2) := by decide +kernel
theorem dX4_mixThing_42 : decode cX4_mixThing 42 = .ok (.aload_n 0, 1) := by decide +kernel
theorem dX4_mixThing_43 : decode cX4_mixThing 43 = .ok (.getfield 12, 3) := by decide +kernel
theorem dX4_mixThing_46 : decode cX4_mixThing 46 = .ok (.iload_n 3, 1) := by decide +kernel
theorem dX4_mixThing_47 : decode cX4_mixThing 47 = .ok (.invokevirtual 95, 3) := by decide +kernel
theorem dX4_mixThing_50 : decode cX4_mixThing 50 = .ok (.iconst 3, 1) := by decide +kernel
theorem dX4_mixThing_51 : decode cX4_mixThing 51 = .ok (.if_icmp .ne 7, 3) := by decide +kernel
theorem dX4_mixThing_54 : decode cX4_mixThing 54 = .ok (.iconst 1, 1) := by decide +kernel
theorem dX4_mixThing_55 : decode cX4_mixThing 55 = .ok (.goto 4, 3) := by decide +kernel
theorem dX4_mixThing_58 : decode cX4_mixThing 58 = .ok (.iconst 0, 1) := by decide +kernel
theorem dX4_mixThing_59 : decode cX4_mixThing 59 = .ok (.invokestatic 63, 3) := by decide +kernel
theorem dX4_mixThing_62 : decode cX4_mixThing 62 = .ok (.i2l, 1) := by decide +kernel
theorem dX4_mixThing_63 : decode cX4_mixThing 63 = .ok (.invokestatic 200, 3) := by decide +kernel
theorem dX4_mixThing_66 : decode cX4_mixThing 66 = .ok (.lstore 4, 2) := by decide +kernel
theorem dX4_mixThing_68 : decode cX4_mixThing 68 = .ok (.aload_n 0, 1) := by decide +kernel
theorem dX4_mixThing_69 : decode cX4_mixThing 69 = .ok (.getfield 12, 3) := by decide +kernel
theorem dX4_mixThing_72 : decode cX4_mixThing 72 = .ok (.iload_n 3, 1) := by decide +kernel
theorem dX4_mixThing_73 : decode cX4_mixThing 73 = .ok (.invokevirtual 115, 3) := by decide +kernel
theorem dX4_mixThing_76 : decode cX4_mixThing 76 = .ok (.istore 6, 2) := by decide +kernel
theorem dX4_mixThing_78 : decode cX4_mixThing 78 = .ok (.iconst 0, 1) := by decide +kernel
theorem dX4_mixThing_79 : decode cX4_mixThing 79 = .ok (.istore 7, 2) := by decide +kernel
theorem dX4_mixThing_81 : decode cX4_mixThing 81 = .ok (.iload 7, 2) := by decide +kernel
theorem dX4_mixThing_83 : decode cX4_mixThing 83 = .ok (.iload 6, 2) := by decide +kernel
theorem dX4_mixThing_85 : decode cX4_mixThing 85 = .ok (.if_icmp .ge 29, 3) := by decide +kernel
theorem dX4_mixThing_88 : decode cX4_mixThing 88 = .ok (.lload 4, 2) := by decide +kernel
theorem dX4_mixThing_90 : decode cX4_mixThing 90 = .ok (.aload_n 0, 1) := by decide +kernel
theorem dX4_mixThing_91 : decode cX4_mixThing 91 = .ok (.getfield 12, 3) := by decide +kernel
theorem dX4_mixThing_94 : decode cX4_mixThing 94 = .ok (.getfield 91, 3) := by decide +kernel
theorem dX4_mixThing_97 : decode cX4_mixThing 97 = .ok (.iload_n 3, 1) := by decide +kernel
theorem dX4_mixThing_98 : decode cX4_mixThing 98 = .ok (.iload 7, 2) := by decide +kernel
theorem dX4_mixThing_100 : decode cX4_mixThing 100 = .ok (.iadd, 1) := by decide +kernel
theorem dX4_mixThing_101 : decode cX4_mixThing 101 = .ok (.iaload, 1) := by decide +kernel
theorem dX4_mixThing_102 : decode cX4_mixThing 102 = .ok (.i2l, 1) := by decide +kernel
theorem dX4_mixThing_103 : decode cX4_mixThing 103 = .ok (.invokestatic 200, 3) := by decide +kernel
theorem dX4_mixThing_106 : decode cX4_mixThing 106 = .ok (.lstore 4, 2) := by decide +kernel
theorem dX4_mixThing_108 : decode cX4_mixThing 108 = .ok (.iinc 7 1, 3) := by decide +kernel
theorem dX4_mixThing_111 : decode cX4_mixThing 111 = .ok (.goto (-30), 3) := by decide +kernel
theorem dX4_mixThing_114 : decode cX4_mixThing 114 = .ok (.lload 4, 2) := by decide +kernel
theorem dX4_mixThing_116 : decode cX4_mixThing 116 = .ok (.lreturn, 1) := by decide +kernel
set_option maxRecDepth 20000 in
theorem ggX4_mixRow_X4_mix : GoodIn wsX4_mixRow wsX4_mix := goodIn_r _ [4, 5] (by decide +kernel) (by decide +kernel)
set_option maxRecDepth 20000 in
theorem gX4_mixRow_X4_mix : GoodIn wsX4_mixRow (va_wsS RX4 200 yX4_mix wsX4_mix) := goodIn_app (goodIn_of _ (by decide +kernel)) ggX4_mixRow_X4_mix
theorem dX4_mixRow_0 : decode cX4_mixRow 0 = .ok (.lload_n 0, 1) := by decide +kernel
theorem dX4_mixRow_1 : decode cX4_mixRow 1 = .ok (.lstore 4, 2) := by decide +kernel
theorem dX4_mixRow_3 : decode cX4_mixRow 3 = .ok (.iconst 0, 1) := by decide +kernel
theorem dX4_mixRow_4 : decode cX4_mixRow 4 = .ok (.istore 6, 2) := by decide +kernel
theorem dX4_mixRow_6 : decode cX4_mixRow 6 = .ok (.iload 6, 2) := by decide +kernel
theorem dX4_mixRow_8 : decode cX4_mixRow 8 = .ok (.iload_n 3, 1) := by decide +kernel
theorem dX4_mixRow_9 : decode cX4_mixRow 9 = .ok (.if_icmp .ge 28, 3) := by decide +kernel
theorem dX4_mixRow_12 : decode cX4_mixRow 12 = .ok (.iload 6, 2) := by decide +kernel
theorem dX4_mixRow_14 : decode cX4_mixRow 14 = .ok (.aload_n 2, 1) := by decide +kernel
theorem dX4_mixRow_15 : decode cX4_mixRow 15 = .ok (.arraylength, 1) := by decide +kernel
theorem dX4_mixRow_16 : decode cX4_mixRow 16 = .ok (.if_icmp .ge 21, 3) := by decide +kernel
theorem dX4_mixRow_19 : decode cX4_mixRow 19 = .ok (.lload 4, 2) := by decide +kernel
theorem dX4_mixRow_21 : decode cX4_mixRow 21 = .ok (.aload_n 2, 1) := by decide +kernel
theorem dX4_mixRow_22 : decode cX4_mixRow 22 = .ok (.iload 6, 2) := by decide +kernel
theorem dX4_mixRow_24 : decode cX4_mixRow 24 = .ok (.iaload, 1) := by decide +kernel
theorem dX4_mixRow_25 : decode cX4_mixRow 25 = .ok (.i2l, 1) := by decide +kernel
theorem dX4_mixRow_26 : decode cX4_mixRow 26 = .ok (.invokestatic 200, 3) := by decide +kernel
theorem dX4_mixRow_29 : decode cX4_mixRow 29 = .ok (.lstore 4, 2) := by decide +kernel
theorem dX4_mixRow_31 : decode cX4_mixRow 31 = .ok (.iinc 6 1, 3) := by decide +kernel
theorem dX4_mixRow_34 : decode cX4_mixRow 34 = .ok (.goto (-28), 3) := by decide +kernel
theorem dX4_mixRow_37 : decode cX4_mixRow 37 = .ok (.lload 4, 2) := by decide +kernel
theorem dX4_mixRow_39 : decode cX4_mixRow 39 = .ok (.lreturn, 1) := by decide +kernel
theorem dX4_mix_0 : decode cX4_mix 0 = .ok (.ldc2_w 218, 3) := by decide +kernel
theorem dX4_mix_3 : decode cX4_mix 3 = .ok (.lload_n 0, 1) := by decide +kernel
theorem dX4_mix_4 : decode cX4_mix 4 = .ok (.lmul, 1) := by decide +kernel
theorem dX4_mix_5 : decode cX4_mix 5 = .ok (.lload_n 2, 1) := by decide +kernel
theorem dX4_mix_6 : decode cX4_mix 6 = .ok (.ladd, 1) := by decide +kernel
theorem dX4_mix_7 : decode cX4_mix 7 = .ok (.lreturn, 1) := by decide +kernel
theorem dX4_flag_0 : decode cX4_flag 0 = .ok (.iload_n 0, 1) := by decide +kernel
theorem dX4_flag_1 : decode cX4_flag 1 = .ok (.ifCond .eq 7, 3) := by decide +kernel
theorem dX4_flag_4 : decode cX4_flag 4 = .ok (.iconst 1, 1) := by decide +kernel
theorem dX4_flag_5 : decode cX4_flag 5 = .ok (.goto 4, 3) := by decide +kernel
theorem dX4_flag_8 : decode cX4_flag 8 = .ok (.iconst 0, 1) := by decide +kernel
theorem dX4_flag_9 : decode cX4_flag 9 = .ok (.ireturn, 1) := by decide +kernel
theorem dX4_isRoot_0 : decode cX4_isRoot 0 = .ok (.iload_n 0, 1) := by decide +kernel
theorem dX4_isRoot_1 : decode cX4_isRoot 1 = .ok (.ifCond .lt 13, 3) := by decide +kernel
theorem dX4_isRoot_4 : decode cX4_isRoot 4 = .ok (.iload_n 0, 1) := by decide +kernel
theorem dX4_isRoot_5 : decode cX4_isRoot 5 = .ok (.bipush 10, 2) := by decide +kernel
theorem dX4_isRoot_7 : decode cX4_isRoot 7 = .ok (.if_icmp .ge 7, 3) := by decide +kernel
theorem dX4_isRoot_10 : decode cX4_isRoot 10 = .ok (.iconst 1, 1) := by decide +kernel
theorem dX4_isRoot_11 : decode cX4_isRoot 11 = .ok (.goto 4, 3) := by decide +kernel
theorem dX4_isRoot_14 : decode cX4_isRoot 14 = .ok (.iconst 0, 1) := by decide +kernel
theorem dX4_isRoot_15 : decode cX4_isRoot 15 = .ok (.ireturn, 1) := by decide +kernel
theorem dX4_isShape_0 : decode cX4_isShape 0 = .ok (.iload_n 0, 1) := by decide +kernel
theorem dX4_isShape_1 : decode cX4_isShape 1 = .ok (.ifCond .lt 21, 3) := by decide +kernel
theorem dX4_isShape_4 : decode cX4_isShape 4 = .ok (.iload_n 1, 1) := by decide +kernel
theorem dX4_isShape_5 : decode cX4_isShape 5 = .ok (.ifCond .lt 17, 3) := by decide +kernel
theorem dX4_isShape_8 : decode cX4_isShape 8 = .ok (.iload_n 0, 1) := by decide +kernel
theorem dX4_isShape_9 : decode cX4_isShape 9 = .ok (.sipush 256, 3) := by decide +kernel
theorem dX4_isShape_12 : decode cX4_isShape 12 = .ok (.if_icmp .gt 10, 3) := by decide +kernel
theorem dX4_isShape_15 : decode cX4_isShape 15 = .ok (.iload_n 1, 1) := by decide +kernel
theorem dX4_isShape_16 : decode cX4_isShape 16 = .ok (.sipush 256, 3) := by decide +kernel
theorem dX4_isShape_19 : decode cX4_isShape 19 = .ok (.if_icmp .le 5, 3) := by decide +kernel
theorem dX4_isShape_22 : decode cX4_isShape 22 = .ok (.iconst 0, 1) := by decide +kernel
theorem dX4_isShape_23 : decode cX4_isShape 23 = .ok (.ireturn, 1) := by decide +kernel
theorem dX4_isShape_24 : decode cX4_isShape 24 = .ok (.iload_n 0, 1) := by decide +kernel
theorem dX4_isShape_25 : decode cX4_isShape 25 = .ok (.iload_n 1, 1) := by decide +kernel
theorem dX4_isShape_26 : decode cX4_isShape 26 = .ok (.iadd, 1) := by decide +kernel
theorem dX4_isShape_27 : decode cX4_isShape 27 = .ok (.iconst 1, 1) := by decide +kernel
theorem dX4_isShape_28 : decode cX4_isShape 28 = .ok (.if_icmp .lt 16, 3) := by decide +kernel
theorem dX4_isShape_31 : decode cX4_isShape 31 = .ok (.iload_n 0, 1) := by decide +kernel
theorem dX4_isShape_32 : decode cX4_isShape 32 = .ok (.iload_n 1, 1) := by decide +kernel
theorem dX4_isShape_33 : decode cX4_isShape 33 = .ok (.iadd, 1) := by decide +kernel
theorem dX4_isShape_34 : decode cX4_isShape 34 = .ok (.sipush 256, 3) := by decide +kernel
theorem dX4_isShape_37 : decode cX4_isShape 37 = .ok (.if_icmp .gt 7, 3) := by decide +kernel
theorem dX4_isShape_40 : decode cX4_isShape 40 = .ok (.iconst 1, 1) := by decide +kernel
theorem dX4_isShape_41 : decode cX4_isShape 41 = .ok (.goto 4, 3) := by decide +kernel
theorem dX4_isShape_44 : decode cX4_isShape 44 = .ok (.iconst 0, 1) := by decide +kernel
theorem dX4_isShape_45 : decode cX4_isShape 45 = .ok (.ireturn, 1) := by decide +kernel
theorem dX4_cellWords_0 : decode cX4_cellWords 0 = .ok (.iconst 2, 1) := by decide +kernel
theorem dX4_cellWords_1 : decode cX4_cellWords 1 = .ok (.iload_n 0, 1) := by decide +kernel
theorem dX4_cellWords_2 : decode cX4_cellWords 2 = .ok (.ishl, 1) := by decide +kernel
theorem dX4_cellWords_3 : decode cX4_cellWords 3 = .ok (.ireturn, 1) := by decide +kernel
theorem dX4_cellsOf_0 : decode cX4_cellsOf 0 = .ok (.bipush 32, 2) := by decide +kernel
theorem dX4_cellsOf_2 : decode cX4_cellsOf 2 = .ok (.iload_n 0, 1) := by decide +kernel
theorem dX4_cellsOf_3 : decode cX4_cellsOf 3 = .ok (.ishr, 1) := by decide +kernel
theorem dX4_cellsOf_4 : decode cX4_cellsOf 4 = .ok (.ireturn, 1) := by decide +kernel
set_option maxRecDepth 20000 in
theorem ggX4_classFor_X4_cellWords : GoodIn wsX4_classFor wsX4_cellWords := goodIn_r _ [4] (by decide +kernel) (by decide +kernel)
set_option maxRecDepth 20000 in
theorem gX4_classFor_X4_cellWords : GoodIn wsX4_classFor (va_wsS RX4 220 yX4_cellWords wsX4_cellWords) := goodIn_app (goodIn_of _ (by decide +kernel)) ggX4_classFor_X4_cellWords
theorem dX4_classFor_0 : decode cX4_classFor 0 = .ok (.iconst 0, 1) := by decide +kernel
theorem dX4_classFor_1 : decode cX4_classFor 1 = .ok (.istore_n 1, 1) := by decide +kernel
theorem dX4_classFor_2 : decode cX4_classFor 2 = .ok (.iload_n 1, 1) := by decide +kernel
theorem dX4_classFor_3 : decode cX4_classFor 3 = .ok (.iconst 5, 1) := by decide +kernel
theorem dX4_classFor_4 : decode cX4_classFor 4 = .ok (.if_icmp .ge 19, 3) := by decide +kernel
theorem dX4_classFor_7 : decode cX4_classFor 7 = .ok (.iload_n 0, 1) := by decide +kernel
theorem dX4_classFor_8 : decode cX4_classFor 8 = .ok (.iload_n 1, 1) := by decide +kernel
theorem dX4_classFor_9 : decode cX4_classFor 9 = .ok (.invokestatic 220, 3) := by decide +kernel
theorem dX4_classFor_12 : decode cX4_classFor 12 = .ok (.if_icmp .gt 5, 3) := by decide +kernel
theorem dX4_classFor_15 : decode cX4_classFor 15 = .ok (.iload_n 1, 1) := by decide +kernel
theorem dX4_classFor_16 : decode cX4_classFor 16 = .ok (.ireturn, 1) := by decide +kernel
theorem dX4_classFor_17 : decode cX4_classFor 17 = .ok (.iinc 1 1, 3) := by decide +kernel
theorem dX4_classFor_20 : decode cX4_classFor 20 = .ok (.goto (-18), 3) := by decide +kernel
theorem dX4_classFor_23 : decode cX4_classFor 23 = .ok (.iconst 5, 1) := by decide +kernel
theorem dX4_classFor_24 : decode cX4_classFor 24 = .ok (.ireturn, 1) := by decide +kernel
theorem dX4_blocksFor_0 : decode cX4_blocksFor 0 = .ok (.iload_n 0, 1) := by decide +kernel
theorem dX4_blocksFor_1 : decode cX4_blocksFor 1 = .ok (.bipush 64, 2) := by decide +kernel
theorem dX4_blocksFor_3 : decode cX4_blocksFor 3 = .ok (.iadd, 1) := by decide +kernel
theorem dX4_blocksFor_4 : decode cX4_blocksFor 4 = .ok (.iconst 1, 1) := by decide +kernel
theorem dX4_blocksFor_5 : decode cX4_blocksFor 5 = .ok (.isub, 1) := by decide +kernel
theorem dX4_blocksFor_6 : decode cX4_blocksFor 6 = .ok (.bipush 64, 2) := by decide +kernel
theorem dX4_blocksFor_8 : decode cX4_blocksFor 8 = .ok (.idiv, 1) := by decide +kernel
theorem dX4_blocksFor_9 : decode cX4_blocksFor 9 = .ok (.ireturn, 1) := by decide +kernel
set_option maxRecDepth 20000 in
theorem ggX4_wordsFor_X4_classFor : GoodIn wsX4_wordsFor wsX4_classFor := goodIn_r _ [4, 5, 6, 3, 7] (by decide +kernel) (by decide +kernel)
set_option maxRecDepth 20000 in
theorem gX4_wordsFor_X4_classFor : GoodIn wsX4_wordsFor (va_wsS RX4 121 yX4_classFor wsX4_classFor) := goodIn_app (goodIn_of _ (by decide +kernel)) ggX4_wordsFor_X4_classFor
set_option maxRecDepth 20000 in
theorem ggX4_wordsFor_X4_blocksFor : GoodIn wsX4_wordsFor wsX4_blocksFor := goodIn_r _ [10] (by decide +kernel) (by decide +kernel)
set_option maxRecDepth 20000 in
theorem gX4_wordsFor_X4_blocksFor : GoodIn wsX4_wordsFor (va_wsS RX4 223 yX4_blocksFor wsX4_blocksFor) := goodIn_app (goodIn_of _ (by decide +kernel)) ggX4_wordsFor_X4_blocksFor
set_option maxRecDepth 20000 in
theorem ggX4_wordsFor_X4_cellWords : GoodIn wsX4_wordsFor wsX4_cellWords := goodIn_r _ [7] (by decide +kernel) (by decide +kernel)
set_option maxRecDepth 20000 in
theorem gX4_wordsFor_X4_cellWords : GoodIn wsX4_wordsFor (va_wsS RX4 220 yX4_cellWords wsX4_cellWords) := goodIn_app (goodIn_of _ (by decide +kernel)) ggX4_wordsFor_X4_cellWords
theorem dX4_wordsFor_0 : decode cX4_wordsFor 0 = .ok (.iload_n 0, 1) := by decide +kernel
theorem dX4_wordsFor_1 : decode cX4_wordsFor 1 = .ok (.invokestatic 121, 3) := by decide +kernel
theorem dX4_wordsFor_4 : decode cX4_wordsFor 4 = .ok (.istore_n 1, 1) := by decide +kernel
theorem dX4_wordsFor_5 : decode cX4_wordsFor 5 = .ok (.iload_n 1, 1) := by decide +kernel
theorem dX4_wordsFor_6 : decode cX4_wordsFor 6 = .ok (.iconst 5, 1) := by decide +kernel
theorem dX4_wordsFor_7 : decode cX4_wordsFor 7 = .ok (.if_icmp .ne 13, 3) := by decide +kernel
theorem dX4_wordsFor_10 : decode cX4_wordsFor 10 = .ok (.iload_n 0, 1) := by decide +kernel
theorem dX4_wordsFor_11 : decode cX4_wordsFor 11 = .ok (.invokestatic 223, 3) := by decide +kernel
theorem dX4_wordsFor_14 : decode cX4_wordsFor 14 = .ok (.bipush 64, 2) := by decide +kernel
theorem dX4_wordsFor_16 : decode cX4_wordsFor 16 = .ok (.imul, 1) := by decide +kernel
theorem dX4_wordsFor_17 : decode cX4_wordsFor 17 = .ok (.goto 7, 3) := by decide +kernel
theorem dX4_wordsFor_20 : decode cX4_wordsFor 20 = .ok (.iload_n 1, 1) := by decide +kernel
theorem dX4_wordsFor_21 : decode cX4_wordsFor 21 = .ok (.invokestatic 220, 3) := by decide +kernel
theorem dX4_wordsFor_24 : decode cX4_wordsFor 24 = .ok (.ireturn, 1) := by decide +kernel
