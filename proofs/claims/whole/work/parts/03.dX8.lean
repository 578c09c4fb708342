set_option maxRecDepth 20000 in
theorem ggX8_init_X7_init : GoodIn wsX8_init wsX7_init := goodIn_r _ [22, 23, 2, 3, 24, 25, 26, 27, 28, 29, 30, 31, 32, 33, 34, 35, 36, 37, 38, 39, 40, 41, 42, 43, 44, 45, 46, 47, 48, 49, 50, 51, 52, 53, 54, 55, 56, 57, 58, 59, 60, 61, 110, 111, 112, 113, 114, 92, 93, 94, 115, 116, 117, 118, 119, 120, 121, 122, 123, 124, 125, 126] (by decide +kernel) (by decide +kernel)
set_option maxRecDepth 20000 in
theorem gX8_init_X7_init_n9 : GoodIn wsX8_init (wsX7_init) := ggX8_init_X7_init
set_option maxRecDepth 20000 in
theorem ggX8_init_X4_init : GoodIn wsX8_init wsX4_init := goodIn_r _ [63, 64, 2, 3, 65, 29, 30, 66, 67, 46, 47, 48, 40, 49, 50, 51, 52, 53, 54, 115, 116, 117, 118, 119, 120, 121, 122, 123, 101, 102, 103] (by decide +kernel) (by decide +kernel)
set_option maxRecDepth 20000 in
theorem gX8_init_X4_init_n21 : GoodIn wsX8_init (wsX4_init) := ggX8_init_X4_init
set_option maxRecDepth 20000 in
theorem ggX8_init_X6_init : GoodIn wsX8_init wsX6_init := goodIn_r _ [69, 70, 2, 3, 71, 72, 73, 74, 75, 25, 26, 76, 77, 29, 30, 78, 79, 80, 81, 82, 83, 84, 37, 38, 39, 40, 41, 42, 43, 44, 85, 46, 47, 48, 49, 50, 51, 52, 53, 54, 127, 128, 129, 104, 105, 106, 110, 111, 112, 113, 114, 115, 116, 117, 118, 119, 120, 121, 122, 123] (by decide +kernel) (by decide +kernel)
set_option maxRecDepth 20000 in
theorem gX8_init_X6_init_n28 : GoodIn wsX8_init (wsX6_init) := ggX8_init_X6_init
set_option maxRecDepth 20000 in
theorem ggX8_init_X2_init : GoodIn wsX8_init wsX2_init := goodIn_r _ [87, 88, 2, 3, 89, 90, 91, 107, 108, 109] (by decide +kernel) (by decide +kernel)
set_option maxRecDepth 20000 in
theorem gX8_init_X2_init_n39 : GoodIn wsX8_init (wsX2_init) := ggX8_init_X2_init
theorem dX8_init_0 : decode cX8_init 0 = .ok (.aload_n 0, 1) := by decide +kernel
theorem dX8_init_1 : decode cX8_init 1 = .ok (.invokespecial 1, 3) := by decide +kernel
theorem dX8_init_4 : decode cX8_init 4 = .ok (.aload_n 0, 1) := by decide +kernel
theorem dX8_init_5 : decode cX8_init 5 = .ok (.new 7, 3) := by decide +kernel
theorem dX8_init_8 : decode cX8_init 8 = .ok (.dup, 1) := by decide +kernel
theorem dX8_init_9 : decode cX8_init 9 = .ok (.invokespecial 9, 3) := by decide +kernel
theorem dX8_init_12 : decode cX8_init 12 = .ok (.putfield 10, 3) := by decide +kernel
theorem dX8_init_15 : decode cX8_init 15 = .ok (.aload_n 0, 1) := by decide +kernel
theorem dX8_init_16 : decode cX8_init 16 = .ok (.new 7, 3) := by decide +kernel
theorem dX8_init_19 : decode cX8_init 19 = .ok (.dup, 1) := by decide +kernel
theorem dX8_init_20 : decode cX8_init 20 = .ok (.invokespecial 9, 3) := by decide +kernel
theorem dX8_init_23 : decode cX8_init 23 = .ok (.putfield 16, 3) := by decide +kernel
theorem dX8_init_26 : decode cX8_init 26 = .ok (.aload_n 0, 1) := by decide +kernel
theorem dX8_init_27 : decode cX8_init 27 = .ok (.new 19, 3) := by decide +kernel
theorem dX8_init_30 : decode cX8_init 30 = .ok (.dup, 1) := by decide +kernel
theorem dX8_init_31 : decode cX8_init 31 = .ok (.invokespecial 21, 3) := by decide +kernel
theorem dX8_init_34 : decode cX8_init 34 = .ok (.putfield 22, 3) := by decide +kernel
theorem dX8_init_37 : decode cX8_init 37 = .ok (.aload_n 0, 1) := by decide +kernel
theorem dX8_init_38 : decode cX8_init 38 = .ok (.new 26, 3) := by decide +kernel
theorem dX8_init_41 : decode cX8_init 41 = .ok (.dup, 1) := by decide +kernel
theorem dX8_init_42 : decode cX8_init 42 = .ok (.invokespecial 28, 3) := by decide +kernel
theorem dX8_init_45 : decode cX8_init 45 = .ok (.putfield 29, 3) := by decide +kernel
theorem dX8_init_48 : decode cX8_init 48 = .ok (.aload_n 0, 1) := by decide +kernel
theorem dX8_init_49 : decode cX8_init 49 = .ok (.iconst 4, 1) := by decide +kernel
theorem dX8_init_50 : decode cX8_init 50 = .ok (.anewarray 33, 3) := by decide +kernel
theorem dX8_init_53 : decode cX8_init 53 = .ok (.putfield 35, 3) := by decide +kernel
theorem dX8_init_56 : decode cX8_init 56 = .ok (.iconst 0, 1) := by decide +kernel
theorem dX8_init_57 : decode cX8_init 57 = .ok (.istore_n 1, 1) := by decide +kernel
theorem dX8_init_58 : decode cX8_init 58 = .ok (.iload_n 1, 1) := by decide +kernel
theorem dX8_init_59 : decode cX8_init 59 = .ok (.iconst 4, 1) := by decide +kernel
theorem dX8_init_60 : decode cX8_init 60 = .ok (.if_icmp .ge 22, 3) := by decide +kernel
theorem dX8_init_63 : decode cX8_init 63 = .ok (.aload_n 0, 1) := by decide +kernel
theorem dX8_init_64 : decode cX8_init 64 = .ok (.getfield 35, 3) := by decide +kernel
theorem dX8_init_67 : decode cX8_init 67 = .ok (.iload_n 1, 1) := by decide +kernel
theorem dX8_init_68 : decode cX8_init 68 = .ok (.new 33, 3) := by decide +kernel
theorem dX8_init_71 : decode cX8_init 71 = .ok (.dup, 1) := by decide +kernel
theorem dX8_init_72 : decode cX8_init 72 = .ok (.invokespecial 39, 3) := by decide +kernel
theorem dX8_init_75 : decode cX8_init 75 = .ok (.aastore, 1) := by decide +kernel
theorem dX8_init_76 : decode cX8_init 76 = .ok (.iinc 1 1, 3) := by decide +kernel
theorem dX8_init_79 : decode cX8_init 79 = .ok (.goto (-21), 3) := by decide +kernel
theorem dX8_init_82 : decode cX8_init 82 = .ok (.return_, 1) := by decide +kernel
set_option maxRecDepth 20000 in
theorem ggX8_cell_X5_hasCell : GoodIn wsX8_cell wsX5_hasCell := goodIn_r _ [10, 11, 25, 26, 27, 28, 29] (by decide +kernel) (by decide +kernel)
set_option maxRecDepth 20000 in
theorem gX8_cell_X5_hasCell : GoodIn wsX8_cell (wsV RX8 44 RX5 yX5_hasCell wsX5_hasCell) := goodIn_app (goodIn_of _ (by decide +kernel)) ggX8_cell_X5_hasCell
set_option maxRecDepth 20000 in
theorem ggX8_cell_X8_isIn : GoodIn wsX8_cell wsX8_isIn := goodIn_r _ [15] (by decide +kernel) (by decide +kernel)
set_option maxRecDepth 20000 in
theorem gX8_cell_X8_isIn : GoodIn wsX8_cell (va_wsS RX8 50 yX8_isIn wsX8_isIn) := goodIn_app (goodIn_of _ (by decide +kernel)) ggX8_cell_X8_isIn
theorem dX8_cell_0 : decode cX8_cell 0 = .ok (.aload_n 0, 1) := by decide +kernel
theorem dX8_cell_1 : decode cX8_cell 1 = .ok (.getfield 10, 3) := by decide +kernel
theorem dX8_cell_4 : decode cX8_cell 4 = .ok (.getfield 40, 3) := by decide +kernel
theorem dX8_cell_7 : decode cX8_cell 7 = .ok (.iload_n 1, 1) := by decide +kernel
theorem dX8_cell_8 : decode cX8_cell 8 = .ok (.invokevirtual 44, 3) := by decide +kernel
theorem dX8_cell_11 : decode cX8_cell 11 = .ok (.ifCond .eq 22, 3) := by decide +kernel
theorem dX8_cell_14 : decode cX8_cell 14 = .ok (.iload_n 2, 1) := by decide +kernel
theorem dX8_cell_15 : decode cX8_cell 15 = .ok (.iconst 0, 1) := by decide +kernel
theorem dX8_cell_16 : decode cX8_cell 16 = .ok (.iconst 1, 1) := by decide +kernel
theorem dX8_cell_17 : decode cX8_cell 17 = .ok (.invokestatic 50, 3) := by decide +kernel
theorem dX8_cell_20 : decode cX8_cell 20 = .ok (.ifCond .eq 13, 3) := by decide +kernel
theorem dX8_cell_23 : decode cX8_cell 23 = .ok (.iload_n 3, 1) := by decide +kernel
theorem dX8_cell_24 : decode cX8_cell 24 = .ok (.iconst 0, 1) := by decide +kernel
theorem dX8_cell_25 : decode cX8_cell 25 = .ok (.bipush 9, 2) := by decide +kernel
theorem dX8_cell_27 : decode cX8_cell 27 = .ok (.invokestatic 50, 3) := by decide +kernel
theorem dX8_cell_30 : decode cX8_cell 30 = .ok (.ifCond .ne 5, 3) := by decide +kernel
theorem dX8_cell_33 : decode cX8_cell 33 = .ok (.iconst (-1), 1) := by decide +kernel
theorem dX8_cell_34 : decode cX8_cell 34 = .ok (.ireturn, 1) := by decide +kernel
theorem dX8_cell_35 : decode cX8_cell 35 = .ok (.iload_n 2, 1) := by decide +kernel
theorem dX8_cell_36 : decode cX8_cell 36 = .ok (.ifCond .ne 16, 3) := by decide +kernel
theorem dX8_cell_39 : decode cX8_cell 39 = .ok (.aload_n 0, 1) := by decide +kernel
theorem dX8_cell_40 : decode cX8_cell 40 = .ok (.getfield 10, 3) := by decide +kernel
theorem dX8_cell_43 : decode cX8_cell 43 = .ok (.getfield 40, 3) := by decide +kernel
theorem dX8_cell_46 : decode cX8_cell 46 = .ok (.getfield 54, 3) := by decide +kernel
theorem dX8_cell_49 : decode cX8_cell 49 = .ok (.goto 13, 3) := by decide +kernel
theorem dX8_cell_52 : decode cX8_cell 52 = .ok (.aload_n 0, 1) := by decide +kernel
theorem dX8_cell_53 : decode cX8_cell 53 = .ok (.getfield 10, 3) := by decide +kernel
theorem dX8_cell_56 : decode cX8_cell 56 = .ok (.getfield 58, 3) := by decide +kernel
theorem dX8_cell_59 : decode cX8_cell 59 = .ok (.getfield 62, 3) := by decide +kernel
theorem dX8_cell_62 : decode cX8_cell 62 = .ok (.astore 4, 2) := by decide +kernel
theorem dX8_cell_64 : decode cX8_cell 64 = .ok (.aload 4, 2) := by decide +kernel
theorem dX8_cell_66 : decode cX8_cell 66 = .ok (.iload_n 1, 1) := by decide +kernel
theorem dX8_cell_67 : decode cX8_cell 67 = .ok (.iaload, 1) := by decide +kernel
theorem dX8_cell_68 : decode cX8_cell 68 = .ok (.istore 5, 2) := by decide +kernel
theorem dX8_cell_70 : decode cX8_cell 70 = .ok (.aload 4, 2) := by decide +kernel
theorem dX8_cell_72 : decode cX8_cell 72 = .ok (.iload_n 1, 1) := by decide +kernel
theorem dX8_cell_73 : decode cX8_cell 73 = .ok (.iload_n 3, 1) := by decide +kernel
theorem dX8_cell_74 : decode cX8_cell 74 = .ok (.iastore, 1) := by decide +kernel
theorem dX8_cell_75 : decode cX8_cell 75 = .ok (.iload 5, 2) := by decide +kernel
theorem dX8_cell_77 : decode cX8_cell 77 = .ok (.ireturn, 1) := by decide +kernel
set_option maxRecDepth 20000 in
theorem ggX8_at_X5_hasCell : GoodIn wsX8_at wsX5_hasCell := goodIn_r _ [10, 11, 28, 29, 30, 31, 32] (by decide +kernel) (by decide +kernel)
set_option maxRecDepth 20000 in
theorem gX8_at_X5_hasCell : GoodIn wsX8_at (wsV RX8 44 RX5 yX5_hasCell wsX5_hasCell) := goodIn_app (goodIn_of _ (by decide +kernel)) ggX8_at_X5_hasCell
set_option maxRecDepth 20000 in
theorem ggX8_at_X1_thingsWhere : GoodIn wsX8_at wsX1_thingsWhere := goodIn_r _ [16, 17, 18, 28, 29, 30, 31, 32, 33, 34, 35, 36, 37, 38, 39, 40, 41] (by decide +kernel) (by decide +kernel)
set_option maxRecDepth 20000 in
theorem gX8_at_X1_thingsWhere : GoodIn wsX8_at (wsV RX8 67 RX1 yX1_thingsWhere wsX1_thingsWhere) := goodIn_app (goodIn_of _ (by decide +kernel)) ggX8_at_X1_thingsWhere
theorem dX8_at_0 : decode cX8_at 0 = .ok (.aload_n 0, 1) := by decide +kernel
theorem dX8_at_1 : decode cX8_at 1 = .ok (.getfield 10, 3) := by decide +kernel
theorem dX8_at_4 : decode cX8_at 4 = .ok (.getfield 40, 3) := by decide +kernel
theorem dX8_at_7 : decode cX8_at 7 = .ok (.iload_n 1, 1) := by decide +kernel
theorem dX8_at_8 : decode cX8_at 8 = .ok (.invokevirtual 44, 3) := by decide +kernel
theorem dX8_at_11 : decode cX8_at 11 = .ok (.ifCond .ne 5, 3) := by decide +kernel
theorem dX8_at_14 : decode cX8_at 14 = .ok (.iconst (-1), 1) := by decide +kernel
theorem dX8_at_15 : decode cX8_at 15 = .ok (.ireturn, 1) := by decide +kernel
theorem dX8_at_16 : decode cX8_at 16 = .ok (.iload_n 2, 1) := by decide +kernel
theorem dX8_at_17 : decode cX8_at 17 = .ok (.tableswitch 72 0 2 #[27, 40, 53], 27) := by decide +kernel
theorem dX8_at_44 : decode cX8_at 44 = .ok (.aload_n 0, 1) := by decide +kernel
theorem dX8_at_45 : decode cX8_at 45 = .ok (.getfield 10, 3) := by decide +kernel
theorem dX8_at_48 : decode cX8_at 48 = .ok (.getfield 40, 3) := by decide +kernel
theorem dX8_at_51 : decode cX8_at 51 = .ok (.getfield 54, 3) := by decide +kernel
theorem dX8_at_54 : decode cX8_at 54 = .ok (.iload_n 1, 1) := by decide +kernel
theorem dX8_at_55 : decode cX8_at 55 = .ok (.iaload, 1) := by decide +kernel
theorem dX8_at_56 : decode cX8_at 56 = .ok (.ireturn, 1) := by decide +kernel
theorem dX8_at_57 : decode cX8_at 57 = .ok (.aload_n 0, 1) := by decide +kernel
theorem dX8_at_58 : decode cX8_at 58 = .ok (.getfield 10, 3) := by decide +kernel
theorem dX8_at_61 : decode cX8_at 61 = .ok (.getfield 58, 3) := by decide +kernel
theorem dX8_at_64 : decode cX8_at 64 = .ok (.getfield 62, 3) := by decide +kernel
theorem dX8_at_67 : decode cX8_at 67 = .ok (.iload_n 1, 1) := by decide +kernel
theorem dX8_at_68 : decode cX8_at 68 = .ok (.iaload, 1) := by decide +kernel
theorem dX8_at_69 : decode cX8_at 69 = .ok (.ireturn, 1) := by decide +kernel
theorem dX8_at_70 : decode cX8_at 70 = .ok (.aload_n 0, 1) := by decide +kernel
theorem dX8_at_71 : decode cX8_at 71 = .ok (.getfield 10, 3) := by decide +kernel
theorem dX8_at_74 : decode cX8_at 74 = .ok (.getfield 58, 3) := by decide +kernel
theorem dX8_at_77 : decode cX8_at 77 = .ok (.aload_n 0, 1) := by decide +kernel
theorem dX8_at_78 : decode cX8_at 78 = .ok (.getfield 10, 3) := by decide +kernel
theorem dX8_at_81 : decode cX8_at 81 = .ok (.getfield 40, 3) := by decide +kernel
theorem dX8_at_84 : decode cX8_at 84 = .ok (.iload_n 1, 1) := by decide +kernel
theorem dX8_at_85 : decode cX8_at 85 = .ok (.invokevirtual 67, 3) := by decide +kernel
theorem dX8_at_88 : decode cX8_at 88 = .ok (.ireturn, 1) := by decide +kernel
theorem dX8_at_89 : decode cX8_at 89 = .ok (.iconst (-1), 1) := by decide +kernel
theorem dX8_at_90 : decode cX8_at 90 = .ok (.ireturn, 1) := by decide +kernel
set_option maxRecDepth 20000 in
theorem ggX8_thing_X8_isIn : GoodIn wsX8_thing wsX8_isIn := goodIn_r _ [9] (by decide +kernel) (by decide +kernel)
set_option maxRecDepth 20000 in
theorem gX8_thing_X8_isIn : GoodIn wsX8_thing (va_wsS RX8 50 yX8_isIn wsX8_isIn) := goodIn_app (goodIn_of _ (by decide +kernel)) ggX8_thing_X8_isIn
set_option maxRecDepth 20000 in
theorem ggX8_thing_X5_hasCell : GoodIn wsX8_thing wsX5_hasCell := goodIn_r _ [14, 15, 44, 45, 46, 47, 48] (by decide +kernel) (by decide +kernel)
set_option maxRecDepth 20000 in
theorem gX8_thing_X5_hasCell : GoodIn wsX8_thing (wsV RX8 44 RX5 yX5_hasCell wsX5_hasCell) := goodIn_app (goodIn_of _ (by decide +kernel)) ggX8_thing_X5_hasCell
set_option maxRecDepth 20000 in
theorem ggX8_thing_X5_addThing : GoodIn wsX8_thing wsX5_addThing := goodIn_r _ [19, 20, 21, 22, 44, 45, 46, 47, 48] (by decide +kernel) (by decide +kernel)
set_option maxRecDepth 20000 in
theorem gX8_thing_X5_addThing : GoodIn wsX8_thing (wsV RX8 75 RX5 yX5_addThing wsX5_addThing) := goodIn_app (goodIn_of _ (by decide +kernel)) ggX8_thing_X5_addThing
set_option maxRecDepth 20000 in
theorem ggX8_thing_X1_putAt : GoodIn wsX8_thing wsX1_putAt := goodIn_r _ [27, 28, 49, 50, 51, 52, 53, 54, 55, 56, 57] (by decide +kernel) (by decide +kernel)
set_option maxRecDepth 20000 in
theorem gX8_thing_X1_putAt : GoodIn wsX8_thing (wsV RX8 79 RX1 yX1_putAt wsX1_putAt) := goodIn_app (goodIn_of _ (by decide +kernel)) ggX8_thing_X1_putAt
set_option maxRecDepth 20000 in
theorem ggX8_thing_X0_forget : GoodIn wsX8_thing wsX0_forget := goodIn_r _ [33, 34, 58, 59, 60] (by decide +kernel) (by decide +kernel)
set_option maxRecDepth 20000 in
theorem gX8_thing_X0_forget : GoodIn wsX8_thing (wsV RX8 87 RX0 yX0_forget wsX0_forget) := goodIn_app (goodIn_of _ (by decide +kernel)) ggX8_thing_X0_forget
theorem dX8_thing_0 : decode cX8_thing 0 = .ok (.iload_n 1, 1) := by decide +kernel
theorem dX8_thing_1 : decode cX8_thing 1 = .ok (.iconst 0, 1) := by decide +kernel
theorem dX8_thing_2 : decode cX8_thing 2 = .ok (.iconst 4, 1) := by decide +kernel
theorem dX8_thing_3 : decode cX8_thing 3 = .ok (.invokestatic 50, 3) := by decide +kernel
theorem dX8_thing_6 : decode cX8_thing 6 = .ok (.ifCond .eq 27, 3) := by decide +kernel
theorem dX8_thing_9 : decode cX8_thing 9 = .ok (.iload_n 2, 1) := by decide +kernel
theorem dX8_thing_10 : decode cX8_thing 10 = .ok (.iconst 0, 1) := by decide +kernel
theorem dX8_thing_11 : decode cX8_thing 11 = .ok (.bipush 9, 2) := by decide +kernel
theorem dX8_thing_13 : decode cX8_thing 13 = .ok (.invokestatic 50, 3) := by decide +kernel
theorem dX8_thing_16 : decode cX8_thing 16 = .ok (.ifCond .eq 17, 3) := by decide +kernel
theorem dX8_thing_19 : decode cX8_thing 19 = .ok (.aload_n 0, 1) := by decide +kernel
theorem dX8_thing_20 : decode cX8_thing 20 = .ok (.getfield 10, 3) := by decide +kernel
theorem dX8_thing_23 : decode cX8_thing 23 = .ok (.getfield 40, 3) := by decide +kernel
theorem dX8_thing_26 : decode cX8_thing 26 = .ok (.iload_n 3, 1) := by decide +kernel
theorem dX8_thing_27 : decode cX8_thing 27 = .ok (.invokevirtual 44, 3) := by decide +kernel
theorem dX8_thing_30 : decode cX8_thing 30 = .ok (.ifCond .ne 5, 3) := by decide +kernel
theorem dX8_thing_33 : decode cX8_thing 33 = .ok (.iconst (-1), 1) := by decide +kernel
theorem dX8_thing_34 : decode cX8_thing 34 = .ok (.ireturn, 1) := by decide +kernel
theorem dX8_thing_35 : decode cX8_thing 35 = .ok (.aload_n 0, 1) := by decide +kernel
theorem dX8_thing_36 : decode cX8_thing 36 = .ok (.getfield 10, 3) := by decide +kernel
theorem dX8_thing_39 : decode cX8_thing 39 = .ok (.getfield 40, 3) := by decide +kernel
theorem dX8_thing_42 : decode cX8_thing 42 = .ok (.getfield 71, 3) := by decide +kernel
theorem dX8_thing_45 : decode cX8_thing 45 = .ok (.istore 4, 2) := by decide +kernel
theorem dX8_thing_47 : decode cX8_thing 47 = .ok (.aload_n 0, 1) := by decide +kernel
theorem dX8_thing_48 : decode cX8_thing 48 = .ok (.getfield 10, 3) := by decide +kernel
theorem dX8_thing_51 : decode cX8_thing 51 = .ok (.getfield 40, 3) := by decide +kernel
theorem dX8_thing_54 : decode cX8_thing 54 = .ok (.iload_n 1, 1) := by decide +kernel
theorem dX8_thing_55 : decode cX8_thing 55 = .ok (.iload_n 2, 1) := by decide +kernel
theorem dX8_thing_56 : decode cX8_thing 56 = .ok (.invokevirtual 75, 3) := by decide +kernel
theorem dX8_thing_59 : decode cX8_thing 59 = .ok (.ifCond .ne 6, 3) := by decide +kernel
theorem dX8_thing_62 : decode cX8_thing 62 = .ok (.bipush (-3), 2) := by decide +kernel
theorem dX8_thing_64 : decode cX8_thing 64 = .ok (.ireturn, 1) := by decide +kernel
theorem dX8_thing_65 : decode cX8_thing 65 = .ok (.aload_n 0, 1) := by decide +kernel
theorem dX8_thing_66 : decode cX8_thing 66 = .ok (.getfield 10, 3) := by decide +kernel
theorem dX8_thing_69 : decode cX8_thing 69 = .ok (.getfield 58, 3) := by decide +kernel
theorem dX8_thing_72 : decode cX8_thing 72 = .ok (.iload 4, 2) := by decide +kernel
theorem dX8_thing_74 : decode cX8_thing 74 = .ok (.iload_n 3, 1) := by decide +kernel
theorem dX8_thing_75 : decode cX8_thing 75 = .ok (.invokevirtual 79, 3) := by decide +kernel
theorem dX8_thing_78 : decode cX8_thing 78 = .ok (.aload_n 0, 1) := by decide +kernel
theorem dX8_thing_79 : decode cX8_thing 79 = .ok (.getfield 10, 3) := by decide +kernel
theorem dX8_thing_82 : decode cX8_thing 82 = .ok (.getfield 83, 3) := by decide +kernel
theorem dX8_thing_85 : decode cX8_thing 85 = .ok (.invokevirtual 87, 3) := by decide +kernel
theorem dX8_thing_88 : decode cX8_thing 88 = .ok (.iload 4, 2) := by decide +kernel
theorem dX8_thing_90 : decode cX8_thing 90 = .ok (.ireturn, 1) := by decide +kernel
set_option maxRecDepth 20000 in
theorem ggX8_of_X5_hasThing : GoodIn wsX8_of wsX5_hasThing := goodIn_r _ [11, 12, 38, 39, 40, 41, 42] (by decide +kernel) (by decide +kernel)
set_option maxRecDepth 20000 in
theorem gX8_of_X5_hasThing : GoodIn wsX8_of (wsV RX8 92 RX5 yX5_hasThing wsX5_hasThing) := goodIn_app (goodIn_of _ (by decide +kernel)) ggX8_of_X5_hasThing
set_option maxRecDepth 20000 in
theorem ggX8_of_X1_placeInOrder : GoodIn wsX8_of wsX1_placeInOrder := goodIn_r _ [17, 18, 19, 29, 30, 31, 32, 33, 34, 35, 36, 37] (by decide +kernel) (by decide +kernel)
set_option maxRecDepth 20000 in
theorem gX8_of_X1_placeInOrder : GoodIn wsX8_of (wsV RX8 104 RX1 yX1_placeInOrder wsX1_placeInOrder) := goodIn_app (goodIn_of _ (by decide +kernel)) ggX8_of_X1_placeInOrder
theorem dX8_of_0 : decode cX8_of 0 = .ok (.aload_n 0, 1) := by decide +kernel
theorem dX8_of_1 : decode cX8_of 1 = .ok (.getfield 10, 3) := by decide +kernel
theorem dX8_of_4 : decode cX8_of 4 = .ok (.getfield 40, 3) := by decide +kernel
theorem dX8_of_7 : decode cX8_of 7 = .ok (.iload_n 1, 1) := by decide +kernel
theorem dX8_of_8 : decode cX8_of 8 = .ok (.invokevirtual 92, 3) := by decide +kernel
theorem dX8_of_11 : decode cX8_of 11 = .ok (.ifCond .ne 5, 3) := by decide +kernel
theorem dX8_of_14 : decode cX8_of 14 = .ok (.iconst (-1), 1) := by decide +kernel
theorem dX8_of_15 : decode cX8_of 15 = .ok (.ireturn, 1) := by decide +kernel
theorem dX8_of_16 : decode cX8_of 16 = .ok (.aload_n 0, 1) := by decide +kernel
theorem dX8_of_17 : decode cX8_of 17 = .ok (.getfield 10, 3) := by decide +kernel
theorem dX8_of_20 : decode cX8_of 20 = .ok (.getfield 58, 3) := by decide +kernel
theorem dX8_of_23 : decode cX8_of 23 = .ok (.getfield 95, 3) := by decide +kernel
theorem dX8_of_26 : decode cX8_of 26 = .ok (.iload_n 1, 1) := by decide +kernel
theorem dX8_of_27 : decode cX8_of 27 = .ok (.iaload, 1) := by decide +kernel
theorem dX8_of_28 : decode cX8_of 28 = .ok (.istore_n 3, 1) := by decide +kernel
theorem dX8_of_29 : decode cX8_of 29 = .ok (.iload_n 2, 1) := by decide +kernel
theorem dX8_of_30 : decode cX8_of 30 = .ok (.tableswitch 95 0 4 #[34, 47, 60, 71, 83], 34) := by decide +kernel
theorem dX8_of_64 : decode cX8_of 64 = .ok (.aload_n 0, 1) := by decide +kernel
theorem dX8_of_65 : decode cX8_of 65 = .ok (.getfield 10, 3) := by decide +kernel
theorem dX8_of_68 : decode cX8_of 68 = .ok (.getfield 40, 3) := by decide +kernel
theorem dX8_of_71 : decode cX8_of 71 = .ok (.getfield 98, 3) := by decide +kernel
theorem dX8_of_74 : decode cX8_of 74 = .ok (.iload_n 1, 1) := by decide +kernel
theorem dX8_of_75 : decode cX8_of 75 = .ok (.iaload, 1) := by decide +kernel
theorem dX8_of_76 : decode cX8_of 76 = .ok (.ireturn, 1) := by decide +kernel
theorem dX8_of_77 : decode cX8_of 77 = .ok (.aload_n 0, 1) := by decide +kernel
theorem dX8_of_78 : decode cX8_of 78 = .ok (.getfield 10, 3) := by decide +kernel
theorem dX8_of_81 : decode cX8_of 81 = .ok (.getfield 40, 3) := by decide +kernel
theorem dX8_of_84 : decode cX8_of 84 = .ok (.getfield 101, 3) := by decide +kernel
theorem dX8_of_87 : decode cX8_of 87 = .ok (.iload_n 1, 1) := by decide +kernel
theorem dX8_of_88 : decode cX8_of 88 = .ok (.iaload, 1) := by decide +kernel
theorem dX8_of_89 : decode cX8_of 89 = .ok (.ireturn, 1) := by decide +kernel
theorem dX8_of_90 : decode cX8_of 90 = .ok (.iload_n 3, 1) := by decide +kernel
theorem dX8_of_91 : decode cX8_of 91 = .ok (.ifCond .lt 7, 3) := by decide +kernel
theorem dX8_of_94 : decode cX8_of 94 = .ok (.iload_n 3, 1) := by decide +kernel
theorem dX8_of_95 : decode cX8_of 95 = .ok (.goto 5, 3) := by decide +kernel
theorem dX8_of_98 : decode cX8_of 98 = .ok (.bipush (-4), 2) := by decide +kernel
theorem dX8_of_100 : decode cX8_of 100 = .ok (.ireturn, 1) := by decide +kernel
theorem dX8_of_101 : decode cX8_of 101 = .ok (.aload_n 0, 1) := by decide +kernel
theorem dX8_of_102 : decode cX8_of 102 = .ok (.getfield 10, 3) := by decide +kernel
theorem dX8_of_105 : decode cX8_of 105 = .ok (.getfield 58, 3) := by decide +kernel
theorem dX8_of_108 : decode cX8_of 108 = .ok (.iload_n 1, 1) := by decide +kernel
theorem dX8_of_109 : decode cX8_of 109 = .ok (.invokevirtual 104, 3) := by decide +kernel
theorem dX8_of_112 : decode cX8_of 112 = .ok (.ireturn, 1) := by decide +kernel
theorem dX8_of_113 : decode cX8_of 113 = .ok (.iload_n 3, 1) := by decide +kernel
theorem dX8_of_114 : decode cX8_of 114 = .ok (.bipush (-2), 2) := by decide +kernel
theorem dX8_of_116 : decode cX8_of 116 = .ok (.if_icmp .ne 7, 3) := by decide +kernel
theorem dX8_of_119 : decode cX8_of 119 = .ok (.iconst 1, 1) := by decide +kernel
theorem dX8_of_120 : decode cX8_of 120 = .ok (.goto 4, 3) := by decide +kernel
theorem dX8_of_123 : decode cX8_of 123 = .ok (.iconst 0, 1) := by decide +kernel
theorem dX8_of_124 : decode cX8_of 124 = .ok (.ireturn, 1) := by decide +kernel
theorem dX8_of_125 : decode cX8_of 125 = .ok (.iconst (-1), 1) := by decide +kernel
theorem dX8_of_126 : decode cX8_of 126 = .ok (.ireturn, 1) := by decide +kernel
set_option maxRecDepth 20000 in
theorem ggX8_type_X8_isIn : GoodIn wsX8_type wsX8_isIn := goodIn_r _ [7] (by decide +kernel) (by decide +kernel)
set_option maxRecDepth 20000 in
theorem gX8_type_X8_isIn : GoodIn wsX8_type (va_wsS RX8 50 yX8_isIn wsX8_isIn) := goodIn_app (goodIn_of _ (by decide +kernel)) ggX8_type_X8_isIn
set_option maxRecDepth 20000 in
theorem ggX8_type_X3_add : GoodIn wsX8_type wsX3_add := goodIn_r _ [12, 13, 14, 24, 25, 26] (by decide +kernel) (by decide +kernel)
set_option maxRecDepth 20000 in
theorem gX8_type_X3_add : GoodIn wsX8_type (wsV RX8 112 RX3 yX3_add wsX3_add) := goodIn_app (goodIn_of _ (by decide +kernel)) ggX8_type_X3_add
theorem dX8_type_0 : decode cX8_type 0 = .ok (.iload_n 1, 1) := by decide +kernel
theorem dX8_type_1 : decode cX8_type 1 = .ok (.bipush 32, 2) := by decide +kernel
theorem dX8_type_3 : decode cX8_type 3 = .ok (.bipush 126, 2) := by decide +kernel
theorem dX8_type_5 : decode cX8_type 5 = .ok (.invokestatic 50, 3) := by decide +kernel
theorem dX8_type_8 : decode cX8_type 8 = .ok (.ifCond .ne 5, 3) := by decide +kernel
theorem dX8_type_11 : decode cX8_type 11 = .ok (.iconst (-1), 1) := by decide +kernel
theorem dX8_type_12 : decode cX8_type 12 = .ok (.ireturn, 1) := by decide +kernel
theorem dX8_type_13 : decode cX8_type 13 = .ok (.aload_n 0, 1) := by decide +kernel
theorem dX8_type_14 : decode cX8_type 14 = .ok (.getfield 29, 3) := by decide +kernel
theorem dX8_type_17 : decode cX8_type 17 = .ok (.getfield 108, 3) := by decide +kernel
theorem dX8_type_20 : decode cX8_type 20 = .ok (.iload_n 1, 1) := by decide +kernel
theorem dX8_type_21 : decode cX8_type 21 = .ok (.i2c, 1) := by decide +kernel
theorem dX8_type_22 : decode cX8_type 22 = .ok (.invokevirtual 112, 3) := by decide +kernel
theorem dX8_type_25 : decode cX8_type 25 = .ok (.ifCond .eq 16, 3) := by decide +kernel
theorem dX8_type_28 : decode cX8_type 28 = .ok (.aload_n 0, 1) := by decide +kernel
theorem dX8_type_29 : decode cX8_type 29 = .ok (.getfield 29, 3) := by decide +kernel
theorem dX8_type_32 : decode cX8_type 32 = .ok (.getfield 108, 3) := by decide +kernel
theorem dX8_type_35 : decode cX8_type 35 = .ok (.getfield 118, 3) := by decide +kernel
theorem dX8_type_38 : decode cX8_type 38 = .ok (.goto 5, 3) := by decide +kernel
theorem dX8_type_41 : decode cX8_type 41 = .ok (.bipush (-3), 2) := by decide +kernel
theorem dX8_type_43 : decode cX8_type 43 = .ok (.ireturn, 1) := by decide +kernel
set_option maxRecDepth 20000 in
theorem ggX8_village_X6_readVillage : GoodIn wsX8_village wsX6_readVillage := goodIn_r _ [16, 17, 18, 19, 20, 21, 22, 23, 24, 15, 25, 26, 27, 28, 29, 30, 31, 32, 33, 34, 35, 36, 37, 38, 39, 40, 41, 42, 43, 44, 45, 46, 47, 48, 49, 50, 51, 52, 53, 54, 55, 56, 57, 58, 59, 60, 61, 62, 63, 64, 65, 66, 67, 68, 69, 70, 71, 72, 73, 74, 75, 76, 77, 78, 79, 80, 81, 82, 83, 84, 85, 86, 87, 88, 89, 90, 91, 92, 93, 94, 95, 96, 97, 98, 99, 100, 101, 102, 103, 104, 105, 106, 107, 108, 109, 110, 111, 112, 113, 114, 115, 116, 117, 118, 119, 120, 121, 122, 123, 124, 125, 126, 127, 128, 129, 130, 131, 132, 133, 134, 135, 136, 137, 138, 139, 140, 141, 142, 143, 144, 145, 146, 147, 148, 149, 150, 151, 152, 153, 154, 155, 156, 157, 158, 159, 160, 161, 162, 163, 164, 165, 166, 167, 168, 169, 170, 171, 172, 173, 213, 214, 215, 216, 217, 218, 231, 232, 233, 234, 235, 222, 223, 224, 225, 226, 227, 228, 229, 230] (by decide +kernel) (by decide +kernel)
set_option maxRecDepth 20000 in
theorem gX8_village_X6_readVillage : GoodIn wsX8_village (wsV RX8 121 RX6 yX6_readVillage wsX6_readVillage) := goodIn_app (goodIn_of _ (by decide +kernel)) ggX8_village_X6_readVillage
set_option maxRecDepth 20000 in
theorem ggX8_village_X3_clear : GoodIn wsX8_village wsX3_clear := goodIn_r _ [177, 43, 216, 217, 218] (by decide +kernel) (by decide +kernel)
set_option maxRecDepth 20000 in
theorem gX8_village_X3_clear : GoodIn wsX8_village (wsV RX8 128 RX3 yX3_clear wsX3_clear) := goodIn_app (goodIn_of _ (by decide +kernel)) ggX8_village_X3_clear
set_option maxRecDepth 20000 in
theorem ggX8_village_X5_become : GoodIn wsX8_village wsX5_become := goodIn_r _ [181, 182, 183, 184, 185, 186, 172, 173, 187, 171, 231, 232, 233, 234, 235] (by decide +kernel) (by decide +kernel)
set_option maxRecDepth 20000 in
theorem gX8_village_X5_become : GoodIn wsX8_village (wsV RX8 136 RX5 yX5_become wsX5_become) := goodIn_app (goodIn_of _ (by decide +kernel)) ggX8_village_X5_become
set_option maxRecDepth 20000 in
theorem ggX8_village_X1_become : GoodIn wsX8_village wsX1_become := goodIn_r _ [191, 192, 193, 184, 185, 186, 165, 194, 195, 196, 197, 198, 199, 200, 222, 223, 224, 225, 226, 227, 228, 229, 230] (by decide +kernel) (by decide +kernel)
set_option maxRecDepth 20000 in
theorem gX8_village_X1_become : GoodIn wsX8_village (wsV RX8 140 RX1 yX1_become wsX1_become) := goodIn_app (goodIn_of _ (by decide +kernel)) ggX8_village_X1_become
set_option maxRecDepth 20000 in
theorem ggX8_village_X0_forget : GoodIn wsX8_village wsX0_forget := goodIn_r _ [205, 206, 236, 237, 238] (by decide +kernel) (by decide +kernel)
set_option maxRecDepth 20000 in
theorem gX8_village_X0_forget : GoodIn wsX8_village (wsV RX8 87 RX0 yX0_forget wsX0_forget) := goodIn_app (goodIn_of _ (by decide +kernel)) ggX8_village_X0_forget
theorem dX8_village_0 : decode cX8_village 0 = .ok (.aload_n 0, 1) := by decide +kernel
theorem dX8_village_1 : decode cX8_village 1 = .ok (.getfield 29, 3) := by decide +kernel
theorem dX8_village_4 : decode cX8_village 4 = .ok (.invokevirtual 121, 3) := by decide +kernel
theorem dX8_village_7 : decode cX8_village 7 = .ok (.istore_n 1, 1) := by decide +kernel
theorem dX8_village_8 : decode cX8_village 8 = .ok (.aload_n 0, 1) := by decide +kernel
theorem dX8_village_9 : decode cX8_village 9 = .ok (.getfield 29, 3) := by decide +kernel
theorem dX8_village_12 : decode cX8_village 12 = .ok (.getfield 108, 3) := by decide +kernel
theorem dX8_village_15 : decode cX8_village 15 = .ok (.getfield 125, 3) := by decide +kernel
theorem dX8_village_18 : decode cX8_village 18 = .ok (.istore_n 2, 1) := by decide +kernel
theorem dX8_village_19 : decode cX8_village 19 = .ok (.aload_n 0, 1) := by decide +kernel
theorem dX8_village_20 : decode cX8_village 20 = .ok (.getfield 29, 3) := by decide +kernel
theorem dX8_village_23 : decode cX8_village 23 = .ok (.getfield 108, 3) := by decide +kernel
theorem dX8_village_26 : decode cX8_village 26 = .ok (.invokevirtual 128, 3) := by decide +kernel
theorem dX8_village_29 : decode cX8_village 29 = .ok (.iload_n 1, 1) := by decide +kernel
theorem dX8_village_30 : decode cX8_village 30 = .ok (.ifCond .ne 8, 3) := by decide +kernel
theorem dX8_village_33 : decode cX8_village 33 = .ok (.bipush (-20), 2) := by decide +kernel
theorem dX8_village_35 : decode cX8_village 35 = .ok (.iload_n 2, 1) := by decide +kernel
theorem dX8_village_36 : decode cX8_village 36 = .ok (.isub, 1) := by decide +kernel
theorem dX8_village_37 : decode cX8_village 37 = .ok (.ireturn, 1) := by decide +kernel
theorem dX8_village_38 : decode cX8_village 38 = .ok (.aload_n 0, 1) := by decide +kernel
theorem dX8_village_39 : decode cX8_village 39 = .ok (.getfield 29, 3) := by decide +kernel
theorem dX8_village_42 : decode cX8_village 42 = .ok (.getfield 131, 3) := by decide +kernel
theorem dX8_village_45 : decode cX8_village 45 = .ok (.aload_n 0, 1) := by decide +kernel
theorem dX8_village_46 : decode cX8_village 46 = .ok (.getfield 10, 3) := by decide +kernel
theorem dX8_village_49 : decode cX8_village 49 = .ok (.getfield 58, 3) := by decide +kernel
theorem dX8_village_52 : decode cX8_village 52 = .ok (.getfield 132, 3) := by decide +kernel
theorem dX8_village_55 : decode cX8_village 55 = .ok (.putfield 132, 3) := by decide +kernel
theorem dX8_village_58 : decode cX8_village 58 = .ok (.aload_n 0, 1) := by decide +kernel
theorem dX8_village_59 : decode cX8_village 59 = .ok (.getfield 10, 3) := by decide +kernel
theorem dX8_village_62 : decode cX8_village 62 = .ok (.getfield 40, 3) := by decide +kernel
theorem dX8_village_65 : decode cX8_village 65 = .ok (.aload_n 0, 1) := by decide +kernel
theorem dX8_village_66 : decode cX8_village 66 = .ok (.getfield 29, 3) := by decide +kernel
theorem dX8_village_69 : decode cX8_village 69 = .ok (.getfield 135, 3) := by decide +kernel
theorem dX8_village_72 : decode cX8_village 72 = .ok (.invokevirtual 136, 3) := by decide +kernel
theorem dX8_village_75 : decode cX8_village 75 = .ok (.aload_n 0, 1) := by decide +kernel
theorem dX8_village_76 : decode cX8_village 76 = .ok (.getfield 10, 3) := by decide +kernel
theorem dX8_village_79 : decode cX8_village 79 = .ok (.getfield 58, 3) := by decide +kernel
theorem dX8_village_82 : decode cX8_village 82 = .ok (.aload_n 0, 1) := by decide +kernel
theorem dX8_village_83 : decode cX8_village 83 = .ok (.getfield 29, 3) := by decide +kernel
theorem dX8_village_86 : decode cX8_village 86 = .ok (.getfield 131, 3) := by decide +kernel
theorem dX8_village_89 : decode cX8_village 89 = .ok (.invokevirtual 140, 3) := by decide +kernel
theorem dX8_village_92 : decode cX8_village 92 = .ok (.aload_n 0, 1) := by decide +kernel
theorem dX8_village_93 : decode cX8_village 93 = .ok (.getfield 10, 3) := by decide +kernel
theorem dX8_village_96 : decode cX8_village 96 = .ok (.getfield 83, 3) := by decide +kernel
theorem dX8_village_99 : decode cX8_village 99 = .ok (.invokevirtual 87, 3) := by decide +kernel
theorem dX8_village_102 : decode cX8_village 102 = .ok (.aload_n 0, 1) := by decide +kernel
theorem dX8_village_103 : decode cX8_village 103 = .ok (.getfield 10, 3) := by decide +kernel
theorem dX8_village_106 : decode cX8_village 106 = .ok (.getfield 40, 3) := by decide +kernel
theorem dX8_village_109 : decode cX8_village 109 = .ok (.getfield 143, 3) := by decide +kernel
theorem dX8_village_112 : decode cX8_village 112 = .ok (.ireturn, 1) := by decide +kernel
set_option maxRecDepth 20000 in
theorem ggX8_count_X1_thingsWhere : GoodIn wsX8_count wsX1_thingsWhere := goodIn_r _ [16, 17, 18, 34, 35, 36, 37, 38, 39, 40, 41, 42, 43, 44, 45, 46, 47] (by decide +kernel) (by decide +kernel)
set_option maxRecDepth 20000 in
theorem gX8_count_X1_thingsWhere : GoodIn wsX8_count (wsV RX8 67 RX1 yX1_thingsWhere wsX1_thingsWhere) := goodIn_app (goodIn_of _ (by decide +kernel)) ggX8_count_X1_thingsWhere
set_option maxRecDepth 20000 in
theorem ggX8_count_X1_snowOfAll : GoodIn wsX8_count wsX1_snowOfAll := goodIn_r _ [22, 23, 24, 34, 35, 36, 37, 38, 39, 40, 41, 42, 43, 44, 45, 46, 47] (by decide +kernel) (by decide +kernel)
set_option maxRecDepth 20000 in
theorem gX8_count_X1_snowOfAll : GoodIn wsX8_count (wsV RX8 157 RX1 yX1_snowOfAll wsX1_snowOfAll) := goodIn_app (goodIn_of _ (by decide +kernel)) ggX8_count_X1_snowOfAll
theorem dX8_count_0 : decode cX8_count 0 = .ok (.aload_n 0, 1) := by decide +kernel
theorem dX8_count_1 : decode cX8_count 1 = .ok (.getfield 10, 3) := by decide +kernel
theorem dX8_count_4 : decode cX8_count 4 = .ok (.getfield 58, 3) := by decide +kernel
theorem dX8_count_7 : decode cX8_count 7 = .ok (.astore_n 2, 1) := by decide +kernel
theorem dX8_count_8 : decode cX8_count 8 = .ok (.iload_n 1, 1) := by decide +kernel
theorem dX8_count_9 : decode cX8_count 9 = .ok (.tableswitch 137 0 8 #[51, 62, 73, 78, 83, 88, 101, 114, 126], 51) := by decide +kernel
theorem dX8_count_60 : decode cX8_count 60 = .ok (.aload_n 0, 1) := by decide +kernel
theorem dX8_count_61 : decode cX8_count 61 = .ok (.getfield 10, 3) := by decide +kernel
theorem dX8_count_64 : decode cX8_count 64 = .ok (.getfield 40, 3) := by decide +kernel
theorem dX8_count_67 : decode cX8_count 67 = .ok (.getfield 143, 3) := by decide +kernel
theorem dX8_count_70 : decode cX8_count 70 = .ok (.ireturn, 1) := by decide +kernel
theorem dX8_count_71 : decode cX8_count 71 = .ok (.aload_n 0, 1) := by decide +kernel
theorem dX8_count_72 : decode cX8_count 72 = .ok (.getfield 10, 3) := by decide +kernel
theorem dX8_count_75 : decode cX8_count 75 = .ok (.getfield 40, 3) := by decide +kernel
theorem dX8_count_78 : decode cX8_count 78 = .ok (.getfield 71, 3) := by decide +kernel
theorem dX8_count_81 : decode cX8_count 81 = .ok (.ireturn, 1) := by decide +kernel
theorem dX8_count_82 : decode cX8_count 82 = .ok (.aload_n 2, 1) := by decide +kernel
theorem dX8_count_83 : decode cX8_count 83 = .ok (.getfield 146, 3) := by decide +kernel
theorem dX8_count_86 : decode cX8_count 86 = .ok (.ireturn, 1) := by decide +kernel
theorem dX8_count_87 : decode cX8_count 87 = .ok (.aload_n 2, 1) := by decide +kernel
theorem dX8_count_88 : decode cX8_count 88 = .ok (.getfield 147, 3) := by decide +kernel
theorem dX8_count_91 : decode cX8_count 91 = .ok (.ireturn, 1) := by decide +kernel
theorem dX8_count_92 : decode cX8_count 92 = .ok (.aload_n 2, 1) := by decide +kernel
theorem dX8_count_93 : decode cX8_count 93 = .ok (.getfield 150, 3) := by decide +kernel
theorem dX8_count_96 : decode cX8_count 96 = .ok (.ireturn, 1) := by decide +kernel
theorem dX8_count_97 : decode cX8_count 97 = .ok (.aload_n 2, 1) := by decide +kernel
theorem dX8_count_98 : decode cX8_count 98 = .ok (.getfield 153, 3) := by decide +kernel
theorem dX8_count_101 : decode cX8_count 101 = .ok (.ifCond .eq 7, 3) := by decide +kernel
theorem dX8_count_104 : decode cX8_count 104 = .ok (.iconst 1, 1) := by decide +kernel
theorem dX8_count_105 : decode cX8_count 105 = .ok (.goto 4, 3) := by decide +kernel
theorem dX8_count_108 : decode cX8_count 108 = .ok (.iconst 0, 1) := by decide +kernel
theorem dX8_count_109 : decode cX8_count 109 = .ok (.ireturn, 1) := by decide +kernel
theorem dX8_count_110 : decode cX8_count 110 = .ok (.aload_n 2, 1) := by decide +kernel
theorem dX8_count_111 : decode cX8_count 111 = .ok (.aload_n 0, 1) := by decide +kernel
theorem dX8_count_112 : decode cX8_count 112 = .ok (.getfield 10, 3) := by decide +kernel
theorem dX8_count_115 : decode cX8_count 115 = .ok (.getfield 40, 3) := by decide +kernel
theorem dX8_count_118 : decode cX8_count 118 = .ok (.iconst (-1), 1) := by decide +kernel
theorem dX8_count_119 : decode cX8_count 119 = .ok (.invokevirtual 67, 3) := by decide +kernel
theorem dX8_count_122 : decode cX8_count 122 = .ok (.ireturn, 1) := by decide +kernel
theorem dX8_count_123 : decode cX8_count 123 = .ok (.aload_n 2, 1) := by decide +kernel
theorem dX8_count_124 : decode cX8_count 124 = .ok (.aload_n 0, 1) := by decide +kernel
theorem dX8_count_125 : decode cX8_count 125 = .ok (.getfield 10, 3) := by decide +kernel
theorem dX8_count_128 : decode cX8_count 128 = .ok (.getfield 40, 3) := by decide +kernel
theorem dX8_count_131 : decode cX8_count 131 = .ok (.invokevirtual 157, 3) := by decide +kernel
theorem dX8_count_134 : decode cX8_count 134 = .ok (.ireturn, 1) := by decide +kernel
theorem dX8_count_135 : decode cX8_count 135 = .ok (.aload_n 0, 1) := by decide +kernel
theorem dX8_count_136 : decode cX8_count 136 = .ok (.getfield 10, 3) := by decide +kernel
theorem dX8_count_139 : decode cX8_count 139 = .ok (.getfield 83, 3) := by decide +kernel
theorem dX8_count_142 : decode cX8_count 142 = .ok (.getfield 161, 3) := by decide +kernel
theorem dX8_count_145 : decode cX8_count 145 = .ok (.ireturn, 1) := by decide +kernel
theorem dX8_count_146 : decode cX8_count 146 = .ok (.iconst (-1), 1) := by decide +kernel
theorem dX8_count_147 : decode cX8_count 147 = .ok (.ireturn, 1) := by decide +kernel
set_option maxRecDepth 20000 in
theorem ggX8_go_X8_isIn : GoodIn wsX8_go wsX8_isIn := goodIn_r _ [7] (by decide +kernel) (by decide +kernel)
set_option maxRecDepth 20000 in
theorem gX8_go_X8_isIn : GoodIn wsX8_go (va_wsS RX8 50 yX8_isIn wsX8_isIn) := goodIn_app (goodIn_of _ (by decide +kernel)) ggX8_go_X8_isIn
set_option maxRecDepth 20000 in
theorem ggX8_go_X0_remember : GoodIn wsX8_go wsX0_remember := goodIn_r _ [12, 13, 14, 15, 16, 17, 18, 19, 20, 21, 22, 23, 24, 25, 26, 27, 28, 29, 30, 31, 32, 33, 34, 35, 36, 37, 55, 56, 57, 58, 59, 60, 61, 62, 63, 64, 65, 66] (by decide +kernel) (by decide +kernel)
set_option maxRecDepth 20000 in
theorem gX8_go_X0_remember : GoodIn wsX8_go (wsV RX8 164 RX0 yX0_remember wsX0_remember) := goodIn_app (goodIn_of _ (by decide +kernel)) ggX8_go_X0_remember
set_option maxRecDepth 20000 in
theorem ggX8_go_X1_letGo : GoodIn wsX8_go wsX1_letGo := goodIn_r _ [41, 32, 31, 33, 34, 35, 36, 42, 43, 44, 23, 45, 30, 58, 59, 60, 61, 62, 63, 64, 65, 66] (by decide +kernel) (by decide +kernel)
set_option maxRecDepth 20000 in
theorem gX8_go_X1_letGo : GoodIn wsX8_go (wsV RX8 167 RX1 yX1_letGo wsX1_letGo) := goodIn_app (goodIn_of _ (by decide +kernel)) ggX8_go_X1_letGo
theorem dX8_go_0 : decode cX8_go 0 = .ok (.iload_n 1, 1) := by decide +kernel
theorem dX8_go_1 : decode cX8_go 1 = .ok (.iconst 1, 1) := by decide +kernel
theorem dX8_go_2 : decode cX8_go 2 = .ok (.bipush 99, 2) := by decide +kernel
theorem dX8_go_4 : decode cX8_go 4 = .ok (.invokestatic 50, 3) := by decide +kernel
theorem dX8_go_7 : decode cX8_go 7 = .ok (.ifCond .eq 13, 3) := by decide +kernel
theorem dX8_go_10 : decode cX8_go 10 = .ok (.iload_n 2, 1) := by decide +kernel
theorem dX8_go_11 : decode cX8_go 11 = .ok (.iconst 0, 1) := by decide +kernel
theorem dX8_go_12 : decode cX8_go 12 = .ok (.bipush 99, 2) := by decide +kernel
theorem dX8_go_14 : decode cX8_go 14 = .ok (.invokestatic 50, 3) := by decide +kernel
theorem dX8_go_17 : decode cX8_go 17 = .ok (.ifCond .ne 5, 3) := by decide +kernel
theorem dX8_go_20 : decode cX8_go 20 = .ok (.iconst (-1), 1) := by decide +kernel
theorem dX8_go_21 : decode cX8_go 21 = .ok (.ireturn, 1) := by decide +kernel
theorem dX8_go_22 : decode cX8_go 22 = .ok (.aload_n 0, 1) := by decide +kernel
theorem dX8_go_23 : decode cX8_go 23 = .ok (.getfield 10, 3) := by decide +kernel
theorem dX8_go_26 : decode cX8_go 26 = .ok (.getfield 83, 3) := by decide +kernel
theorem dX8_go_29 : decode cX8_go 29 = .ok (.aload_n 0, 1) := by decide +kernel
theorem dX8_go_30 : decode cX8_go 30 = .ok (.getfield 10, 3) := by decide +kernel
theorem dX8_go_33 : decode cX8_go 33 = .ok (.getfield 58, 3) := by decide +kernel
theorem dX8_go_36 : decode cX8_go 36 = .ok (.invokevirtual 164, 3) := by decide +kernel
theorem dX8_go_39 : decode cX8_go 39 = .ok (.aload_n 0, 1) := by decide +kernel
theorem dX8_go_40 : decode cX8_go 40 = .ok (.getfield 10, 3) := by decide +kernel
theorem dX8_go_43 : decode cX8_go 43 = .ok (.getfield 58, 3) := by decide +kernel
theorem dX8_go_46 : decode cX8_go 46 = .ok (.iload_n 1, 1) := by decide +kernel
theorem dX8_go_47 : decode cX8_go 47 = .ok (.iload_n 2, 1) := by decide +kernel
theorem dX8_go_48 : decode cX8_go 48 = .ok (.invokevirtual 167, 3) := by decide +kernel
theorem dX8_go_51 : decode cX8_go 51 = .ok (.ireturn, 1) := by decide +kernel
set_option maxRecDepth 20000 in
theorem ggX8_steps_X8_isIn : GoodIn wsX8_steps wsX8_isIn := goodIn_r _ [9] (by decide +kernel) (by decide +kernel)
set_option maxRecDepth 20000 in
theorem gX8_steps_X8_isIn : GoodIn wsX8_steps (va_wsS RX8 50 yX8_isIn wsX8_isIn) := goodIn_app (goodIn_of _ (by decide +kernel)) ggX8_steps_X8_isIn
set_option maxRecDepth 20000 in
theorem ggX8_steps_X0_remember : GoodIn wsX8_steps wsX0_remember := goodIn_r _ [14, 15, 16, 17, 18, 19, 20, 21, 22, 23, 24, 25, 26, 27, 28, 29, 30, 31, 32, 33, 34, 35, 36, 37, 38, 39, 105, 106, 107, 96, 97, 98, 99, 100, 101, 102, 103, 104] (by decide +kernel) (by decide +kernel)
set_option maxRecDepth 20000 in
theorem gX8_steps_X0_remember : GoodIn wsX8_steps (wsV RX8 164 RX0 yX0_remember wsX0_remember) := goodIn_app (goodIn_of _ (by decide +kernel)) ggX8_steps_X0_remember
set_option maxRecDepth 20000 in
theorem ggX8_steps_X1_step : GoodIn wsX8_steps wsX1_step := goodIn_r _ [43, 38, 35, 44, 37, 36, 45, 46, 20, 47, 48, 19, 21, 27, 49, 50, 51, 52, 53, 54, 55, 56, 57, 25, 58, 59, 60, 61, 62, 63, 64, 65, 66, 67, 32, 68, 69, 70, 71, 72, 73, 74, 75, 76, 77, 34, 33, 78, 79, 80, 81, 82, 83, 84, 85, 86, 96, 97, 98, 99, 100, 101, 102, 103, 104, 108, 109, 110, 111, 112] (by decide +kernel) (by decide +kernel)
set_option maxRecDepth 20000 in
theorem gX8_steps_X1_step : GoodIn wsX8_steps (wsV RX8 171 RX1 yX1_step wsX1_step) := goodIn_app (goodIn_of _ (by decide +kernel)) ggX8_steps_X1_step
theorem dX8_steps_0 : decode cX8_steps 0 = .ok (.iload_n 1, 1) := by decide +kernel
theorem dX8_steps_1 : decode cX8_steps 1 = .ok (.iconst 1, 1) := by decide +kernel
theorem dX8_steps_2 : decode cX8_steps 2 = .ok (.bipush 24, 2) := by decide +kernel
theorem dX8_steps_4 : decode cX8_steps 4 = .ok (.invokestatic 50, 3) := by decide +kernel
theorem dX8_steps_7 : decode cX8_steps 7 = .ok (.ifCond .ne 5, 3) := by decide +kernel
theorem dX8_steps_10 : decode cX8_steps 10 = .ok (.iconst (-1), 1) := by decide +kernel
theorem dX8_steps_11 : decode cX8_steps 11 = .ok (.ireturn, 1) := by decide +kernel
theorem dX8_steps_12 : decode cX8_steps 12 = .ok (.aload_n 0, 1) := by decide +kernel
theorem dX8_steps_13 : decode cX8_steps 13 = .ok (.getfield 10, 3) := by decide +kernel
theorem dX8_steps_16 : decode cX8_steps 16 = .ok (.getfield 58, 3) := by decide +kernel
theorem dX8_steps_19 : decode cX8_steps 19 = .ok (.getfield 153, 3) := by decide +kernel
theorem dX8_steps_22 : decode cX8_steps 22 = .ok (.ifCond .eq 6, 3) := by decide +kernel
theorem dX8_steps_25 : decode cX8_steps 25 = .ok (.bipush (-2), 2) := by decide +kernel
theorem dX8_steps_27 : decode cX8_steps 27 = .ok (.ireturn, 1) := by decide +kernel
theorem dX8_steps_28 : decode cX8_steps 28 = .ok (.iconst 0, 1) := by decide +kernel
theorem dX8_steps_29 : decode cX8_steps 29 = .ok (.istore_n 2, 1) := by decide +kernel
theorem dX8_steps_30 : decode cX8_steps 30 = .ok (.iload_n 2, 1) := by decide +kernel
theorem dX8_steps_31 : decode cX8_steps 31 = .ok (.iload_n 1, 1) := by decide +kernel
theorem dX8_steps_32 : decode cX8_steps 32 = .ok (.if_icmp .ge 57, 3) := by decide +kernel
theorem dX8_steps_35 : decode cX8_steps 35 = .ok (.aload_n 0, 1) := by decide +kernel
theorem dX8_steps_36 : decode cX8_steps 36 = .ok (.getfield 10, 3) := by decide +kernel
theorem dX8_steps_39 : decode cX8_steps 39 = .ok (.getfield 58, 3) := by decide +kernel
theorem dX8_steps_42 : decode cX8_steps 42 = .ok (.getfield 153, 3) := by decide +kernel
theorem dX8_steps_45 : decode cX8_steps 45 = .ok (.ifCond .ne 44, 3) := by decide +kernel
theorem dX8_steps_48 : decode cX8_steps 48 = .ok (.aload_n 0, 1) := by decide +kernel
theorem dX8_steps_49 : decode cX8_steps 49 = .ok (.getfield 10, 3) := by decide +kernel
theorem dX8_steps_52 : decode cX8_steps 52 = .ok (.getfield 83, 3) := by decide +kernel
theorem dX8_steps_55 : decode cX8_steps 55 = .ok (.aload_n 0, 1) := by decide +kernel
theorem dX8_steps_56 : decode cX8_steps 56 = .ok (.getfield 10, 3) := by decide +kernel
theorem dX8_steps_59 : decode cX8_steps 59 = .ok (.getfield 58, 3) := by decide +kernel
theorem dX8_steps_62 : decode cX8_steps 62 = .ok (.invokevirtual 164, 3) := by decide +kernel
theorem dX8_steps_65 : decode cX8_steps 65 = .ok (.aload_n 0, 1) := by decide +kernel
theorem dX8_steps_66 : decode cX8_steps 66 = .ok (.getfield 10, 3) := by decide +kernel
theorem dX8_steps_69 : decode cX8_steps 69 = .ok (.getfield 58, 3) := by decide +kernel
theorem dX8_steps_72 : decode cX8_steps 72 = .ok (.aload_n 0, 1) := by decide +kernel
theorem dX8_steps_73 : decode cX8_steps 73 = .ok (.getfield 10, 3) := by decide +kernel
theorem dX8_steps_76 : decode cX8_steps 76 = .ok (.getfield 40, 3) := by decide +kernel
theorem dX8_steps_79 : decode cX8_steps 79 = .ok (.iconst (-1), 1) := by decide +kernel
theorem dX8_steps_80 : decode cX8_steps 80 = .ok (.invokevirtual 171, 3) := by decide +kernel
theorem dX8_steps_83 : decode cX8_steps 83 = .ok (.iinc 2 1, 3) := by decide +kernel
theorem dX8_steps_86 : decode cX8_steps 86 = .ok (.goto (-56), 3) := by decide +kernel
theorem dX8_steps_89 : decode cX8_steps 89 = .ok (.iload_n 2, 1) := by decide +kernel
theorem dX8_steps_90 : decode cX8_steps 90 = .ok (.ireturn, 1) := by decide +kernel
set_option maxRecDepth 20000 in
theorem ggX8_melt_X8_isIn : GoodIn wsX8_melt wsX8_isIn := goodIn_r _ [10] (by decide +kernel) (by decide +kernel)
set_option maxRecDepth 20000 in
theorem gX8_melt_X8_isIn : GoodIn wsX8_melt (va_wsS RX8 50 yX8_isIn wsX8_isIn) := goodIn_app (goodIn_of _ (by decide +kernel)) ggX8_melt_X8_isIn
set_option maxRecDepth 20000 in
theorem ggX8_melt_X0_remember : GoodIn wsX8_melt wsX0_remember := goodIn_r _ [15, 16, 17, 18, 19, 20, 21, 22, 23, 24, 25, 26, 27, 28, 29, 30, 31, 32, 33, 34, 35, 36, 37, 38, 39, 40, 78, 79, 80, 69, 70, 71, 72, 73, 74, 75, 76, 77] (by decide +kernel) (by decide +kernel)
set_option maxRecDepth 20000 in
theorem gX8_melt_X0_remember : GoodIn wsX8_melt (wsV RX8 164 RX0 yX0_remember wsX0_remember) := goodIn_app (goodIn_of _ (by decide +kernel)) ggX8_melt_X0_remember
set_option maxRecDepth 20000 in
theorem ggX8_melt_X1_meltADay : GoodIn wsX8_melt wsX1_meltADay := goodIn_r _ [44, 35, 37, 34, 45, 46, 47, 48, 26, 49, 50, 51, 52, 53, 54, 55, 56, 57, 58, 59, 33, 69, 70, 71, 72, 73, 74, 75, 76, 77, 81, 82, 83, 84, 85] (by decide +kernel) (by decide +kernel)
set_option maxRecDepth 20000 in
theorem gX8_melt_X1_meltADay : GoodIn wsX8_melt (wsV RX8 175 RX1 yX1_meltADay wsX1_meltADay) := goodIn_app (goodIn_of _ (by decide +kernel)) ggX8_melt_X1_meltADay
theorem dX8_melt_0 : decode cX8_melt 0 = .ok (.iload_n 1, 1) := by decide +kernel
theorem dX8_melt_1 : decode cX8_melt 1 = .ok (.iconst 1, 1) := by decide +kernel
theorem dX8_melt_2 : decode cX8_melt 2 = .ok (.bipush 24, 2) := by decide +kernel
theorem dX8_melt_4 : decode cX8_melt 4 = .ok (.invokestatic 50, 3) := by decide +kernel
theorem dX8_melt_7 : decode cX8_melt 7 = .ok (.ifCond .ne 5, 3) := by decide +kernel
theorem dX8_melt_10 : decode cX8_melt 10 = .ok (.iconst (-1), 1) := by decide +kernel
theorem dX8_melt_11 : decode cX8_melt 11 = .ok (.ireturn, 1) := by decide +kernel
theorem dX8_melt_12 : decode cX8_melt 12 = .ok (.aload_n 0, 1) := by decide +kernel
theorem dX8_melt_13 : decode cX8_melt 13 = .ok (.getfield 10, 3) := by decide +kernel
theorem dX8_melt_16 : decode cX8_melt 16 = .ok (.getfield 58, 3) := by decide +kernel
theorem dX8_melt_19 : decode cX8_melt 19 = .ok (.getfield 153, 3) := by decide +kernel
theorem dX8_melt_22 : decode cX8_melt 22 = .ok (.ifCond .ne 6, 3) := by decide +kernel
theorem dX8_melt_25 : decode cX8_melt 25 = .ok (.bipush (-2), 2) := by decide +kernel
theorem dX8_melt_27 : decode cX8_melt 27 = .ok (.ireturn, 1) := by decide +kernel
theorem dX8_melt_28 : decode cX8_melt 28 = .ok (.iconst 0, 1) := by decide +kernel
theorem dX8_melt_29 : decode cX8_melt 29 = .ok (.istore_n 2, 1) := by decide +kernel
theorem dX8_melt_30 : decode cX8_melt 30 = .ok (.iload_n 2, 1) := by decide +kernel
theorem dX8_melt_31 : decode cX8_melt 31 = .ok (.iload_n 1, 1) := by decide +kernel
theorem dX8_melt_32 : decode cX8_melt 32 = .ok (.if_icmp .ge 43, 3) := by decide +kernel
theorem dX8_melt_35 : decode cX8_melt 35 = .ok (.aload_n 0, 1) := by decide +kernel
theorem dX8_melt_36 : decode cX8_melt 36 = .ok (.getfield 10, 3) := by decide +kernel
theorem dX8_melt_39 : decode cX8_melt 39 = .ok (.getfield 83, 3) := by decide +kernel
theorem dX8_melt_42 : decode cX8_melt 42 = .ok (.aload_n 0, 1) := by decide +kernel
theorem dX8_melt_43 : decode cX8_melt 43 = .ok (.getfield 10, 3) := by decide +kernel
theorem dX8_melt_46 : decode cX8_melt 46 = .ok (.getfield 58, 3) := by decide +kernel
theorem dX8_melt_49 : decode cX8_melt 49 = .ok (.invokevirtual 164, 3) := by decide +kernel
theorem dX8_melt_52 : decode cX8_melt 52 = .ok (.aload_n 0, 1) := by decide +kernel
theorem dX8_melt_53 : decode cX8_melt 53 = .ok (.getfield 10, 3) := by decide +kernel
theorem dX8_melt_56 : decode cX8_melt 56 = .ok (.getfield 58, 3) := by decide +kernel
theorem dX8_melt_59 : decode cX8_melt 59 = .ok (.aload_n 0, 1) := by decide +kernel
theorem dX8_melt_60 : decode cX8_melt 60 = .ok (.getfield 10, 3) := by decide +kernel
theorem dX8_melt_63 : decode cX8_melt 63 = .ok (.getfield 40, 3) := by decide +kernel
theorem dX8_melt_66 : decode cX8_melt 66 = .ok (.invokevirtual 175, 3) := by decide +kernel
theorem dX8_melt_69 : decode cX8_melt 69 = .ok (.iinc 2 1, 3) := by decide +kernel
theorem dX8_melt_72 : decode cX8_melt 72 = .ok (.goto (-42), 3) := by decide +kernel
theorem dX8_melt_75 : decode cX8_melt 75 = .ok (.aload_n 0, 1) := by decide +kernel
theorem dX8_melt_76 : decode cX8_melt 76 = .ok (.getfield 10, 3) := by decide +kernel
theorem dX8_melt_79 : decode cX8_melt 79 = .ok (.getfield 58, 3) := by decide +kernel
theorem dX8_melt_82 : decode cX8_melt 82 = .ok (.getfield 147, 3) := by decide +kernel
theorem dX8_melt_85 : decode cX8_melt 85 = .ok (.ireturn, 1) := by decide +kernel
set_option maxRecDepth 20000 in
theorem ggX8_snow_X8_isIn : GoodIn wsX8_snow wsX8_isIn := goodIn_r _ [9] (by decide +kernel) (by decide +kernel)
set_option maxRecDepth 20000 in
theorem gX8_snow_X8_isIn : GoodIn wsX8_snow (va_wsS RX8 50 yX8_isIn wsX8_isIn) := goodIn_app (goodIn_of _ (by decide +kernel)) ggX8_snow_X8_isIn
set_option maxRecDepth 20000 in
theorem ggX8_snow_X0_remember : GoodIn wsX8_snow wsX0_remember := goodIn_r _ [14, 15, 16, 17, 18, 19, 20, 21, 22, 23, 24, 25, 26, 27, 28, 29, 30, 31, 32, 33, 34, 35, 36, 37, 38, 39, 64, 65, 66, 67, 68, 69, 70, 71, 72, 73, 74, 75] (by decide +kernel) (by decide +kernel)
set_option maxRecDepth 20000 in
theorem gX8_snow_X0_remember : GoodIn wsX8_snow (wsV RX8 164 RX0 yX0_remember wsX0_remember) := goodIn_app (goodIn_of _ (by decide +kernel)) ggX8_snow_X0_remember
set_option maxRecDepth 20000 in
theorem ggX8_snow_X1_snowFallsAt : GoodIn wsX8_snow wsX1_snowFallsAt := goodIn_r _ [43, 27, 44, 19, 20, 21, 67, 68, 69, 70, 71, 72, 73, 74, 75] (by decide +kernel) (by decide +kernel)
set_option maxRecDepth 20000 in
theorem gX8_snow_X1_snowFallsAt : GoodIn wsX8_snow (wsV RX8 178 RX1 yX1_snowFallsAt wsX1_snowFallsAt) := goodIn_app (goodIn_of _ (by decide +kernel)) ggX8_snow_X1_snowFallsAt
set_option maxRecDepth 20000 in
theorem ggX8_snow_X1_snowOfAll : GoodIn wsX8_snow wsX1_snowOfAll := goodIn_r _ [48, 49, 27, 59, 60, 61, 62, 63, 67, 68, 69, 70, 71, 72, 73, 74, 75] (by decide +kernel) (by decide +kernel)
set_option maxRecDepth 20000 in
theorem gX8_snow_X1_snowOfAll : GoodIn wsX8_snow (wsV RX8 157 RX1 yX1_snowOfAll wsX1_snowOfAll) := goodIn_app (goodIn_of _ (by decide +kernel)) ggX8_snow_X1_snowOfAll
theorem dX8_snow_0 : decode cX8_snow 0 = .ok (.iload_n 1, 1) := by decide +kernel
theorem dX8_snow_1 : decode cX8_snow 1 = .ok (.iconst 1, 1) := by decide +kernel
theorem dX8_snow_2 : decode cX8_snow 2 = .ok (.bipush 9, 2) := by decide +kernel
theorem dX8_snow_4 : decode cX8_snow 4 = .ok (.invokestatic 50, 3) := by decide +kernel
theorem dX8_snow_7 : decode cX8_snow 7 = .ok (.ifCond .ne 5, 3) := by decide +kernel
theorem dX8_snow_10 : decode cX8_snow 10 = .ok (.iconst (-1), 1) := by decide +kernel
theorem dX8_snow_11 : decode cX8_snow 11 = .ok (.ireturn, 1) := by decide +kernel
theorem dX8_snow_12 : decode cX8_snow 12 = .ok (.aload_n 0, 1) := by decide +kernel
theorem dX8_snow_13 : decode cX8_snow 13 = .ok (.getfield 10, 3) := by decide +kernel
theorem dX8_snow_16 : decode cX8_snow 16 = .ok (.getfield 83, 3) := by decide +kernel
theorem dX8_snow_19 : decode cX8_snow 19 = .ok (.aload_n 0, 1) := by decide +kernel
theorem dX8_snow_20 : decode cX8_snow 20 = .ok (.getfield 10, 3) := by decide +kernel
theorem dX8_snow_23 : decode cX8_snow 23 = .ok (.getfield 58, 3) := by decide +kernel
theorem dX8_snow_26 : decode cX8_snow 26 = .ok (.invokevirtual 164, 3) := by decide +kernel
theorem dX8_snow_29 : decode cX8_snow 29 = .ok (.iconst 0, 1) := by decide +kernel
theorem dX8_snow_30 : decode cX8_snow 30 = .ok (.istore_n 2, 1) := by decide +kernel
theorem dX8_snow_31 : decode cX8_snow 31 = .ok (.iload_n 2, 1) := by decide +kernel
theorem dX8_snow_32 : decode cX8_snow 32 = .ok (.aload_n 0, 1) := by decide +kernel
theorem dX8_snow_33 : decode cX8_snow 33 = .ok (.getfield 10, 3) := by decide +kernel
theorem dX8_snow_36 : decode cX8_snow 36 = .ok (.getfield 40, 3) := by decide +kernel
theorem dX8_snow_39 : decode cX8_snow 39 = .ok (.getfield 143, 3) := by decide +kernel
theorem dX8_snow_42 : decode cX8_snow 42 = .ok (.if_icmp .ge 21, 3) := by decide +kernel
theorem dX8_snow_45 : decode cX8_snow 45 = .ok (.aload_n 0, 1) := by decide +kernel
theorem dX8_snow_46 : decode cX8_snow 46 = .ok (.getfield 10, 3) := by decide +kernel
theorem dX8_snow_49 : decode cX8_snow 49 = .ok (.getfield 58, 3) := by decide +kernel
theorem dX8_snow_52 : decode cX8_snow 52 = .ok (.iload_n 2, 1) := by decide +kernel
theorem dX8_snow_53 : decode cX8_snow 53 = .ok (.iload_n 1, 1) := by decide +kernel
theorem dX8_snow_54 : decode cX8_snow 54 = .ok (.invokevirtual 178, 3) := by decide +kernel
theorem dX8_snow_57 : decode cX8_snow 57 = .ok (.iinc 2 1, 3) := by decide +kernel
theorem dX8_snow_60 : decode cX8_snow 60 = .ok (.goto (-29), 3) := by decide +kernel
theorem dX8_snow_63 : decode cX8_snow 63 = .ok (.aload_n 0, 1) := by decide +kernel
theorem dX8_snow_64 : decode cX8_snow 64 = .ok (.getfield 10, 3) := by decide +kernel
theorem dX8_snow_67 : decode cX8_snow 67 = .ok (.getfield 58, 3) := by decide +kernel
theorem dX8_snow_70 : decode cX8_snow 70 = .ok (.aload_n 0, 1) := by decide +kernel
theorem dX8_snow_71 : decode cX8_snow 71 = .ok (.getfield 10, 3) := by decide +kernel
theorem dX8_snow_74 : decode cX8_snow 74 = .ok (.getfield 40, 3) := by decide +kernel
theorem dX8_snow_77 : decode cX8_snow 77 = .ok (.invokevirtual 157, 3) := by decide +kernel
theorem dX8_snow_80 : decode cX8_snow 80 = .ok (.ireturn, 1) := by decide +kernel
set_option maxRecDepth 20000 in
theorem ggX8_drift_X8_isIn : GoodIn wsX8_drift wsX8_isIn := goodIn_r _ [8] (by decide +kernel) (by decide +kernel)
set_option maxRecDepth 20000 in
theorem gX8_drift_X8_isIn : GoodIn wsX8_drift (va_wsS RX8 50 yX8_isIn wsX8_isIn) := goodIn_app (goodIn_of _ (by decide +kernel)) ggX8_drift_X8_isIn
set_option maxRecDepth 20000 in
theorem ggX8_drift_X0_remember : GoodIn wsX8_drift wsX0_remember := goodIn_r _ [13, 14, 15, 16, 17, 18, 19, 20, 21, 22, 23, 24, 25, 26, 27, 28, 29, 30, 31, 32, 33, 34, 35, 36, 37, 38, 65, 66, 67, 68, 69, 70, 71, 72, 73, 74, 75, 76] (by decide +kernel) (by decide +kernel)
set_option maxRecDepth 20000 in
theorem gX8_drift_X0_remember : GoodIn wsX8_drift (wsV RX8 164 RX0 yX0_remember wsX0_remember) := goodIn_app (goodIn_of _ (by decide +kernel)) ggX8_drift_X0_remember
set_option maxRecDepth 20000 in
theorem ggX8_drift_X1_driftOnce : GoodIn wsX8_drift wsX1_driftOnce := goodIn_r _ [42, 38, 43, 44, 45, 46, 47, 48, 49, 24, 50, 26, 51, 18, 19, 20, 68, 69, 70, 71, 72, 73, 74, 75, 76, 77, 78, 79, 80, 81] (by decide +kernel) (by decide +kernel)
set_option maxRecDepth 20000 in
theorem gX8_drift_X1_driftOnce : GoodIn wsX8_drift (wsV RX8 181 RX1 yX1_driftOnce wsX1_driftOnce) := goodIn_app (goodIn_of _ (by decide +kernel)) ggX8_drift_X1_driftOnce
set_option maxRecDepth 20000 in
theorem ggX8_drift_X1_snowOfAll : GoodIn wsX8_drift wsX1_snowOfAll := goodIn_r _ [55, 45, 26, 77, 78, 79, 80, 81, 68, 69, 70, 71, 72, 73, 74, 75, 76] (by decide +kernel) (by decide +kernel)
set_option maxRecDepth 20000 in
theorem gX8_drift_X1_snowOfAll : GoodIn wsX8_drift (wsV RX8 157 RX1 yX1_snowOfAll wsX1_snowOfAll) := goodIn_app (goodIn_of _ (by decide +kernel)) ggX8_drift_X1_snowOfAll
theorem dX8_drift_0 : decode cX8_drift 0 = .ok (.iload_n 1, 1) := by decide +kernel
theorem dX8_drift_1 : decode cX8_drift 1 = .ok (.iconst 1, 1) := by decide +kernel
theorem dX8_drift_2 : decode cX8_drift 2 = .ok (.bipush 40, 2) := by decide +kernel
theorem dX8_drift_4 : decode cX8_drift 4 = .ok (.invokestatic 50, 3) := by decide +kernel
theorem dX8_drift_7 : decode cX8_drift 7 = .ok (.ifCond .ne 5, 3) := by decide +kernel
theorem dX8_drift_10 : decode cX8_drift 10 = .ok (.iconst (-1), 1) := by decide +kernel
theorem dX8_drift_11 : decode cX8_drift 11 = .ok (.ireturn, 1) := by decide +kernel
theorem dX8_drift_12 : decode cX8_drift 12 = .ok (.aload_n 0, 1) := by decide +kernel
theorem dX8_drift_13 : decode cX8_drift 13 = .ok (.getfield 10, 3) := by decide +kernel
theorem dX8_drift_16 : decode cX8_drift 16 = .ok (.getfield 83, 3) := by decide +kernel
theorem dX8_drift_19 : decode cX8_drift 19 = .ok (.aload_n 0, 1) := by decide +kernel
theorem dX8_drift_20 : decode cX8_drift 20 = .ok (.getfield 10, 3) := by decide +kernel
theorem dX8_drift_23 : decode cX8_drift 23 = .ok (.getfield 58, 3) := by decide +kernel
theorem dX8_drift_26 : decode cX8_drift 26 = .ok (.invokevirtual 164, 3) := by decide +kernel
theorem dX8_drift_29 : decode cX8_drift 29 = .ok (.iconst 0, 1) := by decide +kernel
theorem dX8_drift_30 : decode cX8_drift 30 = .ok (.istore_n 2, 1) := by decide +kernel
theorem dX8_drift_31 : decode cX8_drift 31 = .ok (.iload_n 2, 1) := by decide +kernel
theorem dX8_drift_32 : decode cX8_drift 32 = .ok (.iload_n 1, 1) := by decide +kernel
theorem dX8_drift_33 : decode cX8_drift 33 = .ok (.if_icmp .ge 26, 3) := by decide +kernel
theorem dX8_drift_36 : decode cX8_drift 36 = .ok (.aload_n 0, 1) := by decide +kernel
theorem dX8_drift_37 : decode cX8_drift 37 = .ok (.getfield 10, 3) := by decide +kernel
theorem dX8_drift_40 : decode cX8_drift 40 = .ok (.getfield 58, 3) := by decide +kernel
theorem dX8_drift_43 : decode cX8_drift 43 = .ok (.aload_n 0, 1) := by decide +kernel
theorem dX8_drift_44 : decode cX8_drift 44 = .ok (.getfield 10, 3) := by decide +kernel
theorem dX8_drift_47 : decode cX8_drift 47 = .ok (.getfield 40, 3) := by decide +kernel
theorem dX8_drift_50 : decode cX8_drift 50 = .ok (.invokevirtual 181, 3) := by decide +kernel
theorem dX8_drift_53 : decode cX8_drift 53 = .ok (.iinc 2 1, 3) := by decide +kernel
theorem dX8_drift_56 : decode cX8_drift 56 = .ok (.goto (-25), 3) := by decide +kernel
theorem dX8_drift_59 : decode cX8_drift 59 = .ok (.aload_n 0, 1) := by decide +kernel
theorem dX8_drift_60 : decode cX8_drift 60 = .ok (.getfield 10, 3) := by decide +kernel
theorem dX8_drift_63 : decode cX8_drift 63 = .ok (.getfield 58, 3) := by decide +kernel
theorem dX8_drift_66 : decode cX8_drift 66 = .ok (.aload_n 0, 1) := by decide +kernel
theorem dX8_drift_67 : decode cX8_drift 67 = .ok (.getfield 10, 3) := by decide +kernel
theorem dX8_drift_70 : decode cX8_drift 70 = .ok (.getfield 40, 3) := by decide +kernel
theorem dX8_drift_73 : decode cX8_drift 73 = .ok (.invokevirtual 157, 3) := by decide +kernel
theorem dX8_drift_76 : decode cX8_drift 76 = .ok (.ireturn, 1) := by decide +kernel
set_option maxRecDepth 20000 in
theorem ggX8_undo_X0_bringBack : GoodIn wsX8_undo wsX0_bringBack := goodIn_r _ [9, 10, 11, 12, 13, 14, 15, 16, 17, 18, 19, 20, 21, 22, 23, 24, 25, 26, 27, 28, 29, 30, 31, 32, 33, 34, 44, 45, 46, 47, 48, 49, 50, 51, 52, 53, 54, 55] (by decide +kernel) (by decide +kernel)
set_option maxRecDepth 20000 in
theorem gX8_undo_X0_bringBack : GoodIn wsX8_undo (wsV RX8 184 RX0 yX0_bringBack wsX0_bringBack) := goodIn_app (goodIn_of _ (by decide +kernel)) ggX8_undo_X0_bringBack
theorem dX8_undo_0 : decode cX8_undo 0 = .ok (.aload_n 0, 1) := by decide +kernel
theorem dX8_undo_1 : decode cX8_undo 1 = .ok (.getfield 10, 3) := by decide +kernel
theorem dX8_undo_4 : decode cX8_undo 4 = .ok (.getfield 83, 3) := by decide +kernel
theorem dX8_undo_7 : decode cX8_undo 7 = .ok (.getfield 161, 3) := by decide +kernel
theorem dX8_undo_10 : decode cX8_undo 10 = .ok (.ifCond .ne 6, 3) := by decide +kernel
theorem dX8_undo_13 : decode cX8_undo 13 = .ok (.bipush (-4), 2) := by decide +kernel
theorem dX8_undo_15 : decode cX8_undo 15 = .ok (.ireturn, 1) := by decide +kernel
theorem dX8_undo_16 : decode cX8_undo 16 = .ok (.aload_n 0, 1) := by decide +kernel
theorem dX8_undo_17 : decode cX8_undo 17 = .ok (.getfield 10, 3) := by decide +kernel
theorem dX8_undo_20 : decode cX8_undo 20 = .ok (.getfield 83, 3) := by decide +kernel
theorem dX8_undo_23 : decode cX8_undo 23 = .ok (.aload_n 0, 1) := by decide +kernel
theorem dX8_undo_24 : decode cX8_undo 24 = .ok (.getfield 10, 3) := by decide +kernel
theorem dX8_undo_27 : decode cX8_undo 27 = .ok (.getfield 58, 3) := by decide +kernel
theorem dX8_undo_30 : decode cX8_undo 30 = .ok (.invokevirtual 184, 3) := by decide +kernel
theorem dX8_undo_33 : decode cX8_undo 33 = .ok (.aload_n 0, 1) := by decide +kernel
theorem dX8_undo_34 : decode cX8_undo 34 = .ok (.getfield 10, 3) := by decide +kernel
theorem dX8_undo_37 : decode cX8_undo 37 = .ok (.getfield 83, 3) := by decide +kernel
theorem dX8_undo_40 : decode cX8_undo 40 = .ok (.getfield 161, 3) := by decide +kernel
theorem dX8_undo_43 : decode cX8_undo 43 = .ok (.ireturn, 1) := by decide +kernel
theorem dX8_seed_0 : decode cX8_seed 0 = .ok (.iload_n 1, 1) := by decide +kernel
theorem dX8_seed_1 : decode cX8_seed 1 = .ok (.ifCond .ge 5, 3) := by decide +kernel
theorem dX8_seed_4 : decode cX8_seed 4 = .ok (.iconst (-1), 1) := by decide +kernel
theorem dX8_seed_5 : decode cX8_seed 5 = .ok (.ireturn, 1) := by decide +kernel
theorem dX8_seed_6 : decode cX8_seed 6 = .ok (.aload_n 0, 1) := by decide +kernel
theorem dX8_seed_7 : decode cX8_seed 7 = .ok (.getfield 10, 3) := by decide +kernel
theorem dX8_seed_10 : decode cX8_seed 10 = .ok (.getfield 58, 3) := by decide +kernel
theorem dX8_seed_13 : decode cX8_seed 13 = .ok (.getfield 132, 3) := by decide +kernel
theorem dX8_seed_16 : decode cX8_seed 16 = .ok (.istore_n 2, 1) := by decide +kernel
theorem dX8_seed_17 : decode cX8_seed 17 = .ok (.aload_n 0, 1) := by decide +kernel
theorem dX8_seed_18 : decode cX8_seed 18 = .ok (.getfield 10, 3) := by decide +kernel
theorem dX8_seed_21 : decode cX8_seed 21 = .ok (.getfield 58, 3) := by decide +kernel
theorem dX8_seed_24 : decode cX8_seed 24 = .ok (.iload_n 1, 1) := by decide +kernel
theorem dX8_seed_25 : decode cX8_seed 25 = .ok (.putfield 132, 3) := by decide +kernel
theorem dX8_seed_28 : decode cX8_seed 28 = .ok (.iload_n 2, 1) := by decide +kernel
theorem dX8_seed_29 : decode cX8_seed 29 = .ok (.ireturn, 1) := by decide +kernel
set_option maxRecDepth 20000 in
theorem ggX8_ahead_X8_isIn : GoodIn wsX8_ahead wsX8_isIn := goodIn_r _ [13] (by decide +kernel) (by decide +kernel)
set_option maxRecDepth 20000 in
theorem gX8_ahead_X8_isIn : GoodIn wsX8_ahead (va_wsS RX8 50 yX8_isIn wsX8_isIn) := goodIn_app (goodIn_of _ (by decide +kernel)) ggX8_ahead_X8_isIn
set_option maxRecDepth 20000 in
theorem ggX8_ahead_X4_begin : GoodIn wsX8_ahead wsX4_begin := goodIn_r _ [18, 19, 20, 21, 22, 23, 24, 25, 26, 27, 28, 29, 30, 31, 32, 33, 34, 35, 36, 37, 110, 111, 112, 113, 114, 115, 116, 117, 118, 119, 120, 121] (by decide +kernel) (by decide +kernel)
set_option maxRecDepth 20000 in
theorem gX8_ahead_X4_begin : GoodIn wsX8_ahead (wsV RX8 187 RX4 yX4_begin wsX4_begin) := goodIn_app (goodIn_of _ (by decide +kernel)) ggX8_ahead_X4_begin
set_option maxRecDepth 20000 in
theorem ggX8_ahead_X4_rollToRest : GoodIn wsX8_ahead wsX4_rollToRest := goodIn_r _ [41, 19, 42, 43, 44, 45, 46, 47, 48, 49, 50, 51, 52, 23, 53, 36, 33, 54, 35, 34, 55, 56, 57, 58, 25, 59, 60, 61, 62, 63, 64, 65, 66, 67, 68, 69, 70, 71, 72, 73, 74, 75, 76, 77, 30, 78, 79, 80, 81, 82, 83, 84, 85, 86, 87, 32, 31, 88, 89, 90, 91, 92, 93, 94, 95, 96, 110, 111, 112, 113, 114, 115, 116, 117, 118, 119, 120, 121, 122, 123, 124, 125, 126] (by decide +kernel) (by decide +kernel)
set_option maxRecDepth 20000 in
theorem gX8_ahead_X4_rollToRest : GoodIn wsX8_ahead (wsV RX8 190 RX4 yX4_rollToRest wsX4_rollToRest) := goodIn_app (goodIn_of _ (by decide +kernel)) ggX8_ahead_X4_rollToRest
set_option maxRecDepth 20000 in
theorem ggX8_ahead_X1_thingsWhere : GoodIn wsX8_ahead wsX1_thingsWhere := goodIn_r _ [100, 77, 30, 122, 123, 124, 125, 126, 113, 114, 115, 116, 117, 118, 119, 120, 121] (by decide +kernel) (by decide +kernel)
set_option maxRecDepth 20000 in
theorem gX8_ahead_X1_thingsWhere : GoodIn wsX8_ahead (wsV RX8 67 RX1 yX1_thingsWhere wsX1_thingsWhere) := goodIn_app (goodIn_of _ (by decide +kernel)) ggX8_ahead_X1_thingsWhere
theorem dX8_ahead_0 : decode cX8_ahead 0 = .ok (.iload_n 1, 1) := by decide +kernel
theorem dX8_ahead_1 : decode cX8_ahead 1 = .ok (.iconst 0, 1) := by decide +kernel
theorem dX8_ahead_2 : decode cX8_ahead 2 = .ok (.iconst 4, 1) := by decide +kernel
theorem dX8_ahead_3 : decode cX8_ahead 3 = .ok (.invokestatic 50, 3) := by decide +kernel
theorem dX8_ahead_6 : decode cX8_ahead 6 = .ok (.ifCond .ne 5, 3) := by decide +kernel
theorem dX8_ahead_9 : decode cX8_ahead 9 = .ok (.iconst (-1), 1) := by decide +kernel
theorem dX8_ahead_10 : decode cX8_ahead 10 = .ok (.ireturn, 1) := by decide +kernel
theorem dX8_ahead_11 : decode cX8_ahead 11 = .ok (.aload_n 0, 1) := by decide +kernel
theorem dX8_ahead_12 : decode cX8_ahead 12 = .ok (.getfield 22, 3) := by decide +kernel
theorem dX8_ahead_15 : decode cX8_ahead 15 = .ok (.aload_n 0, 1) := by decide +kernel
theorem dX8_ahead_16 : decode cX8_ahead 16 = .ok (.getfield 10, 3) := by decide +kernel
theorem dX8_ahead_19 : decode cX8_ahead 19 = .ok (.getfield 58, 3) := by decide +kernel
theorem dX8_ahead_22 : decode cX8_ahead 22 = .ok (.invokevirtual 187, 3) := by decide +kernel
theorem dX8_ahead_25 : decode cX8_ahead 25 = .ok (.aload_n 0, 1) := by decide +kernel
theorem dX8_ahead_26 : decode cX8_ahead 26 = .ok (.getfield 22, 3) := by decide +kernel
theorem dX8_ahead_29 : decode cX8_ahead 29 = .ok (.aload_n 0, 1) := by decide +kernel
theorem dX8_ahead_30 : decode cX8_ahead 30 = .ok (.getfield 10, 3) := by decide +kernel
theorem dX8_ahead_33 : decode cX8_ahead 33 = .ok (.getfield 40, 3) := by decide +kernel
theorem dX8_ahead_36 : decode cX8_ahead 36 = .ok (.iconst (-1), 1) := by decide +kernel
theorem dX8_ahead_37 : decode cX8_ahead 37 = .ok (.invokevirtual 190, 3) := by decide +kernel
theorem dX8_ahead_40 : decode cX8_ahead 40 = .ok (.iload_n 1, 1) := by decide +kernel
theorem dX8_ahead_41 : decode cX8_ahead 41 = .ok (.tableswitch 80 0 3 #[31, 42, 53, 72], 31) := by decide +kernel
theorem dX8_ahead_72 : decode cX8_ahead 72 = .ok (.aload_n 0, 1) := by decide +kernel
theorem dX8_ahead_73 : decode cX8_ahead 73 = .ok (.getfield 22, 3) := by decide +kernel
theorem dX8_ahead_76 : decode cX8_ahead 76 = .ok (.getfield 193, 3) := by decide +kernel
theorem dX8_ahead_79 : decode cX8_ahead 79 = .ok (.getfield 146, 3) := by decide +kernel
theorem dX8_ahead_82 : decode cX8_ahead 82 = .ok (.ireturn, 1) := by decide +kernel
theorem dX8_ahead_83 : decode cX8_ahead 83 = .ok (.aload_n 0, 1) := by decide +kernel
theorem dX8_ahead_84 : decode cX8_ahead 84 = .ok (.getfield 22, 3) := by decide +kernel
theorem dX8_ahead_87 : decode cX8_ahead 87 = .ok (.getfield 193, 3) := by decide +kernel
theorem dX8_ahead_90 : decode cX8_ahead 90 = .ok (.getfield 147, 3) := by decide +kernel
theorem dX8_ahead_93 : decode cX8_ahead 93 = .ok (.ireturn, 1) := by decide +kernel
theorem dX8_ahead_94 : decode cX8_ahead 94 = .ok (.aload_n 0, 1) := by decide +kernel
theorem dX8_ahead_95 : decode cX8_ahead 95 = .ok (.getfield 22, 3) := by decide +kernel
theorem dX8_ahead_98 : decode cX8_ahead 98 = .ok (.getfield 193, 3) := by decide +kernel
theorem dX8_ahead_101 : decode cX8_ahead 101 = .ok (.aload_n 0, 1) := by decide +kernel
theorem dX8_ahead_102 : decode cX8_ahead 102 = .ok (.getfield 10, 3) := by decide +kernel
theorem dX8_ahead_105 : decode cX8_ahead 105 = .ok (.getfield 40, 3) := by decide +kernel
theorem dX8_ahead_108 : decode cX8_ahead 108 = .ok (.iconst (-1), 1) := by decide +kernel
theorem dX8_ahead_109 : decode cX8_ahead 109 = .ok (.invokevirtual 67, 3) := by decide +kernel
theorem dX8_ahead_112 : decode cX8_ahead 112 = .ok (.ireturn, 1) := by decide +kernel
theorem dX8_ahead_113 : decode cX8_ahead 113 = .ok (.aload_n 0, 1) := by decide +kernel
theorem dX8_ahead_114 : decode cX8_ahead 114 = .ok (.getfield 22, 3) := by decide +kernel
theorem dX8_ahead_117 : decode cX8_ahead 117 = .ok (.getfield 194, 3) := by decide +kernel
theorem dX8_ahead_120 : decode cX8_ahead 120 = .ok (.ireturn, 1) := by decide +kernel
theorem dX8_ahead_121 : decode cX8_ahead 121 = .ok (.aload_n 0, 1) := by decide +kernel
theorem dX8_ahead_122 : decode cX8_ahead 122 = .ok (.getfield 22, 3) := by decide +kernel
theorem dX8_ahead_125 : decode cX8_ahead 125 = .ok (.getfield 197, 3) := by decide +kernel
theorem dX8_ahead_128 : decode cX8_ahead 128 = .ok (.ireturn, 1) := by decide +kernel
set_option maxRecDepth 20000 in
theorem ggX8_order_X4_begin : GoodIn wsX8_order wsX4_begin := goodIn_r _ [10, 11, 12, 13, 14, 15, 16, 17, 18, 19, 20, 21, 22, 23, 24, 25, 26, 27, 28, 29, 102, 103, 104, 105, 106, 107, 108, 109, 110, 111, 112, 113] (by decide +kernel) (by decide +kernel)
set_option maxRecDepth 20000 in
theorem gX8_order_X4_begin : GoodIn wsX8_order (wsV RX8 187 RX4 yX4_begin wsX4_begin) := goodIn_app (goodIn_of _ (by decide +kernel)) ggX8_order_X4_begin
set_option maxRecDepth 20000 in
theorem ggX8_order_X4_rollToRest : GoodIn wsX8_order wsX4_rollToRest := goodIn_r _ [33, 11, 34, 35, 36, 37, 38, 39, 40, 41, 42, 43, 44, 15, 45, 28, 25, 46, 27, 26, 47, 48, 49, 50, 17, 51, 52, 53, 54, 55, 56, 57, 58, 59, 60, 61, 62, 63, 64, 65, 66, 67, 68, 69, 22, 70, 71, 72, 73, 74, 75, 76, 77, 78, 79, 24, 23, 80, 81, 82, 83, 84, 85, 86, 87, 88, 102, 103, 104, 105, 106, 107, 108, 109, 110, 111, 112, 113, 114, 115, 116, 117, 118] (by decide +kernel) (by decide +kernel)
set_option maxRecDepth 20000 in
theorem gX8_order_X4_rollToRest : GoodIn wsX8_order (wsV RX8 190 RX4 yX4_rollToRest wsX4_rollToRest) := goodIn_app (goodIn_of _ (by decide +kernel)) ggX8_order_X4_rollToRest
set_option maxRecDepth 20000 in
theorem ggX8_order_X1_takenUpAs : GoodIn wsX8_order wsX1_takenUpAs := goodIn_r _ [92, 24, 23, 105, 106, 107, 108, 109, 110, 111, 112, 113] (by decide +kernel) (by decide +kernel)
set_option maxRecDepth 20000 in
theorem gX8_order_X1_takenUpAs : GoodIn wsX8_order (wsV RX8 200 RX1 yX1_takenUpAs wsX1_takenUpAs) := goodIn_app (goodIn_of _ (by decide +kernel)) ggX8_order_X1_takenUpAs
theorem dX8_order_0 : decode cX8_order 0 = .ok (.iload_n 1, 1) := by decide +kernel
theorem dX8_order_1 : decode cX8_order 1 = .ok (.ifCond .ge 5, 3) := by decide +kernel
theorem dX8_order_4 : decode cX8_order 4 = .ok (.iconst (-1), 1) := by decide +kernel
theorem dX8_order_5 : decode cX8_order 5 = .ok (.ireturn, 1) := by decide +kernel
theorem dX8_order_6 : decode cX8_order 6 = .ok (.aload_n 0, 1) := by decide +kernel
theorem dX8_order_7 : decode cX8_order 7 = .ok (.getfield 22, 3) := by decide +kernel
theorem dX8_order_10 : decode cX8_order 10 = .ok (.aload_n 0, 1) := by decide +kernel
theorem dX8_order_11 : decode cX8_order 11 = .ok (.getfield 10, 3) := by decide +kernel
theorem dX8_order_14 : decode cX8_order 14 = .ok (.getfield 58, 3) := by decide +kernel
theorem dX8_order_17 : decode cX8_order 17 = .ok (.invokevirtual 187, 3) := by decide +kernel
theorem dX8_order_20 : decode cX8_order 20 = .ok (.aload_n 0, 1) := by decide +kernel
theorem dX8_order_21 : decode cX8_order 21 = .ok (.getfield 22, 3) := by decide +kernel
theorem dX8_order_24 : decode cX8_order 24 = .ok (.aload_n 0, 1) := by decide +kernel
theorem dX8_order_25 : decode cX8_order 25 = .ok (.getfield 10, 3) := by decide +kernel
theorem dX8_order_28 : decode cX8_order 28 = .ok (.getfield 40, 3) := by decide +kernel
theorem dX8_order_31 : decode cX8_order 31 = .ok (.iconst (-1), 1) := by decide +kernel
theorem dX8_order_32 : decode cX8_order 32 = .ok (.invokevirtual 190, 3) := by decide +kernel
theorem dX8_order_35 : decode cX8_order 35 = .ok (.aload_n 0, 1) := by decide +kernel
theorem dX8_order_36 : decode cX8_order 36 = .ok (.getfield 22, 3) := by decide +kernel
theorem dX8_order_39 : decode cX8_order 39 = .ok (.getfield 193, 3) := by decide +kernel
theorem dX8_order_42 : decode cX8_order 42 = .ok (.iload_n 1, 1) := by decide +kernel
theorem dX8_order_43 : decode cX8_order 43 = .ok (.invokevirtual 200, 3) := by decide +kernel
theorem dX8_order_46 : decode cX8_order 46 = .ok (.ireturn, 1) := by decide +kernel
set_option maxRecDepth 20000 in
theorem ggX8_push_X4_begin : GoodIn wsX8_push wsX4_begin := goodIn_r _ [14, 15, 16, 17, 18, 19, 20, 21, 22, 23, 24, 25, 26, 27, 28, 29, 30, 31, 32, 33, 111, 112, 113, 102, 103, 104, 105, 106, 107, 108, 109, 110] (by decide +kernel) (by decide +kernel)
set_option maxRecDepth 20000 in
theorem gX8_push_X4_begin : GoodIn wsX8_push (wsV RX8 187 RX4 yX4_begin wsX4_begin) := goodIn_app (goodIn_of _ (by decide +kernel)) ggX8_push_X4_begin
set_option maxRecDepth 20000 in
theorem ggX8_push_X4_rollToRest : GoodIn wsX8_push wsX4_rollToRest := goodIn_r _ [37, 15, 38, 39, 40, 41, 42, 43, 44, 45, 46, 47, 48, 19, 49, 32, 29, 50, 31, 30, 51, 52, 53, 54, 21, 55, 56, 57, 58, 59, 60, 61, 62, 63, 64, 65, 66, 67, 68, 69, 70, 71, 72, 73, 26, 74, 75, 76, 77, 78, 79, 80, 81, 82, 83, 28, 27, 84, 85, 86, 87, 88, 89, 90, 91, 92, 111, 112, 113, 102, 103, 104, 105, 106, 107, 108, 109, 110, 114, 115, 116, 117, 118] (by decide +kernel) (by decide +kernel)
set_option maxRecDepth 20000 in
theorem gX8_push_X4_rollToRest : GoodIn wsX8_push (wsV RX8 190 RX4 yX4_rollToRest wsX4_rollToRest) := goodIn_app (goodIn_of _ (by decide +kernel)) ggX8_push_X4_rollToRest
theorem dX8_push_0 : decode cX8_push 0 = .ok (.aload_n 0, 1) := by decide +kernel
theorem dX8_push_1 : decode cX8_push 1 = .ok (.getfield 10, 3) := by decide +kernel
theorem dX8_push_4 : decode cX8_push 4 = .ok (.getfield 58, 3) := by decide +kernel
theorem dX8_push_7 : decode cX8_push 7 = .ok (.getfield 153, 3) := by decide +kernel
theorem dX8_push_10 : decode cX8_push 10 = .ok (.ifCond .eq 6, 3) := by decide +kernel
theorem dX8_push_13 : decode cX8_push 13 = .ok (.bipush (-2), 2) := by decide +kernel
theorem dX8_push_15 : decode cX8_push 15 = .ok (.ireturn, 1) := by decide +kernel
theorem dX8_push_16 : decode cX8_push 16 = .ok (.iconst 0, 1) := by decide +kernel
theorem dX8_push_17 : decode cX8_push 17 = .ok (.istore_n 1, 1) := by decide +kernel
theorem dX8_push_18 : decode cX8_push 18 = .ok (.iload_n 1, 1) := by decide +kernel
theorem dX8_push_19 : decode cX8_push 19 = .ok (.bipush 99, 2) := by decide +kernel
theorem dX8_push_21 : decode cX8_push 21 = .ok (.aload_n 0, 1) := by decide +kernel
theorem dX8_push_22 : decode cX8_push 22 = .ok (.getfield 10, 3) := by decide +kernel
theorem dX8_push_25 : decode cX8_push 25 = .ok (.getfield 58, 3) := by decide +kernel
theorem dX8_push_28 : decode cX8_push 28 = .ok (.getfield 150, 3) := by decide +kernel
theorem dX8_push_31 : decode cX8_push 31 = .ok (.isub, 1) := by decide +kernel
theorem dX8_push_32 : decode cX8_push 32 = .ok (.if_icmp .gt 79, 3) := by decide +kernel
theorem dX8_push_35 : decode cX8_push 35 = .ok (.aload_n 0, 1) := by decide +kernel
theorem dX8_push_36 : decode cX8_push 36 = .ok (.getfield 22, 3) := by decide +kernel
theorem dX8_push_39 : decode cX8_push 39 = .ok (.aload_n 0, 1) := by decide +kernel
theorem dX8_push_40 : decode cX8_push 40 = .ok (.getfield 10, 3) := by decide +kernel
theorem dX8_push_43 : decode cX8_push 43 = .ok (.getfield 58, 3) := by decide +kernel
theorem dX8_push_46 : decode cX8_push 46 = .ok (.invokevirtual 187, 3) := by decide +kernel
theorem dX8_push_49 : decode cX8_push 49 = .ok (.aload_n 0, 1) := by decide +kernel
theorem dX8_push_50 : decode cX8_push 50 = .ok (.getfield 22, 3) := by decide +kernel
theorem dX8_push_53 : decode cX8_push 53 = .ok (.getfield 193, 3) := by decide +kernel
theorem dX8_push_56 : decode cX8_push 56 = .ok (.dup, 1) := by decide +kernel
theorem dX8_push_57 : decode cX8_push 57 = .ok (.getfield 150, 3) := by decide +kernel
theorem dX8_push_60 : decode cX8_push 60 = .ok (.iload_n 1, 1) := by decide +kernel
theorem dX8_push_61 : decode cX8_push 61 = .ok (.iadd, 1) := by decide +kernel
theorem dX8_push_62 : decode cX8_push 62 = .ok (.putfield 150, 3) := by decide +kernel
theorem dX8_push_65 : decode cX8_push 65 = .ok (.aload_n 0, 1) := by decide +kernel
theorem dX8_push_66 : decode cX8_push 66 = .ok (.getfield 22, 3) := by decide +kernel
theorem dX8_push_69 : decode cX8_push 69 = .ok (.aload_n 0, 1) := by decide +kernel
theorem dX8_push_70 : decode cX8_push 70 = .ok (.getfield 10, 3) := by decide +kernel
theorem dX8_push_73 : decode cX8_push 73 = .ok (.getfield 40, 3) := by decide +kernel
theorem dX8_push_76 : decode cX8_push 76 = .ok (.iconst (-1), 1) := by decide +kernel
theorem dX8_push_77 : decode cX8_push 77 = .ok (.invokevirtual 190, 3) := by decide +kernel
theorem dX8_push_80 : decode cX8_push 80 = .ok (.aload_n 0, 1) := by decide +kernel
theorem dX8_push_81 : decode cX8_push 81 = .ok (.getfield 22, 3) := by decide +kernel
theorem dX8_push_84 : decode cX8_push 84 = .ok (.getfield 193, 3) := by decide +kernel
theorem dX8_push_87 : decode cX8_push 87 = .ok (.getfield 146, 3) := by decide +kernel
theorem dX8_push_90 : decode cX8_push 90 = .ok (.aload_n 0, 1) := by decide +kernel
theorem dX8_push_91 : decode cX8_push 91 = .ok (.getfield 10, 3) := by decide +kernel
theorem dX8_push_94 : decode cX8_push 94 = .ok (.getfield 40, 3) := by decide +kernel
theorem dX8_push_97 : decode cX8_push 97 = .ok (.getfield 143, 3) := by decide +kernel
theorem dX8_push_100 : decode cX8_push 100 = .ok (.if_icmp .ne 5, 3) := by decide +kernel
theorem dX8_push_103 : decode cX8_push 103 = .ok (.iload_n 1, 1) := by decide +kernel
theorem dX8_push_104 : decode cX8_push 104 = .ok (.ireturn, 1) := by decide +kernel
theorem dX8_push_105 : decode cX8_push 105 = .ok (.iinc 1 1, 3) := by decide +kernel
theorem dX8_push_108 : decode cX8_push 108 = .ok (.goto (-90), 3) := by decide +kernel
theorem dX8_push_111 : decode cX8_push 111 = .ok (.bipush (-4), 2) := by decide +kernel
theorem dX8_push_113 : decode cX8_push 113 = .ok (.ireturn, 1) := by decide +kernel
set_option maxRecDepth 20000 in
theorem ggX8_bank_X8_isIn : GoodIn wsX8_bank wsX8_isIn := goodIn_r _ [11] (by decide +kernel) (by decide +kernel)
set_option maxRecDepth 20000 in
theorem gX8_bank_X8_isIn : GoodIn wsX8_bank (va_wsS RX8 50 yX8_isIn wsX8_isIn) := goodIn_app (goodIn_of _ (by decide +kernel)) ggX8_bank_X8_isIn
set_option maxRecDepth 20000 in
theorem ggX8_bank_X4_begin : GoodIn wsX8_bank wsX4_begin := goodIn_r _ [16, 17, 18, 19, 20, 21, 22, 23, 24, 25, 26, 27, 28, 29, 30, 31, 32, 33, 34, 35, 109, 110, 111, 112, 113, 114, 115, 116, 117, 118, 119, 120] (by decide +kernel) (by decide +kernel)
set_option maxRecDepth 20000 in
theorem gX8_bank_X4_begin : GoodIn wsX8_bank (wsV RX8 187 RX4 yX4_begin wsX4_begin) := goodIn_app (goodIn_of _ (by decide +kernel)) ggX8_bank_X4_begin
set_option maxRecDepth 20000 in
theorem ggX8_bank_X4_rollToRest : GoodIn wsX8_bank wsX4_rollToRest := goodIn_r _ [39, 17, 40, 41, 42, 43, 44, 45, 46, 47, 48, 49, 50, 21, 51, 34, 31, 52, 33, 32, 53, 54, 55, 56, 23, 57, 58, 59, 60, 61, 62, 63, 64, 65, 66, 67, 68, 69, 70, 71, 72, 73, 74, 75, 28, 76, 77, 78, 79, 80, 81, 82, 83, 84, 85, 30, 29, 86, 87, 88, 89, 90, 91, 92, 93, 94, 109, 110, 111, 112, 113, 114, 115, 116, 117, 118, 119, 120, 104, 105, 106, 107, 108] (by decide +kernel) (by decide +kernel)
set_option maxRecDepth 20000 in
theorem gX8_bank_X4_rollToRest : GoodIn wsX8_bank (wsV RX8 190 RX4 yX4_rollToRest wsX4_rollToRest) := goodIn_app (goodIn_of _ (by decide +kernel)) ggX8_bank_X4_rollToRest
theorem dX8_bank_0 : decode cX8_bank 0 = .ok (.iload_n 1, 1) := by decide +kernel
theorem dX8_bank_1 : decode cX8_bank 1 = .ok (.iconst 0, 1) := by decide +kernel
theorem dX8_bank_2 : decode cX8_bank 2 = .ok (.iconst 1, 1) := by decide +kernel
theorem dX8_bank_3 : decode cX8_bank 3 = .ok (.invokestatic 50, 3) := by decide +kernel
theorem dX8_bank_6 : decode cX8_bank 6 = .ok (.ifCond .ne 5, 3) := by decide +kernel
theorem dX8_bank_9 : decode cX8_bank 9 = .ok (.iconst (-1), 1) := by decide +kernel
theorem dX8_bank_10 : decode cX8_bank 10 = .ok (.ireturn, 1) := by decide +kernel
theorem dX8_bank_11 : decode cX8_bank 11 = .ok (.bipush (-4), 2) := by decide +kernel
theorem dX8_bank_13 : decode cX8_bank 13 = .ok (.istore_n 2, 1) := by decide +kernel
theorem dX8_bank_14 : decode cX8_bank 14 = .ok (.aload_n 0, 1) := by decide +kernel
theorem dX8_bank_15 : decode cX8_bank 15 = .ok (.getfield 10, 3) := by decide +kernel
theorem dX8_bank_18 : decode cX8_bank 18 = .ok (.getfield 40, 3) := by decide +kernel
theorem dX8_bank_21 : decode cX8_bank 21 = .ok (.getfield 143, 3) := by decide +kernel
theorem dX8_bank_24 : decode cX8_bank 24 = .ok (.iconst 1, 1) := by decide +kernel
theorem dX8_bank_25 : decode cX8_bank 25 = .ok (.iadd, 1) := by decide +kernel
theorem dX8_bank_26 : decode cX8_bank 26 = .ok (.istore_n 3, 1) := by decide +kernel
theorem dX8_bank_27 : decode cX8_bank 27 = .ok (.iconst 0, 1) := by decide +kernel
theorem dX8_bank_28 : decode cX8_bank 28 = .ok (.istore 4, 2) := by decide +kernel
theorem dX8_bank_30 : decode cX8_bank 30 = .ok (.iload 4, 2) := by decide +kernel
theorem dX8_bank_32 : decode cX8_bank 32 = .ok (.aload_n 0, 1) := by decide +kernel
theorem dX8_bank_33 : decode cX8_bank 33 = .ok (.getfield 10, 3) := by decide +kernel
theorem dX8_bank_36 : decode cX8_bank 36 = .ok (.getfield 40, 3) := by decide +kernel
theorem dX8_bank_39 : decode cX8_bank 39 = .ok (.getfield 143, 3) := by decide +kernel
theorem dX8_bank_42 : decode cX8_bank 42 = .ok (.if_icmp .ge 67, 3) := by decide +kernel
theorem dX8_bank_45 : decode cX8_bank 45 = .ok (.aload_n 0, 1) := by decide +kernel
theorem dX8_bank_46 : decode cX8_bank 46 = .ok (.getfield 22, 3) := by decide +kernel
theorem dX8_bank_49 : decode cX8_bank 49 = .ok (.aload_n 0, 1) := by decide +kernel
theorem dX8_bank_50 : decode cX8_bank 50 = .ok (.getfield 10, 3) := by decide +kernel
theorem dX8_bank_53 : decode cX8_bank 53 = .ok (.getfield 58, 3) := by decide +kernel
theorem dX8_bank_56 : decode cX8_bank 56 = .ok (.invokevirtual 187, 3) := by decide +kernel
theorem dX8_bank_59 : decode cX8_bank 59 = .ok (.aload_n 0, 1) := by decide +kernel
theorem dX8_bank_60 : decode cX8_bank 60 = .ok (.getfield 22, 3) := by decide +kernel
theorem dX8_bank_63 : decode cX8_bank 63 = .ok (.aload_n 0, 1) := by decide +kernel
theorem dX8_bank_64 : decode cX8_bank 64 = .ok (.getfield 10, 3) := by decide +kernel
theorem dX8_bank_67 : decode cX8_bank 67 = .ok (.getfield 40, 3) := by decide +kernel
theorem dX8_bank_70 : decode cX8_bank 70 = .ok (.iload 4, 2) := by decide +kernel
theorem dX8_bank_72 : decode cX8_bank 72 = .ok (.invokevirtual 190, 3) := by decide +kernel
theorem dX8_bank_75 : decode cX8_bank 75 = .ok (.aload_n 0, 1) := by decide +kernel
theorem dX8_bank_76 : decode cX8_bank 76 = .ok (.getfield 22, 3) := by decide +kernel
theorem dX8_bank_79 : decode cX8_bank 79 = .ok (.getfield 193, 3) := by decide +kernel
theorem dX8_bank_82 : decode cX8_bank 82 = .ok (.getfield 146, 3) := by decide +kernel
theorem dX8_bank_85 : decode cX8_bank 85 = .ok (.iload_n 3, 1) := by decide +kernel
theorem dX8_bank_86 : decode cX8_bank 86 = .ok (.if_icmp .ge 17, 3) := by decide +kernel
theorem dX8_bank_89 : decode cX8_bank 89 = .ok (.aload_n 0, 1) := by decide +kernel
theorem dX8_bank_90 : decode cX8_bank 90 = .ok (.getfield 22, 3) := by decide +kernel
theorem dX8_bank_93 : decode cX8_bank 93 = .ok (.getfield 193, 3) := by decide +kernel
theorem dX8_bank_96 : decode cX8_bank 96 = .ok (.getfield 146, 3) := by decide +kernel
theorem dX8_bank_99 : decode cX8_bank 99 = .ok (.istore_n 3, 1) := by decide +kernel
theorem dX8_bank_100 : decode cX8_bank 100 = .ok (.iload 4, 2) := by decide +kernel
theorem dX8_bank_102 : decode cX8_bank 102 = .ok (.istore_n 2, 1) := by decide +kernel
theorem dX8_bank_103 : decode cX8_bank 103 = .ok (.iinc 4 1, 3) := by decide +kernel
theorem dX8_bank_106 : decode cX8_bank 106 = .ok (.goto (-76), 3) := by decide +kernel
theorem dX8_bank_109 : decode cX8_bank 109 = .ok (.iload_n 1, 1) := by decide +kernel
theorem dX8_bank_110 : decode cX8_bank 110 = .ok (.ifCond .ne 7, 3) := by decide +kernel
theorem dX8_bank_113 : decode cX8_bank 113 = .ok (.iload_n 2, 1) := by decide +kernel
theorem dX8_bank_114 : decode cX8_bank 114 = .ok (.goto 4, 3) := by decide +kernel
theorem dX8_bank_117 : decode cX8_bank 117 = .ok (.iload_n 3, 1) := by decide +kernel
theorem dX8_bank_118 : decode cX8_bank 118 = .ok (.ireturn, 1) := by decide +kernel
set_option maxRecDepth 20000 in
theorem ggX8_lay_X5_hasThing : GoodIn wsX8_lay wsX5_hasThing := goodIn_r _ [13, 14, 123, 124, 125, 126, 127] (by decide +kernel) (by decide +kernel)
set_option maxRecDepth 20000 in
theorem gX8_lay_X5_hasThing : GoodIn wsX8_lay (wsV RX8 92 RX5 yX5_hasThing wsX5_hasThing) := goodIn_app (goodIn_of _ (by decide +kernel)) ggX8_lay_X5_hasThing
set_option maxRecDepth 20000 in
theorem ggX8_lay_X8_isIn : GoodIn wsX8_lay wsX8_isIn := goodIn_r _ [18] (by decide +kernel) (by decide +kernel)
set_option maxRecDepth 20000 in
theorem gX8_lay_X8_isIn : GoodIn wsX8_lay (va_wsS RX8 50 yX8_isIn wsX8_isIn) := goodIn_app (goodIn_of _ (by decide +kernel)) ggX8_lay_X8_isIn
set_option maxRecDepth 20000 in
theorem ggX8_lay_X4_begin : GoodIn wsX8_lay wsX4_begin := goodIn_r _ [23, 24, 25, 26, 27, 28, 29, 30, 31, 32, 33, 34, 35, 36, 37, 38, 39, 40, 41, 42, 128, 129, 130, 114, 115, 116, 117, 118, 119, 120, 121, 122] (by decide +kernel) (by decide +kernel)
set_option maxRecDepth 20000 in
theorem gX8_lay_X4_begin : GoodIn wsX8_lay (wsV RX8 187 RX4 yX4_begin wsX4_begin) := goodIn_app (goodIn_of _ (by decide +kernel)) ggX8_lay_X4_begin
set_option maxRecDepth 20000 in
theorem ggX8_lay_X1_putAt : GoodIn wsX8_lay wsX1_putAt := goodIn_r _ [46, 35, 114, 115, 116, 117, 118, 119, 120, 121, 122] (by decide +kernel) (by decide +kernel)
set_option maxRecDepth 20000 in
theorem gX8_lay_X1_putAt : GoodIn wsX8_lay (wsV RX8 79 RX1 yX1_putAt wsX1_putAt) := goodIn_app (goodIn_of _ (by decide +kernel)) ggX8_lay_X1_putAt
set_option maxRecDepth 20000 in
theorem ggX8_lay_X4_rollToRest : GoodIn wsX8_lay wsX4_rollToRest := goodIn_r _ [50, 24, 51, 52, 53, 54, 55, 56, 57, 58, 59, 60, 61, 28, 62, 41, 38, 63, 40, 39, 64, 65, 66, 67, 30, 68, 69, 70, 12, 71, 72, 73, 74, 75, 76, 77, 78, 79, 80, 81, 82, 83, 84, 85, 35, 86, 87, 88, 89, 90, 91, 92, 93, 94, 95, 37, 36, 96, 97, 98, 99, 100, 101, 102, 103, 104, 128, 129, 130, 114, 115, 116, 117, 118, 119, 120, 121, 122, 123, 124, 125, 126, 127] (by decide +kernel) (by decide +kernel)
set_option maxRecDepth 20000 in
theorem gX8_lay_X4_rollToRest : GoodIn wsX8_lay (wsV RX8 190 RX4 yX4_rollToRest wsX4_rollToRest) := goodIn_app (goodIn_of _ (by decide +kernel)) ggX8_lay_X4_rollToRest
theorem dX8_lay_0 : decode cX8_lay 0 = .ok (.aload_n 0, 1) := by decide +kernel
theorem dX8_lay_1 : decode cX8_lay 1 = .ok (.getfield 10, 3) := by decide +kernel
theorem dX8_lay_4 : decode cX8_lay 4 = .ok (.getfield 40, 3) := by decide +kernel
theorem dX8_lay_7 : decode cX8_lay 7 = .ok (.iload_n 1, 1) := by decide +kernel
theorem dX8_lay_8 : decode cX8_lay 8 = .ok (.invokevirtual 92, 3) := by decide +kernel
theorem dX8_lay_11 : decode cX8_lay 11 = .ok (.ifCond .eq 12, 3) := by decide +kernel
theorem dX8_lay_14 : decode cX8_lay 14 = .ok (.iload_n 2, 1) := by decide +kernel
theorem dX8_lay_15 : decode cX8_lay 15 = .ok (.iconst 0, 1) := by decide +kernel
theorem dX8_lay_16 : decode cX8_lay 16 = .ok (.iconst 1, 1) := by decide +kernel
theorem dX8_lay_17 : decode cX8_lay 17 = .ok (.invokestatic 50, 3) := by decide +kernel
theorem dX8_lay_20 : decode cX8_lay 20 = .ok (.ifCond .ne 5, 3) := by decide +kernel
theorem dX8_lay_23 : decode cX8_lay 23 = .ok (.iconst (-1), 1) := by decide +kernel
theorem dX8_lay_24 : decode cX8_lay 24 = .ok (.ireturn, 1) := by decide +kernel
theorem dX8_lay_25 : decode cX8_lay 25 = .ok (.aload_n 0, 1) := by decide +kernel
theorem dX8_lay_26 : decode cX8_lay 26 = .ok (.getfield 10, 3) := by decide +kernel
theorem dX8_lay_29 : decode cX8_lay 29 = .ok (.getfield 58, 3) := by decide +kernel
theorem dX8_lay_32 : decode cX8_lay 32 = .ok (.getfield 95, 3) := by decide +kernel
theorem dX8_lay_35 : decode cX8_lay 35 = .ok (.iload_n 1, 1) := by decide +kernel
theorem dX8_lay_36 : decode cX8_lay 36 = .ok (.iaload, 1) := by decide +kernel
theorem dX8_lay_37 : decode cX8_lay 37 = .ok (.ifCond .ge 6, 3) := by decide +kernel
theorem dX8_lay_40 : decode cX8_lay 40 = .ok (.bipush (-2), 2) := by decide +kernel
theorem dX8_lay_42 : decode cX8_lay 42 = .ok (.ireturn, 1) := by decide +kernel
theorem dX8_lay_43 : decode cX8_lay 43 = .ok (.bipush (-4), 2) := by decide +kernel
theorem dX8_lay_45 : decode cX8_lay 45 = .ok (.istore_n 3, 1) := by decide +kernel
theorem dX8_lay_46 : decode cX8_lay 46 = .ok (.iconst 0, 1) := by decide +kernel
theorem dX8_lay_47 : decode cX8_lay 47 = .ok (.istore 4, 2) := by decide +kernel
theorem dX8_lay_49 : decode cX8_lay 49 = .ok (.iconst 0, 1) := by decide +kernel
theorem dX8_lay_50 : decode cX8_lay 50 = .ok (.istore 5, 2) := by decide +kernel
theorem dX8_lay_52 : decode cX8_lay 52 = .ok (.iload 5, 2) := by decide +kernel
theorem dX8_lay_54 : decode cX8_lay 54 = .ok (.aload_n 0, 1) := by decide +kernel
theorem dX8_lay_55 : decode cX8_lay 55 = .ok (.getfield 10, 3) := by decide +kernel
theorem dX8_lay_58 : decode cX8_lay 58 = .ok (.getfield 40, 3) := by decide +kernel
theorem dX8_lay_61 : decode cX8_lay 61 = .ok (.getfield 143, 3) := by decide +kernel
theorem dX8_lay_64 : decode cX8_lay 64 = .ok (.if_icmp .ge 81, 3) := by decide +kernel
theorem dX8_lay_67 : decode cX8_lay 67 = .ok (.aload_n 0, 1) := by decide +kernel
theorem dX8_lay_68 : decode cX8_lay 68 = .ok (.getfield 22, 3) := by decide +kernel
theorem dX8_lay_71 : decode cX8_lay 71 = .ok (.aload_n 0, 1) := by decide +kernel
theorem dX8_lay_72 : decode cX8_lay 72 = .ok (.getfield 10, 3) := by decide +kernel
theorem dX8_lay_75 : decode cX8_lay 75 = .ok (.getfield 58, 3) := by decide +kernel
theorem dX8_lay_78 : decode cX8_lay 78 = .ok (.invokevirtual 187, 3) := by decide +kernel
theorem dX8_lay_81 : decode cX8_lay 81 = .ok (.aload_n 0, 1) := by decide +kernel
theorem dX8_lay_82 : decode cX8_lay 82 = .ok (.getfield 22, 3) := by decide +kernel
theorem dX8_lay_85 : decode cX8_lay 85 = .ok (.getfield 193, 3) := by decide +kernel
theorem dX8_lay_88 : decode cX8_lay 88 = .ok (.iload_n 1, 1) := by decide +kernel
theorem dX8_lay_89 : decode cX8_lay 89 = .ok (.iload 5, 2) := by decide +kernel
theorem dX8_lay_91 : decode cX8_lay 91 = .ok (.invokevirtual 79, 3) := by decide +kernel
theorem dX8_lay_94 : decode cX8_lay 94 = .ok (.aload_n 0, 1) := by decide +kernel
theorem dX8_lay_95 : decode cX8_lay 95 = .ok (.getfield 22, 3) := by decide +kernel
theorem dX8_lay_98 : decode cX8_lay 98 = .ok (.aload_n 0, 1) := by decide +kernel
theorem dX8_lay_99 : decode cX8_lay 99 = .ok (.getfield 10, 3) := by decide +kernel
theorem dX8_lay_102 : decode cX8_lay 102 = .ok (.getfield 40, 3) := by decide +kernel
theorem dX8_lay_105 : decode cX8_lay 105 = .ok (.iconst (-1), 1) := by decide +kernel
theorem dX8_lay_106 : decode cX8_lay 106 = .ok (.invokevirtual 190, 3) := by decide +kernel
theorem dX8_lay_109 : decode cX8_lay 109 = .ok (.aload_n 0, 1) := by decide +kernel
theorem dX8_lay_110 : decode cX8_lay 110 = .ok (.getfield 22, 3) := by decide +kernel
theorem dX8_lay_113 : decode cX8_lay 113 = .ok (.getfield 193, 3) := by decide +kernel
theorem dX8_lay_116 : decode cX8_lay 116 = .ok (.getfield 147, 3) := by decide +kernel
theorem dX8_lay_119 : decode cX8_lay 119 = .ok (.iload 4, 2) := by decide +kernel
theorem dX8_lay_121 : decode cX8_lay 121 = .ok (.if_icmp .le 18, 3) := by decide +kernel
theorem dX8_lay_124 : decode cX8_lay 124 = .ok (.aload_n 0, 1) := by decide +kernel
theorem dX8_lay_125 : decode cX8_lay 125 = .ok (.getfield 22, 3) := by decide +kernel
theorem dX8_lay_128 : decode cX8_lay 128 = .ok (.getfield 193, 3) := by decide +kernel
theorem dX8_lay_131 : decode cX8_lay 131 = .ok (.getfield 147, 3) := by decide +kernel
theorem dX8_lay_134 : decode cX8_lay 134 = .ok (.istore 4, 2) := by decide +kernel
theorem dX8_lay_136 : decode cX8_lay 136 = .ok (.iload 5, 2) := by decide +kernel
theorem dX8_lay_138 : decode cX8_lay 138 = .ok (.istore_n 3, 1) := by decide +kernel
theorem dX8_lay_139 : decode cX8_lay 139 = .ok (.iinc 5 1, 3) := by decide +kernel
theorem dX8_lay_142 : decode cX8_lay 142 = .ok (.goto (-90), 3) := by decide +kernel
theorem dX8_lay_145 : decode cX8_lay 145 = .ok (.iload_n 2, 1) := by decide +kernel
theorem dX8_lay_146 : decode cX8_lay 146 = .ok (.ifCond .ne 7, 3) := by decide +kernel
theorem dX8_lay_149 : decode cX8_lay 149 = .ok (.iload_n 3, 1) := by decide +kernel
theorem dX8_lay_150 : decode cX8_lay 150 = .ok (.goto 5, 3) := by decide +kernel
theorem dX8_lay_153 : decode cX8_lay 153 = .ok (.iload 4, 2) := by decide +kernel
theorem dX8_lay_155 : decode cX8_lay 155 = .ok (.ireturn, 1) := by decide +kernel
set_option maxRecDepth 20000 in
theorem ggX8_spare_X5_hasThing : GoodIn wsX8_spare wsX5_hasThing := goodIn_r _ [8, 9, 130, 131, 132, 133, 134] (by decide +kernel) (by decide +kernel)
set_option maxRecDepth 20000 in
theorem gX8_spare_X5_hasThing : GoodIn wsX8_spare (wsV RX8 92 RX5 yX5_hasThing wsX5_hasThing) := goodIn_app (goodIn_of _ (by decide +kernel)) ggX8_spare_X5_hasThing
set_option maxRecDepth 20000 in
theorem ggX8_spare_X8_isIn : GoodIn wsX8_spare wsX8_isIn := goodIn_r _ [13] (by decide +kernel) (by decide +kernel)
set_option maxRecDepth 20000 in
theorem gX8_spare_X8_isIn : GoodIn wsX8_spare (va_wsS RX8 50 yX8_isIn wsX8_isIn) := goodIn_app (goodIn_of _ (by decide +kernel)) ggX8_spare_X8_isIn
set_option maxRecDepth 20000 in
theorem ggX8_spare_X1_thingsThatLie : GoodIn wsX8_spare wsX1_thingsThatLie := goodIn_r _ [18, 19, 20, 130, 131, 132, 133, 134, 135, 136, 137, 138, 139, 140, 141, 142, 143] (by decide +kernel) (by decide +kernel)
set_option maxRecDepth 20000 in
theorem gX8_spare_X1_thingsThatLie : GoodIn wsX8_spare (wsV RX8 203 RX1 yX1_thingsThatLie wsX1_thingsThatLie) := goodIn_app (goodIn_of _ (by decide +kernel)) ggX8_spare_X1_thingsThatLie
set_option maxRecDepth 20000 in
theorem ggX8_spare_J6_bitCount_0f7a4 : GoodIn wsX8_spare wsJ6_bitCount_0f7a4 := goodIn_r _ [24, 25, 26, 27] (by decide +kernel) (by decide +kernel)
set_option maxRecDepth 20000 in
theorem gX8_spare_J6_bitCount_0f7a4 : GoodIn wsX8_spare (va_wsS RX8 206 yJ6_bitCount_0f7a4 wsJ6_bitCount_0f7a4) := goodIn_app (goodIn_of _ (by decide +kernel)) ggX8_spare_J6_bitCount_0f7a4
set_option maxRecDepth 20000 in
theorem ggX8_spare_X8_isMissedWithout : GoodIn wsX8_spare wsX8_isMissedWithout := goodIn_r _ [31, 32, 1, 3, 33, 2, 34, 35, 36, 37, 38, 39, 40, 41, 42, 17, 43, 44, 45, 46, 47, 48, 20, 49, 50, 51, 52, 53, 54, 55, 56, 57, 58, 59, 60, 61, 62, 63, 64, 65, 66, 67, 68, 69, 70, 71, 72, 73, 74, 75, 76, 77, 78, 79, 80, 81, 82, 83, 7, 84, 85, 86, 87, 88, 89, 90, 91, 92, 93, 94, 95, 96, 97, 19, 98, 99, 100, 101, 102, 103, 104, 105, 106, 107, 108, 109, 110, 111, 112, 113, 114, 115, 116, 117, 118, 119, 120, 121, 122, 123, 124, 125, 126, 127, 128, 129, 144, 145, 146, 135, 136, 137, 138, 139, 140, 141, 142, 143, 130, 131, 132, 133, 134] (by decide +kernel) (by decide +kernel)
set_option maxRecDepth 20000 in
theorem gX8_spare_X8_isMissedWithout : GoodIn wsX8_spare (wsV RX8 211 RX8 yX8_isMissedWithout wsX8_isMissedWithout) := goodIn_app (goodIn_of _ (by decide +kernel)) ggX8_spare_X8_isMissedWithout
theorem dX8_spare_0 : decode cX8_spare 0 = .ok (.aload_n 0, 1) := by decide +kernel
theorem dX8_spare_1 : decode cX8_spare 1 = .ok (.getfield 10, 3) := by decide +kernel
theorem dX8_spare_4 : decode cX8_spare 4 = .ok (.getfield 40, 3) := by decide +kernel
theorem dX8_spare_7 : decode cX8_spare 7 = .ok (.iload_n 1, 1) := by decide +kernel
theorem dX8_spare_8 : decode cX8_spare 8 = .ok (.invokevirtual 92, 3) := by decide +kernel
theorem dX8_spare_11 : decode cX8_spare 11 = .ok (.ifCond .eq 12, 3) := by decide +kernel
theorem dX8_spare_14 : decode cX8_spare 14 = .ok (.iload_n 2, 1) := by decide +kernel
theorem dX8_spare_15 : decode cX8_spare 15 = .ok (.iconst 0, 1) := by decide +kernel
theorem dX8_spare_16 : decode cX8_spare 16 = .ok (.iconst 1, 1) := by decide +kernel
theorem dX8_spare_17 : decode cX8_spare 17 = .ok (.invokestatic 50, 3) := by decide +kernel
theorem dX8_spare_20 : decode cX8_spare 20 = .ok (.ifCond .ne 5, 3) := by decide +kernel
theorem dX8_spare_23 : decode cX8_spare 23 = .ok (.iconst (-1), 1) := by decide +kernel
theorem dX8_spare_24 : decode cX8_spare 24 = .ok (.ireturn, 1) := by decide +kernel
theorem dX8_spare_25 : decode cX8_spare 25 = .ok (.aload_n 0, 1) := by decide +kernel
theorem dX8_spare_26 : decode cX8_spare 26 = .ok (.getfield 10, 3) := by decide +kernel
theorem dX8_spare_29 : decode cX8_spare 29 = .ok (.getfield 58, 3) := by decide +kernel
theorem dX8_spare_32 : decode cX8_spare 32 = .ok (.aload_n 0, 1) := by decide +kernel
theorem dX8_spare_33 : decode cX8_spare 33 = .ok (.getfield 10, 3) := by decide +kernel
theorem dX8_spare_36 : decode cX8_spare 36 = .ok (.getfield 40, 3) := by decide +kernel
theorem dX8_spare_39 : decode cX8_spare 39 = .ok (.invokevirtual 203, 3) := by decide +kernel
theorem dX8_spare_42 : decode cX8_spare 42 = .ok (.iconst 1, 1) := by decide +kernel
theorem dX8_spare_43 : decode cX8_spare 43 = .ok (.iload_n 1, 1) := by decide +kernel
theorem dX8_spare_44 : decode cX8_spare 44 = .ok (.ishl, 1) := by decide +kernel
theorem dX8_spare_45 : decode cX8_spare 45 = .ok (.iconst (-1), 1) := by decide +kernel
theorem dX8_spare_46 : decode cX8_spare 46 = .ok (.ixor, 1) := by decide +kernel
theorem dX8_spare_47 : decode cX8_spare 47 = .ok (.iand, 1) := by decide +kernel
theorem dX8_spare_48 : decode cX8_spare 48 = .ok (.istore_n 3, 1) := by decide +kernel
theorem dX8_spare_49 : decode cX8_spare 49 = .ok (.bipush (-4), 2) := by decide +kernel
theorem dX8_spare_51 : decode cX8_spare 51 = .ok (.istore 4, 2) := by decide +kernel
theorem dX8_spare_53 : decode cX8_spare 53 = .ok (.bipush 9, 2) := by decide +kernel
theorem dX8_spare_55 : decode cX8_spare 55 = .ok (.istore 5, 2) := by decide +kernel
theorem dX8_spare_57 : decode cX8_spare 57 = .ok (.iconst 0, 1) := by decide +kernel
theorem dX8_spare_58 : decode cX8_spare 58 = .ok (.istore 6, 2) := by decide +kernel
theorem dX8_spare_60 : decode cX8_spare 60 = .ok (.iload 6, 2) := by decide +kernel
theorem dX8_spare_62 : decode cX8_spare 62 = .ok (.sipush 256, 3) := by decide +kernel
theorem dX8_spare_65 : decode cX8_spare 65 = .ok (.if_icmp .ge 61, 3) := by decide +kernel
theorem dX8_spare_68 : decode cX8_spare 68 = .ok (.iload 6, 2) := by decide +kernel
theorem dX8_spare_70 : decode cX8_spare 70 = .ok (.iload_n 3, 1) := by decide +kernel
theorem dX8_spare_71 : decode cX8_spare 71 = .ok (.iconst (-1), 1) := by decide +kernel
theorem dX8_spare_72 : decode cX8_spare 72 = .ok (.ixor, 1) := by decide +kernel
theorem dX8_spare_73 : decode cX8_spare 73 = .ok (.iand, 1) := by decide +kernel
theorem dX8_spare_74 : decode cX8_spare 74 = .ok (.ifCond .ne 7, 3) := by decide +kernel
theorem dX8_spare_77 : decode cX8_spare 77 = .ok (.iconst 1, 1) := by decide +kernel
theorem dX8_spare_78 : decode cX8_spare 78 = .ok (.goto 4, 3) := by decide +kernel
theorem dX8_spare_81 : decode cX8_spare 81 = .ok (.iconst 0, 1) := by decide +kernel
theorem dX8_spare_82 : decode cX8_spare 82 = .ok (.istore 7, 2) := by decide +kernel
theorem dX8_spare_84 : decode cX8_spare 84 = .ok (.iload 7, 2) := by decide +kernel
theorem dX8_spare_86 : decode cX8_spare 86 = .ok (.ifCond .eq 34, 3) := by decide +kernel
theorem dX8_spare_89 : decode cX8_spare 89 = .ok (.iload 6, 2) := by decide +kernel
theorem dX8_spare_91 : decode cX8_spare 91 = .ok (.invokestatic 206, 3) := by decide +kernel
theorem dX8_spare_94 : decode cX8_spare 94 = .ok (.iload 5, 2) := by decide +kernel
theorem dX8_spare_96 : decode cX8_spare 96 = .ok (.if_icmp .ge 24, 3) := by decide +kernel
theorem dX8_spare_99 : decode cX8_spare 99 = .ok (.aload_n 0, 1) := by decide +kernel
theorem dX8_spare_100 : decode cX8_spare 100 = .ok (.iload_n 1, 1) := by decide +kernel
theorem dX8_spare_101 : decode cX8_spare 101 = .ok (.iload 6, 2) := by decide +kernel
theorem dX8_spare_103 : decode cX8_spare 103 = .ok (.invokevirtual 211, 3) := by decide +kernel
theorem dX8_spare_106 : decode cX8_spare 106 = .ok (.ifCond .eq 14, 3) := by decide +kernel
theorem dX8_spare_109 : decode cX8_spare 109 = .ok (.iload 6, 2) := by decide +kernel
theorem dX8_spare_111 : decode cX8_spare 111 = .ok (.invokestatic 206, 3) := by decide +kernel
theorem dX8_spare_114 : decode cX8_spare 114 = .ok (.istore 5, 2) := by decide +kernel
theorem dX8_spare_116 : decode cX8_spare 116 = .ok (.iload 6, 2) := by decide +kernel
theorem dX8_spare_118 : decode cX8_spare 118 = .ok (.istore 4, 2) := by decide +kernel
theorem dX8_spare_120 : decode cX8_spare 120 = .ok (.iinc 6 1, 3) := by decide +kernel
theorem dX8_spare_123 : decode cX8_spare 123 = .ok (.goto (-63), 3) := by decide +kernel
theorem dX8_spare_126 : decode cX8_spare 126 = .ok (.iload_n 2, 1) := by decide +kernel
theorem dX8_spare_127 : decode cX8_spare 127 = .ok (.iconst 1, 1) := by decide +kernel
theorem dX8_spare_128 : decode cX8_spare 128 = .ok (.if_icmp .eq 10, 3) := by decide +kernel
theorem dX8_spare_131 : decode cX8_spare 131 = .ok (.iload 4, 2) := by decide +kernel
theorem dX8_spare_133 : decode cX8_spare 133 = .ok (.bipush (-4), 2) := by decide +kernel
theorem dX8_spare_135 : decode cX8_spare 135 = .ok (.if_icmp .ne 8, 3) := by decide +kernel
theorem dX8_spare_138 : decode cX8_spare 138 = .ok (.iload 4, 2) := by decide +kernel
theorem dX8_spare_140 : decode cX8_spare 140 = .ok (.goto 5, 3) := by decide +kernel
theorem dX8_spare_143 : decode cX8_spare 143 = .ok (.iload 5, 2) := by decide +kernel
theorem dX8_spare_145 : decode cX8_spare 145 = .ok (.ireturn, 1) := by decide +kernel
set_option maxRecDepth 20000 in
theorem ggX8_image_X7_become : GoodIn wsX8_image wsX7_become := goodIn_r _ [8, 9, 10, 11, 12, 13, 14, 15, 16, 17, 18, 19, 20, 21, 22, 23, 24, 25, 26, 27, 28, 29, 30, 31, 32, 33, 34, 35, 36, 37, 38, 39, 40, 41, 42, 43, 44, 45, 46, 47, 48, 49, 56, 57, 58, 59, 60, 61, 62, 63, 64, 65, 66, 67, 68, 69, 70, 71, 72, 73, 74, 75] (by decide +kernel) (by decide +kernel)
set_option maxRecDepth 20000 in
theorem gX8_image_X7_become : GoodIn wsX8_image (wsV RX8 214 RX7 yX7_become wsX7_become) := goodIn_app (goodIn_of _ (by decide +kernel)) ggX8_image_X7_become
theorem dX8_image_0 : decode cX8_image 0 = .ok (.aload_n 0, 1) := by decide +kernel
theorem dX8_image_1 : decode cX8_image 1 = .ok (.getfield 16, 3) := by decide +kernel
theorem dX8_image_4 : decode cX8_image 4 = .ok (.aload_n 0, 1) := by decide +kernel
theorem dX8_image_5 : decode cX8_image 5 = .ok (.getfield 10, 3) := by decide +kernel
theorem dX8_image_8 : decode cX8_image 8 = .ok (.invokevirtual 214, 3) := by decide +kernel
theorem dX8_image_11 : decode cX8_image 11 = .ok (.aload_n 0, 1) := by decide +kernel
theorem dX8_image_12 : decode cX8_image 12 = .ok (.iconst 1, 1) := by decide +kernel
theorem dX8_image_13 : decode cX8_image 13 = .ok (.putfield 217, 3) := by decide +kernel
theorem dX8_image_16 : decode cX8_image 16 = .ok (.iconst 1, 1) := by decide +kernel
theorem dX8_image_17 : decode cX8_image 17 = .ok (.ireturn, 1) := by decide +kernel
set_option maxRecDepth 20000 in
theorem ggX8_restore_X7_become : GoodIn wsX8_restore wsX7_become := goodIn_r _ [8, 9, 10, 11, 12, 13, 14, 15, 16, 17, 18, 19, 20, 21, 22, 23, 24, 25, 26, 27, 28, 29, 30, 31, 32, 33, 34, 35, 36, 37, 38, 39, 40, 41, 42, 43, 44, 45, 46, 47, 48, 49, 56, 57, 58, 59, 60, 61, 62, 63, 64, 65, 66, 67, 68, 69, 70, 71, 72, 73, 74, 75] (by decide +kernel) (by decide +kernel)
set_option maxRecDepth 20000 in
theorem gX8_restore_X7_become : GoodIn wsX8_restore (wsV RX8 214 RX7 yX7_become wsX7_become) := goodIn_app (goodIn_of _ (by decide +kernel)) ggX8_restore_X7_become
theorem dX8_restore_0 : decode cX8_restore 0 = .ok (.aload_n 0, 1) := by decide +kernel
theorem dX8_restore_1 : decode cX8_restore 1 = .ok (.getfield 217, 3) := by decide +kernel
theorem dX8_restore_4 : decode cX8_restore 4 = .ok (.ifCond .ne 6, 3) := by decide +kernel
theorem dX8_restore_7 : decode cX8_restore 7 = .ok (.bipush (-4), 2) := by decide +kernel
theorem dX8_restore_9 : decode cX8_restore 9 = .ok (.ireturn, 1) := by decide +kernel
theorem dX8_restore_10 : decode cX8_restore 10 = .ok (.aload_n 0, 1) := by decide +kernel
theorem dX8_restore_11 : decode cX8_restore 11 = .ok (.getfield 10, 3) := by decide +kernel
theorem dX8_restore_14 : decode cX8_restore 14 = .ok (.aload_n 0, 1) := by decide +kernel
theorem dX8_restore_15 : decode cX8_restore 15 = .ok (.getfield 16, 3) := by decide +kernel
theorem dX8_restore_18 : decode cX8_restore 18 = .ok (.invokevirtual 214, 3) := by decide +kernel
theorem dX8_restore_21 : decode cX8_restore 21 = .ok (.iconst 1, 1) := by decide +kernel
theorem dX8_restore_22 : decode cX8_restore 22 = .ok (.ireturn, 1) := by decide +kernel
set_option maxRecDepth 20000 in
theorem ggX8_seen_X8_isIn : GoodIn wsX8_seen wsX8_isIn := goodIn_r _ [5] (by decide +kernel) (by decide +kernel)
set_option maxRecDepth 20000 in
theorem gX8_seen_X8_isIn : GoodIn wsX8_seen (va_wsS RX8 50 yX8_isIn wsX8_isIn) := goodIn_app (goodIn_of _ (by decide +kernel)) ggX8_seen_X8_isIn
set_option maxRecDepth 20000 in
theorem ggX8_seen_X8_isSheetAndLane : GoodIn wsX8_seen wsX8_isSheetAndLane := goodIn_r _ [8, 2, 3, 4, 5] (by decide +kernel) (by decide +kernel)
set_option maxRecDepth 20000 in
theorem gX8_seen_X8_isSheetAndLane : GoodIn wsX8_seen (va_wsS RX8 220 yX8_isSheetAndLane wsX8_isSheetAndLane) := goodIn_app (goodIn_of _ (by decide +kernel)) ggX8_seen_X8_isSheetAndLane
set_option maxRecDepth 20000 in
theorem ggX8_seen_X2_refusal : GoodIn wsX8_seen wsX2_refusal := goodIn_r _ [13, 14, 15, 16, 17, 12, 18, 19, 123, 124, 125] (by decide +kernel) (by decide +kernel)
set_option maxRecDepth 20000 in
theorem gX8_seen_X2_refusal : GoodIn wsX8_seen (wsV RX8 223 RX2 yX2_refusal wsX2_refusal) := goodIn_app (goodIn_of _ (by decide +kernel)) ggX8_seen_X2_refusal
set_option maxRecDepth 20000 in
theorem ggX8_seen_X8_wouldBeSeen : GoodIn wsX8_seen wsX8_wouldBeSeen := goodIn_r _ [23, 24, 25, 26, 27, 28, 29, 30, 31, 32, 33, 34, 35, 36, 37, 38, 39, 40, 41, 42, 43, 44, 45, 46, 47, 48, 49, 50, 51, 52, 53, 54, 55, 56, 57, 58, 59, 60, 61, 62, 63, 64, 65, 66, 67, 68, 69, 70, 71, 72, 73, 74, 75, 76, 77, 78, 79, 80, 81, 82, 83, 84, 85, 86, 87, 88, 89, 90, 91, 92, 93, 94, 95, 96, 97, 98, 99, 100, 101, 102, 103, 104, 105, 106, 107, 108, 109, 110, 111, 112, 113, 114, 12, 115, 116, 15, 16, 17, 18, 19, 117, 118, 119, 120, 121, 122, 126, 127, 128, 129, 130, 131, 132, 133, 134, 135, 136, 137, 138, 139, 140, 141, 142, 143, 144, 145, 123, 124, 125] (by decide +kernel) (by decide +kernel)
set_option maxRecDepth 20000 in
theorem gX8_seen_X8_wouldBeSeen : GoodIn wsX8_seen (wsV RX8 227 RX8 yX8_wouldBeSeen wsX8_wouldBeSeen) := goodIn_app (goodIn_of _ (by decide +kernel)) ggX8_seen_X8_wouldBeSeen
theorem dX8_seen_0 : decode cX8_seen 0 = .ok (.iload_n 1, 1) := by decide +kernel
theorem dX8_seen_1 : decode cX8_seen 1 = .ok (.iconst 1, 1) := by decide +kernel
theorem dX8_seen_2 : decode cX8_seen 2 = .ok (.bipush 99, 2) := by decide +kernel
theorem dX8_seen_4 : decode cX8_seen 4 = .ok (.invokestatic 50, 3) := by decide +kernel
theorem dX8_seen_7 : decode cX8_seen 7 = .ok (.ifCond .eq 32, 3) := by decide +kernel
theorem dX8_seen_10 : decode cX8_seen 10 = .ok (.iload_n 2, 1) := by decide +kernel
theorem dX8_seen_11 : decode cX8_seen 11 = .ok (.iload_n 3, 1) := by decide +kernel
theorem dX8_seen_12 : decode cX8_seen 12 = .ok (.invokestatic 220, 3) := by decide +kernel
theorem dX8_seen_15 : decode cX8_seen 15 = .ok (.ifCond .eq 24, 3) := by decide +kernel
theorem dX8_seen_18 : decode cX8_seen 18 = .ok (.iload 5, 2) := by decide +kernel
theorem dX8_seen_20 : decode cX8_seen 20 = .ok (.iconst 1, 1) := by decide +kernel
theorem dX8_seen_21 : decode cX8_seen 21 = .ok (.bipush 8, 2) := by decide +kernel
theorem dX8_seen_23 : decode cX8_seen 23 = .ok (.invokestatic 50, 3) := by decide +kernel
theorem dX8_seen_26 : decode cX8_seen 26 = .ok (.ifCond .eq 13, 3) := by decide +kernel
theorem dX8_seen_29 : decode cX8_seen 29 = .ok (.iload 6, 2) := by decide +kernel
theorem dX8_seen_31 : decode cX8_seen 31 = .ok (.iconst 0, 1) := by decide +kernel
theorem dX8_seen_32 : decode cX8_seen 32 = .ok (.iconst 1, 1) := by decide +kernel
theorem dX8_seen_33 : decode cX8_seen 33 = .ok (.invokestatic 50, 3) := by decide +kernel
theorem dX8_seen_36 : decode cX8_seen 36 = .ok (.ifCond .ne 5, 3) := by decide +kernel
theorem dX8_seen_39 : decode cX8_seen 39 = .ok (.iconst (-1), 1) := by decide +kernel
theorem dX8_seen_40 : decode cX8_seen 40 = .ok (.ireturn, 1) := by decide +kernel
theorem dX8_seen_41 : decode cX8_seen 41 = .ok (.aload_n 0, 1) := by decide +kernel
theorem dX8_seen_42 : decode cX8_seen 42 = .ok (.getfield 35, 3) := by decide +kernel
theorem dX8_seen_45 : decode cX8_seen 45 = .ok (.iload_n 2, 1) := by decide +kernel
theorem dX8_seen_46 : decode cX8_seen 46 = .ok (.aaload, 1) := by decide +kernel
theorem dX8_seen_47 : decode cX8_seen 47 = .ok (.astore 7, 2) := by decide +kernel
theorem dX8_seen_49 : decode cX8_seen 49 = .ok (.aload 7, 2) := by decide +kernel
theorem dX8_seen_51 : decode cX8_seen 51 = .ok (.iload_n 3, 1) := by decide +kernel
theorem dX8_seen_52 : decode cX8_seen 52 = .ok (.iload 4, 2) := by decide +kernel
theorem dX8_seen_54 : decode cX8_seen 54 = .ok (.iload 5, 2) := by decide +kernel
theorem dX8_seen_56 : decode cX8_seen 56 = .ok (.invokevirtual 223, 3) := by decide +kernel
theorem dX8_seen_59 : decode cX8_seen 59 = .ok (.istore 8, 2) := by decide +kernel
theorem dX8_seen_61 : decode cX8_seen 61 = .ok (.iload 8, 2) := by decide +kernel
theorem dX8_seen_63 : decode cX8_seen 63 = .ok (.ifCond .eq 6, 3) := by decide +kernel
theorem dX8_seen_66 : decode cX8_seen 66 = .ok (.iload 8, 2) := by decide +kernel
theorem dX8_seen_68 : decode cX8_seen 68 = .ok (.ireturn, 1) := by decide +kernel
theorem dX8_seen_69 : decode cX8_seen 69 = .ok (.iconst 0, 1) := by decide +kernel
theorem dX8_seen_70 : decode cX8_seen 70 = .ok (.istore 9, 2) := by decide +kernel
theorem dX8_seen_72 : decode cX8_seen 72 = .ok (.bipush (-4), 2) := by decide +kernel
theorem dX8_seen_74 : decode cX8_seen 74 = .ok (.istore 10, 2) := by decide +kernel
theorem dX8_seen_76 : decode cX8_seen 76 = .ok (.bipush 99, 2) := by decide +kernel
theorem dX8_seen_78 : decode cX8_seen 78 = .ok (.istore 11, 2) := by decide +kernel
theorem dX8_seen_80 : decode cX8_seen 80 = .ok (.iload 11, 2) := by decide +kernel
theorem dX8_seen_82 : decode cX8_seen 82 = .ok (.ifCond .lt 32, 3) := by decide +kernel
theorem dX8_seen_85 : decode cX8_seen 85 = .ok (.aload_n 0, 1) := by decide +kernel
theorem dX8_seen_86 : decode cX8_seen 86 = .ok (.iload_n 1, 1) := by decide +kernel
theorem dX8_seen_87 : decode cX8_seen 87 = .ok (.iload 11, 2) := by decide +kernel
theorem dX8_seen_89 : decode cX8_seen 89 = .ok (.aload 7, 2) := by decide +kernel
theorem dX8_seen_91 : decode cX8_seen 91 = .ok (.iload 4, 2) := by decide +kernel
theorem dX8_seen_93 : decode cX8_seen 93 = .ok (.iload 5, 2) := by decide +kernel
theorem dX8_seen_95 : decode cX8_seen 95 = .ok (.invokevirtual 227, 3) := by decide +kernel
theorem dX8_seen_98 : decode cX8_seen 98 = .ok (.ifCond .eq 10, 3) := by decide +kernel
theorem dX8_seen_101 : decode cX8_seen 101 = .ok (.iinc 9 1, 3) := by decide +kernel
theorem dX8_seen_104 : decode cX8_seen 104 = .ok (.iload 11, 2) := by decide +kernel
theorem dX8_seen_106 : decode cX8_seen 106 = .ok (.istore 10, 2) := by decide +kernel
theorem dX8_seen_108 : decode cX8_seen 108 = .ok (.iinc 11 (-1), 3) := by decide +kernel
theorem dX8_seen_111 : decode cX8_seen 111 = .ok (.goto (-31), 3) := by decide +kernel
theorem dX8_seen_114 : decode cX8_seen 114 = .ok (.iload 6, 2) := by decide +kernel
theorem dX8_seen_116 : decode cX8_seen 116 = .ok (.ifCond .ne 8, 3) := by decide +kernel
theorem dX8_seen_119 : decode cX8_seen 119 = .ok (.iload 9, 2) := by decide +kernel
theorem dX8_seen_121 : decode cX8_seen 121 = .ok (.goto 5, 3) := by decide +kernel
theorem dX8_seen_124 : decode cX8_seen 124 = .ok (.iload 10, 2) := by decide +kernel
theorem dX8_seen_126 : decode cX8_seen 126 = .ok (.ireturn, 1) := by decide +kernel
set_option maxRecDepth 20000 in
theorem ggX8_film_X8_isIn : GoodIn wsX8_film wsX8_isIn := goodIn_r _ [11] (by decide +kernel) (by decide +kernel)
set_option maxRecDepth 20000 in
theorem gX8_film_X8_isIn : GoodIn wsX8_film (va_wsS RX8 50 yX8_isIn wsX8_isIn) := goodIn_app (goodIn_of _ (by decide +kernel)) ggX8_film_X8_isIn
set_option maxRecDepth 20000 in
theorem ggX8_film_X8_isSheetAndLane : GoodIn wsX8_film wsX8_isSheetAndLane := goodIn_r _ [14, 8, 9, 10, 11] (by decide +kernel) (by decide +kernel)
set_option maxRecDepth 20000 in
theorem gX8_film_X8_isSheetAndLane : GoodIn wsX8_film (va_wsS RX8 220 yX8_isSheetAndLane wsX8_isSheetAndLane) := goodIn_app (goodIn_of _ (by decide +kernel)) ggX8_film_X8_isSheetAndLane
set_option maxRecDepth 20000 in
theorem ggX8_film_X2_refusal : GoodIn wsX8_film wsX2_refusal := goodIn_r _ [19, 20, 21, 22, 23, 18, 24, 25, 130, 131, 132] (by decide +kernel) (by decide +kernel)
set_option maxRecDepth 20000 in
theorem gX8_film_X2_refusal : GoodIn wsX8_film (wsV RX8 223 RX2 yX2_refusal wsX2_refusal) := goodIn_app (goodIn_of _ (by decide +kernel)) ggX8_film_X2_refusal
set_option maxRecDepth 20000 in
theorem ggX8_film_X4_begin : GoodIn wsX8_film wsX4_begin := goodIn_r _ [30, 31, 32, 33, 34, 35, 36, 37, 38, 39, 40, 41, 42, 43, 44, 45, 46, 47, 48, 49, 118, 119, 120, 121, 122, 123, 124, 125, 126, 127, 128, 129] (by decide +kernel) (by decide +kernel)
set_option maxRecDepth 20000 in
theorem gX8_film_X4_begin : GoodIn wsX8_film (wsV RX8 187 RX4 yX4_begin wsX4_begin) := goodIn_app (goodIn_of _ (by decide +kernel)) ggX8_film_X4_begin
set_option maxRecDepth 20000 in
theorem ggX8_film_X1_step : GoodIn wsX8_film wsX1_step := goodIn_r _ [53, 48, 45, 54, 47, 46, 55, 56, 57, 58, 59, 60, 61, 37, 62, 63, 64, 65, 66, 67, 68, 69, 70, 35, 71, 72, 73, 74, 75, 76, 77, 78, 79, 80, 42, 81, 82, 83, 84, 85, 86, 87, 88, 89, 90, 44, 43, 91, 92, 93, 94, 95, 96, 97, 98, 99, 121, 122, 123, 124, 125, 126, 127, 128, 129, 133, 134, 135, 136, 137] (by decide +kernel) (by decide +kernel)
set_option maxRecDepth 20000 in
theorem gX8_film_X1_step : GoodIn wsX8_film (wsV RX8 171 RX1 yX1_step wsX1_step) := goodIn_app (goodIn_of _ (by decide +kernel)) ggX8_film_X1_step
set_option maxRecDepth 20000 in
theorem ggX8_film_X2_put : GoodIn wsX8_film wsX2_put := goodIn_r _ [103, 104, 21, 22, 23, 18, 24, 25, 105, 106, 107, 108, 20, 130, 131, 132] (by decide +kernel) (by decide +kernel)
set_option maxRecDepth 20000 in
theorem gX8_film_X2_put : GoodIn wsX8_film (wsV RX8 231 RX2 yX2_put wsX2_put) := goodIn_app (goodIn_of _ (by decide +kernel)) ggX8_film_X2_put
theorem dX8_film_0 : decode cX8_film 0 = .ok (.iload_n 1, 1) := by decide +kernel
theorem dX8_film_1 : decode cX8_film 1 = .ok (.iconst 1, 1) := by decide +kernel
theorem dX8_film_2 : decode cX8_film 2 = .ok (.bipush 24, 2) := by decide +kernel
theorem dX8_film_4 : decode cX8_film 4 = .ok (.invokestatic 50, 3) := by decide +kernel
theorem dX8_film_7 : decode cX8_film 7 = .ok (.ifCond .eq 11, 3) := by decide +kernel
theorem dX8_film_10 : decode cX8_film 10 = .ok (.iload_n 2, 1) := by decide +kernel
theorem dX8_film_11 : decode cX8_film 11 = .ok (.iload_n 3, 1) := by decide +kernel
theorem dX8_film_12 : decode cX8_film 12 = .ok (.invokestatic 220, 3) := by decide +kernel
theorem dX8_film_15 : decode cX8_film 15 = .ok (.ifCond .ne 5, 3) := by decide +kernel
theorem dX8_film_18 : decode cX8_film 18 = .ok (.iconst (-1), 1) := by decide +kernel
theorem dX8_film_19 : decode cX8_film 19 = .ok (.ireturn, 1) := by decide +kernel
theorem dX8_film_20 : decode cX8_film 20 = .ok (.aload_n 0, 1) := by decide +kernel
theorem dX8_film_21 : decode cX8_film 21 = .ok (.getfield 35, 3) := by decide +kernel
theorem dX8_film_24 : decode cX8_film 24 = .ok (.iload_n 2, 1) := by decide +kernel
theorem dX8_film_25 : decode cX8_film 25 = .ok (.aaload, 1) := by decide +kernel
theorem dX8_film_26 : decode cX8_film 26 = .ok (.astore 5, 2) := by decide +kernel
theorem dX8_film_28 : decode cX8_film 28 = .ok (.aload 5, 2) := by decide +kernel
theorem dX8_film_30 : decode cX8_film 30 = .ok (.iload_n 3, 1) := by decide +kernel
theorem dX8_film_31 : decode cX8_film 31 = .ok (.iload 4, 2) := by decide +kernel
theorem dX8_film_33 : decode cX8_film 33 = .ok (.iload_n 1, 1) := by decide +kernel
theorem dX8_film_34 : decode cX8_film 34 = .ok (.invokevirtual 223, 3) := by decide +kernel
theorem dX8_film_37 : decode cX8_film 37 = .ok (.istore 6, 2) := by decide +kernel
theorem dX8_film_39 : decode cX8_film 39 = .ok (.iload 6, 2) := by decide +kernel
theorem dX8_film_41 : decode cX8_film 41 = .ok (.ifCond .eq 6, 3) := by decide +kernel
theorem dX8_film_44 : decode cX8_film 44 = .ok (.iload 6, 2) := by decide +kernel
theorem dX8_film_46 : decode cX8_film 46 = .ok (.ireturn, 1) := by decide +kernel
theorem dX8_film_47 : decode cX8_film 47 = .ok (.aload_n 0, 1) := by decide +kernel
theorem dX8_film_48 : decode cX8_film 48 = .ok (.getfield 22, 3) := by decide +kernel
theorem dX8_film_51 : decode cX8_film 51 = .ok (.aload_n 0, 1) := by decide +kernel
theorem dX8_film_52 : decode cX8_film 52 = .ok (.getfield 10, 3) := by decide +kernel
theorem dX8_film_55 : decode cX8_film 55 = .ok (.getfield 58, 3) := by decide +kernel
theorem dX8_film_58 : decode cX8_film 58 = .ok (.invokevirtual 187, 3) := by decide +kernel
theorem dX8_film_61 : decode cX8_film 61 = .ok (.iconst 0, 1) := by decide +kernel
theorem dX8_film_62 : decode cX8_film 62 = .ok (.istore 7, 2) := by decide +kernel
theorem dX8_film_64 : decode cX8_film 64 = .ok (.iload 7, 2) := by decide +kernel
theorem dX8_film_66 : decode cX8_film 66 = .ok (.iload_n 1, 1) := by decide +kernel
theorem dX8_film_67 : decode cX8_film 67 = .ok (.if_icmp .ge 48, 3) := by decide +kernel
theorem dX8_film_70 : decode cX8_film 70 = .ok (.aload_n 0, 1) := by decide +kernel
theorem dX8_film_71 : decode cX8_film 71 = .ok (.getfield 22, 3) := by decide +kernel
theorem dX8_film_74 : decode cX8_film 74 = .ok (.getfield 193, 3) := by decide +kernel
theorem dX8_film_77 : decode cX8_film 77 = .ok (.aload_n 0, 1) := by decide +kernel
theorem dX8_film_78 : decode cX8_film 78 = .ok (.getfield 10, 3) := by decide +kernel
theorem dX8_film_81 : decode cX8_film 81 = .ok (.getfield 40, 3) := by decide +kernel
theorem dX8_film_84 : decode cX8_film 84 = .ok (.iconst (-1), 1) := by decide +kernel
theorem dX8_film_85 : decode cX8_film 85 = .ok (.invokevirtual 171, 3) := by decide +kernel
theorem dX8_film_88 : decode cX8_film 88 = .ok (.aload 5, 2) := by decide +kernel
theorem dX8_film_90 : decode cX8_film 90 = .ok (.iload 4, 2) := by decide +kernel
theorem dX8_film_92 : decode cX8_film 92 = .ok (.iload 7, 2) := by decide +kernel
theorem dX8_film_94 : decode cX8_film 94 = .ok (.iadd, 1) := by decide +kernel
theorem dX8_film_95 : decode cX8_film 95 = .ok (.aload_n 0, 1) := by decide +kernel
theorem dX8_film_96 : decode cX8_film 96 = .ok (.getfield 22, 3) := by decide +kernel
theorem dX8_film_99 : decode cX8_film 99 = .ok (.getfield 193, 3) := by decide +kernel
theorem dX8_film_102 : decode cX8_film 102 = .ok (.getfield 146, 3) := by decide +kernel
theorem dX8_film_105 : decode cX8_film 105 = .ok (.i2l, 1) := by decide +kernel
theorem dX8_film_106 : decode cX8_film 106 = .ok (.invokevirtual 231, 3) := by decide +kernel
theorem dX8_film_109 : decode cX8_film 109 = .ok (.iinc 7 1, 3) := by decide +kernel
theorem dX8_film_112 : decode cX8_film 112 = .ok (.goto (-48), 3) := by decide +kernel
theorem dX8_film_115 : decode cX8_film 115 = .ok (.iload_n 1, 1) := by decide +kernel
theorem dX8_film_116 : decode cX8_film 116 = .ok (.ireturn, 1) := by decide +kernel
set_option maxRecDepth 20000 in
theorem ggX8_sheet_X8_isSheetAndLane : GoodIn wsX8_sheet wsX8_isSheetAndLane := goodIn_r _ [5, 6, 7, 4, 8] (by decide +kernel) (by decide +kernel)
set_option maxRecDepth 20000 in
theorem gX8_sheet_X8_isSheetAndLane : GoodIn wsX8_sheet (va_wsS RX8 220 yX8_isSheetAndLane wsX8_isSheetAndLane) := goodIn_app (goodIn_of _ (by decide +kernel)) ggX8_sheet_X8_isSheetAndLane
set_option maxRecDepth 20000 in
theorem ggX8_sheet_X2_holdNewRow : GoodIn wsX8_sheet wsX2_holdNewRow := goodIn_r _ [13, 14, 15, 16, 17, 18, 19, 20, 21, 22, 23, 30, 31, 32] (by decide +kernel) (by decide +kernel)
set_option maxRecDepth 20000 in
theorem gX8_sheet_X2_holdNewRow : GoodIn wsX8_sheet (wsV RX8 235 RX2 yX2_holdNewRow wsX2_holdNewRow) := goodIn_app (goodIn_of _ (by decide +kernel)) ggX8_sheet_X2_holdNewRow
theorem dX8_sheet_0 : decode cX8_sheet 0 = .ok (.iload_n 1, 1) := by decide +kernel
theorem dX8_sheet_1 : decode cX8_sheet 1 = .ok (.iload_n 2, 1) := by decide +kernel
theorem dX8_sheet_2 : decode cX8_sheet 2 = .ok (.invokestatic 220, 3) := by decide +kernel
theorem dX8_sheet_5 : decode cX8_sheet 5 = .ok (.ifCond .eq 9, 3) := by decide +kernel
theorem dX8_sheet_8 : decode cX8_sheet 8 = .ok (.iload_n 3, 1) := by decide +kernel
theorem dX8_sheet_9 : decode cX8_sheet 9 = .ok (.bipush 24, 2) := by decide +kernel
theorem dX8_sheet_11 : decode cX8_sheet 11 = .ok (.if_icmp .le 5, 3) := by decide +kernel
theorem dX8_sheet_14 : decode cX8_sheet 14 = .ok (.iconst (-1), 1) := by decide +kernel
theorem dX8_sheet_15 : decode cX8_sheet 15 = .ok (.ireturn, 1) := by decide +kernel
theorem dX8_sheet_16 : decode cX8_sheet 16 = .ok (.iload_n 3, 1) := by decide +kernel
theorem dX8_sheet_17 : decode cX8_sheet 17 = .ok (.ifCond .ge 6, 3) := by decide +kernel
theorem dX8_sheet_20 : decode cX8_sheet 20 = .ok (.bipush (-14), 2) := by decide +kernel
theorem dX8_sheet_22 : decode cX8_sheet 22 = .ok (.ireturn, 1) := by decide +kernel
theorem dX8_sheet_23 : decode cX8_sheet 23 = .ok (.aload_n 0, 1) := by decide +kernel
theorem dX8_sheet_24 : decode cX8_sheet 24 = .ok (.getfield 35, 3) := by decide +kernel
theorem dX8_sheet_27 : decode cX8_sheet 27 = .ok (.iload_n 1, 1) := by decide +kernel
theorem dX8_sheet_28 : decode cX8_sheet 28 = .ok (.aaload, 1) := by decide +kernel
theorem dX8_sheet_29 : decode cX8_sheet 29 = .ok (.iload_n 2, 1) := by decide +kernel
theorem dX8_sheet_30 : decode cX8_sheet 30 = .ok (.iload_n 3, 1) := by decide +kernel
theorem dX8_sheet_31 : decode cX8_sheet 31 = .ok (.invokevirtual 235, 3) := by decide +kernel
theorem dX8_sheet_34 : decode cX8_sheet 34 = .ok (.iload_n 3, 1) := by decide +kernel
theorem dX8_sheet_35 : decode cX8_sheet 35 = .ok (.ireturn, 1) := by decide +kernel
set_option maxRecDepth 20000 in
theorem ggX8_drop_X8_isIn : GoodIn wsX8_drop wsX8_isIn := goodIn_r _ [7] (by decide +kernel) (by decide +kernel)
set_option maxRecDepth 20000 in
theorem gX8_drop_X8_isIn : GoodIn wsX8_drop (va_wsS RX8 50 yX8_isIn wsX8_isIn) := goodIn_app (goodIn_of _ (by decide +kernel)) ggX8_drop_X8_isIn
set_option maxRecDepth 20000 in
theorem ggX8_drop_X2_holdNothing : GoodIn wsX8_drop wsX2_holdNothing := goodIn_r _ [12, 13, 14, 21, 22, 23] (by decide +kernel) (by decide +kernel)
set_option maxRecDepth 20000 in
theorem gX8_drop_X2_holdNothing : GoodIn wsX8_drop (wsV RX8 244 RX2 yX2_holdNothing wsX2_holdNothing) := goodIn_app (goodIn_of _ (by decide +kernel)) ggX8_drop_X2_holdNothing
theorem dX8_drop_0 : decode cX8_drop 0 = .ok (.iload_n 1, 1) := by decide +kernel
theorem dX8_drop_1 : decode cX8_drop 1 = .ok (.iconst 0, 1) := by decide +kernel
theorem dX8_drop_2 : decode cX8_drop 2 = .ok (.iconst 3, 1) := by decide +kernel
theorem dX8_drop_3 : decode cX8_drop 3 = .ok (.invokestatic 50, 3) := by decide +kernel
theorem dX8_drop_6 : decode cX8_drop 6 = .ok (.ifCond .ne 5, 3) := by decide +kernel
theorem dX8_drop_9 : decode cX8_drop 9 = .ok (.iconst (-1), 1) := by decide +kernel
theorem dX8_drop_10 : decode cX8_drop 10 = .ok (.ireturn, 1) := by decide +kernel
theorem dX8_drop_11 : decode cX8_drop 11 = .ok (.aload_n 0, 1) := by decide +kernel
theorem dX8_drop_12 : decode cX8_drop 12 = .ok (.getfield 35, 3) := by decide +kernel
theorem dX8_drop_15 : decode cX8_drop 15 = .ok (.iload_n 1, 1) := by decide +kernel
theorem dX8_drop_16 : decode cX8_drop 16 = .ok (.aaload, 1) := by decide +kernel
theorem dX8_drop_17 : decode cX8_drop 17 = .ok (.astore_n 2, 1) := by decide +kernel
theorem dX8_drop_18 : decode cX8_drop 18 = .ok (.aload_n 2, 1) := by decide +kernel
theorem dX8_drop_19 : decode cX8_drop 19 = .ok (.getfield 238, 3) := by decide +kernel
theorem dX8_drop_22 : decode cX8_drop 22 = .ok (.istore_n 3, 1) := by decide +kernel
theorem dX8_drop_23 : decode cX8_drop 23 = .ok (.aload_n 2, 1) := by decide +kernel
theorem dX8_drop_24 : decode cX8_drop 24 = .ok (.getfield 241, 3) := by decide +kernel
theorem dX8_drop_27 : decode cX8_drop 27 = .ok (.iconst (-1), 1) := by decide +kernel
theorem dX8_drop_28 : decode cX8_drop 28 = .ok (.if_icmp .ne 6, 3) := by decide +kernel
theorem dX8_drop_31 : decode cX8_drop 31 = .ok (.bipush (-11), 2) := by decide +kernel
theorem dX8_drop_33 : decode cX8_drop 33 = .ok (.ireturn, 1) := by decide +kernel
theorem dX8_drop_34 : decode cX8_drop 34 = .ok (.aload_n 2, 1) := by decide +kernel
theorem dX8_drop_35 : decode cX8_drop 35 = .ok (.invokevirtual 244, 3) := by decide +kernel
theorem dX8_drop_38 : decode cX8_drop 38 = .ok (.iload_n 3, 1) := by decide +kernel
theorem dX8_drop_39 : decode cX8_drop 39 = .ok (.ireturn, 1) := by decide +kernel
set_option maxRecDepth 20000 in
theorem ggX8_item_X8_isSheetAndLane : GoodIn wsX8_item wsX8_isSheetAndLane := goodIn_r _ [5, 6, 7, 4, 8] (by decide +kernel) (by decide +kernel)
set_option maxRecDepth 20000 in
theorem gX8_item_X8_isSheetAndLane : GoodIn wsX8_item (va_wsS RX8 220 yX8_isSheetAndLane wsX8_isSheetAndLane) := goodIn_app (goodIn_of _ (by decide +kernel)) ggX8_item_X8_isSheetAndLane
set_option maxRecDepth 20000 in
theorem ggX8_item_X2_refusal : GoodIn wsX8_item wsX2_refusal := goodIn_r _ [13, 14, 15, 16, 17, 12, 18, 19, 35, 36, 37] (by decide +kernel) (by decide +kernel)
set_option maxRecDepth 20000 in
theorem gX8_item_X2_refusal : GoodIn wsX8_item (wsV RX8 223 RX2 yX2_refusal wsX2_refusal) := goodIn_app (goodIn_of _ (by decide +kernel)) ggX8_item_X2_refusal
set_option maxRecDepth 20000 in
theorem ggX8_item_X2_put : GoodIn wsX8_item wsX2_put := goodIn_r _ [23, 24, 15, 16, 17, 12, 18, 19, 25, 26, 27, 28, 14, 35, 36, 37] (by decide +kernel) (by decide +kernel)
set_option maxRecDepth 20000 in
theorem gX8_item_X2_put : GoodIn wsX8_item (wsV RX8 231 RX2 yX2_put wsX2_put) := goodIn_app (goodIn_of _ (by decide +kernel)) ggX8_item_X2_put
theorem dX8_item_0 : decode cX8_item 0 = .ok (.iload_n 1, 1) := by decide +kernel
theorem dX8_item_1 : decode cX8_item 1 = .ok (.iload_n 2, 1) := by decide +kernel
theorem dX8_item_2 : decode cX8_item 2 = .ok (.invokestatic 220, 3) := by decide +kernel
theorem dX8_item_5 : decode cX8_item 5 = .ok (.ifCond .ne 5, 3) := by decide +kernel
theorem dX8_item_8 : decode cX8_item 8 = .ok (.iconst (-1), 1) := by decide +kernel
theorem dX8_item_9 : decode cX8_item 9 = .ok (.ireturn, 1) := by decide +kernel
theorem dX8_item_10 : decode cX8_item 10 = .ok (.aload_n 0, 1) := by decide +kernel
theorem dX8_item_11 : decode cX8_item 11 = .ok (.getfield 35, 3) := by decide +kernel
theorem dX8_item_14 : decode cX8_item 14 = .ok (.iload_n 1, 1) := by decide +kernel
theorem dX8_item_15 : decode cX8_item 15 = .ok (.aaload, 1) := by decide +kernel
theorem dX8_item_16 : decode cX8_item 16 = .ok (.astore 6, 2) := by decide +kernel
theorem dX8_item_18 : decode cX8_item 18 = .ok (.aload 6, 2) := by decide +kernel
theorem dX8_item_20 : decode cX8_item 20 = .ok (.iload_n 2, 1) := by decide +kernel
theorem dX8_item_21 : decode cX8_item 21 = .ok (.iload_n 3, 1) := by decide +kernel
theorem dX8_item_22 : decode cX8_item 22 = .ok (.iconst 1, 1) := by decide +kernel
theorem dX8_item_23 : decode cX8_item 23 = .ok (.invokevirtual 223, 3) := by decide +kernel
theorem dX8_item_26 : decode cX8_item 26 = .ok (.istore 7, 2) := by decide +kernel
theorem dX8_item_28 : decode cX8_item 28 = .ok (.iload 7, 2) := by decide +kernel
theorem dX8_item_30 : decode cX8_item 30 = .ok (.ifCond .eq 6, 3) := by decide +kernel
theorem dX8_item_33 : decode cX8_item 33 = .ok (.iload 7, 2) := by decide +kernel
theorem dX8_item_35 : decode cX8_item 35 = .ok (.ireturn, 1) := by decide +kernel
theorem dX8_item_36 : decode cX8_item 36 = .ok (.aload 6, 2) := by decide +kernel
theorem dX8_item_38 : decode cX8_item 38 = .ok (.iload_n 3, 1) := by decide +kernel
theorem dX8_item_39 : decode cX8_item 39 = .ok (.lload 4, 2) := by decide +kernel
theorem dX8_item_41 : decode cX8_item 41 = .ok (.invokevirtual 231, 3) := by decide +kernel
theorem dX8_item_44 : decode cX8_item 44 = .ok (.iconst 1, 1) := by decide +kernel
theorem dX8_item_45 : decode cX8_item 45 = .ok (.ireturn, 1) := by decide +kernel
set_option maxRecDepth 20000 in
theorem ggX8_copy_X8_isIn : GoodIn wsX8_copy wsX8_isIn := goodIn_r _ [11] (by decide +kernel) (by decide +kernel)
set_option maxRecDepth 20000 in
theorem gX8_copy_X8_isIn : GoodIn wsX8_copy (va_wsS RX8 50 yX8_isIn wsX8_isIn) := goodIn_app (goodIn_of _ (by decide +kernel)) ggX8_copy_X8_isIn
set_option maxRecDepth 20000 in
theorem ggX8_copy_X2_hasItems : GoodIn wsX8_copy wsX2_hasItems := goodIn_r _ [16, 17, 24, 25, 26] (by decide +kernel) (by decide +kernel)
set_option maxRecDepth 20000 in
theorem gX8_copy_X2_hasItems : GoodIn wsX8_copy (wsV RX8 247 RX2 yX2_hasItems wsX2_hasItems) := goodIn_app (goodIn_of _ (by decide +kernel)) ggX8_copy_X2_hasItems
theorem dX8_copy_0 : decode cX8_copy 0 = .ok (.iload_n 1, 1) := by decide +kernel
theorem dX8_copy_1 : decode cX8_copy 1 = .ok (.iconst 0, 1) := by decide +kernel
theorem dX8_copy_2 : decode cX8_copy 2 = .ok (.iconst 3, 1) := by decide +kernel
theorem dX8_copy_3 : decode cX8_copy 3 = .ok (.invokestatic 50, 3) := by decide +kernel
theorem dX8_copy_6 : decode cX8_copy 6 = .ok (.ifCond .eq 12, 3) := by decide +kernel
theorem dX8_copy_9 : decode cX8_copy 9 = .ok (.iload_n 3, 1) := by decide +kernel
theorem dX8_copy_10 : decode cX8_copy 10 = .ok (.iconst 0, 1) := by decide +kernel
theorem dX8_copy_11 : decode cX8_copy 11 = .ok (.iconst 3, 1) := by decide +kernel
theorem dX8_copy_12 : decode cX8_copy 12 = .ok (.invokestatic 50, 3) := by decide +kernel
theorem dX8_copy_15 : decode cX8_copy 15 = .ok (.ifCond .ne 5, 3) := by decide +kernel
theorem dX8_copy_18 : decode cX8_copy 18 = .ok (.iconst (-1), 1) := by decide +kernel
theorem dX8_copy_19 : decode cX8_copy 19 = .ok (.ireturn, 1) := by decide +kernel
theorem dX8_copy_20 : decode cX8_copy 20 = .ok (.aload_n 0, 1) := by decide +kernel
theorem dX8_copy_21 : decode cX8_copy 21 = .ok (.getfield 35, 3) := by decide +kernel
theorem dX8_copy_24 : decode cX8_copy 24 = .ok (.iload_n 1, 1) := by decide +kernel
theorem dX8_copy_25 : decode cX8_copy 25 = .ok (.aaload, 1) := by decide +kernel
theorem dX8_copy_26 : decode cX8_copy 26 = .ok (.astore 6, 2) := by decide +kernel
theorem dX8_copy_28 : decode cX8_copy 28 = .ok (.aload_n 0, 1) := by decide +kernel
theorem dX8_copy_29 : decode cX8_copy 29 = .ok (.getfield 35, 3) := by decide +kernel
theorem dX8_copy_32 : decode cX8_copy 32 = .ok (.iload_n 3, 1) := by decide +kernel
theorem dX8_copy_33 : decode cX8_copy 33 = .ok (.aaload, 1) := by decide +kernel
theorem dX8_copy_34 : decode cX8_copy 34 = .ok (.astore 7, 2) := by decide +kernel
theorem dX8_copy_36 : decode cX8_copy 36 = .ok (.aload 6, 2) := by decide +kernel
theorem dX8_copy_38 : decode cX8_copy 38 = .ok (.getfield 241, 3) := by decide +kernel
theorem dX8_copy_41 : decode cX8_copy 41 = .ok (.iconst (-1), 1) := by decide +kernel
theorem dX8_copy_42 : decode cX8_copy 42 = .ok (.if_icmp .eq 12, 3) := by decide +kernel
theorem dX8_copy_45 : decode cX8_copy 45 = .ok (.aload 7, 2) := by decide +kernel
theorem dX8_copy_47 : decode cX8_copy 47 = .ok (.getfield 241, 3) := by decide +kernel
theorem dX8_copy_50 : decode cX8_copy 50 = .ok (.iconst (-1), 1) := by decide +kernel
theorem dX8_copy_51 : decode cX8_copy 51 = .ok (.if_icmp .ne 6, 3) := by decide +kernel
theorem dX8_copy_54 : decode cX8_copy 54 = .ok (.bipush (-11), 2) := by decide +kernel
theorem dX8_copy_56 : decode cX8_copy 56 = .ok (.ireturn, 1) := by decide +kernel
theorem dX8_copy_57 : decode cX8_copy 57 = .ok (.aload 6, 2) := by decide +kernel
theorem dX8_copy_59 : decode cX8_copy 59 = .ok (.getfield 241, 3) := by decide +kernel
theorem dX8_copy_62 : decode cX8_copy 62 = .ok (.aload 7, 2) := by decide +kernel
theorem dX8_copy_64 : decode cX8_copy 64 = .ok (.getfield 241, 3) := by decide +kernel
theorem dX8_copy_67 : decode cX8_copy 67 = .ok (.if_icmp .eq 6, 3) := by decide +kernel
theorem dX8_copy_70 : decode cX8_copy 70 = .ok (.bipush (-12), 2) := by decide +kernel
theorem dX8_copy_72 : decode cX8_copy 72 = .ok (.ireturn, 1) := by decide +kernel
theorem dX8_copy_73 : decode cX8_copy 73 = .ok (.aload 6, 2) := by decide +kernel
theorem dX8_copy_75 : decode cX8_copy 75 = .ok (.iload_n 2, 1) := by decide +kernel
theorem dX8_copy_76 : decode cX8_copy 76 = .ok (.iload 5, 2) := by decide +kernel
theorem dX8_copy_78 : decode cX8_copy 78 = .ok (.invokevirtual 247, 3) := by decide +kernel
theorem dX8_copy_81 : decode cX8_copy 81 = .ok (.ifCond .eq 15, 3) := by decide +kernel
theorem dX8_copy_84 : decode cX8_copy 84 = .ok (.aload 7, 2) := by decide +kernel
theorem dX8_copy_86 : decode cX8_copy 86 = .ok (.iload 4, 2) := by decide +kernel
theorem dX8_copy_88 : decode cX8_copy 88 = .ok (.iload 5, 2) := by decide +kernel
theorem dX8_copy_90 : decode cX8_copy 90 = .ok (.invokevirtual 247, 3) := by decide +kernel
theorem dX8_copy_93 : decode cX8_copy 93 = .ok (.ifCond .ne 6, 3) := by decide +kernel
theorem dX8_copy_96 : decode cX8_copy 96 = .ok (.bipush (-13), 2) := by decide +kernel
theorem dX8_copy_98 : decode cX8_copy 98 = .ok (.ireturn, 1) := by decide +kernel
theorem dX8_copy_99 : decode cX8_copy 99 = .ok (.aload 6, 2) := by decide +kernel
theorem dX8_copy_101 : decode cX8_copy 101 = .ok (.getfield 250, 3) := by decide +kernel
theorem dX8_copy_104 : decode cX8_copy 104 = .ok (.iload_n 2, 1) := by decide +kernel
theorem dX8_copy_105 : decode cX8_copy 105 = .ok (.aload 7, 2) := by decide +kernel
theorem dX8_copy_107 : decode cX8_copy 107 = .ok (.getfield 250, 3) := by decide +kernel
theorem dX8_copy_110 : decode cX8_copy 110 = .ok (.iload 4, 2) := by decide +kernel
theorem dX8_copy_112 : decode cX8_copy 112 = .ok (.iload 5, 2) := by decide +kernel
theorem dX8_copy_114 : decode cX8_copy 114 = .ok (.invokestatic 254, 3) := by decide +kernel
theorem dX8_copy_117 : decode cX8_copy 117 = .ok (.iload 5, 2) := by decide +kernel
theorem dX8_copy_119 : decode cX8_copy 119 = .ok (.ireturn, 1) := by decide +kernel
theorem dX8_isIn_0 : decode cX8_isIn 0 = .ok (.iload_n 0, 1) := by decide +kernel
theorem dX8_isIn_1 : decode cX8_isIn 1 = .ok (.iload_n 1, 1) := by decide +kernel
theorem dX8_isIn_2 : decode cX8_isIn 2 = .ok (.if_icmp .lt 12, 3) := by decide +kernel
theorem dX8_isIn_5 : decode cX8_isIn 5 = .ok (.iload_n 0, 1) := by decide +kernel
theorem dX8_isIn_6 : decode cX8_isIn 6 = .ok (.iload_n 2, 1) := by decide +kernel
theorem dX8_isIn_7 : decode cX8_isIn 7 = .ok (.if_icmp .gt 7, 3) := by decide +kernel
theorem dX8_isIn_10 : decode cX8_isIn 10 = .ok (.iconst 1, 1) := by decide +kernel
theorem dX8_isIn_11 : decode cX8_isIn 11 = .ok (.goto 4, 3) := by decide +kernel
theorem dX8_isIn_14 : decode cX8_isIn 14 = .ok (.iconst 0, 1) := by decide +kernel
theorem dX8_isIn_15 : decode cX8_isIn 15 = .ok (.ireturn, 1) := by decide +kernel
set_option maxRecDepth 20000 in
theorem ggX8_isSheetAndLane_X8_isIn : GoodIn wsX8_isSheetAndLane wsX8_isIn := goodIn_r _ [4] (by decide +kernel) (by decide +kernel)
set_option maxRecDepth 20000 in
theorem gX8_isSheetAndLane_X8_isIn : GoodIn wsX8_isSheetAndLane (va_wsS RX8 50 yX8_isIn wsX8_isIn) := goodIn_app (goodIn_of _ (by decide +kernel)) ggX8_isSheetAndLane_X8_isIn
theorem dX8_isSheetAndLane_0 : decode cX8_isSheetAndLane 0 = .ok (.iload_n 0, 1) := by decide +kernel
theorem dX8_isSheetAndLane_1 : decode cX8_isSheetAndLane 1 = .ok (.iconst 0, 1) := by decide +kernel
theorem dX8_isSheetAndLane_2 : decode cX8_isSheetAndLane 2 = .ok (.iconst 3, 1) := by decide +kernel
theorem dX8_isSheetAndLane_3 : decode cX8_isSheetAndLane 3 = .ok (.invokestatic 50, 3) := by decide +kernel
theorem dX8_isSheetAndLane_6 : decode cX8_isSheetAndLane 6 = .ok (.ifCond .eq 16, 3) := by decide +kernel
theorem dX8_isSheetAndLane_9 : decode cX8_isSheetAndLane 9 = .ok (.iload_n 1, 1) := by decide +kernel
theorem dX8_isSheetAndLane_10 : decode cX8_isSheetAndLane 10 = .ok (.iconst 0, 1) := by decide +kernel
theorem dX8_isSheetAndLane_11 : decode cX8_isSheetAndLane 11 = .ok (.iconst 3, 1) := by decide +kernel
theorem dX8_isSheetAndLane_12 : decode cX8_isSheetAndLane 12 = .ok (.invokestatic 50, 3) := by decide +kernel
theorem dX8_isSheetAndLane_15 : decode cX8_isSheetAndLane 15 = .ok (.ifCond .eq 7, 3) := by decide +kernel
theorem dX8_isSheetAndLane_18 : decode cX8_isSheetAndLane 18 = .ok (.iconst 1, 1) := by decide +kernel
theorem dX8_isSheetAndLane_19 : decode cX8_isSheetAndLane 19 = .ok (.goto 4, 3) := by decide +kernel
theorem dX8_isSheetAndLane_22 : decode cX8_isSheetAndLane 22 = .ok (.iconst 0, 1) := by decide +kernel
theorem dX8_isSheetAndLane_23 : decode cX8_isSheetAndLane 23 = .ok (.ireturn, 1) := by decide +kernel
set_option maxRecDepth 20000 in
theorem ggX8_isMissedWithout_X4_begin : GoodIn wsX8_isMissedWithout wsX4_begin := goodIn_r _ [10, 11, 12, 13, 14, 15, 16, 17, 18, 19, 20, 21, 22, 23, 24, 25, 26, 27, 28, 29, 106, 107, 108, 109, 110, 111, 112, 113, 114, 115, 116, 117] (by decide +kernel) (by decide +kernel)
set_option maxRecDepth 20000 in
theorem gX8_isMissedWithout_X4_begin : GoodIn wsX8_isMissedWithout (wsV RX8 187 RX4 yX4_begin wsX4_begin) := goodIn_app (goodIn_of _ (by decide +kernel)) ggX8_isMissedWithout_X4_begin
set_option maxRecDepth 20000 in
theorem ggX8_isMissedWithout_X1_putAt : GoodIn wsX8_isMissedWithout wsX1_putAt := goodIn_r _ [33, 22, 109, 110, 111, 112, 113, 114, 115, 116, 117] (by decide +kernel) (by decide +kernel)
set_option maxRecDepth 20000 in
theorem gX8_isMissedWithout_X1_putAt : GoodIn wsX8_isMissedWithout (wsV RX8 79 RX1 yX1_putAt wsX1_putAt) := goodIn_app (goodIn_of _ (by decide +kernel)) ggX8_isMissedWithout_X1_putAt
set_option maxRecDepth 20000 in
theorem ggX8_isMissedWithout_X4_rollToRest : GoodIn wsX8_isMissedWithout wsX4_rollToRest := goodIn_r _ [37, 11, 38, 39, 40, 41, 42, 43, 44, 45, 46, 47, 48, 15, 49, 28, 25, 50, 27, 26, 51, 52, 53, 54, 17, 55, 56, 57, 58, 59, 60, 61, 62, 63, 64, 65, 66, 67, 68, 69, 70, 71, 72, 73, 22, 74, 75, 76, 77, 78, 79, 80, 81, 82, 83, 24, 23, 84, 85, 86, 87, 88, 89, 90, 91, 92, 106, 107, 108, 109, 110, 111, 112, 113, 114, 115, 116, 117, 118, 119, 120, 121, 122] (by decide +kernel) (by decide +kernel)
set_option maxRecDepth 20000 in
theorem gX8_isMissedWithout_X4_rollToRest : GoodIn wsX8_isMissedWithout (wsV RX8 190 RX4 yX4_rollToRest wsX4_rollToRest) := goodIn_app (goodIn_of _ (by decide +kernel)) ggX8_isMissedWithout_X4_rollToRest
set_option maxRecDepth 20000 in
theorem ggX8_isMissedWithout_X1_thingsWhere : GoodIn wsX8_isMissedWithout wsX1_thingsWhere := goodIn_r _ [96, 73, 22, 118, 119, 120, 121, 122, 109, 110, 111, 112, 113, 114, 115, 116, 117] (by decide +kernel) (by decide +kernel)
set_option maxRecDepth 20000 in
theorem gX8_isMissedWithout_X1_thingsWhere : GoodIn wsX8_isMissedWithout (wsV RX8 67 RX1 yX1_thingsWhere wsX1_thingsWhere) := goodIn_app (goodIn_of _ (by decide +kernel)) ggX8_isMissedWithout_X1_thingsWhere
theorem dX8_isMissedWithout_0 : decode cX8_isMissedWithout 0 = .ok (.aload_n 0, 1) := by decide +kernel
theorem dX8_isMissedWithout_1 : decode cX8_isMissedWithout 1 = .ok (.getfield 22, 3) := by decide +kernel
theorem dX8_isMissedWithout_4 : decode cX8_isMissedWithout 4 = .ok (.aload_n 0, 1) := by decide +kernel
theorem dX8_isMissedWithout_5 : decode cX8_isMissedWithout 5 = .ok (.getfield 10, 3) := by decide +kernel
theorem dX8_isMissedWithout_8 : decode cX8_isMissedWithout 8 = .ok (.getfield 58, 3) := by decide +kernel
theorem dX8_isMissedWithout_11 : decode cX8_isMissedWithout 11 = .ok (.invokevirtual 187, 3) := by decide +kernel
theorem dX8_isMissedWithout_14 : decode cX8_isMissedWithout 14 = .ok (.iconst 0, 1) := by decide +kernel
theorem dX8_isMissedWithout_15 : decode cX8_isMissedWithout 15 = .ok (.istore_n 3, 1) := by decide +kernel
theorem dX8_isMissedWithout_16 : decode cX8_isMissedWithout 16 = .ok (.iload_n 3, 1) := by decide +kernel
theorem dX8_isMissedWithout_17 : decode cX8_isMissedWithout 17 = .ok (.bipush 8, 2) := by decide +kernel
theorem dX8_isMissedWithout_19 : decode cX8_isMissedWithout 19 = .ok (.if_icmp .ge 30, 3) := by decide +kernel
theorem dX8_isMissedWithout_22 : decode cX8_isMissedWithout 22 = .ok (.iload_n 2, 1) := by decide +kernel
theorem dX8_isMissedWithout_23 : decode cX8_isMissedWithout 23 = .ok (.iload_n 3, 1) := by decide +kernel
theorem dX8_isMissedWithout_24 : decode cX8_isMissedWithout 24 = .ok (.ishr, 1) := by decide +kernel
theorem dX8_isMissedWithout_25 : decode cX8_isMissedWithout 25 = .ok (.iconst 1, 1) := by decide +kernel
theorem dX8_isMissedWithout_26 : decode cX8_isMissedWithout 26 = .ok (.iand, 1) := by decide +kernel
theorem dX8_isMissedWithout_27 : decode cX8_isMissedWithout 27 = .ok (.ifCond .eq 16, 3) := by decide +kernel
theorem dX8_isMissedWithout_30 : decode cX8_isMissedWithout 30 = .ok (.aload_n 0, 1) := by decide +kernel
theorem dX8_isMissedWithout_31 : decode cX8_isMissedWithout 31 = .ok (.getfield 22, 3) := by decide +kernel
theorem dX8_isMissedWithout_34 : decode cX8_isMissedWithout 34 = .ok (.getfield 193, 3) := by decide +kernel
theorem dX8_isMissedWithout_37 : decode cX8_isMissedWithout 37 = .ok (.iload_n 3, 1) := by decide +kernel
theorem dX8_isMissedWithout_38 : decode cX8_isMissedWithout 38 = .ok (.bipush (-2), 2) := by decide +kernel
theorem dX8_isMissedWithout_40 : decode cX8_isMissedWithout 40 = .ok (.invokevirtual 79, 3) := by decide +kernel
theorem dX8_isMissedWithout_43 : decode cX8_isMissedWithout 43 = .ok (.iinc 3 1, 3) := by decide +kernel
theorem dX8_isMissedWithout_46 : decode cX8_isMissedWithout 46 = .ok (.goto (-30), 3) := by decide +kernel
theorem dX8_isMissedWithout_49 : decode cX8_isMissedWithout 49 = .ok (.aload_n 0, 1) := by decide +kernel
theorem dX8_isMissedWithout_50 : decode cX8_isMissedWithout 50 = .ok (.getfield 22, 3) := by decide +kernel
theorem dX8_isMissedWithout_53 : decode cX8_isMissedWithout 53 = .ok (.aload_n 0, 1) := by decide +kernel
theorem dX8_isMissedWithout_54 : decode cX8_isMissedWithout 54 = .ok (.getfield 10, 3) := by decide +kernel
theorem dX8_isMissedWithout_57 : decode cX8_isMissedWithout 57 = .ok (.getfield 40, 3) := by decide +kernel
theorem dX8_isMissedWithout_60 : decode cX8_isMissedWithout 60 = .ok (.iconst (-1), 1) := by decide +kernel
theorem dX8_isMissedWithout_61 : decode cX8_isMissedWithout 61 = .ok (.invokevirtual 190, 3) := by decide +kernel
theorem dX8_isMissedWithout_64 : decode cX8_isMissedWithout 64 = .ok (.aload_n 0, 1) := by decide +kernel
theorem dX8_isMissedWithout_65 : decode cX8_isMissedWithout 65 = .ok (.getfield 22, 3) := by decide +kernel
theorem dX8_isMissedWithout_68 : decode cX8_isMissedWithout 68 = .ok (.getfield 193, 3) := by decide +kernel
theorem dX8_isMissedWithout_71 : decode cX8_isMissedWithout 71 = .ok (.aload_n 0, 1) := by decide +kernel
theorem dX8_isMissedWithout_72 : decode cX8_isMissedWithout 72 = .ok (.getfield 10, 3) := by decide +kernel
theorem dX8_isMissedWithout_75 : decode cX8_isMissedWithout 75 = .ok (.getfield 40, 3) := by decide +kernel
theorem dX8_isMissedWithout_78 : decode cX8_isMissedWithout 78 = .ok (.iconst (-1), 1) := by decide +kernel
theorem dX8_isMissedWithout_79 : decode cX8_isMissedWithout 79 = .ok (.invokevirtual 67, 3) := by decide +kernel
theorem dX8_isMissedWithout_82 : decode cX8_isMissedWithout 82 = .ok (.iload_n 1, 1) := by decide +kernel
theorem dX8_isMissedWithout_83 : decode cX8_isMissedWithout 83 = .ok (.ishr, 1) := by decide +kernel
theorem dX8_isMissedWithout_84 : decode cX8_isMissedWithout 84 = .ok (.iconst 1, 1) := by decide +kernel
theorem dX8_isMissedWithout_85 : decode cX8_isMissedWithout 85 = .ok (.iand, 1) := by decide +kernel
theorem dX8_isMissedWithout_86 : decode cX8_isMissedWithout 86 = .ok (.ifCond .ne 7, 3) := by decide +kernel
theorem dX8_isMissedWithout_89 : decode cX8_isMissedWithout 89 = .ok (.iconst 1, 1) := by decide +kernel
theorem dX8_isMissedWithout_90 : decode cX8_isMissedWithout 90 = .ok (.goto 4, 3) := by decide +kernel
theorem dX8_isMissedWithout_93 : decode cX8_isMissedWithout 93 = .ok (.iconst 0, 1) := by decide +kernel
theorem dX8_isMissedWithout_94 : decode cX8_isMissedWithout 94 = .ok (.ireturn, 1) := by decide +kernel
set_option maxRecDepth 20000 in
theorem ggX8_wouldBeSeen_X4_begin : GoodIn wsX8_wouldBeSeen wsX4_begin := goodIn_r _ [11, 12, 13, 14, 15, 16, 17, 18, 19, 20, 21, 22, 23, 24, 25, 26, 27, 28, 29, 30, 109, 110, 111, 112, 113, 114, 115, 116, 117, 118, 119, 120] (by decide +kernel) (by decide +kernel)
set_option maxRecDepth 20000 in
theorem gX8_wouldBeSeen_X4_begin : GoodIn wsX8_wouldBeSeen (wsV RX8 187 RX4 yX4_begin wsX4_begin) := goodIn_app (goodIn_of _ (by decide +kernel)) ggX8_wouldBeSeen_X4_begin
set_option maxRecDepth 20000 in
theorem ggX8_wouldBeSeen_X1_letGo : GoodIn wsX8_wouldBeSeen wsX1_letGo := goodIn_r _ [34, 25, 24, 26, 27, 28, 29, 35, 36, 37, 16, 38, 23, 112, 113, 114, 115, 116, 117, 118, 119, 120] (by decide +kernel) (by decide +kernel)
set_option maxRecDepth 20000 in
theorem gX8_wouldBeSeen_X1_letGo : GoodIn wsX8_wouldBeSeen (wsV RX8 167 RX1 yX1_letGo wsX1_letGo) := goodIn_app (goodIn_of _ (by decide +kernel)) ggX8_wouldBeSeen_X1_letGo
set_option maxRecDepth 20000 in
theorem ggX8_wouldBeSeen_X1_step : GoodIn wsX8_wouldBeSeen wsX1_step := goodIn_r _ [42, 29, 26, 43, 28, 27, 44, 45, 46, 47, 48, 49, 50, 18, 51, 52, 53, 54, 55, 56, 57, 58, 59, 16, 60, 61, 62, 63, 64, 65, 66, 67, 68, 69, 23, 70, 71, 72, 73, 74, 75, 76, 77, 78, 79, 25, 24, 80, 81, 82, 83, 84, 85, 86, 87, 88, 112, 113, 114, 115, 116, 117, 118, 119, 120, 121, 122, 123, 124, 125] (by decide +kernel) (by decide +kernel)
set_option maxRecDepth 20000 in
theorem gX8_wouldBeSeen_X1_step : GoodIn wsX8_wouldBeSeen (wsV RX8 171 RX1 yX1_step wsX1_step) := goodIn_app (goodIn_of _ (by decide +kernel)) ggX8_wouldBeSeen_X1_step
set_option maxRecDepth 20000 in
theorem ggX8_wouldBeSeen_X2_holds : GoodIn wsX8_wouldBeSeen wsX2_holds := goodIn_r _ [93, 94, 95, 96, 97, 92, 98, 99, 126, 127, 128] (by decide +kernel) (by decide +kernel)
set_option maxRecDepth 20000 in
theorem gX8_wouldBeSeen_X2_holds : GoodIn wsX8_wouldBeSeen (wsV RX8 260 RX2 yX2_holds wsX2_holds) := goodIn_app (goodIn_of _ (by decide +kernel)) ggX8_wouldBeSeen_X2_holds
theorem dX8_wouldBeSeen_0 : decode cX8_wouldBeSeen 0 = .ok (.aload_n 0, 1) := by decide +kernel
theorem dX8_wouldBeSeen_1 : decode cX8_wouldBeSeen 1 = .ok (.getfield 22, 3) := by decide +kernel
theorem dX8_wouldBeSeen_4 : decode cX8_wouldBeSeen 4 = .ok (.aload_n 0, 1) := by decide +kernel
theorem dX8_wouldBeSeen_5 : decode cX8_wouldBeSeen 5 = .ok (.getfield 10, 3) := by decide +kernel
theorem dX8_wouldBeSeen_8 : decode cX8_wouldBeSeen 8 = .ok (.getfield 58, 3) := by decide +kernel
theorem dX8_wouldBeSeen_11 : decode cX8_wouldBeSeen 11 = .ok (.invokevirtual 187, 3) := by decide +kernel
theorem dX8_wouldBeSeen_14 : decode cX8_wouldBeSeen 14 = .ok (.aload_n 0, 1) := by decide +kernel
theorem dX8_wouldBeSeen_15 : decode cX8_wouldBeSeen 15 = .ok (.getfield 22, 3) := by decide +kernel
theorem dX8_wouldBeSeen_18 : decode cX8_wouldBeSeen 18 = .ok (.getfield 193, 3) := by decide +kernel
theorem dX8_wouldBeSeen_21 : decode cX8_wouldBeSeen 21 = .ok (.iload_n 1, 1) := by decide +kernel
theorem dX8_wouldBeSeen_22 : decode cX8_wouldBeSeen 22 = .ok (.iload_n 2, 1) := by decide +kernel
theorem dX8_wouldBeSeen_23 : decode cX8_wouldBeSeen 23 = .ok (.invokevirtual 167, 3) := by decide +kernel
theorem dX8_wouldBeSeen_26 : decode cX8_wouldBeSeen 26 = .ok (.pop, 1) := by decide +kernel
theorem dX8_wouldBeSeen_27 : decode cX8_wouldBeSeen 27 = .ok (.iconst 0, 1) := by decide +kernel
theorem dX8_wouldBeSeen_28 : decode cX8_wouldBeSeen 28 = .ok (.istore 6, 2) := by decide +kernel
theorem dX8_wouldBeSeen_30 : decode cX8_wouldBeSeen 30 = .ok (.iload 6, 2) := by decide +kernel
theorem dX8_wouldBeSeen_32 : decode cX8_wouldBeSeen 32 = .ok (.iload 5, 2) := by decide +kernel
theorem dX8_wouldBeSeen_34 : decode cX8_wouldBeSeen 34 = .ok (.if_icmp .ge 52, 3) := by decide +kernel
theorem dX8_wouldBeSeen_37 : decode cX8_wouldBeSeen 37 = .ok (.aload_n 0, 1) := by decide +kernel
theorem dX8_wouldBeSeen_38 : decode cX8_wouldBeSeen 38 = .ok (.getfield 22, 3) := by decide +kernel
theorem dX8_wouldBeSeen_41 : decode cX8_wouldBeSeen 41 = .ok (.getfield 193, 3) := by decide +kernel
theorem dX8_wouldBeSeen_44 : decode cX8_wouldBeSeen 44 = .ok (.aload_n 0, 1) := by decide +kernel
theorem dX8_wouldBeSeen_45 : decode cX8_wouldBeSeen 45 = .ok (.getfield 10, 3) := by decide +kernel
theorem dX8_wouldBeSeen_48 : decode cX8_wouldBeSeen 48 = .ok (.getfield 40, 3) := by decide +kernel
theorem dX8_wouldBeSeen_51 : decode cX8_wouldBeSeen 51 = .ok (.iconst (-1), 1) := by decide +kernel
theorem dX8_wouldBeSeen_52 : decode cX8_wouldBeSeen 52 = .ok (.invokevirtual 171, 3) := by decide +kernel
theorem dX8_wouldBeSeen_55 : decode cX8_wouldBeSeen 55 = .ok (.aload_n 3, 1) := by decide +kernel
theorem dX8_wouldBeSeen_56 : decode cX8_wouldBeSeen 56 = .ok (.iload 4, 2) := by decide +kernel
theorem dX8_wouldBeSeen_58 : decode cX8_wouldBeSeen 58 = .ok (.iload 6, 2) := by decide +kernel
theorem dX8_wouldBeSeen_60 : decode cX8_wouldBeSeen 60 = .ok (.iadd, 1) := by decide +kernel
theorem dX8_wouldBeSeen_61 : decode cX8_wouldBeSeen 61 = .ok (.aload_n 0, 1) := by decide +kernel
theorem dX8_wouldBeSeen_62 : decode cX8_wouldBeSeen 62 = .ok (.getfield 22, 3) := by decide +kernel
theorem dX8_wouldBeSeen_65 : decode cX8_wouldBeSeen 65 = .ok (.getfield 193, 3) := by decide +kernel
theorem dX8_wouldBeSeen_68 : decode cX8_wouldBeSeen 68 = .ok (.getfield 146, 3) := by decide +kernel
theorem dX8_wouldBeSeen_71 : decode cX8_wouldBeSeen 71 = .ok (.i2l, 1) := by decide +kernel
theorem dX8_wouldBeSeen_72 : decode cX8_wouldBeSeen 72 = .ok (.invokevirtual 260, 3) := by decide +kernel
theorem dX8_wouldBeSeen_75 : decode cX8_wouldBeSeen 75 = .ok (.ifCond .ne 5, 3) := by decide +kernel
theorem dX8_wouldBeSeen_78 : decode cX8_wouldBeSeen 78 = .ok (.iconst 0, 1) := by decide +kernel
theorem dX8_wouldBeSeen_79 : decode cX8_wouldBeSeen 79 = .ok (.ireturn, 1) := by decide +kernel
theorem dX8_wouldBeSeen_80 : decode cX8_wouldBeSeen 80 = .ok (.iinc 6 1, 3) := by decide +kernel
theorem dX8_wouldBeSeen_83 : decode cX8_wouldBeSeen 83 = .ok (.goto (-53), 3) := by decide +kernel
theorem dX8_wouldBeSeen_86 : decode cX8_wouldBeSeen 86 = .ok (.iconst 1, 1) := by decide +kernel
theorem dX8_wouldBeSeen_87 : decode cX8_wouldBeSeen 87 = .ok (.ireturn, 1) := by decide +kernel
