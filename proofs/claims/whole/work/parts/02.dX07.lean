set_option maxRecDepth 20000 in
theorem ggX0_init_X1_init : GoodIn wsX0_init wsX1_init := goodIn_r _ [10, 11, 2, 3, 12, 13, 14, 15, 16, 17, 18, 22, 23, 24, 25, 26, 27, 28, 29, 30] (by decide +kernel) (by decide +kernel)
set_option maxRecDepth 20000 in
theorem gX0_init_X1_init : GoodIn wsX0_init (wsX1_init) := ggX0_init_X1_init
theorem dX0_init_0 : decode cX0_init 0 = .ok (.aload_n 0, 1) := by decide +kernel
theorem dX0_init_1 : decode cX0_init 1 = .ok (.invokespecial 3, 3) := by decide +kernel
theorem dX0_init_4 : decode cX0_init 4 = .ok (.aload_n 0, 1) := by decide +kernel
theorem dX0_init_5 : decode cX0_init 5 = .ok (.bipush 8, 2) := by decide +kernel
theorem dX0_init_7 : decode cX0_init 7 = .ok (.anewarray 9, 3) := by decide +kernel
theorem dX0_init_10 : decode cX0_init 10 = .ok (.putfield 11, 3) := by decide +kernel
theorem dX0_init_13 : decode cX0_init 13 = .ok (.iconst 0, 1) := by decide +kernel
theorem dX0_init_14 : decode cX0_init 14 = .ok (.istore_n 1, 1) := by decide +kernel
theorem dX0_init_15 : decode cX0_init 15 = .ok (.iload_n 1, 1) := by decide +kernel
theorem dX0_init_16 : decode cX0_init 16 = .ok (.bipush 8, 2) := by decide +kernel
theorem dX0_init_18 : decode cX0_init 18 = .ok (.if_icmp .ge 22, 3) := by decide +kernel
theorem dX0_init_21 : decode cX0_init 21 = .ok (.aload_n 0, 1) := by decide +kernel
theorem dX0_init_22 : decode cX0_init 22 = .ok (.getfield 11, 3) := by decide +kernel
theorem dX0_init_25 : decode cX0_init 25 = .ok (.iload_n 1, 1) := by decide +kernel
theorem dX0_init_26 : decode cX0_init 26 = .ok (.new 9, 3) := by decide +kernel
theorem dX0_init_29 : decode cX0_init 29 = .ok (.dup, 1) := by decide +kernel
theorem dX0_init_30 : decode cX0_init 30 = .ok (.invokespecial 17, 3) := by decide +kernel
theorem dX0_init_33 : decode cX0_init 33 = .ok (.aastore, 1) := by decide +kernel
theorem dX0_init_34 : decode cX0_init 34 = .ok (.iinc 1 1, 3) := by decide +kernel
theorem dX0_init_37 : decode cX0_init 37 = .ok (.goto (-22), 3) := by decide +kernel
theorem dX0_init_40 : decode cX0_init 40 = .ok (.return_, 1) := by decide +kernel
set_option maxRecDepth 20000 in
theorem ggX0_remember_X1_become : GoodIn wsX0_remember wsX1_become := goodIn_r _ [12, 13, 14, 15, 16, 17, 18, 19, 20, 21, 22, 23, 24, 25, 29, 30, 31, 32, 33, 34, 35, 36, 37] (by decide +kernel) (by decide +kernel)
set_option maxRecDepth 20000 in
theorem gX0_remember_X1_become : GoodIn wsX0_remember (wsV RX0 22 RX1 yX1_become wsX1_become) := goodIn_app (goodIn_of _ (by decide +kernel)) ggX0_remember_X1_become
theorem dX0_remember_0 : decode cX0_remember 0 = .ok (.aload_n 0, 1) := by decide +kernel
theorem dX0_remember_1 : decode cX0_remember 1 = .ok (.getfield 18, 3) := by decide +kernel
theorem dX0_remember_4 : decode cX0_remember 4 = .ok (.ifCond .lt 65, 3) := by decide +kernel
theorem dX0_remember_7 : decode cX0_remember 7 = .ok (.aload_n 0, 1) := by decide +kernel
theorem dX0_remember_8 : decode cX0_remember 8 = .ok (.getfield 18, 3) := by decide +kernel
theorem dX0_remember_11 : decode cX0_remember 11 = .ok (.bipush 8, 2) := by decide +kernel
theorem dX0_remember_13 : decode cX0_remember 13 = .ok (.if_icmp .ge 56, 3) := by decide +kernel
theorem dX0_remember_16 : decode cX0_remember 16 = .ok (.aload_n 0, 1) := by decide +kernel
theorem dX0_remember_17 : decode cX0_remember 17 = .ok (.getfield 11, 3) := by decide +kernel
theorem dX0_remember_20 : decode cX0_remember 20 = .ok (.aload_n 0, 1) := by decide +kernel
theorem dX0_remember_21 : decode cX0_remember 21 = .ok (.getfield 18, 3) := by decide +kernel
theorem dX0_remember_24 : decode cX0_remember 24 = .ok (.aaload, 1) := by decide +kernel
theorem dX0_remember_25 : decode cX0_remember 25 = .ok (.aload_n 1, 1) := by decide +kernel
theorem dX0_remember_26 : decode cX0_remember 26 = .ok (.invokevirtual 22, 3) := by decide +kernel
theorem dX0_remember_29 : decode cX0_remember 29 = .ok (.aload_n 0, 1) := by decide +kernel
theorem dX0_remember_30 : decode cX0_remember 30 = .ok (.aload_n 0, 1) := by decide +kernel
theorem dX0_remember_31 : decode cX0_remember 31 = .ok (.getfield 18, 3) := by decide +kernel
theorem dX0_remember_34 : decode cX0_remember 34 = .ok (.iconst 1, 1) := by decide +kernel
theorem dX0_remember_35 : decode cX0_remember 35 = .ok (.iadd, 1) := by decide +kernel
theorem dX0_remember_36 : decode cX0_remember 36 = .ok (.bipush 8, 2) := by decide +kernel
theorem dX0_remember_38 : decode cX0_remember 38 = .ok (.if_icmp .ge 12, 3) := by decide +kernel
theorem dX0_remember_41 : decode cX0_remember 41 = .ok (.aload_n 0, 1) := by decide +kernel
theorem dX0_remember_42 : decode cX0_remember 42 = .ok (.getfield 18, 3) := by decide +kernel
theorem dX0_remember_45 : decode cX0_remember 45 = .ok (.iconst 1, 1) := by decide +kernel
theorem dX0_remember_46 : decode cX0_remember 46 = .ok (.iadd, 1) := by decide +kernel
theorem dX0_remember_47 : decode cX0_remember 47 = .ok (.goto 4, 3) := by decide +kernel
theorem dX0_remember_50 : decode cX0_remember 50 = .ok (.iconst 0, 1) := by decide +kernel
theorem dX0_remember_51 : decode cX0_remember 51 = .ok (.putfield 18, 3) := by decide +kernel
theorem dX0_remember_54 : decode cX0_remember 54 = .ok (.aload_n 0, 1) := by decide +kernel
theorem dX0_remember_55 : decode cX0_remember 55 = .ok (.bipush 8, 2) := by decide +kernel
theorem dX0_remember_57 : decode cX0_remember 57 = .ok (.aload_n 0, 1) := by decide +kernel
theorem dX0_remember_58 : decode cX0_remember 58 = .ok (.getfield 26, 3) := by decide +kernel
theorem dX0_remember_61 : decode cX0_remember 61 = .ok (.iconst 1, 1) := by decide +kernel
theorem dX0_remember_62 : decode cX0_remember 62 = .ok (.iadd, 1) := by decide +kernel
theorem dX0_remember_63 : decode cX0_remember 63 = .ok (.invokestatic 29, 3) := by decide +kernel
theorem dX0_remember_66 : decode cX0_remember 66 = .ok (.putfield 26, 3) := by decide +kernel
theorem dX0_remember_69 : decode cX0_remember 69 = .ok (.return_, 1) := by decide +kernel
set_option maxRecDepth 20000 in
theorem ggX0_bringBack_X1_become : GoodIn wsX0_bringBack wsX1_become := goodIn_r _ [12, 13, 14, 15, 16, 17, 18, 19, 20, 21, 22, 23, 24, 25, 29, 30, 31, 32, 33, 34, 35, 36, 37] (by decide +kernel) (by decide +kernel)
set_option maxRecDepth 20000 in
theorem gX0_bringBack_X1_become : GoodIn wsX0_bringBack (wsV RX0 22 RX1 yX1_become wsX1_become) := goodIn_app (goodIn_of _ (by decide +kernel)) ggX0_bringBack_X1_become
theorem dX0_bringBack_0 : decode cX0_bringBack 0 = .ok (.aload_n 0, 1) := by decide +kernel
theorem dX0_bringBack_1 : decode cX0_bringBack 1 = .ok (.aload_n 0, 1) := by decide +kernel
theorem dX0_bringBack_2 : decode cX0_bringBack 2 = .ok (.getfield 18, 3) := by decide +kernel
theorem dX0_bringBack_5 : decode cX0_bringBack 5 = .ok (.ifCond .le 21, 3) := by decide +kernel
theorem dX0_bringBack_8 : decode cX0_bringBack 8 = .ok (.aload_n 0, 1) := by decide +kernel
theorem dX0_bringBack_9 : decode cX0_bringBack 9 = .ok (.getfield 18, 3) := by decide +kernel
theorem dX0_bringBack_12 : decode cX0_bringBack 12 = .ok (.bipush 8, 2) := by decide +kernel
theorem dX0_bringBack_14 : decode cX0_bringBack 14 = .ok (.if_icmp .ge 12, 3) := by decide +kernel
theorem dX0_bringBack_17 : decode cX0_bringBack 17 = .ok (.aload_n 0, 1) := by decide +kernel
theorem dX0_bringBack_18 : decode cX0_bringBack 18 = .ok (.getfield 18, 3) := by decide +kernel
theorem dX0_bringBack_21 : decode cX0_bringBack 21 = .ok (.iconst 1, 1) := by decide +kernel
theorem dX0_bringBack_22 : decode cX0_bringBack 22 = .ok (.isub, 1) := by decide +kernel
theorem dX0_bringBack_23 : decode cX0_bringBack 23 = .ok (.goto 5, 3) := by decide +kernel
theorem dX0_bringBack_26 : decode cX0_bringBack 26 = .ok (.bipush 7, 2) := by decide +kernel
theorem dX0_bringBack_28 : decode cX0_bringBack 28 = .ok (.putfield 18, 3) := by decide +kernel
theorem dX0_bringBack_31 : decode cX0_bringBack 31 = .ok (.aload_n 0, 1) := by decide +kernel
theorem dX0_bringBack_32 : decode cX0_bringBack 32 = .ok (.iconst 0, 1) := by decide +kernel
theorem dX0_bringBack_33 : decode cX0_bringBack 33 = .ok (.aload_n 0, 1) := by decide +kernel
theorem dX0_bringBack_34 : decode cX0_bringBack 34 = .ok (.getfield 26, 3) := by decide +kernel
theorem dX0_bringBack_37 : decode cX0_bringBack 37 = .ok (.iconst 1, 1) := by decide +kernel
theorem dX0_bringBack_38 : decode cX0_bringBack 38 = .ok (.isub, 1) := by decide +kernel
theorem dX0_bringBack_39 : decode cX0_bringBack 39 = .ok (.invokestatic 35, 3) := by decide +kernel
theorem dX0_bringBack_42 : decode cX0_bringBack 42 = .ok (.putfield 26, 3) := by decide +kernel
theorem dX0_bringBack_45 : decode cX0_bringBack 45 = .ok (.aload_n 1, 1) := by decide +kernel
theorem dX0_bringBack_46 : decode cX0_bringBack 46 = .ok (.aload_n 0, 1) := by decide +kernel
theorem dX0_bringBack_47 : decode cX0_bringBack 47 = .ok (.getfield 11, 3) := by decide +kernel
theorem dX0_bringBack_50 : decode cX0_bringBack 50 = .ok (.aload_n 0, 1) := by decide +kernel
theorem dX0_bringBack_51 : decode cX0_bringBack 51 = .ok (.getfield 18, 3) := by decide +kernel
theorem dX0_bringBack_54 : decode cX0_bringBack 54 = .ok (.aaload, 1) := by decide +kernel
theorem dX0_bringBack_55 : decode cX0_bringBack 55 = .ok (.invokevirtual 22, 3) := by decide +kernel
theorem dX0_bringBack_58 : decode cX0_bringBack 58 = .ok (.return_, 1) := by decide +kernel
theorem dX0_forget_0 : decode cX0_forget 0 = .ok (.aload_n 0, 1) := by decide +kernel
theorem dX0_forget_1 : decode cX0_forget 1 = .ok (.iconst 0, 1) := by decide +kernel
theorem dX0_forget_2 : decode cX0_forget 2 = .ok (.putfield 26, 3) := by decide +kernel
theorem dX0_forget_5 : decode cX0_forget 5 = .ok (.return_, 1) := by decide +kernel
set_option maxRecDepth 20000 in
theorem ggX0_become_X1_become : GoodIn wsX0_become wsX1_become := goodIn_r _ [8, 9, 10, 11, 12, 13, 14, 15, 16, 17, 18, 19, 20, 21, 25, 26, 27, 28, 29, 30, 31, 32, 33] (by decide +kernel) (by decide +kernel)
set_option maxRecDepth 20000 in
theorem gX0_become_X1_become : GoodIn wsX0_become (wsV RX0 22 RX1 yX1_become wsX1_become) := goodIn_app (goodIn_of _ (by decide +kernel)) ggX0_become_X1_become
theorem dX0_become_0 : decode cX0_become 0 = .ok (.iconst 0, 1) := by decide +kernel
theorem dX0_become_1 : decode cX0_become 1 = .ok (.istore_n 2, 1) := by decide +kernel
theorem dX0_become_2 : decode cX0_become 2 = .ok (.iload_n 2, 1) := by decide +kernel
theorem dX0_become_3 : decode cX0_become 3 = .ok (.bipush 8, 2) := by decide +kernel
theorem dX0_become_5 : decode cX0_become 5 = .ok (.if_icmp .ge 24, 3) := by decide +kernel
theorem dX0_become_8 : decode cX0_become 8 = .ok (.aload_n 0, 1) := by decide +kernel
theorem dX0_become_9 : decode cX0_become 9 = .ok (.getfield 11, 3) := by decide +kernel
theorem dX0_become_12 : decode cX0_become 12 = .ok (.iload_n 2, 1) := by decide +kernel
theorem dX0_become_13 : decode cX0_become 13 = .ok (.aaload, 1) := by decide +kernel
theorem dX0_become_14 : decode cX0_become 14 = .ok (.aload_n 1, 1) := by decide +kernel
theorem dX0_become_15 : decode cX0_become 15 = .ok (.getfield 11, 3) := by decide +kernel
theorem dX0_become_18 : decode cX0_become 18 = .ok (.iload_n 2, 1) := by decide +kernel
theorem dX0_become_19 : decode cX0_become 19 = .ok (.aaload, 1) := by decide +kernel
theorem dX0_become_20 : decode cX0_become 20 = .ok (.invokevirtual 22, 3) := by decide +kernel
theorem dX0_become_23 : decode cX0_become 23 = .ok (.iinc 2 1, 3) := by decide +kernel
theorem dX0_become_26 : decode cX0_become 26 = .ok (.goto (-24), 3) := by decide +kernel
theorem dX0_become_29 : decode cX0_become 29 = .ok (.aload_n 0, 1) := by decide +kernel
theorem dX0_become_30 : decode cX0_become 30 = .ok (.aload_n 1, 1) := by decide +kernel
theorem dX0_become_31 : decode cX0_become 31 = .ok (.getfield 26, 3) := by decide +kernel
theorem dX0_become_34 : decode cX0_become 34 = .ok (.putfield 26, 3) := by decide +kernel
theorem dX0_become_37 : decode cX0_become 37 = .ok (.aload_n 0, 1) := by decide +kernel
theorem dX0_become_38 : decode cX0_become 38 = .ok (.aload_n 1, 1) := by decide +kernel
theorem dX0_become_39 : decode cX0_become 39 = .ok (.getfield 18, 3) := by decide +kernel
theorem dX0_become_42 : decode cX0_become 42 = .ok (.putfield 18, 3) := by decide +kernel
theorem dX0_become_45 : decode cX0_become 45 = .ok (.return_, 1) := by decide +kernel
theorem dX1_init_0 : decode cX1_init 0 = .ok (.aload_n 0, 1) := by decide +kernel
theorem dX1_init_1 : decode cX1_init 1 = .ok (.invokespecial 3, 3) := by decide +kernel
theorem dX1_init_4 : decode cX1_init 4 = .ok (.aload_n 0, 1) := by decide +kernel
theorem dX1_init_5 : decode cX1_init 5 = .ok (.bipush 24, 2) := by decide +kernel
theorem dX1_init_7 : decode cX1_init 7 = .ok (.newarray .int, 2) := by decide +kernel
theorem dX1_init_9 : decode cX1_init 9 = .ok (.putfield 9, 3) := by decide +kernel
theorem dX1_init_12 : decode cX1_init 12 = .ok (.aload_n 0, 1) := by decide +kernel
theorem dX1_init_13 : decode cX1_init 13 = .ok (.bipush 8, 2) := by decide +kernel
theorem dX1_init_15 : decode cX1_init 15 = .ok (.newarray .int, 2) := by decide +kernel
theorem dX1_init_17 : decode cX1_init 17 = .ok (.putfield 15, 3) := by decide +kernel
theorem dX1_init_20 : decode cX1_init 20 = .ok (.aload_n 0, 1) := by decide +kernel
theorem dX1_init_21 : decode cX1_init 21 = .ok (.bipush 8, 2) := by decide +kernel
theorem dX1_init_23 : decode cX1_init 23 = .ok (.newarray .int, 2) := by decide +kernel
theorem dX1_init_25 : decode cX1_init 25 = .ok (.putfield 18, 3) := by decide +kernel
theorem dX1_init_28 : decode cX1_init 28 = .ok (.aload_n 0, 1) := by decide +kernel
theorem dX1_init_29 : decode cX1_init 29 = .ok (.iconst 1, 1) := by decide +kernel
theorem dX1_init_30 : decode cX1_init 30 = .ok (.putfield 21, 3) := by decide +kernel
theorem dX1_init_33 : decode cX1_init 33 = .ok (.aload_n 0, 1) := by decide +kernel
theorem dX1_init_34 : decode cX1_init 34 = .ok (.iconst 1, 1) := by decide +kernel
theorem dX1_init_35 : decode cX1_init 35 = .ok (.putfield 25, 3) := by decide +kernel
theorem dX1_init_38 : decode cX1_init 38 = .ok (.aload_n 0, 1) := by decide +kernel
theorem dX1_init_39 : decode cX1_init 39 = .ok (.iconst 1, 1) := by decide +kernel
theorem dX1_init_40 : decode cX1_init 40 = .ok (.putfield 29, 3) := by decide +kernel
theorem dX1_init_43 : decode cX1_init 43 = .ok (.iconst 0, 1) := by decide +kernel
theorem dX1_init_44 : decode cX1_init 44 = .ok (.istore_n 1, 1) := by decide +kernel
theorem dX1_init_45 : decode cX1_init 45 = .ok (.iload_n 1, 1) := by decide +kernel
theorem dX1_init_46 : decode cX1_init 46 = .ok (.bipush 24, 2) := by decide +kernel
theorem dX1_init_48 : decode cX1_init 48 = .ok (.if_icmp .ge 16, 3) := by decide +kernel
theorem dX1_init_51 : decode cX1_init 51 = .ok (.aload_n 0, 1) := by decide +kernel
theorem dX1_init_52 : decode cX1_init 52 = .ok (.getfield 9, 3) := by decide +kernel
theorem dX1_init_55 : decode cX1_init 55 = .ok (.iload_n 1, 1) := by decide +kernel
theorem dX1_init_56 : decode cX1_init 56 = .ok (.iconst 2, 1) := by decide +kernel
theorem dX1_init_57 : decode cX1_init 57 = .ok (.iastore, 1) := by decide +kernel
theorem dX1_init_58 : decode cX1_init 58 = .ok (.iinc 1 1, 3) := by decide +kernel
theorem dX1_init_61 : decode cX1_init 61 = .ok (.goto (-16), 3) := by decide +kernel
theorem dX1_init_64 : decode cX1_init 64 = .ok (.return_, 1) := by decide +kernel
theorem dX1_become_0 : decode cX1_become 0 = .ok (.aload_n 1, 1) := by decide +kernel
theorem dX1_become_1 : decode cX1_become 1 = .ok (.getfield 9, 3) := by decide +kernel
theorem dX1_become_4 : decode cX1_become 4 = .ok (.iconst 0, 1) := by decide +kernel
theorem dX1_become_5 : decode cX1_become 5 = .ok (.aload_n 0, 1) := by decide +kernel
theorem dX1_become_6 : decode cX1_become 6 = .ok (.getfield 9, 3) := by decide +kernel
theorem dX1_become_9 : decode cX1_become 9 = .ok (.iconst 0, 1) := by decide +kernel
theorem dX1_become_10 : decode cX1_become 10 = .ok (.bipush 24, 2) := by decide +kernel
theorem dX1_become_12 : decode cX1_become 12 = .ok (.invokestatic 32, 3) := by decide +kernel
theorem dX1_become_15 : decode cX1_become 15 = .ok (.aload_n 1, 1) := by decide +kernel
theorem dX1_become_16 : decode cX1_become 16 = .ok (.getfield 15, 3) := by decide +kernel
theorem dX1_become_19 : decode cX1_become 19 = .ok (.iconst 0, 1) := by decide +kernel
theorem dX1_become_20 : decode cX1_become 20 = .ok (.aload_n 0, 1) := by decide +kernel
theorem dX1_become_21 : decode cX1_become 21 = .ok (.getfield 15, 3) := by decide +kernel
theorem dX1_become_24 : decode cX1_become 24 = .ok (.iconst 0, 1) := by decide +kernel
theorem dX1_become_25 : decode cX1_become 25 = .ok (.bipush 8, 2) := by decide +kernel
theorem dX1_become_27 : decode cX1_become 27 = .ok (.invokestatic 32, 3) := by decide +kernel
theorem dX1_become_30 : decode cX1_become 30 = .ok (.aload_n 1, 1) := by decide +kernel
theorem dX1_become_31 : decode cX1_become 31 = .ok (.getfield 18, 3) := by decide +kernel
theorem dX1_become_34 : decode cX1_become 34 = .ok (.iconst 0, 1) := by decide +kernel
theorem dX1_become_35 : decode cX1_become 35 = .ok (.aload_n 0, 1) := by decide +kernel
theorem dX1_become_36 : decode cX1_become 36 = .ok (.getfield 18, 3) := by decide +kernel
theorem dX1_become_39 : decode cX1_become 39 = .ok (.iconst 0, 1) := by decide +kernel
theorem dX1_become_40 : decode cX1_become 40 = .ok (.bipush 8, 2) := by decide +kernel
theorem dX1_become_42 : decode cX1_become 42 = .ok (.invokestatic 32, 3) := by decide +kernel
theorem dX1_become_45 : decode cX1_become 45 = .ok (.aload_n 0, 1) := by decide +kernel
theorem dX1_become_46 : decode cX1_become 46 = .ok (.aload_n 1, 1) := by decide +kernel
theorem dX1_become_47 : decode cX1_become 47 = .ok (.getfield 38, 3) := by decide +kernel
theorem dX1_become_50 : decode cX1_become 50 = .ok (.putfield 38, 3) := by decide +kernel
theorem dX1_become_53 : decode cX1_become 53 = .ok (.aload_n 0, 1) := by decide +kernel
theorem dX1_become_54 : decode cX1_become 54 = .ok (.aload_n 1, 1) := by decide +kernel
theorem dX1_become_55 : decode cX1_become 55 = .ok (.getfield 41, 3) := by decide +kernel
theorem dX1_become_58 : decode cX1_become 58 = .ok (.putfield 41, 3) := by decide +kernel
theorem dX1_become_61 : decode cX1_become 61 = .ok (.aload_n 0, 1) := by decide +kernel
theorem dX1_become_62 : decode cX1_become 62 = .ok (.aload_n 1, 1) := by decide +kernel
theorem dX1_become_63 : decode cX1_become 63 = .ok (.getfield 21, 3) := by decide +kernel
theorem dX1_become_66 : decode cX1_become 66 = .ok (.putfield 21, 3) := by decide +kernel
theorem dX1_become_69 : decode cX1_become 69 = .ok (.aload_n 0, 1) := by decide +kernel
theorem dX1_become_70 : decode cX1_become 70 = .ok (.aload_n 1, 1) := by decide +kernel
theorem dX1_become_71 : decode cX1_become 71 = .ok (.getfield 44, 3) := by decide +kernel
theorem dX1_become_74 : decode cX1_become 74 = .ok (.putfield 44, 3) := by decide +kernel
theorem dX1_become_77 : decode cX1_become 77 = .ok (.aload_n 0, 1) := by decide +kernel
theorem dX1_become_78 : decode cX1_become 78 = .ok (.aload_n 1, 1) := by decide +kernel
theorem dX1_become_79 : decode cX1_become 79 = .ok (.getfield 25, 3) := by decide +kernel
theorem dX1_become_82 : decode cX1_become 82 = .ok (.putfield 25, 3) := by decide +kernel
theorem dX1_become_85 : decode cX1_become 85 = .ok (.aload_n 0, 1) := by decide +kernel
theorem dX1_become_86 : decode cX1_become 86 = .ok (.aload_n 1, 1) := by decide +kernel
theorem dX1_become_87 : decode cX1_become 87 = .ok (.getfield 29, 3) := by decide +kernel
theorem dX1_become_90 : decode cX1_become 90 = .ok (.putfield 29, 3) := by decide +kernel
theorem dX1_become_93 : decode cX1_become 93 = .ok (.return_, 1) := by decide +kernel
theorem dX1_putAt_0 : decode cX1_putAt 0 = .ok (.iload_n 1, 1) := by decide +kernel
theorem dX1_putAt_1 : decode cX1_putAt 1 = .ok (.ifCond .lt 16, 3) := by decide +kernel
theorem dX1_putAt_4 : decode cX1_putAt 4 = .ok (.iload_n 1, 1) := by decide +kernel
theorem dX1_putAt_5 : decode cX1_putAt 5 = .ok (.bipush 8, 2) := by decide +kernel
theorem dX1_putAt_7 : decode cX1_putAt 7 = .ok (.if_icmp .ge 10, 3) := by decide +kernel
theorem dX1_putAt_10 : decode cX1_putAt 10 = .ok (.aload_n 0, 1) := by decide +kernel
theorem dX1_putAt_11 : decode cX1_putAt 11 = .ok (.getfield 15, 3) := by decide +kernel
theorem dX1_putAt_14 : decode cX1_putAt 14 = .ok (.iload_n 1, 1) := by decide +kernel
theorem dX1_putAt_15 : decode cX1_putAt 15 = .ok (.iload_n 2, 1) := by decide +kernel
theorem dX1_putAt_16 : decode cX1_putAt 16 = .ok (.iastore, 1) := by decide +kernel
theorem dX1_putAt_17 : decode cX1_putAt 17 = .ok (.return_, 1) := by decide +kernel
set_option maxRecDepth 20000 in
theorem ggX1_letGo_X1_putAt : GoodIn wsX1_letGo wsX1_putAt := goodIn_r _ [11, 12, 13, 14, 15, 16, 17, 18, 19, 20, 21] (by decide +kernel) (by decide +kernel)
set_option maxRecDepth 20000 in
theorem gX1_letGo_X1_putAt : GoodIn wsX1_letGo (wsV RX1 47 RX1 yX1_putAt wsX1_putAt) := goodIn_app (goodIn_of _ (by decide +kernel)) ggX1_letGo_X1_putAt
theorem dX1_letGo_0 : decode cX1_letGo 0 = .ok (.aload_n 0, 1) := by decide +kernel
theorem dX1_letGo_1 : decode cX1_letGo 1 = .ok (.getfield 38, 3) := by decide +kernel
theorem dX1_letGo_4 : decode cX1_letGo 4 = .ok (.istore_n 3, 1) := by decide +kernel
theorem dX1_letGo_5 : decode cX1_letGo 5 = .ok (.iconst 0, 1) := by decide +kernel
theorem dX1_letGo_6 : decode cX1_letGo 6 = .ok (.istore 4, 2) := by decide +kernel
theorem dX1_letGo_8 : decode cX1_letGo 8 = .ok (.iload 4, 2) := by decide +kernel
theorem dX1_letGo_10 : decode cX1_letGo 10 = .ok (.bipush 8, 2) := by decide +kernel
theorem dX1_letGo_12 : decode cX1_letGo 12 = .ok (.if_icmp .ge 31, 3) := by decide +kernel
theorem dX1_letGo_15 : decode cX1_letGo 15 = .ok (.iload 4, 2) := by decide +kernel
theorem dX1_letGo_17 : decode cX1_letGo 17 = .ok (.aload_n 0, 1) := by decide +kernel
theorem dX1_letGo_18 : decode cX1_letGo 18 = .ok (.getfield 38, 3) := by decide +kernel
theorem dX1_letGo_21 : decode cX1_letGo 21 = .ok (.if_icmp .ge 22, 3) := by decide +kernel
theorem dX1_letGo_24 : decode cX1_letGo 24 = .ok (.aload_n 0, 1) := by decide +kernel
theorem dX1_letGo_25 : decode cX1_letGo 25 = .ok (.aload_n 0, 1) := by decide +kernel
theorem dX1_letGo_26 : decode cX1_letGo 26 = .ok (.getfield 18, 3) := by decide +kernel
theorem dX1_letGo_29 : decode cX1_letGo 29 = .ok (.iload 4, 2) := by decide +kernel
theorem dX1_letGo_31 : decode cX1_letGo 31 = .ok (.iaload, 1) := by decide +kernel
theorem dX1_letGo_32 : decode cX1_letGo 32 = .ok (.bipush (-2), 2) := by decide +kernel
theorem dX1_letGo_34 : decode cX1_letGo 34 = .ok (.invokevirtual 47, 3) := by decide +kernel
theorem dX1_letGo_37 : decode cX1_letGo 37 = .ok (.iinc 4 1, 3) := by decide +kernel
theorem dX1_letGo_40 : decode cX1_letGo 40 = .ok (.goto (-32), 3) := by decide +kernel
theorem dX1_letGo_43 : decode cX1_letGo 43 = .ok (.aload_n 0, 1) := by decide +kernel
theorem dX1_letGo_44 : decode cX1_letGo 44 = .ok (.iconst 0, 1) := by decide +kernel
theorem dX1_letGo_45 : decode cX1_letGo 45 = .ok (.putfield 38, 3) := by decide +kernel
theorem dX1_letGo_48 : decode cX1_letGo 48 = .ok (.aload_n 0, 1) := by decide +kernel
theorem dX1_letGo_49 : decode cX1_letGo 49 = .ok (.iconst 0, 1) := by decide +kernel
theorem dX1_letGo_50 : decode cX1_letGo 50 = .ok (.putfield 41, 3) := by decide +kernel
theorem dX1_letGo_53 : decode cX1_letGo 53 = .ok (.aload_n 0, 1) := by decide +kernel
theorem dX1_letGo_54 : decode cX1_letGo 54 = .ok (.iload_n 1, 1) := by decide +kernel
theorem dX1_letGo_55 : decode cX1_letGo 55 = .ok (.putfield 21, 3) := by decide +kernel
theorem dX1_letGo_58 : decode cX1_letGo 58 = .ok (.aload_n 0, 1) := by decide +kernel
theorem dX1_letGo_59 : decode cX1_letGo 59 = .ok (.iload_n 2, 1) := by decide +kernel
theorem dX1_letGo_60 : decode cX1_letGo 60 = .ok (.putfield 44, 3) := by decide +kernel
theorem dX1_letGo_63 : decode cX1_letGo 63 = .ok (.aload_n 0, 1) := by decide +kernel
theorem dX1_letGo_64 : decode cX1_letGo 64 = .ok (.iconst 0, 1) := by decide +kernel
theorem dX1_letGo_65 : decode cX1_letGo 65 = .ok (.putfield 25, 3) := by decide +kernel
theorem dX1_letGo_68 : decode cX1_letGo 68 = .ok (.iload_n 3, 1) := by decide +kernel
theorem dX1_letGo_69 : decode cX1_letGo 69 = .ok (.ireturn, 1) := by decide +kernel
set_option maxRecDepth 20000 in
theorem ggX1_step_X5_hasCell : GoodIn wsX1_step wsX5_hasCell := goodIn_r _ [18, 19, 65, 66, 67, 68, 69] (by decide +kernel) (by decide +kernel)
set_option maxRecDepth 20000 in
theorem gX1_step_X5_hasCell : GoodIn wsX1_step (wsV RX1 51 RX5 yX5_hasCell wsX5_hasCell) := goodIn_app (goodIn_of _ (by decide +kernel)) ggX1_step_X5_hasCell
set_option maxRecDepth 20000 in
theorem ggX1_step_X1_slowBy : GoodIn wsX1_step wsX1_slowBy := goodIn_r _ [24, 4, 56, 57, 58, 59, 60, 61, 62, 63, 64] (by decide +kernel) (by decide +kernel)
set_option maxRecDepth 20000 in
theorem gX1_step_X1_slowBy : GoodIn wsX1_step (wsV RX1 69 RX1 yX1_slowBy wsX1_slowBy) := goodIn_app (goodIn_of _ (by decide +kernel)) ggX1_step_X1_slowBy
set_option maxRecDepth 20000 in
theorem ggX1_step_X1_growBy : GoodIn wsX1_step wsX1_growBy := goodIn_r _ [28, 5, 56, 57, 58, 59, 60, 61, 62, 63, 64] (by decide +kernel) (by decide +kernel)
set_option maxRecDepth 20000 in
theorem gX1_step_X1_growBy : GoodIn wsX1_step (wsV RX1 73 RX1 yX1_growBy wsX1_growBy) := goodIn_app (goodIn_of _ (by decide +kernel)) ggX1_step_X1_growBy
set_option maxRecDepth 20000 in
theorem ggX1_step_X1_meetThings : GoodIn wsX1_step wsX1_meetThings := goodIn_r _ [32, 33, 34, 2, 35, 36, 37, 38, 39, 23, 40, 4, 5, 20, 21, 22, 24, 41, 42, 43, 44, 45, 46, 47, 48, 49, 50, 25, 26, 27, 28, 65, 66, 67, 68, 69, 56, 57, 58, 59, 60, 61, 62, 63, 64] (by decide +kernel) (by decide +kernel)
set_option maxRecDepth 20000 in
theorem gX1_step_X1_meetThings : GoodIn wsX1_step (wsV RX1 76 RX1 yX1_meetThings wsX1_meetThings) := goodIn_app (goodIn_of _ (by decide +kernel)) ggX1_step_X1_meetThings
set_option maxRecDepth 20000 in
theorem ggX1_step_X1_moveOn : GoodIn wsX1_step wsX1_moveOn := goodIn_r _ [54, 2, 4, 55, 1, 56, 57, 58, 59, 60, 61, 62, 63, 64, 65, 66, 67, 68, 69] (by decide +kernel) (by decide +kernel)
set_option maxRecDepth 20000 in
theorem gX1_step_X1_moveOn : GoodIn wsX1_step (wsV RX1 80 RX1 yX1_moveOn wsX1_moveOn) := goodIn_app (goodIn_of _ (by decide +kernel)) ggX1_step_X1_moveOn
theorem dX1_step_0 : decode cX1_step 0 = .ok (.aload_n 0, 1) := by decide +kernel
theorem dX1_step_1 : decode cX1_step 1 = .ok (.getfield 25, 3) := by decide +kernel
theorem dX1_step_4 : decode cX1_step 4 = .ok (.ifCond .ne 14, 3) := by decide +kernel
theorem dX1_step_7 : decode cX1_step 7 = .ok (.aload_n 1, 1) := by decide +kernel
theorem dX1_step_8 : decode cX1_step 8 = .ok (.aload_n 0, 1) := by decide +kernel
theorem dX1_step_9 : decode cX1_step 9 = .ok (.getfield 41, 3) := by decide +kernel
theorem dX1_step_12 : decode cX1_step 12 = .ok (.invokevirtual 51, 3) := by decide +kernel
theorem dX1_step_15 : decode cX1_step 15 = .ok (.ifCond .ne 4, 3) := by decide +kernel
theorem dX1_step_18 : decode cX1_step 18 = .ok (.return_, 1) := by decide +kernel
theorem dX1_step_19 : decode cX1_step 19 = .ok (.aload_n 0, 1) := by decide +kernel
theorem dX1_step_20 : decode cX1_step 20 = .ok (.getfield 41, 3) := by decide +kernel
theorem dX1_step_23 : decode cX1_step 23 = .ok (.iload_n 2, 1) := by decide +kernel
theorem dX1_step_24 : decode cX1_step 24 = .ok (.if_icmp .ne 7, 3) := by decide +kernel
theorem dX1_step_27 : decode cX1_step 27 = .ok (.iconst 1, 1) := by decide +kernel
theorem dX1_step_28 : decode cX1_step 28 = .ok (.goto 4, 3) := by decide +kernel
theorem dX1_step_31 : decode cX1_step 31 = .ok (.iconst 0, 1) := by decide +kernel
theorem dX1_step_32 : decode cX1_step 32 = .ok (.istore_n 3, 1) := by decide +kernel
theorem dX1_step_33 : decode cX1_step 33 = .ok (.iload_n 3, 1) := by decide +kernel
theorem dX1_step_34 : decode cX1_step 34 = .ok (.ifCond .eq 7, 3) := by decide +kernel
theorem dX1_step_37 : decode cX1_step 37 = .ok (.iconst 0, 1) := by decide +kernel
theorem dX1_step_38 : decode cX1_step 38 = .ok (.goto 12, 3) := by decide +kernel
theorem dX1_step_41 : decode cX1_step 41 = .ok (.aload_n 1, 1) := by decide +kernel
theorem dX1_step_42 : decode cX1_step 42 = .ok (.getfield 57, 3) := by decide +kernel
theorem dX1_step_45 : decode cX1_step 45 = .ok (.aload_n 0, 1) := by decide +kernel
theorem dX1_step_46 : decode cX1_step 46 = .ok (.getfield 41, 3) := by decide +kernel
theorem dX1_step_49 : decode cX1_step 49 = .ok (.iaload, 1) := by decide +kernel
theorem dX1_step_50 : decode cX1_step 50 = .ok (.istore 4, 2) := by decide +kernel
theorem dX1_step_52 : decode cX1_step 52 = .ok (.aload_n 0, 1) := by decide +kernel
theorem dX1_step_53 : decode cX1_step 53 = .ok (.bipush 99, 2) := by decide +kernel
theorem dX1_step_55 : decode cX1_step 55 = .ok (.iconst 0, 1) := by decide +kernel
theorem dX1_step_56 : decode cX1_step 56 = .ok (.aload_n 0, 1) := by decide +kernel
theorem dX1_step_57 : decode cX1_step 57 = .ok (.getfield 44, 3) := by decide +kernel
theorem dX1_step_60 : decode cX1_step 60 = .ok (.iload 4, 2) := by decide +kernel
theorem dX1_step_62 : decode cX1_step 62 = .ok (.iadd, 1) := by decide +kernel
theorem dX1_step_63 : decode cX1_step 63 = .ok (.aload_n 0, 1) := by decide +kernel
theorem dX1_step_64 : decode cX1_step 64 = .ok (.getfield 21, 3) := by decide +kernel
theorem dX1_step_67 : decode cX1_step 67 = .ok (.bipush 10, 2) := by decide +kernel
theorem dX1_step_69 : decode cX1_step 69 = .ok (.idiv, 1) := by decide +kernel
theorem dX1_step_70 : decode cX1_step 70 = .ok (.isub, 1) := by decide +kernel
theorem dX1_step_71 : decode cX1_step 71 = .ok (.invokestatic 60, 3) := by decide +kernel
theorem dX1_step_74 : decode cX1_step 74 = .ok (.invokestatic 66, 3) := by decide +kernel
theorem dX1_step_77 : decode cX1_step 77 = .ok (.putfield 44, 3) := by decide +kernel
theorem dX1_step_80 : decode cX1_step 80 = .ok (.iload_n 3, 1) := by decide +kernel
theorem dX1_step_81 : decode cX1_step 81 = .ok (.ifCond .eq 9, 3) := by decide +kernel
theorem dX1_step_84 : decode cX1_step 84 = .ok (.aload_n 0, 1) := by decide +kernel
theorem dX1_step_85 : decode cX1_step 85 = .ok (.bipush 20, 2) := by decide +kernel
theorem dX1_step_87 : decode cX1_step 87 = .ok (.invokevirtual 69, 3) := by decide +kernel
theorem dX1_step_90 : decode cX1_step 90 = .ok (.aload_n 0, 1) := by decide +kernel
theorem dX1_step_91 : decode cX1_step 91 = .ok (.aload_n 0, 1) := by decide +kernel
theorem dX1_step_92 : decode cX1_step 92 = .ok (.getfield 9, 3) := by decide +kernel
theorem dX1_step_95 : decode cX1_step 95 = .ok (.aload_n 0, 1) := by decide +kernel
theorem dX1_step_96 : decode cX1_step 96 = .ok (.getfield 41, 3) := by decide +kernel
theorem dX1_step_99 : decode cX1_step 99 = .ok (.iaload, 1) := by decide +kernel
theorem dX1_step_100 : decode cX1_step 100 = .ok (.invokevirtual 73, 3) := by decide +kernel
theorem dX1_step_103 : decode cX1_step 103 = .ok (.aload_n 0, 1) := by decide +kernel
theorem dX1_step_104 : decode cX1_step 104 = .ok (.getfield 9, 3) := by decide +kernel
theorem dX1_step_107 : decode cX1_step 107 = .ok (.aload_n 0, 1) := by decide +kernel
theorem dX1_step_108 : decode cX1_step 108 = .ok (.getfield 41, 3) := by decide +kernel
theorem dX1_step_111 : decode cX1_step 111 = .ok (.iconst 0, 1) := by decide +kernel
theorem dX1_step_112 : decode cX1_step 112 = .ok (.iastore, 1) := by decide +kernel
theorem dX1_step_113 : decode cX1_step 113 = .ok (.aload_n 0, 1) := by decide +kernel
theorem dX1_step_114 : decode cX1_step 114 = .ok (.aload_n 1, 1) := by decide +kernel
theorem dX1_step_115 : decode cX1_step 115 = .ok (.invokevirtual 76, 3) := by decide +kernel
theorem dX1_step_118 : decode cX1_step 118 = .ok (.aload_n 0, 1) := by decide +kernel
theorem dX1_step_119 : decode cX1_step 119 = .ok (.getfield 44, 3) := by decide +kernel
theorem dX1_step_122 : decode cX1_step 122 = .ok (.ifCond .ne 11, 3) := by decide +kernel
theorem dX1_step_125 : decode cX1_step 125 = .ok (.aload_n 0, 1) := by decide +kernel
theorem dX1_step_126 : decode cX1_step 126 = .ok (.iconst 1, 1) := by decide +kernel
theorem dX1_step_127 : decode cX1_step 127 = .ok (.putfield 25, 3) := by decide +kernel
theorem dX1_step_130 : decode cX1_step 130 = .ok (.goto 8, 3) := by decide +kernel
theorem dX1_step_133 : decode cX1_step 133 = .ok (.aload_n 0, 1) := by decide +kernel
theorem dX1_step_134 : decode cX1_step 134 = .ok (.aload_n 1, 1) := by decide +kernel
theorem dX1_step_135 : decode cX1_step 135 = .ok (.invokevirtual 80, 3) := by decide +kernel
theorem dX1_step_138 : decode cX1_step 138 = .ok (.return_, 1) := by decide +kernel
theorem dX1_moveOn_0 : decode cX1_moveOn 0 = .ok (.aload_n 0, 1) := by decide +kernel
theorem dX1_moveOn_1 : decode cX1_moveOn 1 = .ok (.dup, 1) := by decide +kernel
theorem dX1_moveOn_2 : decode cX1_moveOn 2 = .ok (.getfield 41, 3) := by decide +kernel
theorem dX1_moveOn_5 : decode cX1_moveOn 5 = .ok (.iconst 1, 1) := by decide +kernel
theorem dX1_moveOn_6 : decode cX1_moveOn 6 = .ok (.aload_n 0, 1) := by decide +kernel
theorem dX1_moveOn_7 : decode cX1_moveOn 7 = .ok (.getfield 44, 3) := by decide +kernel
theorem dX1_moveOn_10 : decode cX1_moveOn 10 = .ok (.bipush 20, 2) := by decide +kernel
theorem dX1_moveOn_12 : decode cX1_moveOn 12 = .ok (.idiv, 1) := by decide +kernel
theorem dX1_moveOn_13 : decode cX1_moveOn 13 = .ok (.iadd, 1) := by decide +kernel
theorem dX1_moveOn_14 : decode cX1_moveOn 14 = .ok (.iadd, 1) := by decide +kernel
theorem dX1_moveOn_15 : decode cX1_moveOn 15 = .ok (.putfield 41, 3) := by decide +kernel
theorem dX1_moveOn_18 : decode cX1_moveOn 18 = .ok (.aload_n 0, 1) := by decide +kernel
theorem dX1_moveOn_19 : decode cX1_moveOn 19 = .ok (.getfield 41, 3) := by decide +kernel
theorem dX1_moveOn_22 : decode cX1_moveOn 22 = .ok (.aload_n 1, 1) := by decide +kernel
theorem dX1_moveOn_23 : decode cX1_moveOn 23 = .ok (.getfield 83, 3) := by decide +kernel
theorem dX1_moveOn_26 : decode cX1_moveOn 26 = .ok (.if_icmp .lt 16, 3) := by decide +kernel
theorem dX1_moveOn_29 : decode cX1_moveOn 29 = .ok (.aload_n 0, 1) := by decide +kernel
theorem dX1_moveOn_30 : decode cX1_moveOn 30 = .ok (.aload_n 1, 1) := by decide +kernel
theorem dX1_moveOn_31 : decode cX1_moveOn 31 = .ok (.getfield 83, 3) := by decide +kernel
theorem dX1_moveOn_34 : decode cX1_moveOn 34 = .ok (.putfield 41, 3) := by decide +kernel
theorem dX1_moveOn_37 : decode cX1_moveOn 37 = .ok (.aload_n 0, 1) := by decide +kernel
theorem dX1_moveOn_38 : decode cX1_moveOn 38 = .ok (.iconst 1, 1) := by decide +kernel
theorem dX1_moveOn_39 : decode cX1_moveOn 39 = .ok (.putfield 25, 3) := by decide +kernel
theorem dX1_moveOn_42 : decode cX1_moveOn 42 = .ok (.return_, 1) := by decide +kernel
set_option maxRecDepth 20000 in
theorem ggX1_meetThings_X1_meet : GoodIn wsX1_meetThings wsX1_meet := goodIn_r _ [10, 11, 12, 13, 14, 15, 9, 16, 17, 18, 19, 20, 21, 2, 22, 23, 24, 25, 26, 27, 28, 29, 30, 36, 37, 38, 39, 40, 41, 42, 43, 44] (by decide +kernel) (by decide +kernel)
set_option maxRecDepth 20000 in
theorem gX1_meetThings_X1_meet : GoodIn wsX1_meetThings (wsV RX1 95 RX1 yX1_meet wsX1_meet) := goodIn_app (goodIn_of _ (by decide +kernel)) ggX1_meetThings_X1_meet
theorem dX1_meetThings_0 : decode cX1_meetThings 0 = .ok (.iconst 0, 1) := by decide +kernel
theorem dX1_meetThings_1 : decode cX1_meetThings 1 = .ok (.istore_n 2, 1) := by decide +kernel
theorem dX1_meetThings_2 : decode cX1_meetThings 2 = .ok (.iload_n 2, 1) := by decide +kernel
theorem dX1_meetThings_3 : decode cX1_meetThings 3 = .ok (.bipush 8, 2) := by decide +kernel
theorem dX1_meetThings_5 : decode cX1_meetThings 5 = .ok (.if_icmp .ge 47, 3) := by decide +kernel
theorem dX1_meetThings_8 : decode cX1_meetThings 8 = .ok (.iload_n 2, 1) := by decide +kernel
theorem dX1_meetThings_9 : decode cX1_meetThings 9 = .ok (.aload_n 1, 1) := by decide +kernel
theorem dX1_meetThings_10 : decode cX1_meetThings 10 = .ok (.getfield 86, 3) := by decide +kernel
theorem dX1_meetThings_13 : decode cX1_meetThings 13 = .ok (.if_icmp .ge 39, 3) := by decide +kernel
theorem dX1_meetThings_16 : decode cX1_meetThings 16 = .ok (.aload_n 0, 1) := by decide +kernel
theorem dX1_meetThings_17 : decode cX1_meetThings 17 = .ok (.getfield 15, 3) := by decide +kernel
theorem dX1_meetThings_20 : decode cX1_meetThings 20 = .ok (.iload_n 2, 1) := by decide +kernel
theorem dX1_meetThings_21 : decode cX1_meetThings 21 = .ok (.iaload, 1) := by decide +kernel
theorem dX1_meetThings_22 : decode cX1_meetThings 22 = .ok (.aload_n 0, 1) := by decide +kernel
theorem dX1_meetThings_23 : decode cX1_meetThings 23 = .ok (.getfield 41, 3) := by decide +kernel
theorem dX1_meetThings_26 : decode cX1_meetThings 26 = .ok (.if_icmp .ne 20, 3) := by decide +kernel
theorem dX1_meetThings_29 : decode cX1_meetThings 29 = .ok (.aload_n 0, 1) := by decide +kernel
theorem dX1_meetThings_30 : decode cX1_meetThings 30 = .ok (.iload_n 2, 1) := by decide +kernel
theorem dX1_meetThings_31 : decode cX1_meetThings 31 = .ok (.aload_n 1, 1) := by decide +kernel
theorem dX1_meetThings_32 : decode cX1_meetThings 32 = .ok (.getfield 89, 3) := by decide +kernel
theorem dX1_meetThings_35 : decode cX1_meetThings 35 = .ok (.iload_n 2, 1) := by decide +kernel
theorem dX1_meetThings_36 : decode cX1_meetThings 36 = .ok (.iaload, 1) := by decide +kernel
theorem dX1_meetThings_37 : decode cX1_meetThings 37 = .ok (.aload_n 1, 1) := by decide +kernel
theorem dX1_meetThings_38 : decode cX1_meetThings 38 = .ok (.getfield 92, 3) := by decide +kernel
theorem dX1_meetThings_41 : decode cX1_meetThings 41 = .ok (.iload_n 2, 1) := by decide +kernel
theorem dX1_meetThings_42 : decode cX1_meetThings 42 = .ok (.iaload, 1) := by decide +kernel
theorem dX1_meetThings_43 : decode cX1_meetThings 43 = .ok (.invokevirtual 95, 3) := by decide +kernel
theorem dX1_meetThings_46 : decode cX1_meetThings 46 = .ok (.iinc 2 1, 3) := by decide +kernel
theorem dX1_meetThings_49 : decode cX1_meetThings 49 = .ok (.goto (-47), 3) := by decide +kernel
theorem dX1_meetThings_52 : decode cX1_meetThings 52 = .ok (.return_, 1) := by decide +kernel
set_option maxRecDepth 20000 in
theorem ggX1_meet_X1_slowBy : GoodIn wsX1_meet wsX1_slowBy := goodIn_r _ [7, 1, 23, 24, 25, 26, 27, 28, 29, 30, 31] (by decide +kernel) (by decide +kernel)
set_option maxRecDepth 20000 in
theorem gX1_meet_X1_slowBy : GoodIn wsX1_meet (wsV RX1 69 RX1 yX1_slowBy wsX1_slowBy) := goodIn_app (goodIn_of _ (by decide +kernel)) ggX1_meet_X1_slowBy
set_option maxRecDepth 20000 in
theorem ggX1_meet_X1_takeUp : GoodIn wsX1_meet wsX1_takeUp := goodIn_r _ [11, 12, 13, 14, 23, 24, 25, 26, 27, 28, 29, 30, 31] (by decide +kernel) (by decide +kernel)
set_option maxRecDepth 20000 in
theorem gX1_meet_X1_takeUp : GoodIn wsX1_meet (wsV RX1 99 RX1 yX1_takeUp wsX1_takeUp) := goodIn_app (goodIn_of _ (by decide +kernel)) ggX1_meet_X1_takeUp
set_option maxRecDepth 20000 in
theorem ggX1_meet_X1_shrinkBy : GoodIn wsX1_meet wsX1_shrinkBy := goodIn_r _ [18, 2, 23, 24, 25, 26, 27, 28, 29, 30, 31] (by decide +kernel) (by decide +kernel)
set_option maxRecDepth 20000 in
theorem gX1_meet_X1_shrinkBy : GoodIn wsX1_meet (wsV RX1 102 RX1 yX1_shrinkBy wsX1_shrinkBy) := goodIn_app (goodIn_of _ (by decide +kernel)) ggX1_meet_X1_shrinkBy
set_option maxRecDepth 20000 in
theorem ggX1_meet_X1_growBy : GoodIn wsX1_meet wsX1_growBy := goodIn_r _ [22, 2, 23, 24, 25, 26, 27, 28, 29, 30, 31] (by decide +kernel) (by decide +kernel)
set_option maxRecDepth 20000 in
theorem gX1_meet_X1_growBy : GoodIn wsX1_meet (wsV RX1 73 RX1 yX1_growBy wsX1_growBy) := goodIn_app (goodIn_of _ (by decide +kernel)) ggX1_meet_X1_growBy
theorem dX1_meet_0 : decode cX1_meet 0 = .ok (.iload_n 2, 1) := by decide +kernel
theorem dX1_meet_1 : decode cX1_meet 1 = .ok (.iconst 2, 1) := by decide +kernel
theorem dX1_meet_2 : decode cX1_meet 2 = .ok (.if_icmp .eq 8, 3) := by decide +kernel
theorem dX1_meet_5 : decode cX1_meet 5 = .ok (.iload_n 2, 1) := by decide +kernel
theorem dX1_meet_6 : decode cX1_meet 6 = .ok (.iconst 4, 1) := by decide +kernel
theorem dX1_meet_7 : decode cX1_meet 7 = .ok (.if_icmp .ne 16, 3) := by decide +kernel
theorem dX1_meet_10 : decode cX1_meet 10 = .ok (.aload_n 0, 1) := by decide +kernel
theorem dX1_meet_11 : decode cX1_meet 11 = .ok (.getfield 44, 3) := by decide +kernel
theorem dX1_meet_14 : decode cX1_meet 14 = .ok (.bipush 15, 2) := by decide +kernel
theorem dX1_meet_16 : decode cX1_meet 16 = .ok (.if_icmp .lt 7, 3) := by decide +kernel
theorem dX1_meet_19 : decode cX1_meet 19 = .ok (.iconst 1, 1) := by decide +kernel
theorem dX1_meet_20 : decode cX1_meet 20 = .ok (.goto 4, 3) := by decide +kernel
theorem dX1_meet_23 : decode cX1_meet 23 = .ok (.iconst 0, 1) := by decide +kernel
theorem dX1_meet_24 : decode cX1_meet 24 = .ok (.istore 4, 2) := by decide +kernel
theorem dX1_meet_26 : decode cX1_meet 26 = .ok (.iload_n 2, 1) := by decide +kernel
theorem dX1_meet_27 : decode cX1_meet 27 = .ok (.iconst 1, 1) := by decide +kernel
theorem dX1_meet_28 : decode cX1_meet 28 = .ok (.if_icmp .eq 8, 3) := by decide +kernel
theorem dX1_meet_31 : decode cX1_meet 31 = .ok (.iload_n 2, 1) := by decide +kernel
theorem dX1_meet_32 : decode cX1_meet 32 = .ok (.iconst 3, 1) := by decide +kernel
theorem dX1_meet_33 : decode cX1_meet 33 = .ok (.if_icmp .ne 7, 3) := by decide +kernel
theorem dX1_meet_36 : decode cX1_meet 36 = .ok (.iconst 1, 1) := by decide +kernel
theorem dX1_meet_37 : decode cX1_meet 37 = .ok (.goto 4, 3) := by decide +kernel
theorem dX1_meet_40 : decode cX1_meet 40 = .ok (.iconst 0, 1) := by decide +kernel
theorem dX1_meet_41 : decode cX1_meet 41 = .ok (.istore 5, 2) := by decide +kernel
theorem dX1_meet_43 : decode cX1_meet 43 = .ok (.iload 4, 2) := by decide +kernel
theorem dX1_meet_45 : decode cX1_meet 45 = .ok (.ifCond .eq 4, 3) := by decide +kernel
theorem dX1_meet_48 : decode cX1_meet 48 = .ok (.return_, 1) := by decide +kernel
theorem dX1_meet_49 : decode cX1_meet 49 = .ok (.iload 5, 2) := by decide +kernel
theorem dX1_meet_51 : decode cX1_meet 51 = .ok (.ifCond .ne 17, 3) := by decide +kernel
theorem dX1_meet_54 : decode cX1_meet 54 = .ok (.aload_n 0, 1) := by decide +kernel
theorem dX1_meet_55 : decode cX1_meet 55 = .ok (.getfield 21, 3) := by decide +kernel
theorem dX1_meet_58 : decode cX1_meet 58 = .ok (.iload_n 3, 1) := by decide +kernel
theorem dX1_meet_59 : decode cX1_meet 59 = .ok (.if_icmp .ge 9, 3) := by decide +kernel
theorem dX1_meet_62 : decode cX1_meet 62 = .ok (.aload_n 0, 1) := by decide +kernel
theorem dX1_meet_63 : decode cX1_meet 63 = .ok (.iload_n 3, 1) := by decide +kernel
theorem dX1_meet_64 : decode cX1_meet 64 = .ok (.invokevirtual 69, 3) := by decide +kernel
theorem dX1_meet_67 : decode cX1_meet 67 = .ok (.return_, 1) := by decide +kernel
theorem dX1_meet_68 : decode cX1_meet 68 = .ok (.aload_n 0, 1) := by decide +kernel
theorem dX1_meet_69 : decode cX1_meet 69 = .ok (.iload_n 1, 1) := by decide +kernel
theorem dX1_meet_70 : decode cX1_meet 70 = .ok (.invokevirtual 99, 3) := by decide +kernel
theorem dX1_meet_73 : decode cX1_meet 73 = .ok (.iload_n 2, 1) := by decide +kernel
theorem dX1_meet_74 : decode cX1_meet 74 = .ok (.iconst 3, 1) := by decide +kernel
theorem dX1_meet_75 : decode cX1_meet 75 = .ok (.if_icmp .ne 11, 3) := by decide +kernel
theorem dX1_meet_78 : decode cX1_meet 78 = .ok (.aload_n 0, 1) := by decide +kernel
theorem dX1_meet_79 : decode cX1_meet 79 = .ok (.iload_n 3, 1) := by decide +kernel
theorem dX1_meet_80 : decode cX1_meet 80 = .ok (.invokevirtual 102, 3) := by decide +kernel
theorem dX1_meet_83 : decode cX1_meet 83 = .ok (.goto 19, 3) := by decide +kernel
theorem dX1_meet_86 : decode cX1_meet 86 = .ok (.aload_n 0, 1) := by decide +kernel
theorem dX1_meet_87 : decode cX1_meet 87 = .ok (.iload_n 2, 1) := by decide +kernel
theorem dX1_meet_88 : decode cX1_meet 88 = .ok (.iconst 4, 1) := by decide +kernel
theorem dX1_meet_89 : decode cX1_meet 89 = .ok (.if_icmp .ne 9, 3) := by decide +kernel
theorem dX1_meet_92 : decode cX1_meet 92 = .ok (.iload_n 3, 1) := by decide +kernel
theorem dX1_meet_93 : decode cX1_meet 93 = .ok (.iload_n 3, 1) := by decide +kernel
theorem dX1_meet_94 : decode cX1_meet 94 = .ok (.iadd, 1) := by decide +kernel
theorem dX1_meet_95 : decode cX1_meet 95 = .ok (.goto 4, 3) := by decide +kernel
theorem dX1_meet_98 : decode cX1_meet 98 = .ok (.iload_n 3, 1) := by decide +kernel
theorem dX1_meet_99 : decode cX1_meet 99 = .ok (.invokevirtual 73, 3) := by decide +kernel
theorem dX1_meet_102 : decode cX1_meet 102 = .ok (.return_, 1) := by decide +kernel
theorem dX1_takeUp_0 : decode cX1_takeUp 0 = .ok (.iload_n 1, 1) := by decide +kernel
theorem dX1_takeUp_1 : decode cX1_takeUp 1 = .ok (.ifCond .lt 52, 3) := by decide +kernel
theorem dX1_takeUp_4 : decode cX1_takeUp 4 = .ok (.iload_n 1, 1) := by decide +kernel
theorem dX1_takeUp_5 : decode cX1_takeUp 5 = .ok (.bipush 8, 2) := by decide +kernel
theorem dX1_takeUp_7 : decode cX1_takeUp 7 = .ok (.if_icmp .ge 46, 3) := by decide +kernel
theorem dX1_takeUp_10 : decode cX1_takeUp 10 = .ok (.aload_n 0, 1) := by decide +kernel
theorem dX1_takeUp_11 : decode cX1_takeUp 11 = .ok (.getfield 38, 3) := by decide +kernel
theorem dX1_takeUp_14 : decode cX1_takeUp 14 = .ok (.ifCond .lt 39, 3) := by decide +kernel
theorem dX1_takeUp_17 : decode cX1_takeUp 17 = .ok (.aload_n 0, 1) := by decide +kernel
theorem dX1_takeUp_18 : decode cX1_takeUp 18 = .ok (.getfield 38, 3) := by decide +kernel
theorem dX1_takeUp_21 : decode cX1_takeUp 21 = .ok (.bipush 8, 2) := by decide +kernel
theorem dX1_takeUp_23 : decode cX1_takeUp 23 = .ok (.if_icmp .ge 30, 3) := by decide +kernel
theorem dX1_takeUp_26 : decode cX1_takeUp 26 = .ok (.aload_n 0, 1) := by decide +kernel
theorem dX1_takeUp_27 : decode cX1_takeUp 27 = .ok (.getfield 15, 3) := by decide +kernel
theorem dX1_takeUp_30 : decode cX1_takeUp 30 = .ok (.iload_n 1, 1) := by decide +kernel
theorem dX1_takeUp_31 : decode cX1_takeUp 31 = .ok (.iconst (-1), 1) := by decide +kernel
theorem dX1_takeUp_32 : decode cX1_takeUp 32 = .ok (.iastore, 1) := by decide +kernel
theorem dX1_takeUp_33 : decode cX1_takeUp 33 = .ok (.aload_n 0, 1) := by decide +kernel
theorem dX1_takeUp_34 : decode cX1_takeUp 34 = .ok (.getfield 18, 3) := by decide +kernel
theorem dX1_takeUp_37 : decode cX1_takeUp 37 = .ok (.aload_n 0, 1) := by decide +kernel
theorem dX1_takeUp_38 : decode cX1_takeUp 38 = .ok (.getfield 38, 3) := by decide +kernel
theorem dX1_takeUp_41 : decode cX1_takeUp 41 = .ok (.iload_n 1, 1) := by decide +kernel
theorem dX1_takeUp_42 : decode cX1_takeUp 42 = .ok (.iastore, 1) := by decide +kernel
theorem dX1_takeUp_43 : decode cX1_takeUp 43 = .ok (.aload_n 0, 1) := by decide +kernel
theorem dX1_takeUp_44 : decode cX1_takeUp 44 = .ok (.dup, 1) := by decide +kernel
theorem dX1_takeUp_45 : decode cX1_takeUp 45 = .ok (.getfield 38, 3) := by decide +kernel
theorem dX1_takeUp_48 : decode cX1_takeUp 48 = .ok (.iconst 1, 1) := by decide +kernel
theorem dX1_takeUp_49 : decode cX1_takeUp 49 = .ok (.iadd, 1) := by decide +kernel
theorem dX1_takeUp_50 : decode cX1_takeUp 50 = .ok (.putfield 38, 3) := by decide +kernel
theorem dX1_takeUp_53 : decode cX1_takeUp 53 = .ok (.return_, 1) := by decide +kernel
theorem dX1_growBy_0 : decode cX1_growBy 0 = .ok (.aload_n 0, 1) := by decide +kernel
theorem dX1_growBy_1 : decode cX1_growBy 1 = .ok (.aload_n 0, 1) := by decide +kernel
theorem dX1_growBy_2 : decode cX1_growBy 2 = .ok (.getfield 21, 3) := by decide +kernel
theorem dX1_growBy_5 : decode cX1_growBy 5 = .ok (.iload_n 1, 1) := by decide +kernel
theorem dX1_growBy_6 : decode cX1_growBy 6 = .ok (.iadd, 1) := by decide +kernel
theorem dX1_growBy_7 : decode cX1_growBy 7 = .ok (.sipush 999, 3) := by decide +kernel
theorem dX1_growBy_10 : decode cX1_growBy 10 = .ok (.if_icmp .ge 12, 3) := by decide +kernel
theorem dX1_growBy_13 : decode cX1_growBy 13 = .ok (.aload_n 0, 1) := by decide +kernel
theorem dX1_growBy_14 : decode cX1_growBy 14 = .ok (.getfield 21, 3) := by decide +kernel
theorem dX1_growBy_17 : decode cX1_growBy 17 = .ok (.iload_n 1, 1) := by decide +kernel
theorem dX1_growBy_18 : decode cX1_growBy 18 = .ok (.iadd, 1) := by decide +kernel
theorem dX1_growBy_19 : decode cX1_growBy 19 = .ok (.goto 6, 3) := by decide +kernel
theorem dX1_growBy_22 : decode cX1_growBy 22 = .ok (.sipush 999, 3) := by decide +kernel
theorem dX1_growBy_25 : decode cX1_growBy 25 = .ok (.putfield 21, 3) := by decide +kernel
theorem dX1_growBy_28 : decode cX1_growBy 28 = .ok (.return_, 1) := by decide +kernel
theorem dX1_shrinkBy_0 : decode cX1_shrinkBy 0 = .ok (.aload_n 0, 1) := by decide +kernel
theorem dX1_shrinkBy_1 : decode cX1_shrinkBy 1 = .ok (.aload_n 0, 1) := by decide +kernel
theorem dX1_shrinkBy_2 : decode cX1_shrinkBy 2 = .ok (.getfield 21, 3) := by decide +kernel
theorem dX1_shrinkBy_5 : decode cX1_shrinkBy 5 = .ok (.iload_n 1, 1) := by decide +kernel
theorem dX1_shrinkBy_6 : decode cX1_shrinkBy 6 = .ok (.isub, 1) := by decide +kernel
theorem dX1_shrinkBy_7 : decode cX1_shrinkBy 7 = .ok (.iconst 1, 1) := by decide +kernel
theorem dX1_shrinkBy_8 : decode cX1_shrinkBy 8 = .ok (.if_icmp .le 12, 3) := by decide +kernel
theorem dX1_shrinkBy_11 : decode cX1_shrinkBy 11 = .ok (.aload_n 0, 1) := by decide +kernel
theorem dX1_shrinkBy_12 : decode cX1_shrinkBy 12 = .ok (.getfield 21, 3) := by decide +kernel
theorem dX1_shrinkBy_15 : decode cX1_shrinkBy 15 = .ok (.iload_n 1, 1) := by decide +kernel
theorem dX1_shrinkBy_16 : decode cX1_shrinkBy 16 = .ok (.isub, 1) := by decide +kernel
theorem dX1_shrinkBy_17 : decode cX1_shrinkBy 17 = .ok (.goto 4, 3) := by decide +kernel
theorem dX1_shrinkBy_20 : decode cX1_shrinkBy 20 = .ok (.iconst 1, 1) := by decide +kernel
theorem dX1_shrinkBy_21 : decode cX1_shrinkBy 21 = .ok (.putfield 21, 3) := by decide +kernel
theorem dX1_shrinkBy_24 : decode cX1_shrinkBy 24 = .ok (.return_, 1) := by decide +kernel
theorem dX1_slowBy_0 : decode cX1_slowBy 0 = .ok (.aload_n 0, 1) := by decide +kernel
theorem dX1_slowBy_1 : decode cX1_slowBy 1 = .ok (.aload_n 0, 1) := by decide +kernel
theorem dX1_slowBy_2 : decode cX1_slowBy 2 = .ok (.getfield 44, 3) := by decide +kernel
theorem dX1_slowBy_5 : decode cX1_slowBy 5 = .ok (.iload_n 1, 1) := by decide +kernel
theorem dX1_slowBy_6 : decode cX1_slowBy 6 = .ok (.if_icmp .le 12, 3) := by decide +kernel
theorem dX1_slowBy_9 : decode cX1_slowBy 9 = .ok (.aload_n 0, 1) := by decide +kernel
theorem dX1_slowBy_10 : decode cX1_slowBy 10 = .ok (.getfield 44, 3) := by decide +kernel
theorem dX1_slowBy_13 : decode cX1_slowBy 13 = .ok (.iload_n 1, 1) := by decide +kernel
theorem dX1_slowBy_14 : decode cX1_slowBy 14 = .ok (.isub, 1) := by decide +kernel
theorem dX1_slowBy_15 : decode cX1_slowBy 15 = .ok (.goto 4, 3) := by decide +kernel
theorem dX1_slowBy_18 : decode cX1_slowBy 18 = .ok (.iconst 0, 1) := by decide +kernel
theorem dX1_slowBy_19 : decode cX1_slowBy 19 = .ok (.putfield 44, 3) := by decide +kernel
theorem dX1_slowBy_22 : decode cX1_slowBy 22 = .ok (.return_, 1) := by decide +kernel
set_option maxRecDepth 20000 in
theorem ggX1_meltADay_X1_shrinkBy : GoodIn wsX1_meltADay wsX1_shrinkBy := goodIn_r _ [9, 2, 21, 22, 23, 24, 25, 26, 27, 28, 29] (by decide +kernel) (by decide +kernel)
set_option maxRecDepth 20000 in
theorem gX1_meltADay_X1_shrinkBy : GoodIn wsX1_meltADay (wsV RX1 102 RX1 yX1_shrinkBy wsX1_shrinkBy) := goodIn_app (goodIn_of _ (by decide +kernel)) ggX1_meltADay_X1_shrinkBy
set_option maxRecDepth 20000 in
theorem ggX1_meltADay_X5_hasThing : GoodIn wsX1_meltADay wsX5_hasThing := goodIn_r _ [14, 15, 30, 31, 32, 33, 34] (by decide +kernel) (by decide +kernel)
set_option maxRecDepth 20000 in
theorem gX1_meltADay_X5_hasThing : GoodIn wsX1_meltADay (wsV RX1 105 RX5 yX5_hasThing wsX5_hasThing) := goodIn_app (goodIn_of _ (by decide +kernel)) ggX1_meltADay_X5_hasThing
set_option maxRecDepth 20000 in
theorem ggX1_meltADay_X1_putAt : GoodIn wsX1_meltADay wsX1_putAt := goodIn_r _ [19, 20, 21, 22, 23, 24, 25, 26, 27, 28, 29] (by decide +kernel) (by decide +kernel)
set_option maxRecDepth 20000 in
theorem gX1_meltADay_X1_putAt : GoodIn wsX1_meltADay (wsV RX1 47 RX1 yX1_putAt wsX1_putAt) := goodIn_app (goodIn_of _ (by decide +kernel)) ggX1_meltADay_X1_putAt
theorem dX1_meltADay_0 : decode cX1_meltADay 0 = .ok (.aload_n 0, 1) := by decide +kernel
theorem dX1_meltADay_1 : decode cX1_meltADay 1 = .ok (.getfield 38, 3) := by decide +kernel
theorem dX1_meltADay_4 : decode cX1_meltADay 4 = .ok (.iconst 1, 1) := by decide +kernel
theorem dX1_meltADay_5 : decode cX1_meltADay 5 = .ok (.if_icmp .lt 12, 3) := by decide +kernel
theorem dX1_meltADay_8 : decode cX1_meltADay 8 = .ok (.aload_n 0, 1) := by decide +kernel
theorem dX1_meltADay_9 : decode cX1_meltADay 9 = .ok (.getfield 38, 3) := by decide +kernel
theorem dX1_meltADay_12 : decode cX1_meltADay 12 = .ok (.bipush 8, 2) := by decide +kernel
theorem dX1_meltADay_14 : decode cX1_meltADay 14 = .ok (.if_icmp .le 17, 3) := by decide +kernel
theorem dX1_meltADay_17 : decode cX1_meltADay 17 = .ok (.aload_n 0, 1) := by decide +kernel
theorem dX1_meltADay_18 : decode cX1_meltADay 18 = .ok (.aload_n 0, 1) := by decide +kernel
theorem dX1_meltADay_19 : decode cX1_meltADay 19 = .ok (.getfield 21, 3) := by decide +kernel
theorem dX1_meltADay_22 : decode cX1_meltADay 22 = .ok (.bipush 10, 2) := by decide +kernel
theorem dX1_meltADay_24 : decode cX1_meltADay 24 = .ok (.idiv, 1) := by decide +kernel
theorem dX1_meltADay_25 : decode cX1_meltADay 25 = .ok (.iconst 1, 1) := by decide +kernel
theorem dX1_meltADay_26 : decode cX1_meltADay 26 = .ok (.iadd, 1) := by decide +kernel
theorem dX1_meltADay_27 : decode cX1_meltADay 27 = .ok (.invokevirtual 102, 3) := by decide +kernel
theorem dX1_meltADay_30 : decode cX1_meltADay 30 = .ok (.return_, 1) := by decide +kernel
theorem dX1_meltADay_31 : decode cX1_meltADay 31 = .ok (.aload_n 0, 1) := by decide +kernel
theorem dX1_meltADay_32 : decode cX1_meltADay 32 = .ok (.dup, 1) := by decide +kernel
theorem dX1_meltADay_33 : decode cX1_meltADay 33 = .ok (.getfield 38, 3) := by decide +kernel
theorem dX1_meltADay_36 : decode cX1_meltADay 36 = .ok (.iconst 1, 1) := by decide +kernel
theorem dX1_meltADay_37 : decode cX1_meltADay 37 = .ok (.isub, 1) := by decide +kernel
theorem dX1_meltADay_38 : decode cX1_meltADay 38 = .ok (.putfield 38, 3) := by decide +kernel
theorem dX1_meltADay_41 : decode cX1_meltADay 41 = .ok (.aload_n 0, 1) := by decide +kernel
theorem dX1_meltADay_42 : decode cX1_meltADay 42 = .ok (.getfield 18, 3) := by decide +kernel
theorem dX1_meltADay_45 : decode cX1_meltADay 45 = .ok (.aload_n 0, 1) := by decide +kernel
theorem dX1_meltADay_46 : decode cX1_meltADay 46 = .ok (.getfield 38, 3) := by decide +kernel
theorem dX1_meltADay_49 : decode cX1_meltADay 49 = .ok (.iaload, 1) := by decide +kernel
theorem dX1_meltADay_50 : decode cX1_meltADay 50 = .ok (.istore_n 2, 1) := by decide +kernel
theorem dX1_meltADay_51 : decode cX1_meltADay 51 = .ok (.aload_n 1, 1) := by decide +kernel
theorem dX1_meltADay_52 : decode cX1_meltADay 52 = .ok (.iload_n 2, 1) := by decide +kernel
theorem dX1_meltADay_53 : decode cX1_meltADay 53 = .ok (.invokevirtual 105, 3) := by decide +kernel
theorem dX1_meltADay_56 : decode cX1_meltADay 56 = .ok (.ifCond .eq 22, 3) := by decide +kernel
theorem dX1_meltADay_59 : decode cX1_meltADay 59 = .ok (.aload_n 0, 1) := by decide +kernel
theorem dX1_meltADay_60 : decode cX1_meltADay 60 = .ok (.iload_n 2, 1) := by decide +kernel
theorem dX1_meltADay_61 : decode cX1_meltADay 61 = .ok (.bipush (-2), 2) := by decide +kernel
theorem dX1_meltADay_63 : decode cX1_meltADay 63 = .ok (.invokevirtual 47, 3) := by decide +kernel
theorem dX1_meltADay_66 : decode cX1_meltADay 66 = .ok (.aload_n 0, 1) := by decide +kernel
theorem dX1_meltADay_67 : decode cX1_meltADay 67 = .ok (.aload_n 1, 1) := by decide +kernel
theorem dX1_meltADay_68 : decode cX1_meltADay 68 = .ok (.getfield 92, 3) := by decide +kernel
theorem dX1_meltADay_71 : decode cX1_meltADay 71 = .ok (.iload_n 2, 1) := by decide +kernel
theorem dX1_meltADay_72 : decode cX1_meltADay 72 = .ok (.iaload, 1) := by decide +kernel
theorem dX1_meltADay_73 : decode cX1_meltADay 73 = .ok (.iconst 1, 1) := by decide +kernel
theorem dX1_meltADay_74 : decode cX1_meltADay 74 = .ok (.iadd, 1) := by decide +kernel
theorem dX1_meltADay_75 : decode cX1_meltADay 75 = .ok (.invokevirtual 102, 3) := by decide +kernel
theorem dX1_meltADay_78 : decode cX1_meltADay 78 = .ok (.return_, 1) := by decide +kernel
theorem dX1_snowFallsAt_0 : decode cX1_snowFallsAt 0 = .ok (.iload_n 1, 1) := by decide +kernel
theorem dX1_snowFallsAt_1 : decode cX1_snowFallsAt 1 = .ok (.ifCond .lt 28, 3) := by decide +kernel
theorem dX1_snowFallsAt_4 : decode cX1_snowFallsAt 4 = .ok (.iload_n 1, 1) := by decide +kernel
theorem dX1_snowFallsAt_5 : decode cX1_snowFallsAt 5 = .ok (.bipush 24, 2) := by decide +kernel
theorem dX1_snowFallsAt_7 : decode cX1_snowFallsAt 7 = .ok (.if_icmp .ge 22, 3) := by decide +kernel
theorem dX1_snowFallsAt_10 : decode cX1_snowFallsAt 10 = .ok (.aload_n 0, 1) := by decide +kernel
theorem dX1_snowFallsAt_11 : decode cX1_snowFallsAt 11 = .ok (.getfield 9, 3) := by decide +kernel
theorem dX1_snowFallsAt_14 : decode cX1_snowFallsAt 14 = .ok (.iload_n 1, 1) := by decide +kernel
theorem dX1_snowFallsAt_15 : decode cX1_snowFallsAt 15 = .ok (.bipush 9, 2) := by decide +kernel
theorem dX1_snowFallsAt_17 : decode cX1_snowFallsAt 17 = .ok (.aload_n 0, 1) := by decide +kernel
theorem dX1_snowFallsAt_18 : decode cX1_snowFallsAt 18 = .ok (.getfield 9, 3) := by decide +kernel
theorem dX1_snowFallsAt_21 : decode cX1_snowFallsAt 21 = .ok (.iload_n 1, 1) := by decide +kernel
theorem dX1_snowFallsAt_22 : decode cX1_snowFallsAt 22 = .ok (.iaload, 1) := by decide +kernel
theorem dX1_snowFallsAt_23 : decode cX1_snowFallsAt 23 = .ok (.iload_n 2, 1) := by decide +kernel
theorem dX1_snowFallsAt_24 : decode cX1_snowFallsAt 24 = .ok (.iadd, 1) := by decide +kernel
theorem dX1_snowFallsAt_25 : decode cX1_snowFallsAt 25 = .ok (.invokestatic 66, 3) := by decide +kernel
theorem dX1_snowFallsAt_28 : decode cX1_snowFallsAt 28 = .ok (.iastore, 1) := by decide +kernel
theorem dX1_snowFallsAt_29 : decode cX1_snowFallsAt 29 = .ok (.return_, 1) := by decide +kernel
set_option maxRecDepth 20000 in
theorem ggX1_driftOnce_X1_snowFallsAt : GoodIn wsX1_driftOnce wsX1_snowFallsAt := goodIn_r _ [10, 11, 12, 13, 14, 15, 16, 17, 18, 19, 20, 21, 22, 23, 24] (by decide +kernel) (by decide +kernel)
set_option maxRecDepth 20000 in
theorem gX1_driftOnce_X1_snowFallsAt : GoodIn wsX1_driftOnce (wsV RX1 111 RX1 yX1_snowFallsAt wsX1_snowFallsAt) := goodIn_app (goodIn_of _ (by decide +kernel)) ggX1_driftOnce_X1_snowFallsAt
theorem dX1_driftOnce_0 : decode cX1_driftOnce 0 = .ok (.aload_n 0, 1) := by decide +kernel
theorem dX1_driftOnce_1 : decode cX1_driftOnce 1 = .ok (.aload_n 0, 1) := by decide +kernel
theorem dX1_driftOnce_2 : decode cX1_driftOnce 2 = .ok (.getfield 29, 3) := by decide +kernel
theorem dX1_driftOnce_5 : decode cX1_driftOnce 5 = .ok (.ldc 108, 2) := by decide +kernel
theorem dX1_driftOnce_7 : decode cX1_driftOnce 7 = .ok (.imul, 1) := by decide +kernel
theorem dX1_driftOnce_8 : decode cX1_driftOnce 8 = .ok (.sipush 12345, 3) := by decide +kernel
theorem dX1_driftOnce_11 : decode cX1_driftOnce 11 = .ok (.iadd, 1) := by decide +kernel
theorem dX1_driftOnce_12 : decode cX1_driftOnce 12 = .ok (.ldc 109, 2) := by decide +kernel
theorem dX1_driftOnce_14 : decode cX1_driftOnce 14 = .ok (.iand, 1) := by decide +kernel
theorem dX1_driftOnce_15 : decode cX1_driftOnce 15 = .ok (.putfield 29, 3) := by decide +kernel
theorem dX1_driftOnce_18 : decode cX1_driftOnce 18 = .ok (.aload_n 1, 1) := by decide +kernel
theorem dX1_driftOnce_19 : decode cX1_driftOnce 19 = .ok (.getfield 83, 3) := by decide +kernel
theorem dX1_driftOnce_22 : decode cX1_driftOnce 22 = .ok (.ifCond .le 20, 3) := by decide +kernel
theorem dX1_driftOnce_25 : decode cX1_driftOnce 25 = .ok (.aload_n 0, 1) := by decide +kernel
theorem dX1_driftOnce_26 : decode cX1_driftOnce 26 = .ok (.aload_n 0, 1) := by decide +kernel
theorem dX1_driftOnce_27 : decode cX1_driftOnce 27 = .ok (.getfield 29, 3) := by decide +kernel
theorem dX1_driftOnce_30 : decode cX1_driftOnce 30 = .ok (.ldc 110, 2) := by decide +kernel
theorem dX1_driftOnce_32 : decode cX1_driftOnce 32 = .ok (.idiv, 1) := by decide +kernel
theorem dX1_driftOnce_33 : decode cX1_driftOnce 33 = .ok (.aload_n 1, 1) := by decide +kernel
theorem dX1_driftOnce_34 : decode cX1_driftOnce 34 = .ok (.getfield 83, 3) := by decide +kernel
theorem dX1_driftOnce_37 : decode cX1_driftOnce 37 = .ok (.irem, 1) := by decide +kernel
theorem dX1_driftOnce_38 : decode cX1_driftOnce 38 = .ok (.iconst 1, 1) := by decide +kernel
theorem dX1_driftOnce_39 : decode cX1_driftOnce 39 = .ok (.invokevirtual 111, 3) := by decide +kernel
theorem dX1_driftOnce_42 : decode cX1_driftOnce 42 = .ok (.return_, 1) := by decide +kernel
theorem dX1_snowOfAll_0 : decode cX1_snowOfAll 0 = .ok (.iconst 0, 1) := by decide +kernel
theorem dX1_snowOfAll_1 : decode cX1_snowOfAll 1 = .ok (.istore_n 2, 1) := by decide +kernel
theorem dX1_snowOfAll_2 : decode cX1_snowOfAll 2 = .ok (.iconst 0, 1) := by decide +kernel
theorem dX1_snowOfAll_3 : decode cX1_snowOfAll 3 = .ok (.istore_n 3, 1) := by decide +kernel
theorem dX1_snowOfAll_4 : decode cX1_snowOfAll 4 = .ok (.iload_n 3, 1) := by decide +kernel
theorem dX1_snowOfAll_5 : decode cX1_snowOfAll 5 = .ok (.bipush 24, 2) := by decide +kernel
theorem dX1_snowOfAll_7 : decode cX1_snowOfAll 7 = .ok (.if_icmp .ge 26, 3) := by decide +kernel
theorem dX1_snowOfAll_10 : decode cX1_snowOfAll 10 = .ok (.iload_n 3, 1) := by decide +kernel
theorem dX1_snowOfAll_11 : decode cX1_snowOfAll 11 = .ok (.aload_n 1, 1) := by decide +kernel
theorem dX1_snowOfAll_12 : decode cX1_snowOfAll 12 = .ok (.getfield 83, 3) := by decide +kernel
theorem dX1_snowOfAll_15 : decode cX1_snowOfAll 15 = .ok (.if_icmp .ge 18, 3) := by decide +kernel
theorem dX1_snowOfAll_18 : decode cX1_snowOfAll 18 = .ok (.iload_n 2, 1) := by decide +kernel
theorem dX1_snowOfAll_19 : decode cX1_snowOfAll 19 = .ok (.aload_n 0, 1) := by decide +kernel
theorem dX1_snowOfAll_20 : decode cX1_snowOfAll 20 = .ok (.getfield 9, 3) := by decide +kernel
theorem dX1_snowOfAll_23 : decode cX1_snowOfAll 23 = .ok (.iload_n 3, 1) := by decide +kernel
theorem dX1_snowOfAll_24 : decode cX1_snowOfAll 24 = .ok (.iaload, 1) := by decide +kernel
theorem dX1_snowOfAll_25 : decode cX1_snowOfAll 25 = .ok (.iadd, 1) := by decide +kernel
theorem dX1_snowOfAll_26 : decode cX1_snowOfAll 26 = .ok (.istore_n 2, 1) := by decide +kernel
theorem dX1_snowOfAll_27 : decode cX1_snowOfAll 27 = .ok (.iinc 3 1, 3) := by decide +kernel
theorem dX1_snowOfAll_30 : decode cX1_snowOfAll 30 = .ok (.goto (-26), 3) := by decide +kernel
theorem dX1_snowOfAll_33 : decode cX1_snowOfAll 33 = .ok (.iload_n 2, 1) := by decide +kernel
theorem dX1_snowOfAll_34 : decode cX1_snowOfAll 34 = .ok (.ireturn, 1) := by decide +kernel
theorem dX1_thingsWhere_0 : decode cX1_thingsWhere 0 = .ok (.iconst 0, 1) := by decide +kernel
theorem dX1_thingsWhere_1 : decode cX1_thingsWhere 1 = .ok (.istore_n 3, 1) := by decide +kernel
theorem dX1_thingsWhere_2 : decode cX1_thingsWhere 2 = .ok (.iconst 0, 1) := by decide +kernel
theorem dX1_thingsWhere_3 : decode cX1_thingsWhere 3 = .ok (.istore 4, 2) := by decide +kernel
theorem dX1_thingsWhere_5 : decode cX1_thingsWhere 5 = .ok (.iload 4, 2) := by decide +kernel
theorem dX1_thingsWhere_7 : decode cX1_thingsWhere 7 = .ok (.bipush 8, 2) := by decide +kernel
theorem dX1_thingsWhere_9 : decode cX1_thingsWhere 9 = .ok (.if_icmp .ge 36, 3) := by decide +kernel
theorem dX1_thingsWhere_12 : decode cX1_thingsWhere 12 = .ok (.iload 4, 2) := by decide +kernel
theorem dX1_thingsWhere_14 : decode cX1_thingsWhere 14 = .ok (.aload_n 1, 1) := by decide +kernel
theorem dX1_thingsWhere_15 : decode cX1_thingsWhere 15 = .ok (.getfield 86, 3) := by decide +kernel
theorem dX1_thingsWhere_18 : decode cX1_thingsWhere 18 = .ok (.if_icmp .ge 27, 3) := by decide +kernel
theorem dX1_thingsWhere_21 : decode cX1_thingsWhere 21 = .ok (.aload_n 0, 1) := by decide +kernel
theorem dX1_thingsWhere_22 : decode cX1_thingsWhere 22 = .ok (.getfield 15, 3) := by decide +kernel
theorem dX1_thingsWhere_25 : decode cX1_thingsWhere 25 = .ok (.iload 4, 2) := by decide +kernel
theorem dX1_thingsWhere_27 : decode cX1_thingsWhere 27 = .ok (.iaload, 1) := by decide +kernel
theorem dX1_thingsWhere_28 : decode cX1_thingsWhere 28 = .ok (.iload_n 2, 1) := by decide +kernel
theorem dX1_thingsWhere_29 : decode cX1_thingsWhere 29 = .ok (.if_icmp .ne 10, 3) := by decide +kernel
theorem dX1_thingsWhere_32 : decode cX1_thingsWhere 32 = .ok (.iload_n 3, 1) := by decide +kernel
theorem dX1_thingsWhere_33 : decode cX1_thingsWhere 33 = .ok (.iconst 1, 1) := by decide +kernel
theorem dX1_thingsWhere_34 : decode cX1_thingsWhere 34 = .ok (.iload 4, 2) := by decide +kernel
theorem dX1_thingsWhere_36 : decode cX1_thingsWhere 36 = .ok (.ishl, 1) := by decide +kernel
theorem dX1_thingsWhere_37 : decode cX1_thingsWhere 37 = .ok (.ior, 1) := by decide +kernel
theorem dX1_thingsWhere_38 : decode cX1_thingsWhere 38 = .ok (.istore_n 3, 1) := by decide +kernel
theorem dX1_thingsWhere_39 : decode cX1_thingsWhere 39 = .ok (.iinc 4 1, 3) := by decide +kernel
theorem dX1_thingsWhere_42 : decode cX1_thingsWhere 42 = .ok (.goto (-37), 3) := by decide +kernel
theorem dX1_thingsWhere_45 : decode cX1_thingsWhere 45 = .ok (.iload_n 3, 1) := by decide +kernel
theorem dX1_thingsWhere_46 : decode cX1_thingsWhere 46 = .ok (.ireturn, 1) := by decide +kernel
theorem dX1_thingsThatLie_0 : decode cX1_thingsThatLie 0 = .ok (.iconst 0, 1) := by decide +kernel
theorem dX1_thingsThatLie_1 : decode cX1_thingsThatLie 1 = .ok (.istore_n 2, 1) := by decide +kernel
theorem dX1_thingsThatLie_2 : decode cX1_thingsThatLie 2 = .ok (.iconst 0, 1) := by decide +kernel
theorem dX1_thingsThatLie_3 : decode cX1_thingsThatLie 3 = .ok (.istore_n 3, 1) := by decide +kernel
theorem dX1_thingsThatLie_4 : decode cX1_thingsThatLie 4 = .ok (.iload_n 3, 1) := by decide +kernel
theorem dX1_thingsThatLie_5 : decode cX1_thingsThatLie 5 = .ok (.bipush 8, 2) := by decide +kernel
theorem dX1_thingsThatLie_7 : decode cX1_thingsThatLie 7 = .ok (.if_icmp .ge 32, 3) := by decide +kernel
theorem dX1_thingsThatLie_10 : decode cX1_thingsThatLie 10 = .ok (.iload_n 3, 1) := by decide +kernel
theorem dX1_thingsThatLie_11 : decode cX1_thingsThatLie 11 = .ok (.aload_n 1, 1) := by decide +kernel
theorem dX1_thingsThatLie_12 : decode cX1_thingsThatLie 12 = .ok (.getfield 86, 3) := by decide +kernel
theorem dX1_thingsThatLie_15 : decode cX1_thingsThatLie 15 = .ok (.if_icmp .ge 24, 3) := by decide +kernel
theorem dX1_thingsThatLie_18 : decode cX1_thingsThatLie 18 = .ok (.aload_n 0, 1) := by decide +kernel
theorem dX1_thingsThatLie_19 : decode cX1_thingsThatLie 19 = .ok (.getfield 15, 3) := by decide +kernel
theorem dX1_thingsThatLie_22 : decode cX1_thingsThatLie 22 = .ok (.iload_n 3, 1) := by decide +kernel
theorem dX1_thingsThatLie_23 : decode cX1_thingsThatLie 23 = .ok (.iaload, 1) := by decide +kernel
theorem dX1_thingsThatLie_24 : decode cX1_thingsThatLie 24 = .ok (.ifCond .lt 9, 3) := by decide +kernel
theorem dX1_thingsThatLie_27 : decode cX1_thingsThatLie 27 = .ok (.iload_n 2, 1) := by decide +kernel
theorem dX1_thingsThatLie_28 : decode cX1_thingsThatLie 28 = .ok (.iconst 1, 1) := by decide +kernel
theorem dX1_thingsThatLie_29 : decode cX1_thingsThatLie 29 = .ok (.iload_n 3, 1) := by decide +kernel
theorem dX1_thingsThatLie_30 : decode cX1_thingsThatLie 30 = .ok (.ishl, 1) := by decide +kernel
theorem dX1_thingsThatLie_31 : decode cX1_thingsThatLie 31 = .ok (.ior, 1) := by decide +kernel
theorem dX1_thingsThatLie_32 : decode cX1_thingsThatLie 32 = .ok (.istore_n 2, 1) := by decide +kernel
theorem dX1_thingsThatLie_33 : decode cX1_thingsThatLie 33 = .ok (.iinc 3 1, 3) := by decide +kernel
theorem dX1_thingsThatLie_36 : decode cX1_thingsThatLie 36 = .ok (.goto (-32), 3) := by decide +kernel
theorem dX1_thingsThatLie_39 : decode cX1_thingsThatLie 39 = .ok (.iload_n 2, 1) := by decide +kernel
theorem dX1_thingsThatLie_40 : decode cX1_thingsThatLie 40 = .ok (.ireturn, 1) := by decide +kernel
theorem dX1_takenUpAs_0 : decode cX1_takenUpAs 0 = .ok (.iload_n 1, 1) := by decide +kernel
theorem dX1_takenUpAs_1 : decode cX1_takenUpAs 1 = .ok (.ifCond .lt 26, 3) := by decide +kernel
theorem dX1_takenUpAs_4 : decode cX1_takenUpAs 4 = .ok (.iload_n 1, 1) := by decide +kernel
theorem dX1_takenUpAs_5 : decode cX1_takenUpAs 5 = .ok (.aload_n 0, 1) := by decide +kernel
theorem dX1_takenUpAs_6 : decode cX1_takenUpAs 6 = .ok (.getfield 38, 3) := by decide +kernel
theorem dX1_takenUpAs_9 : decode cX1_takenUpAs 9 = .ok (.if_icmp .ge 18, 3) := by decide +kernel
theorem dX1_takenUpAs_12 : decode cX1_takenUpAs 12 = .ok (.iload_n 1, 1) := by decide +kernel
theorem dX1_takenUpAs_13 : decode cX1_takenUpAs 13 = .ok (.bipush 8, 2) := by decide +kernel
theorem dX1_takenUpAs_15 : decode cX1_takenUpAs 15 = .ok (.if_icmp .ge 12, 3) := by decide +kernel
theorem dX1_takenUpAs_18 : decode cX1_takenUpAs 18 = .ok (.aload_n 0, 1) := by decide +kernel
theorem dX1_takenUpAs_19 : decode cX1_takenUpAs 19 = .ok (.getfield 18, 3) := by decide +kernel
theorem dX1_takenUpAs_22 : decode cX1_takenUpAs 22 = .ok (.iload_n 1, 1) := by decide +kernel
theorem dX1_takenUpAs_23 : decode cX1_takenUpAs 23 = .ok (.iaload, 1) := by decide +kernel
theorem dX1_takenUpAs_24 : decode cX1_takenUpAs 24 = .ok (.goto 5, 3) := by decide +kernel
theorem dX1_takenUpAs_27 : decode cX1_takenUpAs 27 = .ok (.bipush (-4), 2) := by decide +kernel
theorem dX1_takenUpAs_29 : decode cX1_takenUpAs 29 = .ok (.ireturn, 1) := by decide +kernel
theorem dX1_placeInOrder_0 : decode cX1_placeInOrder 0 = .ok (.iconst 0, 1) := by decide +kernel
theorem dX1_placeInOrder_1 : decode cX1_placeInOrder 1 = .ok (.istore_n 2, 1) := by decide +kernel
theorem dX1_placeInOrder_2 : decode cX1_placeInOrder 2 = .ok (.iload_n 2, 1) := by decide +kernel
theorem dX1_placeInOrder_3 : decode cX1_placeInOrder 3 = .ok (.bipush 8, 2) := by decide +kernel
theorem dX1_placeInOrder_5 : decode cX1_placeInOrder 5 = .ok (.if_icmp .ge 29, 3) := by decide +kernel
theorem dX1_placeInOrder_8 : decode cX1_placeInOrder 8 = .ok (.iload_n 2, 1) := by decide +kernel
theorem dX1_placeInOrder_9 : decode cX1_placeInOrder 9 = .ok (.aload_n 0, 1) := by decide +kernel
theorem dX1_placeInOrder_10 : decode cX1_placeInOrder 10 = .ok (.getfield 38, 3) := by decide +kernel
theorem dX1_placeInOrder_13 : decode cX1_placeInOrder 13 = .ok (.if_icmp .ge 21, 3) := by decide +kernel
theorem dX1_placeInOrder_16 : decode cX1_placeInOrder 16 = .ok (.aload_n 0, 1) := by decide +kernel
theorem dX1_placeInOrder_17 : decode cX1_placeInOrder 17 = .ok (.getfield 18, 3) := by decide +kernel
theorem dX1_placeInOrder_20 : decode cX1_placeInOrder 20 = .ok (.iload_n 2, 1) := by decide +kernel
theorem dX1_placeInOrder_21 : decode cX1_placeInOrder 21 = .ok (.iaload, 1) := by decide +kernel
theorem dX1_placeInOrder_22 : decode cX1_placeInOrder 22 = .ok (.iload_n 1, 1) := by decide +kernel
theorem dX1_placeInOrder_23 : decode cX1_placeInOrder 23 = .ok (.if_icmp .ne 5, 3) := by decide +kernel
theorem dX1_placeInOrder_26 : decode cX1_placeInOrder 26 = .ok (.iload_n 2, 1) := by decide +kernel
theorem dX1_placeInOrder_27 : decode cX1_placeInOrder 27 = .ok (.ireturn, 1) := by decide +kernel
theorem dX1_placeInOrder_28 : decode cX1_placeInOrder 28 = .ok (.iinc 2 1, 3) := by decide +kernel
theorem dX1_placeInOrder_31 : decode cX1_placeInOrder 31 = .ok (.goto (-29), 3) := by decide +kernel
theorem dX1_placeInOrder_34 : decode cX1_placeInOrder 34 = .ok (.bipush (-4), 2) := by decide +kernel
theorem dX1_placeInOrder_36 : decode cX1_placeInOrder 36 = .ok (.ireturn, 1) := by decide +kernel
theorem dX2_init_0 : decode cX2_init 0 = .ok (.aload_n 0, 1) := by decide +kernel
theorem dX2_init_1 : decode cX2_init 1 = .ok (.invokespecial 3, 3) := by decide +kernel
theorem dX2_init_4 : decode cX2_init 4 = .ok (.aload_n 0, 1) := by decide +kernel
theorem dX2_init_5 : decode cX2_init 5 = .ok (.bipush 24, 2) := by decide +kernel
theorem dX2_init_7 : decode cX2_init 7 = .ok (.newarray .long, 2) := by decide +kernel
theorem dX2_init_9 : decode cX2_init 9 = .ok (.putfield 9, 3) := by decide +kernel
theorem dX2_init_12 : decode cX2_init 12 = .ok (.aload_n 0, 1) := by decide +kernel
theorem dX2_init_13 : decode cX2_init 13 = .ok (.iconst (-1), 1) := by decide +kernel
theorem dX2_init_14 : decode cX2_init 14 = .ok (.putfield 15, 3) := by decide +kernel
theorem dX2_init_17 : decode cX2_init 17 = .ok (.return_, 1) := by decide +kernel
theorem dX2_holdNewRow_0 : decode cX2_holdNewRow 0 = .ok (.aload_n 0, 1) := by decide +kernel
theorem dX2_holdNewRow_1 : decode cX2_holdNewRow 1 = .ok (.iload_n 1, 1) := by decide +kernel
theorem dX2_holdNewRow_2 : decode cX2_holdNewRow 2 = .ok (.putfield 15, 3) := by decide +kernel
theorem dX2_holdNewRow_5 : decode cX2_holdNewRow 5 = .ok (.aload_n 0, 1) := by decide +kernel
theorem dX2_holdNewRow_6 : decode cX2_holdNewRow 6 = .ok (.bipush 24, 2) := by decide +kernel
theorem dX2_holdNewRow_8 : decode cX2_holdNewRow 8 = .ok (.iconst 0, 1) := by decide +kernel
theorem dX2_holdNewRow_9 : decode cX2_holdNewRow 9 = .ok (.iload_n 2, 1) := by decide +kernel
theorem dX2_holdNewRow_10 : decode cX2_holdNewRow 10 = .ok (.invokestatic 19, 3) := by decide +kernel
theorem dX2_holdNewRow_13 : decode cX2_holdNewRow 13 = .ok (.invokestatic 25, 3) := by decide +kernel
theorem dX2_holdNewRow_16 : decode cX2_holdNewRow 16 = .ok (.putfield 28, 3) := by decide +kernel
theorem dX2_holdNewRow_19 : decode cX2_holdNewRow 19 = .ok (.iconst 0, 1) := by decide +kernel
theorem dX2_holdNewRow_20 : decode cX2_holdNewRow 20 = .ok (.istore_n 3, 1) := by decide +kernel
theorem dX2_holdNewRow_21 : decode cX2_holdNewRow 21 = .ok (.iload_n 3, 1) := by decide +kernel
theorem dX2_holdNewRow_22 : decode cX2_holdNewRow 22 = .ok (.bipush 24, 2) := by decide +kernel
theorem dX2_holdNewRow_24 : decode cX2_holdNewRow 24 = .ok (.if_icmp .ge 16, 3) := by decide +kernel
theorem dX2_holdNewRow_27 : decode cX2_holdNewRow 27 = .ok (.aload_n 0, 1) := by decide +kernel
theorem dX2_holdNewRow_28 : decode cX2_holdNewRow 28 = .ok (.getfield 9, 3) := by decide +kernel
theorem dX2_holdNewRow_31 : decode cX2_holdNewRow 31 = .ok (.iload_n 3, 1) := by decide +kernel
theorem dX2_holdNewRow_32 : decode cX2_holdNewRow 32 = .ok (.lconst 0, 1) := by decide +kernel
theorem dX2_holdNewRow_33 : decode cX2_holdNewRow 33 = .ok (.lastore, 1) := by decide +kernel
theorem dX2_holdNewRow_34 : decode cX2_holdNewRow 34 = .ok (.iinc 3 1, 3) := by decide +kernel
theorem dX2_holdNewRow_37 : decode cX2_holdNewRow 37 = .ok (.goto (-16), 3) := by decide +kernel
theorem dX2_holdNewRow_40 : decode cX2_holdNewRow 40 = .ok (.return_, 1) := by decide +kernel
theorem dX2_holdNothing_0 : decode cX2_holdNothing 0 = .ok (.aload_n 0, 1) := by decide +kernel
theorem dX2_holdNothing_1 : decode cX2_holdNothing 1 = .ok (.iconst (-1), 1) := by decide +kernel
theorem dX2_holdNothing_2 : decode cX2_holdNothing 2 = .ok (.putfield 15, 3) := by decide +kernel
theorem dX2_holdNothing_5 : decode cX2_holdNothing 5 = .ok (.aload_n 0, 1) := by decide +kernel
theorem dX2_holdNothing_6 : decode cX2_holdNothing 6 = .ok (.iconst 0, 1) := by decide +kernel
theorem dX2_holdNothing_7 : decode cX2_holdNothing 7 = .ok (.putfield 28, 3) := by decide +kernel
theorem dX2_holdNothing_10 : decode cX2_holdNothing 10 = .ok (.return_, 1) := by decide +kernel
theorem dX2_hasItems_0 : decode cX2_hasItems 0 = .ok (.iload_n 1, 1) := by decide +kernel
theorem dX2_hasItems_1 : decode cX2_hasItems 1 = .ok (.ifCond .lt 21, 3) := by decide +kernel
theorem dX2_hasItems_4 : decode cX2_hasItems 4 = .ok (.iload_n 2, 1) := by decide +kernel
theorem dX2_hasItems_5 : decode cX2_hasItems 5 = .ok (.ifCond .lt 17, 3) := by decide +kernel
theorem dX2_hasItems_8 : decode cX2_hasItems 8 = .ok (.iload_n 1, 1) := by decide +kernel
theorem dX2_hasItems_9 : decode cX2_hasItems 9 = .ok (.aload_n 0, 1) := by decide +kernel
theorem dX2_hasItems_10 : decode cX2_hasItems 10 = .ok (.getfield 28, 3) := by decide +kernel
theorem dX2_hasItems_13 : decode cX2_hasItems 13 = .ok (.iload_n 2, 1) := by decide +kernel
theorem dX2_hasItems_14 : decode cX2_hasItems 14 = .ok (.isub, 1) := by decide +kernel
theorem dX2_hasItems_15 : decode cX2_hasItems 15 = .ok (.if_icmp .gt 7, 3) := by decide +kernel
theorem dX2_hasItems_18 : decode cX2_hasItems 18 = .ok (.iconst 1, 1) := by decide +kernel
theorem dX2_hasItems_19 : decode cX2_hasItems 19 = .ok (.goto 4, 3) := by decide +kernel
theorem dX2_hasItems_22 : decode cX2_hasItems 22 = .ok (.iconst 0, 1) := by decide +kernel
theorem dX2_hasItems_23 : decode cX2_hasItems 23 = .ok (.ireturn, 1) := by decide +kernel
set_option maxRecDepth 20000 in
theorem ggX2_refusal_X2_hasItems : GoodIn wsX2_refusal wsX2_hasItems := goodIn_r _ [6, 7, 8, 9, 10] (by decide +kernel) (by decide +kernel)
set_option maxRecDepth 20000 in
theorem gX2_refusal_X2_hasItems : GoodIn wsX2_refusal (wsV RX2 31 RX2 yX2_hasItems wsX2_hasItems) := goodIn_app (goodIn_of _ (by decide +kernel)) ggX2_refusal_X2_hasItems
theorem dX2_refusal_0 : decode cX2_refusal 0 = .ok (.aload_n 0, 1) := by decide +kernel
theorem dX2_refusal_1 : decode cX2_refusal 1 = .ok (.getfield 15, 3) := by decide +kernel
theorem dX2_refusal_4 : decode cX2_refusal 4 = .ok (.iconst (-1), 1) := by decide +kernel
theorem dX2_refusal_5 : decode cX2_refusal 5 = .ok (.if_icmp .ne 6, 3) := by decide +kernel
theorem dX2_refusal_8 : decode cX2_refusal 8 = .ok (.bipush (-11), 2) := by decide +kernel
theorem dX2_refusal_10 : decode cX2_refusal 10 = .ok (.ireturn, 1) := by decide +kernel
theorem dX2_refusal_11 : decode cX2_refusal 11 = .ok (.aload_n 0, 1) := by decide +kernel
theorem dX2_refusal_12 : decode cX2_refusal 12 = .ok (.getfield 15, 3) := by decide +kernel
theorem dX2_refusal_15 : decode cX2_refusal 15 = .ok (.iload_n 1, 1) := by decide +kernel
theorem dX2_refusal_16 : decode cX2_refusal 16 = .ok (.if_icmp .eq 6, 3) := by decide +kernel
theorem dX2_refusal_19 : decode cX2_refusal 19 = .ok (.bipush (-12), 2) := by decide +kernel
theorem dX2_refusal_21 : decode cX2_refusal 21 = .ok (.ireturn, 1) := by decide +kernel
theorem dX2_refusal_22 : decode cX2_refusal 22 = .ok (.aload_n 0, 1) := by decide +kernel
theorem dX2_refusal_23 : decode cX2_refusal 23 = .ok (.iload_n 2, 1) := by decide +kernel
theorem dX2_refusal_24 : decode cX2_refusal 24 = .ok (.iload_n 3, 1) := by decide +kernel
theorem dX2_refusal_25 : decode cX2_refusal 25 = .ok (.invokevirtual 31, 3) := by decide +kernel
theorem dX2_refusal_28 : decode cX2_refusal 28 = .ok (.ifCond .eq 7, 3) := by decide +kernel
theorem dX2_refusal_31 : decode cX2_refusal 31 = .ok (.iconst 0, 1) := by decide +kernel
theorem dX2_refusal_32 : decode cX2_refusal 32 = .ok (.goto 5, 3) := by decide +kernel
theorem dX2_refusal_35 : decode cX2_refusal 35 = .ok (.bipush (-13), 2) := by decide +kernel
theorem dX2_refusal_37 : decode cX2_refusal 37 = .ok (.ireturn, 1) := by decide +kernel
set_option maxRecDepth 20000 in
theorem ggX2_put_X2_hasItems : GoodIn wsX2_put wsX2_hasItems := goodIn_r _ [6, 7, 13, 14, 15] (by decide +kernel) (by decide +kernel)
set_option maxRecDepth 20000 in
theorem gX2_put_X2_hasItems : GoodIn wsX2_put (wsV RX2 31 RX2 yX2_hasItems wsX2_hasItems) := goodIn_app (goodIn_of _ (by decide +kernel)) ggX2_put_X2_hasItems
set_option maxRecDepth 20000 in
theorem ggX2_put_X2_lowestBits : GoodIn wsX2_put wsX2_lowestBits := goodIn_r _ [11, 12, 13, 14, 15] (by decide +kernel) (by decide +kernel)
set_option maxRecDepth 20000 in
theorem gX2_put_X2_lowestBits : GoodIn wsX2_put (wsV RX2 35 RX2 yX2_lowestBits wsX2_lowestBits) := goodIn_app (goodIn_of _ (by decide +kernel)) ggX2_put_X2_lowestBits
theorem dX2_put_0 : decode cX2_put 0 = .ok (.aload_n 0, 1) := by decide +kernel
theorem dX2_put_1 : decode cX2_put 1 = .ok (.iload_n 1, 1) := by decide +kernel
theorem dX2_put_2 : decode cX2_put 2 = .ok (.iconst 1, 1) := by decide +kernel
theorem dX2_put_3 : decode cX2_put 3 = .ok (.invokevirtual 31, 3) := by decide +kernel
theorem dX2_put_6 : decode cX2_put 6 = .ok (.ifCond .eq 14, 3) := by decide +kernel
theorem dX2_put_9 : decode cX2_put 9 = .ok (.aload_n 0, 1) := by decide +kernel
theorem dX2_put_10 : decode cX2_put 10 = .ok (.getfield 9, 3) := by decide +kernel
theorem dX2_put_13 : decode cX2_put 13 = .ok (.iload_n 1, 1) := by decide +kernel
theorem dX2_put_14 : decode cX2_put 14 = .ok (.aload_n 0, 1) := by decide +kernel
theorem dX2_put_15 : decode cX2_put 15 = .ok (.lload_n 2, 1) := by decide +kernel
theorem dX2_put_16 : decode cX2_put 16 = .ok (.invokevirtual 35, 3) := by decide +kernel
theorem dX2_put_19 : decode cX2_put 19 = .ok (.lastore, 1) := by decide +kernel
theorem dX2_put_20 : decode cX2_put 20 = .ok (.return_, 1) := by decide +kernel
set_option maxRecDepth 20000 in
theorem ggX2_holds_X2_hasItems : GoodIn wsX2_holds wsX2_hasItems := goodIn_r _ [6, 7, 8, 9, 10] (by decide +kernel) (by decide +kernel)
set_option maxRecDepth 20000 in
theorem gX2_holds_X2_hasItems : GoodIn wsX2_holds (wsV RX2 31 RX2 yX2_hasItems wsX2_hasItems) := goodIn_app (goodIn_of _ (by decide +kernel)) ggX2_holds_X2_hasItems
theorem dX2_holds_0 : decode cX2_holds 0 = .ok (.aload_n 0, 1) := by decide +kernel
theorem dX2_holds_1 : decode cX2_holds 1 = .ok (.iload_n 1, 1) := by decide +kernel
theorem dX2_holds_2 : decode cX2_holds 2 = .ok (.iconst 1, 1) := by decide +kernel
theorem dX2_holds_3 : decode cX2_holds 3 = .ok (.invokevirtual 31, 3) := by decide +kernel
theorem dX2_holds_6 : decode cX2_holds 6 = .ok (.ifCond .eq 18, 3) := by decide +kernel
theorem dX2_holds_9 : decode cX2_holds 9 = .ok (.aload_n 0, 1) := by decide +kernel
theorem dX2_holds_10 : decode cX2_holds 10 = .ok (.getfield 9, 3) := by decide +kernel
theorem dX2_holds_13 : decode cX2_holds 13 = .ok (.iload_n 1, 1) := by decide +kernel
theorem dX2_holds_14 : decode cX2_holds 14 = .ok (.laload, 1) := by decide +kernel
theorem dX2_holds_15 : decode cX2_holds 15 = .ok (.lload_n 2, 1) := by decide +kernel
theorem dX2_holds_16 : decode cX2_holds 16 = .ok (.lcmp, 1) := by decide +kernel
theorem dX2_holds_17 : decode cX2_holds 17 = .ok (.ifCond .ne 7, 3) := by decide +kernel
theorem dX2_holds_20 : decode cX2_holds 20 = .ok (.iconst 1, 1) := by decide +kernel
theorem dX2_holds_21 : decode cX2_holds 21 = .ok (.goto 4, 3) := by decide +kernel
theorem dX2_holds_24 : decode cX2_holds 24 = .ok (.iconst 0, 1) := by decide +kernel
theorem dX2_holds_25 : decode cX2_holds 25 = .ok (.ireturn, 1) := by decide +kernel
theorem dX2_lowestBits_0 : decode cX2_lowestBits 0 = .ok (.aload_n 0, 1) := by decide +kernel
theorem dX2_lowestBits_1 : decode cX2_lowestBits 1 = .ok (.getfield 15, 3) := by decide +kernel
theorem dX2_lowestBits_4 : decode cX2_lowestBits 4 = .ok (.tableswitch 42 0 2 #[28, 33, 38], 28) := by decide +kernel
theorem dX2_lowestBits_32 : decode cX2_lowestBits 32 = .ok (.lload_n 1, 1) := by decide +kernel
theorem dX2_lowestBits_33 : decode cX2_lowestBits 33 = .ok (.l2i, 1) := by decide +kernel
theorem dX2_lowestBits_34 : decode cX2_lowestBits 34 = .ok (.i2b, 1) := by decide +kernel
theorem dX2_lowestBits_35 : decode cX2_lowestBits 35 = .ok (.i2l, 1) := by decide +kernel
theorem dX2_lowestBits_36 : decode cX2_lowestBits 36 = .ok (.lreturn, 1) := by decide +kernel
theorem dX2_lowestBits_37 : decode cX2_lowestBits 37 = .ok (.lload_n 1, 1) := by decide +kernel
theorem dX2_lowestBits_38 : decode cX2_lowestBits 38 = .ok (.l2i, 1) := by decide +kernel
theorem dX2_lowestBits_39 : decode cX2_lowestBits 39 = .ok (.i2s, 1) := by decide +kernel
theorem dX2_lowestBits_40 : decode cX2_lowestBits 40 = .ok (.i2l, 1) := by decide +kernel
theorem dX2_lowestBits_41 : decode cX2_lowestBits 41 = .ok (.lreturn, 1) := by decide +kernel
theorem dX2_lowestBits_42 : decode cX2_lowestBits 42 = .ok (.lload_n 1, 1) := by decide +kernel
theorem dX2_lowestBits_43 : decode cX2_lowestBits 43 = .ok (.l2i, 1) := by decide +kernel
theorem dX2_lowestBits_44 : decode cX2_lowestBits 44 = .ok (.i2l, 1) := by decide +kernel
theorem dX2_lowestBits_45 : decode cX2_lowestBits 45 = .ok (.lreturn, 1) := by decide +kernel
theorem dX2_lowestBits_46 : decode cX2_lowestBits 46 = .ok (.lload_n 1, 1) := by decide +kernel
theorem dX2_lowestBits_47 : decode cX2_lowestBits 47 = .ok (.lreturn, 1) := by decide +kernel
theorem dX3_init_0 : decode cX3_init 0 = .ok (.aload_n 0, 1) := by decide +kernel
theorem dX3_init_1 : decode cX3_init 1 = .ok (.invokespecial 3, 3) := by decide +kernel
theorem dX3_init_4 : decode cX3_init 4 = .ok (.aload_n 0, 1) := by decide +kernel
theorem dX3_init_5 : decode cX3_init 5 = .ok (.sipush 130, 3) := by decide +kernel
theorem dX3_init_8 : decode cX3_init 8 = .ok (.newarray .char, 2) := by decide +kernel
theorem dX3_init_10 : decode cX3_init 10 = .ok (.putfield 9, 3) := by decide +kernel
theorem dX3_init_13 : decode cX3_init 13 = .ok (.return_, 1) := by decide +kernel
theorem dX3_add_0 : decode cX3_add 0 = .ok (.aload_n 0, 1) := by decide +kernel
theorem dX3_add_1 : decode cX3_add 1 = .ok (.getfield 15, 3) := by decide +kernel
theorem dX3_add_4 : decode cX3_add 4 = .ok (.ifCond .lt 13, 3) := by decide +kernel
theorem dX3_add_7 : decode cX3_add 7 = .ok (.aload_n 0, 1) := by decide +kernel
theorem dX3_add_8 : decode cX3_add 8 = .ok (.getfield 15, 3) := by decide +kernel
theorem dX3_add_11 : decode cX3_add 11 = .ok (.sipush 130, 3) := by decide +kernel
theorem dX3_add_14 : decode cX3_add 14 = .ok (.if_icmp .lt 5, 3) := by decide +kernel
theorem dX3_add_17 : decode cX3_add 17 = .ok (.iconst 0, 1) := by decide +kernel
theorem dX3_add_18 : decode cX3_add 18 = .ok (.ireturn, 1) := by decide +kernel
theorem dX3_add_19 : decode cX3_add 19 = .ok (.aload_n 0, 1) := by decide +kernel
theorem dX3_add_20 : decode cX3_add 20 = .ok (.getfield 9, 3) := by decide +kernel
theorem dX3_add_23 : decode cX3_add 23 = .ok (.aload_n 0, 1) := by decide +kernel
theorem dX3_add_24 : decode cX3_add 24 = .ok (.getfield 15, 3) := by decide +kernel
theorem dX3_add_27 : decode cX3_add 27 = .ok (.iload_n 1, 1) := by decide +kernel
theorem dX3_add_28 : decode cX3_add 28 = .ok (.castore, 1) := by decide +kernel
theorem dX3_add_29 : decode cX3_add 29 = .ok (.aload_n 0, 1) := by decide +kernel
theorem dX3_add_30 : decode cX3_add 30 = .ok (.dup, 1) := by decide +kernel
theorem dX3_add_31 : decode cX3_add 31 = .ok (.getfield 15, 3) := by decide +kernel
theorem dX3_add_34 : decode cX3_add 34 = .ok (.iconst 1, 1) := by decide +kernel
theorem dX3_add_35 : decode cX3_add 35 = .ok (.iadd, 1) := by decide +kernel
theorem dX3_add_36 : decode cX3_add 36 = .ok (.putfield 15, 3) := by decide +kernel
theorem dX3_add_39 : decode cX3_add 39 = .ok (.iconst 1, 1) := by decide +kernel
theorem dX3_add_40 : decode cX3_add 40 = .ok (.ireturn, 1) := by decide +kernel
theorem dX3_clear_0 : decode cX3_clear 0 = .ok (.aload_n 0, 1) := by decide +kernel
theorem dX3_clear_1 : decode cX3_clear 1 = .ok (.iconst 0, 1) := by decide +kernel
theorem dX3_clear_2 : decode cX3_clear 2 = .ok (.putfield 15, 3) := by decide +kernel
theorem dX3_clear_5 : decode cX3_clear 5 = .ok (.return_, 1) := by decide +kernel
theorem dX3_letterHere_0 : decode cX3_letterHere 0 = .ok (.aload_n 0, 1) := by decide +kernel
theorem dX3_letterHere_1 : decode cX3_letterHere 1 = .ok (.getfield 19, 3) := by decide +kernel
theorem dX3_letterHere_4 : decode cX3_letterHere 4 = .ok (.ifCond .lt 36, 3) := by decide +kernel
theorem dX3_letterHere_7 : decode cX3_letterHere 7 = .ok (.aload_n 0, 1) := by decide +kernel
theorem dX3_letterHere_8 : decode cX3_letterHere 8 = .ok (.getfield 19, 3) := by decide +kernel
theorem dX3_letterHere_11 : decode cX3_letterHere 11 = .ok (.aload_n 0, 1) := by decide +kernel
theorem dX3_letterHere_12 : decode cX3_letterHere 12 = .ok (.getfield 15, 3) := by decide +kernel
theorem dX3_letterHere_15 : decode cX3_letterHere 15 = .ok (.if_icmp .ge 25, 3) := by decide +kernel
theorem dX3_letterHere_18 : decode cX3_letterHere 18 = .ok (.aload_n 0, 1) := by decide +kernel
theorem dX3_letterHere_19 : decode cX3_letterHere 19 = .ok (.getfield 19, 3) := by decide +kernel
theorem dX3_letterHere_22 : decode cX3_letterHere 22 = .ok (.sipush 130, 3) := by decide +kernel
theorem dX3_letterHere_25 : decode cX3_letterHere 25 = .ok (.if_icmp .ge 15, 3) := by decide +kernel
theorem dX3_letterHere_28 : decode cX3_letterHere 28 = .ok (.aload_n 0, 1) := by decide +kernel
theorem dX3_letterHere_29 : decode cX3_letterHere 29 = .ok (.getfield 9, 3) := by decide +kernel
theorem dX3_letterHere_32 : decode cX3_letterHere 32 = .ok (.aload_n 0, 1) := by decide +kernel
theorem dX3_letterHere_33 : decode cX3_letterHere 33 = .ok (.getfield 19, 3) := by decide +kernel
theorem dX3_letterHere_36 : decode cX3_letterHere 36 = .ok (.caload, 1) := by decide +kernel
theorem dX3_letterHere_37 : decode cX3_letterHere 37 = .ok (.goto 4, 3) := by decide +kernel
theorem dX3_letterHere_40 : decode cX3_letterHere 40 = .ok (.iconst 0, 1) := by decide +kernel
theorem dX3_letterHere_41 : decode cX3_letterHere 41 = .ok (.ireturn, 1) := by decide +kernel
theorem dX3_skipBlanks_0 : decode cX3_skipBlanks 0 = .ok (.aload_n 0, 1) := by decide +kernel
theorem dX3_skipBlanks_1 : decode cX3_skipBlanks 1 = .ok (.getfield 19, 3) := by decide +kernel
theorem dX3_skipBlanks_4 : decode cX3_skipBlanks 4 = .ok (.ifCond .lt 51, 3) := by decide +kernel
theorem dX3_skipBlanks_7 : decode cX3_skipBlanks 7 = .ok (.aload_n 0, 1) := by decide +kernel
theorem dX3_skipBlanks_8 : decode cX3_skipBlanks 8 = .ok (.getfield 19, 3) := by decide +kernel
theorem dX3_skipBlanks_11 : decode cX3_skipBlanks 11 = .ok (.aload_n 0, 1) := by decide +kernel
theorem dX3_skipBlanks_12 : decode cX3_skipBlanks 12 = .ok (.getfield 15, 3) := by decide +kernel
theorem dX3_skipBlanks_15 : decode cX3_skipBlanks 15 = .ok (.if_icmp .ge 40, 3) := by decide +kernel
theorem dX3_skipBlanks_18 : decode cX3_skipBlanks 18 = .ok (.aload_n 0, 1) := by decide +kernel
theorem dX3_skipBlanks_19 : decode cX3_skipBlanks 19 = .ok (.getfield 19, 3) := by decide +kernel
theorem dX3_skipBlanks_22 : decode cX3_skipBlanks 22 = .ok (.sipush 130, 3) := by decide +kernel
theorem dX3_skipBlanks_25 : decode cX3_skipBlanks 25 = .ok (.if_icmp .ge 30, 3) := by decide +kernel
theorem dX3_skipBlanks_28 : decode cX3_skipBlanks 28 = .ok (.aload_n 0, 1) := by decide +kernel
theorem dX3_skipBlanks_29 : decode cX3_skipBlanks 29 = .ok (.getfield 9, 3) := by decide +kernel
theorem dX3_skipBlanks_32 : decode cX3_skipBlanks 32 = .ok (.aload_n 0, 1) := by decide +kernel
theorem dX3_skipBlanks_33 : decode cX3_skipBlanks 33 = .ok (.getfield 19, 3) := by decide +kernel
theorem dX3_skipBlanks_36 : decode cX3_skipBlanks 36 = .ok (.caload, 1) := by decide +kernel
theorem dX3_skipBlanks_37 : decode cX3_skipBlanks 37 = .ok (.bipush 32, 2) := by decide +kernel
theorem dX3_skipBlanks_39 : decode cX3_skipBlanks 39 = .ok (.if_icmp .ne 16, 3) := by decide +kernel
theorem dX3_skipBlanks_42 : decode cX3_skipBlanks 42 = .ok (.aload_n 0, 1) := by decide +kernel
theorem dX3_skipBlanks_43 : decode cX3_skipBlanks 43 = .ok (.dup, 1) := by decide +kernel
theorem dX3_skipBlanks_44 : decode cX3_skipBlanks 44 = .ok (.getfield 19, 3) := by decide +kernel
theorem dX3_skipBlanks_47 : decode cX3_skipBlanks 47 = .ok (.iconst 1, 1) := by decide +kernel
theorem dX3_skipBlanks_48 : decode cX3_skipBlanks 48 = .ok (.iadd, 1) := by decide +kernel
theorem dX3_skipBlanks_49 : decode cX3_skipBlanks 49 = .ok (.putfield 19, 3) := by decide +kernel
theorem dX3_skipBlanks_52 : decode cX3_skipBlanks 52 = .ok (.goto (-52), 3) := by decide +kernel
theorem dX3_skipBlanks_55 : decode cX3_skipBlanks 55 = .ok (.return_, 1) := by decide +kernel
set_option maxRecDepth 20000 in
theorem ggX3_takes_X3_skipBlanks : GoodIn wsX3_takes wsX3_skipBlanks := goodIn_r _ [6, 1, 7, 8, 13, 14, 15] (by decide +kernel) (by decide +kernel)
set_option maxRecDepth 20000 in
theorem gX3_takes_X3_skipBlanks : GoodIn wsX3_takes (wsV RX3 22 RX3 yX3_skipBlanks wsX3_skipBlanks) := goodIn_app (goodIn_of _ (by decide +kernel)) ggX3_takes_X3_skipBlanks
set_option maxRecDepth 20000 in
theorem ggX3_takes_X3_letterHere : GoodIn wsX3_takes wsX3_letterHere := goodIn_r _ [12, 1, 7, 8, 13, 14, 15] (by decide +kernel) (by decide +kernel)
set_option maxRecDepth 20000 in
theorem gX3_takes_X3_letterHere : GoodIn wsX3_takes (wsV RX3 25 RX3 yX3_letterHere wsX3_letterHere) := goodIn_app (goodIn_of _ (by decide +kernel)) ggX3_takes_X3_letterHere
theorem dX3_takes_0 : decode cX3_takes 0 = .ok (.aload_n 0, 1) := by decide +kernel
theorem dX3_takes_1 : decode cX3_takes 1 = .ok (.invokevirtual 22, 3) := by decide +kernel
theorem dX3_takes_4 : decode cX3_takes 4 = .ok (.aload_n 0, 1) := by decide +kernel
theorem dX3_takes_5 : decode cX3_takes 5 = .ok (.invokevirtual 25, 3) := by decide +kernel
theorem dX3_takes_8 : decode cX3_takes 8 = .ok (.iload_n 1, 1) := by decide +kernel
theorem dX3_takes_9 : decode cX3_takes 9 = .ok (.if_icmp .eq 5, 3) := by decide +kernel
theorem dX3_takes_12 : decode cX3_takes 12 = .ok (.iconst 0, 1) := by decide +kernel
theorem dX3_takes_13 : decode cX3_takes 13 = .ok (.ireturn, 1) := by decide +kernel
theorem dX3_takes_14 : decode cX3_takes 14 = .ok (.aload_n 0, 1) := by decide +kernel
theorem dX3_takes_15 : decode cX3_takes 15 = .ok (.dup, 1) := by decide +kernel
theorem dX3_takes_16 : decode cX3_takes 16 = .ok (.getfield 19, 3) := by decide +kernel
theorem dX3_takes_19 : decode cX3_takes 19 = .ok (.iconst 1, 1) := by decide +kernel
theorem dX3_takes_20 : decode cX3_takes 20 = .ok (.iadd, 1) := by decide +kernel
theorem dX3_takes_21 : decode cX3_takes 21 = .ok (.putfield 19, 3) := by decide +kernel
theorem dX3_takes_24 : decode cX3_takes 24 = .ok (.iconst 1, 1) := by decide +kernel
theorem dX3_takes_25 : decode cX3_takes 25 = .ok (.ireturn, 1) := by decide +kernel
set_option maxRecDepth 20000 in
theorem ggX3_readDigit_X3_skipBlanks : GoodIn wsX3_readDigit wsX3_skipBlanks := goodIn_r _ [6, 1, 7, 8, 16, 17, 18] (by decide +kernel) (by decide +kernel)
set_option maxRecDepth 20000 in
theorem gX3_readDigit_X3_skipBlanks : GoodIn wsX3_readDigit (wsV RX3 22 RX3 yX3_skipBlanks wsX3_skipBlanks) := goodIn_app (goodIn_of _ (by decide +kernel)) ggX3_readDigit_X3_skipBlanks
set_option maxRecDepth 20000 in
theorem ggX3_readDigit_X3_letterHere : GoodIn wsX3_readDigit wsX3_letterHere := goodIn_r _ [12, 1, 7, 8, 16, 17, 18] (by decide +kernel) (by decide +kernel)
set_option maxRecDepth 20000 in
theorem gX3_readDigit_X3_letterHere : GoodIn wsX3_readDigit (wsV RX3 25 RX3 yX3_letterHere wsX3_letterHere) := goodIn_app (goodIn_of _ (by decide +kernel)) ggX3_readDigit_X3_letterHere
set_option maxRecDepth 20000 in
theorem ggX3_readDigit_X3_isDigit : GoodIn wsX3_readDigit wsX3_isDigit := goodIn_r _ [15] (by decide +kernel) (by decide +kernel)
set_option maxRecDepth 20000 in
theorem gX3_readDigit_X3_isDigit : GoodIn wsX3_readDigit (va_wsS RX3 29 yX3_isDigit wsX3_isDigit) := goodIn_app (goodIn_of _ (by decide +kernel)) ggX3_readDigit_X3_isDigit
theorem dX3_readDigit_0 : decode cX3_readDigit 0 = .ok (.aload_n 0, 1) := by decide +kernel
theorem dX3_readDigit_1 : decode cX3_readDigit 1 = .ok (.invokevirtual 22, 3) := by decide +kernel
theorem dX3_readDigit_4 : decode cX3_readDigit 4 = .ok (.aload_n 0, 1) := by decide +kernel
theorem dX3_readDigit_5 : decode cX3_readDigit 5 = .ok (.invokevirtual 25, 3) := by decide +kernel
theorem dX3_readDigit_8 : decode cX3_readDigit 8 = .ok (.istore_n 1, 1) := by decide +kernel
theorem dX3_readDigit_9 : decode cX3_readDigit 9 = .ok (.iload_n 1, 1) := by decide +kernel
theorem dX3_readDigit_10 : decode cX3_readDigit 10 = .ok (.invokestatic 29, 3) := by decide +kernel
theorem dX3_readDigit_13 : decode cX3_readDigit 13 = .ok (.ifCond .ne 6, 3) := by decide +kernel
theorem dX3_readDigit_16 : decode cX3_readDigit 16 = .ok (.bipush (-4), 2) := by decide +kernel
theorem dX3_readDigit_18 : decode cX3_readDigit 18 = .ok (.ireturn, 1) := by decide +kernel
theorem dX3_readDigit_19 : decode cX3_readDigit 19 = .ok (.aload_n 0, 1) := by decide +kernel
theorem dX3_readDigit_20 : decode cX3_readDigit 20 = .ok (.dup, 1) := by decide +kernel
theorem dX3_readDigit_21 : decode cX3_readDigit 21 = .ok (.getfield 19, 3) := by decide +kernel
theorem dX3_readDigit_24 : decode cX3_readDigit 24 = .ok (.iconst 1, 1) := by decide +kernel
theorem dX3_readDigit_25 : decode cX3_readDigit 25 = .ok (.iadd, 1) := by decide +kernel
theorem dX3_readDigit_26 : decode cX3_readDigit 26 = .ok (.putfield 19, 3) := by decide +kernel
theorem dX3_readDigit_29 : decode cX3_readDigit 29 = .ok (.iload_n 1, 1) := by decide +kernel
theorem dX3_readDigit_30 : decode cX3_readDigit 30 = .ok (.bipush 48, 2) := by decide +kernel
theorem dX3_readDigit_32 : decode cX3_readDigit 32 = .ok (.isub, 1) := by decide +kernel
theorem dX3_readDigit_33 : decode cX3_readDigit 33 = .ok (.ireturn, 1) := by decide +kernel
set_option maxRecDepth 20000 in
theorem ggX3_readNumberBelow_X3_readDigit : GoodIn wsX3_readNumberBelow wsX3_readDigit := goodIn_r _ [6, 1, 7, 8, 9, 5, 10, 11, 12, 13, 14, 15, 16, 17, 18, 19, 20, 21, 22] (by decide +kernel) (by decide +kernel)
set_option maxRecDepth 20000 in
theorem gX3_readNumberBelow_X3_readDigit : GoodIn wsX3_readNumberBelow (wsV RX3 33 RX3 yX3_readDigit wsX3_readDigit) := goodIn_app (goodIn_of _ (by decide +kernel)) ggX3_readNumberBelow_X3_readDigit
set_option maxRecDepth 20000 in
theorem ggX3_readNumberBelow_X3_letterHere : GoodIn wsX3_readNumberBelow wsX3_letterHere := goodIn_r _ [16, 1, 11, 12, 20, 21, 22] (by decide +kernel) (by decide +kernel)
set_option maxRecDepth 20000 in
theorem gX3_readNumberBelow_X3_letterHere : GoodIn wsX3_readNumberBelow (wsV RX3 25 RX3 yX3_letterHere wsX3_letterHere) := goodIn_app (goodIn_of _ (by decide +kernel)) ggX3_readNumberBelow_X3_letterHere
set_option maxRecDepth 20000 in
theorem ggX3_readNumberBelow_X3_isDigit : GoodIn wsX3_readNumberBelow wsX3_isDigit := goodIn_r _ [19] (by decide +kernel) (by decide +kernel)
set_option maxRecDepth 20000 in
theorem gX3_readNumberBelow_X3_isDigit : GoodIn wsX3_readNumberBelow (va_wsS RX3 29 yX3_isDigit wsX3_isDigit) := goodIn_app (goodIn_of _ (by decide +kernel)) ggX3_readNumberBelow_X3_isDigit
theorem dX3_readNumberBelow_0 : decode cX3_readNumberBelow 0 = .ok (.aload_n 0, 1) := by decide +kernel
theorem dX3_readNumberBelow_1 : decode cX3_readNumberBelow 1 = .ok (.invokevirtual 33, 3) := by decide +kernel
theorem dX3_readNumberBelow_4 : decode cX3_readNumberBelow 4 = .ok (.istore_n 2, 1) := by decide +kernel
theorem dX3_readNumberBelow_5 : decode cX3_readNumberBelow 5 = .ok (.iload_n 2, 1) := by decide +kernel
theorem dX3_readNumberBelow_6 : decode cX3_readNumberBelow 6 = .ok (.ifCond .ge 6, 3) := by decide +kernel
theorem dX3_readNumberBelow_9 : decode cX3_readNumberBelow 9 = .ok (.bipush (-4), 2) := by decide +kernel
theorem dX3_readNumberBelow_11 : decode cX3_readNumberBelow 11 = .ok (.ireturn, 1) := by decide +kernel
theorem dX3_readNumberBelow_12 : decode cX3_readNumberBelow 12 = .ok (.aload_n 0, 1) := by decide +kernel
theorem dX3_readNumberBelow_13 : decode cX3_readNumberBelow 13 = .ok (.getfield 19, 3) := by decide +kernel
theorem dX3_readNumberBelow_16 : decode cX3_readNumberBelow 16 = .ok (.iconst 1, 1) := by decide +kernel
theorem dX3_readNumberBelow_17 : decode cX3_readNumberBelow 17 = .ok (.isub, 1) := by decide +kernel
theorem dX3_readNumberBelow_18 : decode cX3_readNumberBelow 18 = .ok (.istore_n 3, 1) := by decide +kernel
theorem dX3_readNumberBelow_19 : decode cX3_readNumberBelow 19 = .ok (.aload_n 0, 1) := by decide +kernel
theorem dX3_readNumberBelow_20 : decode cX3_readNumberBelow 20 = .ok (.invokevirtual 25, 3) := by decide +kernel
theorem dX3_readNumberBelow_23 : decode cX3_readNumberBelow 23 = .ok (.invokestatic 29, 3) := by decide +kernel
theorem dX3_readNumberBelow_26 : decode cX3_readNumberBelow 26 = .ok (.ifCond .eq 26, 3) := by decide +kernel
theorem dX3_readNumberBelow_29 : decode cX3_readNumberBelow 29 = .ok (.iload_n 2, 1) := by decide +kernel
theorem dX3_readNumberBelow_30 : decode cX3_readNumberBelow 30 = .ok (.bipush 10, 2) := by decide +kernel
theorem dX3_readNumberBelow_32 : decode cX3_readNumberBelow 32 = .ok (.imul, 1) := by decide +kernel
theorem dX3_readNumberBelow_33 : decode cX3_readNumberBelow 33 = .ok (.aload_n 0, 1) := by decide +kernel
theorem dX3_readNumberBelow_34 : decode cX3_readNumberBelow 34 = .ok (.invokevirtual 25, 3) := by decide +kernel
theorem dX3_readNumberBelow_37 : decode cX3_readNumberBelow 37 = .ok (.bipush 48, 2) := by decide +kernel
theorem dX3_readNumberBelow_39 : decode cX3_readNumberBelow 39 = .ok (.isub, 1) := by decide +kernel
theorem dX3_readNumberBelow_40 : decode cX3_readNumberBelow 40 = .ok (.iadd, 1) := by decide +kernel
theorem dX3_readNumberBelow_41 : decode cX3_readNumberBelow 41 = .ok (.istore_n 2, 1) := by decide +kernel
theorem dX3_readNumberBelow_42 : decode cX3_readNumberBelow 42 = .ok (.aload_n 0, 1) := by decide +kernel
theorem dX3_readNumberBelow_43 : decode cX3_readNumberBelow 43 = .ok (.dup, 1) := by decide +kernel
theorem dX3_readNumberBelow_44 : decode cX3_readNumberBelow 44 = .ok (.getfield 19, 3) := by decide +kernel
theorem dX3_readNumberBelow_47 : decode cX3_readNumberBelow 47 = .ok (.iconst 1, 1) := by decide +kernel
theorem dX3_readNumberBelow_48 : decode cX3_readNumberBelow 48 = .ok (.iadd, 1) := by decide +kernel
theorem dX3_readNumberBelow_49 : decode cX3_readNumberBelow 49 = .ok (.putfield 19, 3) := by decide +kernel
theorem dX3_readNumberBelow_52 : decode cX3_readNumberBelow 52 = .ok (.iload_n 2, 1) := by decide +kernel
theorem dX3_readNumberBelow_53 : decode cX3_readNumberBelow 53 = .ok (.iload_n 1, 1) := by decide +kernel
theorem dX3_readNumberBelow_54 : decode cX3_readNumberBelow 54 = .ok (.if_icmp .lt 11, 3) := by decide +kernel
theorem dX3_readNumberBelow_57 : decode cX3_readNumberBelow 57 = .ok (.aload_n 0, 1) := by decide +kernel
theorem dX3_readNumberBelow_58 : decode cX3_readNumberBelow 58 = .ok (.iload_n 3, 1) := by decide +kernel
theorem dX3_readNumberBelow_59 : decode cX3_readNumberBelow 59 = .ok (.putfield 19, 3) := by decide +kernel
theorem dX3_readNumberBelow_62 : decode cX3_readNumberBelow 62 = .ok (.bipush (-4), 2) := by decide +kernel
theorem dX3_readNumberBelow_64 : decode cX3_readNumberBelow 64 = .ok (.ireturn, 1) := by decide +kernel
theorem dX3_readNumberBelow_65 : decode cX3_readNumberBelow 65 = .ok (.iload_n 2, 1) := by decide +kernel
theorem dX3_readNumberBelow_66 : decode cX3_readNumberBelow 66 = .ok (.ireturn, 1) := by decide +kernel
theorem dX3_isDigit_0 : decode cX3_isDigit 0 = .ok (.iload_n 0, 1) := by decide +kernel
theorem dX3_isDigit_1 : decode cX3_isDigit 1 = .ok (.bipush 48, 2) := by decide +kernel
theorem dX3_isDigit_3 : decode cX3_isDigit 3 = .ok (.if_icmp .lt 13, 3) := by decide +kernel
theorem dX3_isDigit_6 : decode cX3_isDigit 6 = .ok (.iload_n 0, 1) := by decide +kernel
theorem dX3_isDigit_7 : decode cX3_isDigit 7 = .ok (.bipush 57, 2) := by decide +kernel
theorem dX3_isDigit_9 : decode cX3_isDigit 9 = .ok (.if_icmp .gt 7, 3) := by decide +kernel
theorem dX3_isDigit_12 : decode cX3_isDigit 12 = .ok (.iconst 1, 1) := by decide +kernel
theorem dX3_isDigit_13 : decode cX3_isDigit 13 = .ok (.goto 4, 3) := by decide +kernel
theorem dX3_isDigit_16 : decode cX3_isDigit 16 = .ok (.iconst 0, 1) := by decide +kernel
theorem dX3_isDigit_17 : decode cX3_isDigit 17 = .ok (.ireturn, 1) := by decide +kernel
set_option maxRecDepth 20000 in
theorem ggX4_init_X1_init : GoodIn wsX4_init wsX1_init := goodIn_r _ [10, 11, 2, 3, 12, 13, 14, 15, 16, 17, 18, 19, 20, 21, 22, 23, 24, 25, 26, 27] (by decide +kernel) (by decide +kernel)
set_option maxRecDepth 20000 in
theorem gX4_init_X1_init : GoodIn wsX4_init (wsX1_init) := ggX4_init_X1_init
theorem dX4_init_0 : decode cX4_init 0 = .ok (.aload_n 0, 1) := by decide +kernel
theorem dX4_init_1 : decode cX4_init 1 = .ok (.invokespecial 3, 3) := by decide +kernel
theorem dX4_init_4 : decode cX4_init 4 = .ok (.aload_n 0, 1) := by decide +kernel
theorem dX4_init_5 : decode cX4_init 5 = .ok (.new 9, 3) := by decide +kernel
theorem dX4_init_8 : decode cX4_init 8 = .ok (.dup, 1) := by decide +kernel
theorem dX4_init_9 : decode cX4_init 9 = .ok (.invokespecial 11, 3) := by decide +kernel
theorem dX4_init_12 : decode cX4_init 12 = .ok (.putfield 12, 3) := by decide +kernel
theorem dX4_init_15 : decode cX4_init 15 = .ok (.return_, 1) := by decide +kernel
set_option maxRecDepth 20000 in
theorem ggX4_begin_X1_become : GoodIn wsX4_begin wsX1_become := goodIn_r _ [6, 7, 8, 9, 10, 11, 12, 13, 14, 15, 16, 17, 18, 19, 23, 24, 25, 26, 27, 28, 29, 30, 31] (by decide +kernel) (by decide +kernel)
set_option maxRecDepth 20000 in
theorem gX4_begin_X1_become : GoodIn wsX4_begin (wsV RX4 18 RX1 yX1_become wsX1_become) := goodIn_app (goodIn_of _ (by decide +kernel)) ggX4_begin_X1_become
theorem dX4_begin_0 : decode cX4_begin 0 = .ok (.aload_n 0, 1) := by decide +kernel
theorem dX4_begin_1 : decode cX4_begin 1 = .ok (.getfield 12, 3) := by decide +kernel
theorem dX4_begin_4 : decode cX4_begin 4 = .ok (.aload_n 1, 1) := by decide +kernel
theorem dX4_begin_5 : decode cX4_begin 5 = .ok (.invokevirtual 18, 3) := by decide +kernel
theorem dX4_begin_8 : decode cX4_begin 8 = .ok (.return_, 1) := by decide +kernel
set_option maxRecDepth 20000 in
theorem ggX4_rollToRest_X1_step : GoodIn wsX4_rollToRest wsX1_step := goodIn_r _ [14, 15, 16, 17, 18, 19, 20, 7, 8, 9, 21, 22, 23, 24, 25, 26, 27, 28, 29, 30, 31, 32, 33, 13, 34, 35, 36, 37, 38, 39, 40, 41, 42, 43, 44, 45, 46, 47, 48, 49, 50, 51, 52, 53, 54, 55, 56, 57, 58, 59, 60, 61, 62, 63, 64, 65, 69, 70, 71, 72, 73, 74, 75, 76, 77, 78, 79, 80, 81, 82] (by decide +kernel) (by decide +kernel)
set_option maxRecDepth 20000 in
theorem gX4_rollToRest_X1_step : GoodIn wsX4_rollToRest (wsV RX4 36 RX1 yX1_step wsX1_step) := goodIn_app (goodIn_of _ (by decide +kernel)) ggX4_rollToRest_X1_step
theorem dX4_rollToRest_0 : decode cX4_rollToRest 0 = .ok (.aload_n 0, 1) := by decide +kernel
theorem dX4_rollToRest_1 : decode cX4_rollToRest 1 = .ok (.aload_n 0, 1) := by decide +kernel
theorem dX4_rollToRest_2 : decode cX4_rollToRest 2 = .ok (.getfield 12, 3) := by decide +kernel
theorem dX4_rollToRest_5 : decode cX4_rollToRest 5 = .ok (.getfield 22, 3) := by decide +kernel
theorem dX4_rollToRest_8 : decode cX4_rollToRest 8 = .ok (.putfield 26, 3) := by decide +kernel
theorem dX4_rollToRest_11 : decode cX4_rollToRest 11 = .ok (.aload_n 0, 1) := by decide +kernel
theorem dX4_rollToRest_12 : decode cX4_rollToRest 12 = .ok (.iconst 0, 1) := by decide +kernel
theorem dX4_rollToRest_13 : decode cX4_rollToRest 13 = .ok (.putfield 29, 3) := by decide +kernel
theorem dX4_rollToRest_16 : decode cX4_rollToRest 16 = .ok (.aload_n 0, 1) := by decide +kernel
theorem dX4_rollToRest_17 : decode cX4_rollToRest 17 = .ok (.getfield 29, 3) := by decide +kernel
theorem dX4_rollToRest_20 : decode cX4_rollToRest 20 = .ok (.bipush 24, 2) := by decide +kernel
theorem dX4_rollToRest_22 : decode cX4_rollToRest 22 = .ok (.if_icmp .ge 53, 3) := by decide +kernel
theorem dX4_rollToRest_25 : decode cX4_rollToRest 25 = .ok (.aload_n 0, 1) := by decide +kernel
theorem dX4_rollToRest_26 : decode cX4_rollToRest 26 = .ok (.getfield 12, 3) := by decide +kernel
theorem dX4_rollToRest_29 : decode cX4_rollToRest 29 = .ok (.getfield 32, 3) := by decide +kernel
theorem dX4_rollToRest_32 : decode cX4_rollToRest 32 = .ok (.ifCond .ne 43, 3) := by decide +kernel
theorem dX4_rollToRest_35 : decode cX4_rollToRest 35 = .ok (.aload_n 0, 1) := by decide +kernel
theorem dX4_rollToRest_36 : decode cX4_rollToRest 36 = .ok (.getfield 12, 3) := by decide +kernel
theorem dX4_rollToRest_39 : decode cX4_rollToRest 39 = .ok (.aload_n 1, 1) := by decide +kernel
theorem dX4_rollToRest_40 : decode cX4_rollToRest 40 = .ok (.iload_n 2, 1) := by decide +kernel
theorem dX4_rollToRest_41 : decode cX4_rollToRest 41 = .ok (.invokevirtual 36, 3) := by decide +kernel
theorem dX4_rollToRest_44 : decode cX4_rollToRest 44 = .ok (.aload_n 0, 1) := by decide +kernel
theorem dX4_rollToRest_45 : decode cX4_rollToRest 45 = .ok (.aload_n 0, 1) := by decide +kernel
theorem dX4_rollToRest_46 : decode cX4_rollToRest 46 = .ok (.getfield 26, 3) := by decide +kernel
theorem dX4_rollToRest_49 : decode cX4_rollToRest 49 = .ok (.aload_n 0, 1) := by decide +kernel
theorem dX4_rollToRest_50 : decode cX4_rollToRest 50 = .ok (.getfield 12, 3) := by decide +kernel
theorem dX4_rollToRest_53 : decode cX4_rollToRest 53 = .ok (.getfield 22, 3) := by decide +kernel
theorem dX4_rollToRest_56 : decode cX4_rollToRest 56 = .ok (.invokestatic 40, 3) := by decide +kernel
theorem dX4_rollToRest_59 : decode cX4_rollToRest 59 = .ok (.putfield 26, 3) := by decide +kernel
theorem dX4_rollToRest_62 : decode cX4_rollToRest 62 = .ok (.aload_n 0, 1) := by decide +kernel
theorem dX4_rollToRest_63 : decode cX4_rollToRest 63 = .ok (.dup, 1) := by decide +kernel
theorem dX4_rollToRest_64 : decode cX4_rollToRest 64 = .ok (.getfield 29, 3) := by decide +kernel
theorem dX4_rollToRest_67 : decode cX4_rollToRest 67 = .ok (.iconst 1, 1) := by decide +kernel
theorem dX4_rollToRest_68 : decode cX4_rollToRest 68 = .ok (.iadd, 1) := by decide +kernel
theorem dX4_rollToRest_69 : decode cX4_rollToRest 69 = .ok (.putfield 29, 3) := by decide +kernel
theorem dX4_rollToRest_72 : decode cX4_rollToRest 72 = .ok (.goto (-56), 3) := by decide +kernel
theorem dX4_rollToRest_75 : decode cX4_rollToRest 75 = .ok (.return_, 1) := by decide +kernel
theorem dX5_init_0 : decode cX5_init 0 = .ok (.aload_n 0, 1) := by decide +kernel
theorem dX5_init_1 : decode cX5_init 1 = .ok (.invokespecial 3, 3) := by decide +kernel
theorem dX5_init_4 : decode cX5_init 4 = .ok (.aload_n 0, 1) := by decide +kernel
theorem dX5_init_5 : decode cX5_init 5 = .ok (.bipush 24, 2) := by decide +kernel
theorem dX5_init_7 : decode cX5_init 7 = .ok (.newarray .int, 2) := by decide +kernel
theorem dX5_init_9 : decode cX5_init 9 = .ok (.putfield 9, 3) := by decide +kernel
theorem dX5_init_12 : decode cX5_init 12 = .ok (.aload_n 0, 1) := by decide +kernel
theorem dX5_init_13 : decode cX5_init 13 = .ok (.bipush 8, 2) := by decide +kernel
theorem dX5_init_15 : decode cX5_init 15 = .ok (.newarray .int, 2) := by decide +kernel
theorem dX5_init_17 : decode cX5_init 17 = .ok (.putfield 15, 3) := by decide +kernel
theorem dX5_init_20 : decode cX5_init 20 = .ok (.aload_n 0, 1) := by decide +kernel
theorem dX5_init_21 : decode cX5_init 21 = .ok (.bipush 8, 2) := by decide +kernel
theorem dX5_init_23 : decode cX5_init 23 = .ok (.newarray .int, 2) := by decide +kernel
theorem dX5_init_25 : decode cX5_init 25 = .ok (.putfield 18, 3) := by decide +kernel
theorem dX5_init_28 : decode cX5_init 28 = .ok (.aload_n 0, 1) := by decide +kernel
theorem dX5_init_29 : decode cX5_init 29 = .ok (.bipush 12, 2) := by decide +kernel
theorem dX5_init_31 : decode cX5_init 31 = .ok (.putfield 21, 3) := by decide +kernel
theorem dX5_init_34 : decode cX5_init 34 = .ok (.iconst 0, 1) := by decide +kernel
theorem dX5_init_35 : decode cX5_init 35 = .ok (.istore_n 1, 1) := by decide +kernel
theorem dX5_init_36 : decode cX5_init 36 = .ok (.iload_n 1, 1) := by decide +kernel
theorem dX5_init_37 : decode cX5_init 37 = .ok (.bipush 24, 2) := by decide +kernel
theorem dX5_init_39 : decode cX5_init 39 = .ok (.if_icmp .ge 16, 3) := by decide +kernel
theorem dX5_init_42 : decode cX5_init 42 = .ok (.aload_n 0, 1) := by decide +kernel
theorem dX5_init_43 : decode cX5_init 43 = .ok (.getfield 9, 3) := by decide +kernel
theorem dX5_init_46 : decode cX5_init 46 = .ok (.iload_n 1, 1) := by decide +kernel
theorem dX5_init_47 : decode cX5_init 47 = .ok (.iconst 3, 1) := by decide +kernel
theorem dX5_init_48 : decode cX5_init 48 = .ok (.iastore, 1) := by decide +kernel
theorem dX5_init_49 : decode cX5_init 49 = .ok (.iinc 1 1, 3) := by decide +kernel
theorem dX5_init_52 : decode cX5_init 52 = .ok (.goto (-16), 3) := by decide +kernel
theorem dX5_init_55 : decode cX5_init 55 = .ok (.return_, 1) := by decide +kernel
theorem dX5_hasCell_0 : decode cX5_hasCell 0 = .ok (.iload_n 1, 1) := by decide +kernel
theorem dX5_hasCell_1 : decode cX5_hasCell 1 = .ok (.ifCond .lt 21, 3) := by decide +kernel
theorem dX5_hasCell_4 : decode cX5_hasCell 4 = .ok (.iload_n 1, 1) := by decide +kernel
theorem dX5_hasCell_5 : decode cX5_hasCell 5 = .ok (.aload_n 0, 1) := by decide +kernel
theorem dX5_hasCell_6 : decode cX5_hasCell 6 = .ok (.getfield 21, 3) := by decide +kernel
theorem dX5_hasCell_9 : decode cX5_hasCell 9 = .ok (.if_icmp .ge 13, 3) := by decide +kernel
theorem dX5_hasCell_12 : decode cX5_hasCell 12 = .ok (.iload_n 1, 1) := by decide +kernel
theorem dX5_hasCell_13 : decode cX5_hasCell 13 = .ok (.bipush 24, 2) := by decide +kernel
theorem dX5_hasCell_15 : decode cX5_hasCell 15 = .ok (.if_icmp .ge 7, 3) := by decide +kernel
theorem dX5_hasCell_18 : decode cX5_hasCell 18 = .ok (.iconst 1, 1) := by decide +kernel
theorem dX5_hasCell_19 : decode cX5_hasCell 19 = .ok (.goto 4, 3) := by decide +kernel
theorem dX5_hasCell_22 : decode cX5_hasCell 22 = .ok (.iconst 0, 1) := by decide +kernel
theorem dX5_hasCell_23 : decode cX5_hasCell 23 = .ok (.ireturn, 1) := by decide +kernel
theorem dX5_hasThing_0 : decode cX5_hasThing 0 = .ok (.iload_n 1, 1) := by decide +kernel
theorem dX5_hasThing_1 : decode cX5_hasThing 1 = .ok (.ifCond .lt 21, 3) := by decide +kernel
theorem dX5_hasThing_4 : decode cX5_hasThing 4 = .ok (.iload_n 1, 1) := by decide +kernel
theorem dX5_hasThing_5 : decode cX5_hasThing 5 = .ok (.aload_n 0, 1) := by decide +kernel
theorem dX5_hasThing_6 : decode cX5_hasThing 6 = .ok (.getfield 25, 3) := by decide +kernel
theorem dX5_hasThing_9 : decode cX5_hasThing 9 = .ok (.if_icmp .ge 13, 3) := by decide +kernel
theorem dX5_hasThing_12 : decode cX5_hasThing 12 = .ok (.iload_n 1, 1) := by decide +kernel
theorem dX5_hasThing_13 : decode cX5_hasThing 13 = .ok (.bipush 8, 2) := by decide +kernel
theorem dX5_hasThing_15 : decode cX5_hasThing 15 = .ok (.if_icmp .ge 7, 3) := by decide +kernel
theorem dX5_hasThing_18 : decode cX5_hasThing 18 = .ok (.iconst 1, 1) := by decide +kernel
theorem dX5_hasThing_19 : decode cX5_hasThing 19 = .ok (.goto 4, 3) := by decide +kernel
theorem dX5_hasThing_22 : decode cX5_hasThing 22 = .ok (.iconst 0, 1) := by decide +kernel
theorem dX5_hasThing_23 : decode cX5_hasThing 23 = .ok (.ireturn, 1) := by decide +kernel
theorem dX5_addThing_0 : decode cX5_addThing 0 = .ok (.aload_n 0, 1) := by decide +kernel
theorem dX5_addThing_1 : decode cX5_addThing 1 = .ok (.getfield 25, 3) := by decide +kernel
theorem dX5_addThing_4 : decode cX5_addThing 4 = .ok (.ifCond .lt 12, 3) := by decide +kernel
theorem dX5_addThing_7 : decode cX5_addThing 7 = .ok (.aload_n 0, 1) := by decide +kernel
theorem dX5_addThing_8 : decode cX5_addThing 8 = .ok (.getfield 25, 3) := by decide +kernel
theorem dX5_addThing_11 : decode cX5_addThing 11 = .ok (.bipush 8, 2) := by decide +kernel
theorem dX5_addThing_13 : decode cX5_addThing 13 = .ok (.if_icmp .lt 5, 3) := by decide +kernel
theorem dX5_addThing_16 : decode cX5_addThing 16 = .ok (.iconst 0, 1) := by decide +kernel
theorem dX5_addThing_17 : decode cX5_addThing 17 = .ok (.ireturn, 1) := by decide +kernel
theorem dX5_addThing_18 : decode cX5_addThing 18 = .ok (.aload_n 0, 1) := by decide +kernel
theorem dX5_addThing_19 : decode cX5_addThing 19 = .ok (.getfield 15, 3) := by decide +kernel
theorem dX5_addThing_22 : decode cX5_addThing 22 = .ok (.aload_n 0, 1) := by decide +kernel
theorem dX5_addThing_23 : decode cX5_addThing 23 = .ok (.getfield 25, 3) := by decide +kernel
theorem dX5_addThing_26 : decode cX5_addThing 26 = .ok (.iload_n 1, 1) := by decide +kernel
theorem dX5_addThing_27 : decode cX5_addThing 27 = .ok (.iastore, 1) := by decide +kernel
theorem dX5_addThing_28 : decode cX5_addThing 28 = .ok (.aload_n 0, 1) := by decide +kernel
theorem dX5_addThing_29 : decode cX5_addThing 29 = .ok (.getfield 18, 3) := by decide +kernel
theorem dX5_addThing_32 : decode cX5_addThing 32 = .ok (.aload_n 0, 1) := by decide +kernel
theorem dX5_addThing_33 : decode cX5_addThing 33 = .ok (.getfield 25, 3) := by decide +kernel
theorem dX5_addThing_36 : decode cX5_addThing 36 = .ok (.iload_n 2, 1) := by decide +kernel
theorem dX5_addThing_37 : decode cX5_addThing 37 = .ok (.iastore, 1) := by decide +kernel
theorem dX5_addThing_38 : decode cX5_addThing 38 = .ok (.aload_n 0, 1) := by decide +kernel
theorem dX5_addThing_39 : decode cX5_addThing 39 = .ok (.dup, 1) := by decide +kernel
theorem dX5_addThing_40 : decode cX5_addThing 40 = .ok (.getfield 25, 3) := by decide +kernel
theorem dX5_addThing_43 : decode cX5_addThing 43 = .ok (.iconst 1, 1) := by decide +kernel
theorem dX5_addThing_44 : decode cX5_addThing 44 = .ok (.iadd, 1) := by decide +kernel
theorem dX5_addThing_45 : decode cX5_addThing 45 = .ok (.putfield 25, 3) := by decide +kernel
theorem dX5_addThing_48 : decode cX5_addThing 48 = .ok (.iconst 1, 1) := by decide +kernel
theorem dX5_addThing_49 : decode cX5_addThing 49 = .ok (.ireturn, 1) := by decide +kernel
theorem dX5_become_0 : decode cX5_become 0 = .ok (.aload_n 1, 1) := by decide +kernel
theorem dX5_become_1 : decode cX5_become 1 = .ok (.getfield 9, 3) := by decide +kernel
theorem dX5_become_4 : decode cX5_become 4 = .ok (.iconst 0, 1) := by decide +kernel
theorem dX5_become_5 : decode cX5_become 5 = .ok (.aload_n 0, 1) := by decide +kernel
theorem dX5_become_6 : decode cX5_become 6 = .ok (.getfield 9, 3) := by decide +kernel
theorem dX5_become_9 : decode cX5_become 9 = .ok (.iconst 0, 1) := by decide +kernel
theorem dX5_become_10 : decode cX5_become 10 = .ok (.bipush 24, 2) := by decide +kernel
theorem dX5_become_12 : decode cX5_become 12 = .ok (.invokestatic 28, 3) := by decide +kernel
theorem dX5_become_15 : decode cX5_become 15 = .ok (.aload_n 1, 1) := by decide +kernel
theorem dX5_become_16 : decode cX5_become 16 = .ok (.getfield 15, 3) := by decide +kernel
theorem dX5_become_19 : decode cX5_become 19 = .ok (.iconst 0, 1) := by decide +kernel
theorem dX5_become_20 : decode cX5_become 20 = .ok (.aload_n 0, 1) := by decide +kernel
theorem dX5_become_21 : decode cX5_become 21 = .ok (.getfield 15, 3) := by decide +kernel
theorem dX5_become_24 : decode cX5_become 24 = .ok (.iconst 0, 1) := by decide +kernel
theorem dX5_become_25 : decode cX5_become 25 = .ok (.bipush 8, 2) := by decide +kernel
theorem dX5_become_27 : decode cX5_become 27 = .ok (.invokestatic 28, 3) := by decide +kernel
theorem dX5_become_30 : decode cX5_become 30 = .ok (.aload_n 1, 1) := by decide +kernel
theorem dX5_become_31 : decode cX5_become 31 = .ok (.getfield 18, 3) := by decide +kernel
theorem dX5_become_34 : decode cX5_become 34 = .ok (.iconst 0, 1) := by decide +kernel
theorem dX5_become_35 : decode cX5_become 35 = .ok (.aload_n 0, 1) := by decide +kernel
theorem dX5_become_36 : decode cX5_become 36 = .ok (.getfield 18, 3) := by decide +kernel
theorem dX5_become_39 : decode cX5_become 39 = .ok (.iconst 0, 1) := by decide +kernel
theorem dX5_become_40 : decode cX5_become 40 = .ok (.bipush 8, 2) := by decide +kernel
theorem dX5_become_42 : decode cX5_become 42 = .ok (.invokestatic 28, 3) := by decide +kernel
theorem dX5_become_45 : decode cX5_become 45 = .ok (.aload_n 0, 1) := by decide +kernel
theorem dX5_become_46 : decode cX5_become 46 = .ok (.aload_n 1, 1) := by decide +kernel
theorem dX5_become_47 : decode cX5_become 47 = .ok (.getfield 21, 3) := by decide +kernel
theorem dX5_become_50 : decode cX5_become 50 = .ok (.putfield 21, 3) := by decide +kernel
theorem dX5_become_53 : decode cX5_become 53 = .ok (.aload_n 0, 1) := by decide +kernel
theorem dX5_become_54 : decode cX5_become 54 = .ok (.aload_n 1, 1) := by decide +kernel
theorem dX5_become_55 : decode cX5_become 55 = .ok (.getfield 25, 3) := by decide +kernel
theorem dX5_become_58 : decode cX5_become 58 = .ok (.putfield 25, 3) := by decide +kernel
theorem dX5_become_61 : decode cX5_become 61 = .ok (.return_, 1) := by decide +kernel
set_option maxRecDepth 20000 in
theorem ggX6_init_X3_init : GoodIn wsX6_init wsX3_init := goodIn_r _ [17, 18, 2, 3, 19, 20, 40, 41, 42] (by decide +kernel) (by decide +kernel)
set_option maxRecDepth 20000 in
theorem gX6_init_X3_init_n11 : GoodIn wsX6_init (wsX3_init) := ggX6_init_X3_init
set_option maxRecDepth 20000 in
theorem ggX6_init_X5_init : GoodIn wsX6_init wsX5_init := goodIn_r _ [23, 24, 2, 3, 25, 26, 27, 28, 29, 46, 47, 48, 49, 50] (by decide +kernel) (by decide +kernel)
set_option maxRecDepth 20000 in
theorem gX6_init_X5_init : GoodIn wsX6_init (wsX5_init) := ggX6_init_X5_init
set_option maxRecDepth 20000 in
theorem ggX6_init_X1_init : GoodIn wsX6_init wsX1_init := goodIn_r _ [32, 33, 2, 3, 25, 34, 35, 36, 37, 38, 39, 51, 52, 53, 54, 55, 56, 57, 58, 59] (by decide +kernel) (by decide +kernel)
set_option maxRecDepth 20000 in
theorem gX6_init_X1_init : GoodIn wsX6_init (wsX1_init) := ggX6_init_X1_init
theorem dX6_init_0 : decode cX6_init 0 = .ok (.aload_n 0, 1) := by decide +kernel
theorem dX6_init_1 : decode cX6_init 1 = .ok (.invokespecial 3, 3) := by decide +kernel
theorem dX6_init_4 : decode cX6_init 4 = .ok (.aload_n 0, 1) := by decide +kernel
theorem dX6_init_5 : decode cX6_init 5 = .ok (.new 9, 3) := by decide +kernel
theorem dX6_init_8 : decode cX6_init 8 = .ok (.dup, 1) := by decide +kernel
theorem dX6_init_9 : decode cX6_init 9 = .ok (.invokespecial 11, 3) := by decide +kernel
theorem dX6_init_12 : decode cX6_init 12 = .ok (.putfield 12, 3) := by decide +kernel
theorem dX6_init_15 : decode cX6_init 15 = .ok (.aload_n 0, 1) := by decide +kernel
theorem dX6_init_16 : decode cX6_init 16 = .ok (.new 18, 3) := by decide +kernel
theorem dX6_init_19 : decode cX6_init 19 = .ok (.dup, 1) := by decide +kernel
theorem dX6_init_20 : decode cX6_init 20 = .ok (.invokespecial 20, 3) := by decide +kernel
theorem dX6_init_23 : decode cX6_init 23 = .ok (.putfield 21, 3) := by decide +kernel
theorem dX6_init_26 : decode cX6_init 26 = .ok (.aload_n 0, 1) := by decide +kernel
theorem dX6_init_27 : decode cX6_init 27 = .ok (.new 25, 3) := by decide +kernel
theorem dX6_init_30 : decode cX6_init 30 = .ok (.dup, 1) := by decide +kernel
theorem dX6_init_31 : decode cX6_init 31 = .ok (.invokespecial 27, 3) := by decide +kernel
theorem dX6_init_34 : decode cX6_init 34 = .ok (.putfield 28, 3) := by decide +kernel
theorem dX6_init_37 : decode cX6_init 37 = .ok (.return_, 1) := by decide +kernel
set_option maxRecDepth 20000 in
theorem ggX6_readVillage_X6_readCells : GoodIn wsX6_readVillage wsX6_readCells := goodIn_r _ [10, 1, 3, 4, 11, 12, 13, 9, 14, 15, 16, 17, 18, 19, 20, 21, 22, 23, 24, 25, 26, 27, 28, 29, 30, 31, 32, 33, 34, 35, 36, 37, 38, 39, 40, 159, 160, 161, 165, 166, 167, 168, 169, 170, 171, 172, 173, 174, 175, 176, 177, 178, 162, 163, 164] (by decide +kernel) (by decide +kernel)
set_option maxRecDepth 20000 in
theorem gX6_readVillage_X6_readCells : GoodIn wsX6_readVillage (wsV RX6 42 RX6 yX6_readCells wsX6_readCells) := goodIn_app (goodIn_of _ (by decide +kernel)) ggX6_readVillage_X6_readCells
set_option maxRecDepth 20000 in
theorem ggX6_readVillage_X3_takes : GoodIn wsX6_readVillage wsX3_takes := goodIn_r _ [40, 23, 24, 25, 26, 21, 27, 28, 29, 30, 31, 32, 33, 162, 163, 164] (by decide +kernel) (by decide +kernel)
set_option maxRecDepth 20000 in
theorem gX6_readVillage_X3_takes : GoodIn wsX6_readVillage (wsV RX6 46 RX3 yX3_takes wsX3_takes) := goodIn_app (goodIn_of _ (by decide +kernel)) ggX6_readVillage_X3_takes
set_option maxRecDepth 20000 in
theorem ggX6_readVillage_X6_readThings : GoodIn wsX6_readVillage wsX6_readThings := goodIn_r _ [44, 1, 45, 46, 47, 9, 48, 2, 3, 4, 16, 5, 49, 25, 26, 21, 27, 23, 28, 29, 50, 31, 32, 33, 51, 52, 53, 54, 55, 56, 57, 58, 59, 60, 61, 62, 63, 64, 65, 66, 67, 68, 69, 70, 71, 72, 73, 74, 75, 76, 77, 78, 79, 80, 81, 82, 83, 84, 85, 86, 87, 88, 89, 90, 91, 92, 93, 94, 95, 96, 97, 98, 99, 100, 101, 102, 103, 104, 105, 106, 107, 108, 109, 110, 111, 112, 113, 114, 115, 116, 117, 118, 119, 120, 121, 122, 123, 124, 125, 126, 127, 128, 129, 130, 131, 132, 133, 134, 135, 136, 137, 138, 139, 18, 19, 20, 22, 24, 30, 34, 35, 36, 37, 38, 39, 40, 140, 141, 142, 143, 144, 145, 146, 147, 148, 149, 150, 151, 152, 153, 154, 155, 156, 157, 158, 159, 160, 161, 162, 163, 164, 165, 166, 167, 168, 169, 170, 171, 172, 173, 174, 175, 176, 177, 178] (by decide +kernel) (by decide +kernel)
set_option maxRecDepth 20000 in
theorem gX6_readVillage_X6_readThings : GoodIn wsX6_readVillage (wsV RX6 50 RX6 yX6_readThings wsX6_readThings) := goodIn_app (goodIn_of _ (by decide +kernel)) ggX6_readVillage_X6_readThings
set_option maxRecDepth 20000 in
theorem ggX6_readVillage_X3_skipBlanks : GoodIn wsX6_readVillage wsX3_skipBlanks := goodIn_r _ [27, 23, 28, 29, 162, 163, 164] (by decide +kernel) (by decide +kernel)
set_option maxRecDepth 20000 in
theorem gX6_readVillage_X3_skipBlanks : GoodIn wsX6_readVillage (wsV RX6 53 RX3 yX3_skipBlanks wsX3_skipBlanks) := goodIn_app (goodIn_of _ (by decide +kernel)) ggX6_readVillage_X3_skipBlanks
set_option maxRecDepth 20000 in
theorem ggX6_readVillage_X3_letterHere : GoodIn wsX6_readVillage wsX3_letterHere := goodIn_r _ [33, 23, 28, 29, 162, 163, 164] (by decide +kernel) (by decide +kernel)
set_option maxRecDepth 20000 in
theorem gX6_readVillage_X3_letterHere : GoodIn wsX6_readVillage (wsV RX6 56 RX3 yX3_letterHere wsX3_letterHere) := goodIn_app (goodIn_of _ (by decide +kernel)) ggX6_readVillage_X3_letterHere
theorem dX6_readVillage_0 : decode cX6_readVillage 0 = .ok (.aload_n 0, 1) := by decide +kernel
theorem dX6_readVillage_1 : decode cX6_readVillage 1 = .ok (.getfield 12, 3) := by decide +kernel
theorem dX6_readVillage_4 : decode cX6_readVillage 4 = .ok (.iconst 0, 1) := by decide +kernel
theorem dX6_readVillage_5 : decode cX6_readVillage 5 = .ok (.putfield 32, 3) := by decide +kernel
theorem dX6_readVillage_8 : decode cX6_readVillage 8 = .ok (.aload_n 0, 1) := by decide +kernel
theorem dX6_readVillage_9 : decode cX6_readVillage 9 = .ok (.getfield 21, 3) := by decide +kernel
theorem dX6_readVillage_12 : decode cX6_readVillage 12 = .ok (.iconst 0, 1) := by decide +kernel
theorem dX6_readVillage_13 : decode cX6_readVillage 13 = .ok (.putfield 36, 3) := by decide +kernel
theorem dX6_readVillage_16 : decode cX6_readVillage 16 = .ok (.aload_n 0, 1) := by decide +kernel
theorem dX6_readVillage_17 : decode cX6_readVillage 17 = .ok (.getfield 21, 3) := by decide +kernel
theorem dX6_readVillage_20 : decode cX6_readVillage 20 = .ok (.iconst 0, 1) := by decide +kernel
theorem dX6_readVillage_21 : decode cX6_readVillage 21 = .ok (.putfield 39, 3) := by decide +kernel
theorem dX6_readVillage_24 : decode cX6_readVillage 24 = .ok (.aload_n 0, 1) := by decide +kernel
theorem dX6_readVillage_25 : decode cX6_readVillage 25 = .ok (.invokevirtual 42, 3) := by decide +kernel
theorem dX6_readVillage_28 : decode cX6_readVillage 28 = .ok (.ifCond .ne 5, 3) := by decide +kernel
theorem dX6_readVillage_31 : decode cX6_readVillage 31 = .ok (.iconst 0, 1) := by decide +kernel
theorem dX6_readVillage_32 : decode cX6_readVillage 32 = .ok (.ireturn, 1) := by decide +kernel
theorem dX6_readVillage_33 : decode cX6_readVillage 33 = .ok (.aload_n 0, 1) := by decide +kernel
theorem dX6_readVillage_34 : decode cX6_readVillage 34 = .ok (.getfield 12, 3) := by decide +kernel
theorem dX6_readVillage_37 : decode cX6_readVillage 37 = .ok (.bipush 59, 2) := by decide +kernel
theorem dX6_readVillage_39 : decode cX6_readVillage 39 = .ok (.invokevirtual 46, 3) := by decide +kernel
theorem dX6_readVillage_42 : decode cX6_readVillage 42 = .ok (.ifCond .eq 12, 3) := by decide +kernel
theorem dX6_readVillage_45 : decode cX6_readVillage 45 = .ok (.aload_n 0, 1) := by decide +kernel
theorem dX6_readVillage_46 : decode cX6_readVillage 46 = .ok (.invokevirtual 50, 3) := by decide +kernel
theorem dX6_readVillage_49 : decode cX6_readVillage 49 = .ok (.ifCond .ne 5, 3) := by decide +kernel
theorem dX6_readVillage_52 : decode cX6_readVillage 52 = .ok (.iconst 0, 1) := by decide +kernel
theorem dX6_readVillage_53 : decode cX6_readVillage 53 = .ok (.ireturn, 1) := by decide +kernel
theorem dX6_readVillage_54 : decode cX6_readVillage 54 = .ok (.aload_n 0, 1) := by decide +kernel
theorem dX6_readVillage_55 : decode cX6_readVillage 55 = .ok (.getfield 12, 3) := by decide +kernel
theorem dX6_readVillage_58 : decode cX6_readVillage 58 = .ok (.invokevirtual 53, 3) := by decide +kernel
theorem dX6_readVillage_61 : decode cX6_readVillage 61 = .ok (.aload_n 0, 1) := by decide +kernel
theorem dX6_readVillage_62 : decode cX6_readVillage 62 = .ok (.getfield 12, 3) := by decide +kernel
theorem dX6_readVillage_65 : decode cX6_readVillage 65 = .ok (.invokevirtual 56, 3) := by decide +kernel
theorem dX6_readVillage_68 : decode cX6_readVillage 68 = .ok (.ifCond .ne 7, 3) := by decide +kernel
theorem dX6_readVillage_71 : decode cX6_readVillage 71 = .ok (.iconst 1, 1) := by decide +kernel
theorem dX6_readVillage_72 : decode cX6_readVillage 72 = .ok (.goto 4, 3) := by decide +kernel
theorem dX6_readVillage_75 : decode cX6_readVillage 75 = .ok (.iconst 0, 1) := by decide +kernel
theorem dX6_readVillage_76 : decode cX6_readVillage 76 = .ok (.ireturn, 1) := by decide +kernel
set_option maxRecDepth 20000 in
theorem ggX6_readCells_X6_readCell : GoodIn wsX6_readCells wsX6_readCell := goodIn_r _ [8, 1, 2, 3, 9, 10, 11, 12, 13, 14, 15, 16, 17, 18, 19, 20, 21, 22, 23, 24, 25, 26, 27, 28, 29, 30, 35, 36, 37, 38, 39, 40, 41, 42, 43, 44, 45, 46, 47, 48, 49, 50, 51, 52, 53, 54] (by decide +kernel) (by decide +kernel)
set_option maxRecDepth 20000 in
theorem gX6_readCells_X6_readCell : GoodIn wsX6_readCells (wsV RX6 60 RX6 yX6_readCell wsX6_readCell) := goodIn_app (goodIn_of _ (by decide +kernel)) ggX6_readCells_X6_readCell
set_option maxRecDepth 20000 in
theorem ggX6_readCells_X3_takes : GoodIn wsX6_readCells wsX3_takes := goodIn_r _ [34, 17, 18, 19, 20, 15, 21, 22, 23, 24, 25, 26, 27, 52, 53, 54] (by decide +kernel) (by decide +kernel)
set_option maxRecDepth 20000 in
theorem gX6_readCells_X3_takes : GoodIn wsX6_readCells (wsV RX6 46 RX3 yX3_takes wsX3_takes) := goodIn_app (goodIn_of _ (by decide +kernel)) ggX6_readCells_X3_takes
theorem dX6_readCells_0 : decode cX6_readCells 0 = .ok (.iconst 0, 1) := by decide +kernel
theorem dX6_readCells_1 : decode cX6_readCells 1 = .ok (.istore_n 1, 1) := by decide +kernel
theorem dX6_readCells_2 : decode cX6_readCells 2 = .ok (.iload_n 1, 1) := by decide +kernel
theorem dX6_readCells_3 : decode cX6_readCells 3 = .ok (.bipush 24, 2) := by decide +kernel
theorem dX6_readCells_5 : decode cX6_readCells 5 = .ok (.if_icmp .ge 51, 3) := by decide +kernel
theorem dX6_readCells_8 : decode cX6_readCells 8 = .ok (.aload_n 0, 1) := by decide +kernel
theorem dX6_readCells_9 : decode cX6_readCells 9 = .ok (.invokevirtual 60, 3) := by decide +kernel
theorem dX6_readCells_12 : decode cX6_readCells 12 = .ok (.ifCond .ne 5, 3) := by decide +kernel
theorem dX6_readCells_15 : decode cX6_readCells 15 = .ok (.iconst 0, 1) := by decide +kernel
theorem dX6_readCells_16 : decode cX6_readCells 16 = .ok (.ireturn, 1) := by decide +kernel
theorem dX6_readCells_17 : decode cX6_readCells 17 = .ok (.iload_n 1, 1) := by decide +kernel
theorem dX6_readCells_18 : decode cX6_readCells 18 = .ok (.iconst 1, 1) := by decide +kernel
theorem dX6_readCells_19 : decode cX6_readCells 19 = .ok (.iadd, 1) := by decide +kernel
theorem dX6_readCells_20 : decode cX6_readCells 20 = .ok (.bipush 24, 2) := by decide +kernel
theorem dX6_readCells_22 : decode cX6_readCells 22 = .ok (.if_icmp .eq 15, 3) := by decide +kernel
theorem dX6_readCells_25 : decode cX6_readCells 25 = .ok (.aload_n 0, 1) := by decide +kernel
theorem dX6_readCells_26 : decode cX6_readCells 26 = .ok (.getfield 12, 3) := by decide +kernel
theorem dX6_readCells_29 : decode cX6_readCells 29 = .ok (.bipush 44, 2) := by decide +kernel
theorem dX6_readCells_31 : decode cX6_readCells 31 = .ok (.invokevirtual 46, 3) := by decide +kernel
theorem dX6_readCells_34 : decode cX6_readCells 34 = .ok (.ifCond .ne 7, 3) := by decide +kernel
theorem dX6_readCells_37 : decode cX6_readCells 37 = .ok (.iconst 1, 1) := by decide +kernel
theorem dX6_readCells_38 : decode cX6_readCells 38 = .ok (.goto 4, 3) := by decide +kernel
theorem dX6_readCells_41 : decode cX6_readCells 41 = .ok (.iconst 0, 1) := by decide +kernel
theorem dX6_readCells_42 : decode cX6_readCells 42 = .ok (.istore_n 2, 1) := by decide +kernel
theorem dX6_readCells_43 : decode cX6_readCells 43 = .ok (.iload_n 2, 1) := by decide +kernel
theorem dX6_readCells_44 : decode cX6_readCells 44 = .ok (.ifCond .eq 6, 3) := by decide +kernel
theorem dX6_readCells_47 : decode cX6_readCells 47 = .ok (.goto 9, 3) := by decide +kernel
theorem dX6_readCells_50 : decode cX6_readCells 50 = .ok (.iinc 1 1, 3) := by decide +kernel
theorem dX6_readCells_53 : decode cX6_readCells 53 = .ok (.goto (-51), 3) := by decide +kernel
theorem dX6_readCells_56 : decode cX6_readCells 56 = .ok (.aload_n 0, 1) := by decide +kernel
theorem dX6_readCells_57 : decode cX6_readCells 57 = .ok (.getfield 21, 3) := by decide +kernel
theorem dX6_readCells_60 : decode cX6_readCells 60 = .ok (.getfield 36, 3) := by decide +kernel
theorem dX6_readCells_63 : decode cX6_readCells 63 = .ok (.iconst 4, 1) := by decide +kernel
theorem dX6_readCells_64 : decode cX6_readCells 64 = .ok (.if_icmp .lt 7, 3) := by decide +kernel
theorem dX6_readCells_67 : decode cX6_readCells 67 = .ok (.iconst 1, 1) := by decide +kernel
theorem dX6_readCells_68 : decode cX6_readCells 68 = .ok (.goto 4, 3) := by decide +kernel
theorem dX6_readCells_71 : decode cX6_readCells 71 = .ok (.iconst 0, 1) := by decide +kernel
theorem dX6_readCells_72 : decode cX6_readCells 72 = .ok (.ireturn, 1) := by decide +kernel
set_option maxRecDepth 20000 in
theorem ggX6_readCell_X3_readDigit : GoodIn wsX6_readCell wsX3_readDigit := goodIn_r _ [11, 12, 13, 14, 15, 10, 16, 17, 18, 19, 20, 21, 22, 23, 24, 25, 43, 44, 45] (by decide +kernel) (by decide +kernel)
set_option maxRecDepth 20000 in
theorem gX6_readCell_X3_readDigit : GoodIn wsX6_readCell (wsV RX6 63 RX3 yX3_readDigit wsX3_readDigit) := goodIn_app (goodIn_of _ (by decide +kernel)) ggX6_readCell_X3_readDigit
theorem dX6_readCell_0 : decode cX6_readCell 0 = .ok (.aload_n 0, 1) := by decide +kernel
theorem dX6_readCell_1 : decode cX6_readCell 1 = .ok (.getfield 12, 3) := by decide +kernel
theorem dX6_readCell_4 : decode cX6_readCell 4 = .ok (.invokevirtual 63, 3) := by decide +kernel
theorem dX6_readCell_7 : decode cX6_readCell 7 = .ok (.istore_n 1, 1) := by decide +kernel
theorem dX6_readCell_8 : decode cX6_readCell 8 = .ok (.iload_n 1, 1) := by decide +kernel
theorem dX6_readCell_9 : decode cX6_readCell 9 = .ok (.ifCond .ge 5, 3) := by decide +kernel
theorem dX6_readCell_12 : decode cX6_readCell 12 = .ok (.iconst 0, 1) := by decide +kernel
theorem dX6_readCell_13 : decode cX6_readCell 13 = .ok (.ireturn, 1) := by decide +kernel
theorem dX6_readCell_14 : decode cX6_readCell 14 = .ok (.aload_n 0, 1) := by decide +kernel
theorem dX6_readCell_15 : decode cX6_readCell 15 = .ok (.getfield 12, 3) := by decide +kernel
theorem dX6_readCell_18 : decode cX6_readCell 18 = .ok (.invokevirtual 63, 3) := by decide +kernel
theorem dX6_readCell_21 : decode cX6_readCell 21 = .ok (.istore_n 2, 1) := by decide +kernel
theorem dX6_readCell_22 : decode cX6_readCell 22 = .ok (.iload_n 2, 1) := by decide +kernel
theorem dX6_readCell_23 : decode cX6_readCell 23 = .ok (.ifCond .lt 25, 3) := by decide +kernel
theorem dX6_readCell_26 : decode cX6_readCell 26 = .ok (.aload_n 0, 1) := by decide +kernel
theorem dX6_readCell_27 : decode cX6_readCell 27 = .ok (.getfield 21, 3) := by decide +kernel
theorem dX6_readCell_30 : decode cX6_readCell 30 = .ok (.getfield 36, 3) := by decide +kernel
theorem dX6_readCell_33 : decode cX6_readCell 33 = .ok (.ifCond .lt 15, 3) := by decide +kernel
theorem dX6_readCell_36 : decode cX6_readCell 36 = .ok (.aload_n 0, 1) := by decide +kernel
theorem dX6_readCell_37 : decode cX6_readCell 37 = .ok (.getfield 21, 3) := by decide +kernel
theorem dX6_readCell_40 : decode cX6_readCell 40 = .ok (.getfield 36, 3) := by decide +kernel
theorem dX6_readCell_43 : decode cX6_readCell 43 = .ok (.bipush 24, 2) := by decide +kernel
theorem dX6_readCell_45 : decode cX6_readCell 45 = .ok (.if_icmp .lt 5, 3) := by decide +kernel
theorem dX6_readCell_48 : decode cX6_readCell 48 = .ok (.iconst 0, 1) := by decide +kernel
theorem dX6_readCell_49 : decode cX6_readCell 49 = .ok (.ireturn, 1) := by decide +kernel
theorem dX6_readCell_50 : decode cX6_readCell 50 = .ok (.aload_n 0, 1) := by decide +kernel
theorem dX6_readCell_51 : decode cX6_readCell 51 = .ok (.getfield 21, 3) := by decide +kernel
theorem dX6_readCell_54 : decode cX6_readCell 54 = .ok (.getfield 67, 3) := by decide +kernel
theorem dX6_readCell_57 : decode cX6_readCell 57 = .ok (.aload_n 0, 1) := by decide +kernel
theorem dX6_readCell_58 : decode cX6_readCell 58 = .ok (.getfield 21, 3) := by decide +kernel
theorem dX6_readCell_61 : decode cX6_readCell 61 = .ok (.getfield 36, 3) := by decide +kernel
theorem dX6_readCell_64 : decode cX6_readCell 64 = .ok (.iload_n 1, 1) := by decide +kernel
theorem dX6_readCell_65 : decode cX6_readCell 65 = .ok (.iastore, 1) := by decide +kernel
theorem dX6_readCell_66 : decode cX6_readCell 66 = .ok (.aload_n 0, 1) := by decide +kernel
theorem dX6_readCell_67 : decode cX6_readCell 67 = .ok (.getfield 28, 3) := by decide +kernel
theorem dX6_readCell_70 : decode cX6_readCell 70 = .ok (.getfield 71, 3) := by decide +kernel
theorem dX6_readCell_73 : decode cX6_readCell 73 = .ok (.aload_n 0, 1) := by decide +kernel
theorem dX6_readCell_74 : decode cX6_readCell 74 = .ok (.getfield 21, 3) := by decide +kernel
theorem dX6_readCell_77 : decode cX6_readCell 77 = .ok (.getfield 36, 3) := by decide +kernel
theorem dX6_readCell_80 : decode cX6_readCell 80 = .ok (.iload_n 2, 1) := by decide +kernel
theorem dX6_readCell_81 : decode cX6_readCell 81 = .ok (.iastore, 1) := by decide +kernel
theorem dX6_readCell_82 : decode cX6_readCell 82 = .ok (.aload_n 0, 1) := by decide +kernel
theorem dX6_readCell_83 : decode cX6_readCell 83 = .ok (.getfield 21, 3) := by decide +kernel
theorem dX6_readCell_86 : decode cX6_readCell 86 = .ok (.dup, 1) := by decide +kernel
theorem dX6_readCell_87 : decode cX6_readCell 87 = .ok (.getfield 36, 3) := by decide +kernel
theorem dX6_readCell_90 : decode cX6_readCell 90 = .ok (.iconst 1, 1) := by decide +kernel
theorem dX6_readCell_91 : decode cX6_readCell 91 = .ok (.iadd, 1) := by decide +kernel
theorem dX6_readCell_92 : decode cX6_readCell 92 = .ok (.putfield 36, 3) := by decide +kernel
theorem dX6_readCell_95 : decode cX6_readCell 95 = .ok (.iconst 1, 1) := by decide +kernel
theorem dX6_readCell_96 : decode cX6_readCell 96 = .ok (.ireturn, 1) := by decide +kernel
set_option maxRecDepth 20000 in
theorem ggX6_readThings_X6_readThing : GoodIn wsX6_readThings wsX6_readThing := goodIn_r _ [6, 1, 7, 8, 9, 10, 11, 12, 13, 14, 15, 16, 17, 18, 19, 20, 21, 22, 23, 24, 25, 26, 27, 28, 29, 30, 31, 32, 33, 34, 35, 36, 37, 38, 39, 40, 41, 42, 43, 44, 45, 46, 47, 48, 49, 50, 51, 52, 53, 54, 55, 56, 57, 58, 59, 60, 61, 62, 63, 64, 65, 66, 67, 68, 69, 70, 71, 72, 73, 74, 75, 76, 77, 78, 79, 80, 81, 82, 83, 84, 85, 86, 87, 88, 89, 90, 91, 92, 93, 94, 95, 96, 97, 98, 99, 100, 101, 102, 103, 104, 105, 106, 107, 108, 109, 110, 111, 112, 113, 114, 115, 116, 117, 118, 119, 120, 121, 122, 123, 124, 125, 126, 127, 128, 129, 130, 131, 132, 133, 134, 135, 136, 137, 138, 139, 140, 141, 142, 143, 144, 145, 146, 147, 148, 149, 150, 151, 152, 153, 154, 155, 156, 157, 158, 159, 160, 161, 162, 163, 164] (by decide +kernel) (by decide +kernel)
set_option maxRecDepth 20000 in
theorem gX6_readThings_X6_readThing : GoodIn wsX6_readThings (wsV RX6 74 RX6 yX6_readThing wsX6_readThing) := goodIn_app (goodIn_of _ (by decide +kernel)) ggX6_readThings_X6_readThing
set_option maxRecDepth 20000 in
theorem ggX6_readThings_X3_takes : GoodIn wsX6_readThings wsX3_takes := goodIn_r _ [125, 17, 117, 13, 14, 15, 16, 18, 19, 118, 21, 22, 23, 148, 149, 150] (by decide +kernel) (by decide +kernel)
set_option maxRecDepth 20000 in
theorem gX6_readThings_X3_takes : GoodIn wsX6_readThings (wsV RX6 46 RX3 yX3_takes wsX3_takes) := goodIn_app (goodIn_of _ (by decide +kernel)) ggX6_readThings_X3_takes
theorem dX6_readThings_0 : decode cX6_readThings 0 = .ok (.iconst 0, 1) := by decide +kernel
theorem dX6_readThings_1 : decode cX6_readThings 1 = .ok (.istore_n 1, 1) := by decide +kernel
theorem dX6_readThings_2 : decode cX6_readThings 2 = .ok (.iload_n 1, 1) := by decide +kernel
theorem dX6_readThings_3 : decode cX6_readThings 3 = .ok (.bipush 8, 2) := by decide +kernel
theorem dX6_readThings_5 : decode cX6_readThings 5 = .ok (.if_icmp .ge 51, 3) := by decide +kernel
theorem dX6_readThings_8 : decode cX6_readThings 8 = .ok (.aload_n 0, 1) := by decide +kernel
theorem dX6_readThings_9 : decode cX6_readThings 9 = .ok (.invokevirtual 74, 3) := by decide +kernel
theorem dX6_readThings_12 : decode cX6_readThings 12 = .ok (.ifCond .ne 5, 3) := by decide +kernel
theorem dX6_readThings_15 : decode cX6_readThings 15 = .ok (.iconst 0, 1) := by decide +kernel
theorem dX6_readThings_16 : decode cX6_readThings 16 = .ok (.ireturn, 1) := by decide +kernel
theorem dX6_readThings_17 : decode cX6_readThings 17 = .ok (.iload_n 1, 1) := by decide +kernel
theorem dX6_readThings_18 : decode cX6_readThings 18 = .ok (.iconst 1, 1) := by decide +kernel
theorem dX6_readThings_19 : decode cX6_readThings 19 = .ok (.iadd, 1) := by decide +kernel
theorem dX6_readThings_20 : decode cX6_readThings 20 = .ok (.bipush 8, 2) := by decide +kernel
theorem dX6_readThings_22 : decode cX6_readThings 22 = .ok (.if_icmp .eq 15, 3) := by decide +kernel
theorem dX6_readThings_25 : decode cX6_readThings 25 = .ok (.aload_n 0, 1) := by decide +kernel
theorem dX6_readThings_26 : decode cX6_readThings 26 = .ok (.getfield 12, 3) := by decide +kernel
theorem dX6_readThings_29 : decode cX6_readThings 29 = .ok (.bipush 44, 2) := by decide +kernel
theorem dX6_readThings_31 : decode cX6_readThings 31 = .ok (.invokevirtual 46, 3) := by decide +kernel
theorem dX6_readThings_34 : decode cX6_readThings 34 = .ok (.ifCond .ne 7, 3) := by decide +kernel
theorem dX6_readThings_37 : decode cX6_readThings 37 = .ok (.iconst 1, 1) := by decide +kernel
theorem dX6_readThings_38 : decode cX6_readThings 38 = .ok (.goto 4, 3) := by decide +kernel
theorem dX6_readThings_41 : decode cX6_readThings 41 = .ok (.iconst 0, 1) := by decide +kernel
theorem dX6_readThings_42 : decode cX6_readThings 42 = .ok (.istore_n 2, 1) := by decide +kernel
theorem dX6_readThings_43 : decode cX6_readThings 43 = .ok (.iload_n 2, 1) := by decide +kernel
theorem dX6_readThings_44 : decode cX6_readThings 44 = .ok (.ifCond .eq 6, 3) := by decide +kernel
theorem dX6_readThings_47 : decode cX6_readThings 47 = .ok (.goto 9, 3) := by decide +kernel
theorem dX6_readThings_50 : decode cX6_readThings 50 = .ok (.iinc 1 1, 3) := by decide +kernel
theorem dX6_readThings_53 : decode cX6_readThings 53 = .ok (.goto (-51), 3) := by decide +kernel
theorem dX6_readThings_56 : decode cX6_readThings 56 = .ok (.iconst 1, 1) := by decide +kernel
theorem dX6_readThings_57 : decode cX6_readThings 57 = .ok (.ireturn, 1) := by decide +kernel
set_option maxRecDepth 20000 in
theorem ggX6_readThing_X3_skipBlanks : GoodIn wsX6_readThing wsX3_skipBlanks := goodIn_r _ [11, 12, 13, 14, 143, 144, 145] (by decide +kernel) (by decide +kernel)
set_option maxRecDepth 20000 in
theorem gX6_readThing_X3_skipBlanks : GoodIn wsX6_readThing (wsV RX6 53 RX3 yX3_skipBlanks wsX3_skipBlanks) := goodIn_app (goodIn_of _ (by decide +kernel)) ggX6_readThing_X3_skipBlanks
set_option maxRecDepth 20000 in
theorem ggX6_readThing_X3_letterHere : GoodIn wsX6_readThing wsX3_letterHere := goodIn_r _ [18, 12, 13, 14, 143, 144, 145] (by decide +kernel) (by decide +kernel)
set_option maxRecDepth 20000 in
theorem gX6_readThing_X3_letterHere : GoodIn wsX6_readThing (wsV RX6 56 RX3 yX3_letterHere wsX3_letterHere) := goodIn_app (goodIn_of _ (by decide +kernel)) ggX6_readThing_X3_letterHere
set_option maxRecDepth 20000 in
theorem ggX6_readThing_J0_indexOf_0f7a4 : GoodIn wsX6_readThing wsJ0_indexOf_0f7a4 := goodIn_r _ [23, 24, 25, 26, 22, 27, 28, 29, 30, 31, 32, 33, 34, 35, 36, 37, 38, 39, 40, 41, 42, 43, 44, 45, 46, 47, 48, 49, 50, 51, 52, 53, 54, 55, 56, 57, 58, 59, 60, 61, 62, 63, 64, 65, 66, 67, 68, 69, 70, 71, 72, 73, 74, 75, 76, 77, 78, 79, 80, 81, 82, 83, 84, 85, 86, 87, 88, 89, 90, 91, 92, 93, 94, 95, 96, 97, 98, 99, 100, 101, 102, 103, 104, 105, 106, 107] (by decide +kernel) (by decide +kernel)
set_option maxRecDepth 20000 in
theorem gX6_readThing_J0_indexOf_0f7a4 : GoodIn wsX6_readThing (wsV RX6 79 RJ0 yJ0_indexOf_0f7a4 wsJ0_indexOf_0f7a4) := goodIn_app (goodIn_of _ (by decide +kernel)) ggX6_readThing_J0_indexOf_0f7a4
set_option maxRecDepth 20000 in
theorem ggX6_readThing_X3_readDigit : GoodIn wsX6_readThing wsX3_readDigit := goodIn_r _ [111, 12, 112, 8, 9, 10, 11, 13, 14, 113, 16, 17, 18, 114, 115, 116, 143, 144, 145] (by decide +kernel) (by decide +kernel)
set_option maxRecDepth 20000 in
theorem gX6_readThing_X3_readDigit : GoodIn wsX6_readThing (wsV RX6 63 RX3 yX3_readDigit wsX3_readDigit) := goodIn_app (goodIn_of _ (by decide +kernel)) ggX6_readThing_X3_readDigit
set_option maxRecDepth 20000 in
theorem ggX6_readThing_X3_takes : GoodIn wsX6_readThing wsX3_takes := goodIn_r _ [120, 12, 112, 8, 9, 10, 11, 13, 14, 113, 16, 17, 18, 143, 144, 145] (by decide +kernel) (by decide +kernel)
set_option maxRecDepth 20000 in
theorem gX6_readThing_X3_takes : GoodIn wsX6_readThing (wsV RX6 46 RX3 yX3_takes wsX3_takes) := goodIn_app (goodIn_of _ (by decide +kernel)) ggX6_readThing_X3_takes
set_option maxRecDepth 20000 in
theorem ggX6_readThing_X3_readNumberBelow : GoodIn wsX6_readThing wsX3_readNumberBelow := goodIn_r _ [124, 12, 125, 109, 110, 10, 111, 112, 8, 9, 11, 13, 14, 113, 16, 17, 18, 114, 115, 116, 143, 144, 145] (by decide +kernel) (by decide +kernel)
set_option maxRecDepth 20000 in
theorem gX6_readThing_X3_readNumberBelow : GoodIn wsX6_readThing (wsV RX6 85 RX3 yX3_readNumberBelow wsX3_readNumberBelow) := goodIn_app (goodIn_of _ (by decide +kernel)) ggX6_readThing_X3_readNumberBelow
set_option maxRecDepth 20000 in
theorem ggX6_readThing_X1_putAt : GoodIn wsX6_readThing wsX1_putAt := goodIn_r _ [130, 131, 151, 152, 153, 154, 155, 156, 157, 158, 159] (by decide +kernel) (by decide +kernel)
set_option maxRecDepth 20000 in
theorem gX6_readThing_X1_putAt : GoodIn wsX6_readThing (wsV RX6 88 RX1 yX1_putAt wsX1_putAt) := goodIn_app (goodIn_of _ (by decide +kernel)) ggX6_readThing_X1_putAt
set_option maxRecDepth 20000 in
theorem ggX6_readThing_X5_addThing : GoodIn wsX6_readThing wsX5_addThing := goodIn_r _ [136, 137, 138, 139, 146, 147, 148, 149, 150] (by decide +kernel) (by decide +kernel)
set_option maxRecDepth 20000 in
theorem gX6_readThing_X5_addThing : GoodIn wsX6_readThing (wsV RX6 92 RX5 yX5_addThing wsX5_addThing) := goodIn_app (goodIn_of _ (by decide +kernel)) ggX6_readThing_X5_addThing
theorem dX6_readThing_0 : decode cX6_readThing 0 = .ok (.aload_n 0, 1) := by decide +kernel
theorem dX6_readThing_1 : decode cX6_readThing 1 = .ok (.getfield 12, 3) := by decide +kernel
theorem dX6_readThing_4 : decode cX6_readThing 4 = .ok (.invokevirtual 53, 3) := by decide +kernel
theorem dX6_readThing_7 : decode cX6_readThing 7 = .ok (.ldc 77, 2) := by decide +kernel
theorem dX6_readThing_9 : decode cX6_readThing 9 = .ok (.aload_n 0, 1) := by decide +kernel
theorem dX6_readThing_10 : decode cX6_readThing 10 = .ok (.getfield 12, 3) := by decide +kernel
theorem dX6_readThing_13 : decode cX6_readThing 13 = .ok (.invokevirtual 56, 3) := by decide +kernel
theorem dX6_readThing_16 : decode cX6_readThing 16 = .ok (.invokevirtual 79, 3) := by decide +kernel
theorem dX6_readThing_19 : decode cX6_readThing 19 = .ok (.istore_n 1, 1) := by decide +kernel
theorem dX6_readThing_20 : decode cX6_readThing 20 = .ok (.iload_n 1, 1) := by decide +kernel
theorem dX6_readThing_21 : decode cX6_readThing 21 = .ok (.ifCond .ge 5, 3) := by decide +kernel
theorem dX6_readThing_24 : decode cX6_readThing 24 = .ok (.iconst 0, 1) := by decide +kernel
theorem dX6_readThing_25 : decode cX6_readThing 25 = .ok (.ireturn, 1) := by decide +kernel
theorem dX6_readThing_26 : decode cX6_readThing 26 = .ok (.aload_n 0, 1) := by decide +kernel
theorem dX6_readThing_27 : decode cX6_readThing 27 = .ok (.getfield 12, 3) := by decide +kernel
theorem dX6_readThing_30 : decode cX6_readThing 30 = .ok (.dup, 1) := by decide +kernel
theorem dX6_readThing_31 : decode cX6_readThing 31 = .ok (.getfield 32, 3) := by decide +kernel
theorem dX6_readThing_34 : decode cX6_readThing 34 = .ok (.iconst 1, 1) := by decide +kernel
theorem dX6_readThing_35 : decode cX6_readThing 35 = .ok (.iadd, 1) := by decide +kernel
theorem dX6_readThing_36 : decode cX6_readThing 36 = .ok (.putfield 32, 3) := by decide +kernel
theorem dX6_readThing_39 : decode cX6_readThing 39 = .ok (.aload_n 0, 1) := by decide +kernel
theorem dX6_readThing_40 : decode cX6_readThing 40 = .ok (.getfield 12, 3) := by decide +kernel
theorem dX6_readThing_43 : decode cX6_readThing 43 = .ok (.invokevirtual 63, 3) := by decide +kernel
theorem dX6_readThing_46 : decode cX6_readThing 46 = .ok (.istore_n 2, 1) := by decide +kernel
theorem dX6_readThing_47 : decode cX6_readThing 47 = .ok (.iload_n 2, 1) := by decide +kernel
theorem dX6_readThing_48 : decode cX6_readThing 48 = .ok (.ifCond .lt 15, 3) := by decide +kernel
theorem dX6_readThing_51 : decode cX6_readThing 51 = .ok (.aload_n 0, 1) := by decide +kernel
theorem dX6_readThing_52 : decode cX6_readThing 52 = .ok (.getfield 12, 3) := by decide +kernel
theorem dX6_readThing_55 : decode cX6_readThing 55 = .ok (.bipush 64, 2) := by decide +kernel
theorem dX6_readThing_57 : decode cX6_readThing 57 = .ok (.invokevirtual 46, 3) := by decide +kernel
theorem dX6_readThing_60 : decode cX6_readThing 60 = .ok (.ifCond .ne 5, 3) := by decide +kernel
theorem dX6_readThing_63 : decode cX6_readThing 63 = .ok (.iconst 0, 1) := by decide +kernel
theorem dX6_readThing_64 : decode cX6_readThing 64 = .ok (.ireturn, 1) := by decide +kernel
theorem dX6_readThing_65 : decode cX6_readThing 65 = .ok (.aload_n 0, 1) := by decide +kernel
theorem dX6_readThing_66 : decode cX6_readThing 66 = .ok (.getfield 12, 3) := by decide +kernel
theorem dX6_readThing_69 : decode cX6_readThing 69 = .ok (.aload_n 0, 1) := by decide +kernel
theorem dX6_readThing_70 : decode cX6_readThing 70 = .ok (.getfield 21, 3) := by decide +kernel
theorem dX6_readThing_73 : decode cX6_readThing 73 = .ok (.getfield 36, 3) := by decide +kernel
theorem dX6_readThing_76 : decode cX6_readThing 76 = .ok (.invokevirtual 85, 3) := by decide +kernel
theorem dX6_readThing_79 : decode cX6_readThing 79 = .ok (.istore_n 3, 1) := by decide +kernel
theorem dX6_readThing_80 : decode cX6_readThing 80 = .ok (.iload_n 3, 1) := by decide +kernel
theorem dX6_readThing_81 : decode cX6_readThing 81 = .ok (.ifCond .ge 5, 3) := by decide +kernel
theorem dX6_readThing_84 : decode cX6_readThing 84 = .ok (.iconst 0, 1) := by decide +kernel
theorem dX6_readThing_85 : decode cX6_readThing 85 = .ok (.ireturn, 1) := by decide +kernel
theorem dX6_readThing_86 : decode cX6_readThing 86 = .ok (.aload_n 0, 1) := by decide +kernel
theorem dX6_readThing_87 : decode cX6_readThing 87 = .ok (.getfield 28, 3) := by decide +kernel
theorem dX6_readThing_90 : decode cX6_readThing 90 = .ok (.aload_n 0, 1) := by decide +kernel
theorem dX6_readThing_91 : decode cX6_readThing 91 = .ok (.getfield 21, 3) := by decide +kernel
theorem dX6_readThing_94 : decode cX6_readThing 94 = .ok (.getfield 39, 3) := by decide +kernel
theorem dX6_readThing_97 : decode cX6_readThing 97 = .ok (.iload_n 3, 1) := by decide +kernel
theorem dX6_readThing_98 : decode cX6_readThing 98 = .ok (.invokevirtual 88, 3) := by decide +kernel
theorem dX6_readThing_101 : decode cX6_readThing 101 = .ok (.aload_n 0, 1) := by decide +kernel
theorem dX6_readThing_102 : decode cX6_readThing 102 = .ok (.getfield 21, 3) := by decide +kernel
theorem dX6_readThing_105 : decode cX6_readThing 105 = .ok (.iload_n 1, 1) := by decide +kernel
theorem dX6_readThing_106 : decode cX6_readThing 106 = .ok (.iload_n 2, 1) := by decide +kernel
theorem dX6_readThing_107 : decode cX6_readThing 107 = .ok (.invokevirtual 92, 3) := by decide +kernel
theorem dX6_readThing_110 : decode cX6_readThing 110 = .ok (.ireturn, 1) := by decide +kernel
set_option maxRecDepth 20000 in
theorem ggX7_init_X5_init : GoodIn wsX7_init wsX5_init := goodIn_r _ [18, 19, 2, 3, 20, 21, 22, 23, 24, 42, 43, 44, 45, 46] (by decide +kernel) (by decide +kernel)
set_option maxRecDepth 20000 in
theorem gX7_init_X5_init : GoodIn wsX7_init (wsX5_init) := ggX7_init_X5_init
set_option maxRecDepth 20000 in
theorem ggX7_init_X1_init : GoodIn wsX7_init wsX1_init := goodIn_r _ [27, 28, 2, 3, 20, 29, 30, 31, 32, 33, 34, 50, 51, 52, 53, 54, 55, 56, 57, 58] (by decide +kernel) (by decide +kernel)
set_option maxRecDepth 20000 in
theorem gX7_init_X1_init : GoodIn wsX7_init (wsX1_init) := ggX7_init_X1_init
set_option maxRecDepth 20000 in
theorem ggX7_init_X0_init : GoodIn wsX7_init wsX0_init := goodIn_r _ [37, 38, 2, 3, 39, 40, 9, 10, 41, 26, 27, 28, 20, 29, 30, 31, 32, 33, 34, 59, 60, 61, 50, 51, 52, 53, 54, 55, 56, 57, 58] (by decide +kernel) (by decide +kernel)
set_option maxRecDepth 20000 in
theorem gX7_init_X0_init : GoodIn wsX7_init (wsX0_init) := ggX7_init_X0_init
theorem dX7_init_0 : decode cX7_init 0 = .ok (.aload_n 0, 1) := by decide +kernel
theorem dX7_init_1 : decode cX7_init 1 = .ok (.invokespecial 1, 3) := by decide +kernel
theorem dX7_init_4 : decode cX7_init 4 = .ok (.aload_n 0, 1) := by decide +kernel
theorem dX7_init_5 : decode cX7_init 5 = .ok (.new 7, 3) := by decide +kernel
theorem dX7_init_8 : decode cX7_init 8 = .ok (.dup, 1) := by decide +kernel
theorem dX7_init_9 : decode cX7_init 9 = .ok (.invokespecial 9, 3) := by decide +kernel
theorem dX7_init_12 : decode cX7_init 12 = .ok (.putfield 10, 3) := by decide +kernel
theorem dX7_init_15 : decode cX7_init 15 = .ok (.aload_n 0, 1) := by decide +kernel
theorem dX7_init_16 : decode cX7_init 16 = .ok (.new 16, 3) := by decide +kernel
theorem dX7_init_19 : decode cX7_init 19 = .ok (.dup, 1) := by decide +kernel
theorem dX7_init_20 : decode cX7_init 20 = .ok (.invokespecial 18, 3) := by decide +kernel
theorem dX7_init_23 : decode cX7_init 23 = .ok (.putfield 19, 3) := by decide +kernel
theorem dX7_init_26 : decode cX7_init 26 = .ok (.aload_n 0, 1) := by decide +kernel
theorem dX7_init_27 : decode cX7_init 27 = .ok (.new 23, 3) := by decide +kernel
theorem dX7_init_30 : decode cX7_init 30 = .ok (.dup, 1) := by decide +kernel
theorem dX7_init_31 : decode cX7_init 31 = .ok (.invokespecial 25, 3) := by decide +kernel
theorem dX7_init_34 : decode cX7_init 34 = .ok (.putfield 26, 3) := by decide +kernel
theorem dX7_init_37 : decode cX7_init 37 = .ok (.return_, 1) := by decide +kernel
set_option maxRecDepth 20000 in
theorem ggX7_become_X5_become : GoodIn wsX7_become wsX5_become := goodIn_r _ [8, 9, 10, 11, 12, 13, 14, 15, 16, 17, 45, 46, 47, 48, 49] (by decide +kernel) (by decide +kernel)
set_option maxRecDepth 20000 in
theorem gX7_become_X5_become : GoodIn wsX7_become (wsV RX7 30 RX5 yX5_become wsX5_become) := goodIn_app (goodIn_of _ (by decide +kernel)) ggX7_become_X5_become
set_option maxRecDepth 20000 in
theorem ggX7_become_X1_become : GoodIn wsX7_become wsX1_become := goodIn_r _ [22, 23, 24, 11, 12, 13, 25, 26, 27, 28, 29, 30, 31, 32, 50, 51, 52, 53, 54, 55, 56, 57, 58] (by decide +kernel) (by decide +kernel)
set_option maxRecDepth 20000 in
theorem gX7_become_X1_become : GoodIn wsX7_become (wsV RX7 34 RX1 yX1_become wsX1_become) := goodIn_app (goodIn_of _ (by decide +kernel)) ggX7_become_X1_become
set_option maxRecDepth 20000 in
theorem ggX7_become_X0_become : GoodIn wsX7_become wsX0_become := goodIn_r _ [37, 38, 39, 40, 41, 19, 20, 21, 22, 23, 24, 11, 12, 13, 25, 26, 27, 28, 29, 30, 31, 32, 59, 60, 61, 50, 51, 52, 53, 54, 55, 56, 57, 58] (by decide +kernel) (by decide +kernel)
set_option maxRecDepth 20000 in
theorem gX7_become_X0_become : GoodIn wsX7_become (wsV RX7 37 RX0 yX0_become wsX0_become) := goodIn_app (goodIn_of _ (by decide +kernel)) ggX7_become_X0_become
theorem dX7_become_0 : decode cX7_become 0 = .ok (.aload_n 0, 1) := by decide +kernel
theorem dX7_become_1 : decode cX7_become 1 = .ok (.getfield 10, 3) := by decide +kernel
theorem dX7_become_4 : decode cX7_become 4 = .ok (.aload_n 1, 1) := by decide +kernel
theorem dX7_become_5 : decode cX7_become 5 = .ok (.getfield 10, 3) := by decide +kernel
theorem dX7_become_8 : decode cX7_become 8 = .ok (.invokevirtual 30, 3) := by decide +kernel
theorem dX7_become_11 : decode cX7_become 11 = .ok (.aload_n 0, 1) := by decide +kernel
theorem dX7_become_12 : decode cX7_become 12 = .ok (.getfield 19, 3) := by decide +kernel
theorem dX7_become_15 : decode cX7_become 15 = .ok (.aload_n 1, 1) := by decide +kernel
theorem dX7_become_16 : decode cX7_become 16 = .ok (.getfield 19, 3) := by decide +kernel
theorem dX7_become_19 : decode cX7_become 19 = .ok (.invokevirtual 34, 3) := by decide +kernel
theorem dX7_become_22 : decode cX7_become 22 = .ok (.aload_n 0, 1) := by decide +kernel
theorem dX7_become_23 : decode cX7_become 23 = .ok (.getfield 26, 3) := by decide +kernel
theorem dX7_become_26 : decode cX7_become 26 = .ok (.aload_n 1, 1) := by decide +kernel
theorem dX7_become_27 : decode cX7_become 27 = .ok (.getfield 26, 3) := by decide +kernel
theorem dX7_become_30 : decode cX7_become 30 = .ok (.invokevirtual 37, 3) := by decide +kernel
theorem dX7_become_33 : decode cX7_become 33 = .ok (.return_, 1) := by decide +kernel
