theorem d_X0_init_0 : Dc cX0_init 0 (.aload_n 0) 1 1 := dc_of (by decide +kernel) rfl
theorem d_X0_init_1 : Dc cX0_init 1 (.invokespecial 3) 3 4 := dc_of (by decide +kernel) rfl
theorem d_X0_init_4 : Dc cX0_init 4 (.aload_n 0) 1 5 := dc_of (by decide +kernel) rfl
theorem d_X0_init_5 : Dc cX0_init 5 (.bipush 8) 2 7 := dc_of (by decide +kernel) rfl
theorem d_X0_init_7 : Dc cX0_init 7 (.newarray .int) 2 9 := dc_of (by decide +kernel) rfl
theorem d_X0_init_9 : Dc cX0_init 9 (.putfield 9) 3 12 := dc_of (by decide +kernel) rfl
theorem d_X0_init_12 : Dc cX0_init 12 (.aload_n 0) 1 13 := dc_of (by decide +kernel) rfl
theorem d_X0_init_13 : Dc cX0_init 13 (.bipush 8) 2 15 := dc_of (by decide +kernel) rfl
theorem d_X0_init_15 : Dc cX0_init 15 (.newarray .int) 2 17 := dc_of (by decide +kernel) rfl
theorem d_X0_init_17 : Dc cX0_init 17 (.putfield 15) 3 20 := dc_of (by decide +kernel) rfl
theorem d_X0_init_20 : Dc cX0_init 20 (.aload_n 0) 1 21 := dc_of (by decide +kernel) rfl
theorem d_X0_init_21 : Dc cX0_init 21 (.sipush 1000) 3 24 := dc_of (by decide +kernel) rfl
theorem d_X0_init_24 : Dc cX0_init 24 (.newarray .int) 2 26 := dc_of (by decide +kernel) rfl
theorem d_X0_init_26 : Dc cX0_init 26 (.putfield 18) 3 29 := dc_of (by decide +kernel) rfl
theorem d_X0_init_29 : Dc cX0_init 29 (.aload_n 0) 1 30 := dc_of (by decide +kernel) rfl
theorem d_X0_init_30 : Dc cX0_init 30 (.bipush 30) 2 32 := dc_of (by decide +kernel) rfl
theorem d_X0_init_32 : Dc cX0_init 32 (.newarray .int) 2 34 := dc_of (by decide +kernel) rfl
theorem d_X0_init_34 : Dc cX0_init 34 (.putfield 21) 3 37 := dc_of (by decide +kernel) rfl
theorem d_X0_init_37 : Dc cX0_init 37 (.return_) 1 38 := dc_of (by decide +kernel) rfl
theorem d_X1_init_0 : Dc cX1_init 0 (.aload_n 0) 1 1 := dc_of (by decide +kernel) rfl
theorem d_X1_init_1 : Dc cX1_init 1 (.invokespecial 3) 3 4 := dc_of (by decide +kernel) rfl
theorem d_X1_init_4 : Dc cX1_init 4 (.aload_n 0) 1 5 := dc_of (by decide +kernel) rfl
theorem d_X1_init_5 : Dc cX1_init 5 (.bipush 16) 2 7 := dc_of (by decide +kernel) rfl
theorem d_X1_init_7 : Dc cX1_init 7 (.newarray .int) 2 9 := dc_of (by decide +kernel) rfl
theorem d_X1_init_9 : Dc cX1_init 9 (.putfield 9) 3 12 := dc_of (by decide +kernel) rfl
theorem d_X1_init_12 : Dc cX1_init 12 (.aload_n 0) 1 13 := dc_of (by decide +kernel) rfl
theorem d_X1_init_13 : Dc cX1_init 13 (.bipush 16) 2 15 := dc_of (by decide +kernel) rfl
theorem d_X1_init_15 : Dc cX1_init 15 (.newarray .int) 2 17 := dc_of (by decide +kernel) rfl
theorem d_X1_init_17 : Dc cX1_init 17 (.putfield 15) 3 20 := dc_of (by decide +kernel) rfl
theorem d_X1_init_20 : Dc cX1_init 20 (.return_) 1 21 := dc_of (by decide +kernel) rfl
theorem d_X2_init_0 : Dc cX2_init 0 (.aload_n 0) 1 1 := dc_of (by decide +kernel) rfl
theorem d_X2_init_1 : Dc cX2_init 1 (.invokespecial 3) 3 4 := dc_of (by decide +kernel) rfl
theorem d_X2_init_4 : Dc cX2_init 4 (.aload_n 0) 1 5 := dc_of (by decide +kernel) rfl
theorem d_X2_init_5 : Dc cX2_init 5 (.bipush 16) 2 7 := dc_of (by decide +kernel) rfl
theorem d_X2_init_7 : Dc cX2_init 7 (.newarray .int) 2 9 := dc_of (by decide +kernel) rfl
theorem d_X2_init_9 : Dc cX2_init 9 (.putfield 9) 3 12 := dc_of (by decide +kernel) rfl
theorem d_X2_init_12 : Dc cX2_init 12 (.aload_n 0) 1 13 := dc_of (by decide +kernel) rfl
theorem d_X2_init_13 : Dc cX2_init 13 (.bipush 16) 2 15 := dc_of (by decide +kernel) rfl
theorem d_X2_init_15 : Dc cX2_init 15 (.newarray .int) 2 17 := dc_of (by decide +kernel) rfl
theorem d_X2_init_17 : Dc cX2_init 17 (.putfield 15) 3 20 := dc_of (by decide +kernel) rfl
theorem d_X2_init_20 : Dc cX2_init 20 (.aload_n 0) 1 21 := dc_of (by decide +kernel) rfl
theorem d_X2_init_21 : Dc cX2_init 21 (.bipush 16) 2 23 := dc_of (by decide +kernel) rfl
theorem d_X2_init_23 : Dc cX2_init 23 (.newarray .int) 2 25 := dc_of (by decide +kernel) rfl
theorem d_X2_init_25 : Dc cX2_init 25 (.putfield 18) 3 28 := dc_of (by decide +kernel) rfl
theorem d_X2_init_28 : Dc cX2_init 28 (.aload_n 0) 1 29 := dc_of (by decide +kernel) rfl
theorem d_X2_init_29 : Dc cX2_init 29 (.sipush 400) 3 32 := dc_of (by decide +kernel) rfl
theorem d_X2_init_32 : Dc cX2_init 32 (.newarray .int) 2 34 := dc_of (by decide +kernel) rfl
theorem d_X2_init_34 : Dc cX2_init 34 (.putfield 21) 3 37 := dc_of (by decide +kernel) rfl
theorem d_X2_init_37 : Dc cX2_init 37 (.aload_n 0) 1 38 := dc_of (by decide +kernel) rfl
theorem d_X2_init_38 : Dc cX2_init 38 (.bipush 10) 2 40 := dc_of (by decide +kernel) rfl
theorem d_X2_init_40 : Dc cX2_init 40 (.newarray .int) 2 42 := dc_of (by decide +kernel) rfl
theorem d_X2_init_42 : Dc cX2_init 42 (.putfield 24) 3 45 := dc_of (by decide +kernel) rfl
theorem d_X2_init_45 : Dc cX2_init 45 (.aload_n 0) 1 46 := dc_of (by decide +kernel) rfl
theorem d_X2_init_46 : Dc cX2_init 46 (.bipush 32) 2 48 := dc_of (by decide +kernel) rfl
theorem d_X2_init_48 : Dc cX2_init 48 (.newarray .int) 2 50 := dc_of (by decide +kernel) rfl
theorem d_X2_init_50 : Dc cX2_init 50 (.putfield 27) 3 53 := dc_of (by decide +kernel) rfl
theorem d_X2_init_53 : Dc cX2_init 53 (.return_) 1 54 := dc_of (by decide +kernel) rfl
theorem d_X3_init_0 : Dc cX3_init 0 (.aload_n 0) 1 1 := dc_of (by decide +kernel) rfl
theorem d_X3_init_1 : Dc cX3_init 1 (.invokespecial 3) 3 4 := dc_of (by decide +kernel) rfl
theorem d_X3_init_4 : Dc cX3_init 4 (.aload_n 0) 1 5 := dc_of (by decide +kernel) rfl
theorem d_X3_init_5 : Dc cX3_init 5 (.iconst 4) 1 6 := dc_of (by decide +kernel) rfl
theorem d_X3_init_6 : Dc cX3_init 6 (.newarray .int) 2 8 := dc_of (by decide +kernel) rfl
theorem d_X3_init_8 : Dc cX3_init 8 (.putfield 9) 3 11 := dc_of (by decide +kernel) rfl
theorem d_X3_init_11 : Dc cX3_init 11 (.aload_n 0) 1 12 := dc_of (by decide +kernel) rfl
theorem d_X3_init_12 : Dc cX3_init 12 (.bipush 6) 2 14 := dc_of (by decide +kernel) rfl
theorem d_X3_init_14 : Dc cX3_init 14 (.newarray .int) 2 16 := dc_of (by decide +kernel) rfl
theorem d_X3_init_16 : Dc cX3_init 16 (.putfield 15) 3 19 := dc_of (by decide +kernel) rfl
theorem d_X3_init_19 : Dc cX3_init 19 (.return_) 1 20 := dc_of (by decide +kernel) rfl
theorem d_X4_init_0 : Dc cX4_init 0 (.aload_n 0) 1 1 := dc_of (by decide +kernel) rfl
theorem d_X4_init_1 : Dc cX4_init 1 (.invokespecial 3) 3 4 := dc_of (by decide +kernel) rfl
theorem d_X4_init_4 : Dc cX4_init 4 (.aload_n 0) 1 5 := dc_of (by decide +kernel) rfl
theorem d_X4_init_5 : Dc cX4_init 5 (.bipush 10) 2 7 := dc_of (by decide +kernel) rfl
theorem d_X4_init_7 : Dc cX4_init 7 (.newarray .int) 2 9 := dc_of (by decide +kernel) rfl
theorem d_X4_init_9 : Dc cX4_init 9 (.putfield 9) 3 12 := dc_of (by decide +kernel) rfl
theorem d_X4_init_12 : Dc cX4_init 12 (.aload_n 0) 1 13 := dc_of (by decide +kernel) rfl
theorem d_X4_init_13 : Dc cX4_init 13 (.bipush 10) 2 15 := dc_of (by decide +kernel) rfl
theorem d_X4_init_15 : Dc cX4_init 15 (.newarray .int) 2 17 := dc_of (by decide +kernel) rfl
theorem d_X4_init_17 : Dc cX4_init 17 (.putfield 15) 3 20 := dc_of (by decide +kernel) rfl
theorem d_X4_init_20 : Dc cX4_init 20 (.aload_n 0) 1 21 := dc_of (by decide +kernel) rfl
theorem d_X4_init_21 : Dc cX4_init 21 (.bipush 10) 2 23 := dc_of (by decide +kernel) rfl
theorem d_X4_init_23 : Dc cX4_init 23 (.newarray .int) 2 25 := dc_of (by decide +kernel) rfl
theorem d_X4_init_25 : Dc cX4_init 25 (.putfield 18) 3 28 := dc_of (by decide +kernel) rfl
theorem d_X4_init_28 : Dc cX4_init 28 (.aload_n 0) 1 29 := dc_of (by decide +kernel) rfl
theorem d_X4_init_29 : Dc cX4_init 29 (.bipush 10) 2 31 := dc_of (by decide +kernel) rfl
theorem d_X4_init_31 : Dc cX4_init 31 (.newarray .int) 2 33 := dc_of (by decide +kernel) rfl
theorem d_X4_init_33 : Dc cX4_init 33 (.putfield 21) 3 36 := dc_of (by decide +kernel) rfl
theorem d_X4_init_36 : Dc cX4_init 36 (.aload_n 0) 1 37 := dc_of (by decide +kernel) rfl
theorem d_X4_init_37 : Dc cX4_init 37 (.bipush 10) 2 39 := dc_of (by decide +kernel) rfl
theorem d_X4_init_39 : Dc cX4_init 39 (.newarray .int) 2 41 := dc_of (by decide +kernel) rfl
theorem d_X4_init_41 : Dc cX4_init 41 (.putfield 24) 3 44 := dc_of (by decide +kernel) rfl
theorem d_X4_init_44 : Dc cX4_init 44 (.aload_n 0) 1 45 := dc_of (by decide +kernel) rfl
theorem d_X4_init_45 : Dc cX4_init 45 (.bipush 10) 2 47 := dc_of (by decide +kernel) rfl
theorem d_X4_init_47 : Dc cX4_init 47 (.newarray .int) 2 49 := dc_of (by decide +kernel) rfl
theorem d_X4_init_49 : Dc cX4_init 49 (.putfield 27) 3 52 := dc_of (by decide +kernel) rfl
theorem d_X4_init_52 : Dc cX4_init 52 (.aload_n 0) 1 53 := dc_of (by decide +kernel) rfl
theorem d_X4_init_53 : Dc cX4_init 53 (.bipush 10) 2 55 := dc_of (by decide +kernel) rfl
theorem d_X4_init_55 : Dc cX4_init 55 (.newarray .int) 2 57 := dc_of (by decide +kernel) rfl
theorem d_X4_init_57 : Dc cX4_init 57 (.putfield 30) 3 60 := dc_of (by decide +kernel) rfl
theorem d_X4_init_60 : Dc cX4_init 60 (.aload_n 0) 1 61 := dc_of (by decide +kernel) rfl
theorem d_X4_init_61 : Dc cX4_init 61 (.bipush 16) 2 63 := dc_of (by decide +kernel) rfl
theorem d_X4_init_63 : Dc cX4_init 63 (.newarray .int) 2 65 := dc_of (by decide +kernel) rfl
theorem d_X4_init_65 : Dc cX4_init 65 (.putfield 33) 3 68 := dc_of (by decide +kernel) rfl
theorem d_X4_init_68 : Dc cX4_init 68 (.iconst 0) 1 69 := dc_of (by decide +kernel) rfl
theorem d_X4_init_69 : Dc cX4_init 69 (.istore_n 1) 1 70 := dc_of (by decide +kernel) rfl
theorem d_X4_init_70 : Dc cX4_init 70 (.iload_n 1) 1 71 := dc_of (by decide +kernel) rfl
theorem d_X4_init_71 : Dc cX4_init 71 (.bipush 16) 2 73 := dc_of (by decide +kernel) rfl
theorem d_X4_init_73 : Db cX4_init 73 (.if_icmp .ge 17) 3 76 17 90 := db_of (by decide +kernel) rfl rfl
theorem d_X4_init_76 : Dc cX4_init 76 (.aload_n 0) 1 77 := dc_of (by decide +kernel) rfl
theorem d_X4_init_77 : Dc cX4_init 77 (.getfield 33) 3 80 := dc_of (by decide +kernel) rfl
theorem d_X4_init_80 : Dc cX4_init 80 (.iload_n 1) 1 81 := dc_of (by decide +kernel) rfl
theorem d_X4_init_81 : Dc cX4_init 81 (.bipush 10) 2 83 := dc_of (by decide +kernel) rfl
theorem d_X4_init_83 : Dc cX4_init 83 (.iastore) 1 84 := dc_of (by decide +kernel) rfl
theorem d_X4_init_84 : Dc cX4_init 84 (.iinc 1 1) 3 87 := dc_of (by decide +kernel) rfl
theorem d_X4_init_87 : Db cX4_init 87 (.goto (-17)) 3 90 (-17) 70 := db_of (by decide +kernel) rfl rfl
theorem d_X4_init_90 : Dc cX4_init 90 (.aload_n 0) 1 91 := dc_of (by decide +kernel) rfl
theorem d_X4_init_91 : Dc cX4_init 91 (.iconst 5) 1 92 := dc_of (by decide +kernel) rfl
theorem d_X4_init_92 : Dc cX4_init 92 (.putfield 36) 3 95 := dc_of (by decide +kernel) rfl
theorem d_X4_init_95 : Dc cX4_init 95 (.aload_n 0) 1 96 := dc_of (by decide +kernel) rfl
theorem d_X4_init_96 : Dc cX4_init 96 (.iconst 3) 1 97 := dc_of (by decide +kernel) rfl
theorem d_X4_init_97 : Dc cX4_init 97 (.putfield 40) 3 100 := dc_of (by decide +kernel) rfl
theorem d_X4_init_100 : Dc cX4_init 100 (.return_) 1 101 := dc_of (by decide +kernel) rfl
theorem d_X5_init_0 : Dc cX5_init 0 (.aload_n 0) 1 1 := dc_of (by decide +kernel) rfl
theorem d_X5_init_1 : Dc cX5_init 1 (.invokespecial 3) 3 4 := dc_of (by decide +kernel) rfl
theorem d_X5_init_4 : Dc cX5_init 4 (.aload_n 0) 1 5 := dc_of (by decide +kernel) rfl
theorem d_X5_init_5 : Dc cX5_init 5 (.bipush 6) 2 7 := dc_of (by decide +kernel) rfl
theorem d_X5_init_7 : Dc cX5_init 7 (.anewarray 9) 3 10 := dc_of (by decide +kernel) rfl
theorem d_X5_init_10 : Dc cX5_init 10 (.putfield 11) 3 13 := dc_of (by decide +kernel) rfl
theorem d_X5_init_13 : Dc cX5_init 13 (.iconst 0) 1 14 := dc_of (by decide +kernel) rfl
theorem d_X5_init_14 : Dc cX5_init 14 (.istore_n 1) 1 15 := dc_of (by decide +kernel) rfl
theorem d_X5_init_15 : Dc cX5_init 15 (.iload_n 1) 1 16 := dc_of (by decide +kernel) rfl
theorem d_X5_init_16 : Dc cX5_init 16 (.bipush 6) 2 18 := dc_of (by decide +kernel) rfl
theorem d_X5_init_18 : Db cX5_init 18 (.if_icmp .ge 22) 3 21 22 40 := db_of (by decide +kernel) rfl rfl
theorem d_X5_init_21 : Dc cX5_init 21 (.aload_n 0) 1 22 := dc_of (by decide +kernel) rfl
theorem d_X5_init_22 : Dc cX5_init 22 (.getfield 11) 3 25 := dc_of (by decide +kernel) rfl
theorem d_X5_init_25 : Dc cX5_init 25 (.iload_n 1) 1 26 := dc_of (by decide +kernel) rfl
theorem d_X5_init_26 : Dc cX5_init 26 (.new 9) 3 29 := dc_of (by decide +kernel) rfl
theorem d_X5_init_29 : Dc cX5_init 29 (.dup) 1 30 := dc_of (by decide +kernel) rfl
theorem d_X5_init_30 : Dc cX5_init 30 (.invokespecial 17) 3 33 := dc_of (by decide +kernel) rfl
theorem d_X5_init_33 : Dc cX5_init 33 (.aastore) 1 34 := dc_of (by decide +kernel) rfl
theorem d_X5_init_34 : Dc cX5_init 34 (.iinc 1 1) 3 37 := dc_of (by decide +kernel) rfl
theorem d_X5_init_37 : Db cX5_init 37 (.goto (-22)) 3 40 (-22) 15 := db_of (by decide +kernel) rfl rfl
theorem d_X5_init_40 : Dc cX5_init 40 (.return_) 1 41 := dc_of (by decide +kernel) rfl
theorem d_X6_init_0 : Dc cX6_init 0 (.aload_n 0) 1 1 := dc_of (by decide +kernel) rfl
theorem d_X6_init_1 : Dc cX6_init 1 (.invokespecial 3) 3 4 := dc_of (by decide +kernel) rfl
theorem d_X6_init_4 : Dc cX6_init 4 (.aload_n 0) 1 5 := dc_of (by decide +kernel) rfl
theorem d_X6_init_5 : Dc cX6_init 5 (.bipush 16) 2 7 := dc_of (by decide +kernel) rfl
theorem d_X6_init_7 : Dc cX6_init 7 (.newarray .int) 2 9 := dc_of (by decide +kernel) rfl
theorem d_X6_init_9 : Dc cX6_init 9 (.putfield 9) 3 12 := dc_of (by decide +kernel) rfl
theorem d_X6_init_12 : Dc cX6_init 12 (.aload_n 0) 1 13 := dc_of (by decide +kernel) rfl
theorem d_X6_init_13 : Dc cX6_init 13 (.bipush 16) 2 15 := dc_of (by decide +kernel) rfl
theorem d_X6_init_15 : Dc cX6_init 15 (.newarray .int) 2 17 := dc_of (by decide +kernel) rfl
theorem d_X6_init_17 : Dc cX6_init 17 (.putfield 15) 3 20 := dc_of (by decide +kernel) rfl
theorem d_X6_init_20 : Dc cX6_init 20 (.aload_n 0) 1 21 := dc_of (by decide +kernel) rfl
theorem d_X6_init_21 : Dc cX6_init 21 (.bipush 16) 2 23 := dc_of (by decide +kernel) rfl
theorem d_X6_init_23 : Dc cX6_init 23 (.newarray .int) 2 25 := dc_of (by decide +kernel) rfl
theorem d_X6_init_25 : Dc cX6_init 25 (.putfield 18) 3 28 := dc_of (by decide +kernel) rfl
theorem d_X6_init_28 : Dc cX6_init 28 (.aload_n 0) 1 29 := dc_of (by decide +kernel) rfl
theorem d_X6_init_29 : Dc cX6_init 29 (.bipush 16) 2 31 := dc_of (by decide +kernel) rfl
theorem d_X6_init_31 : Dc cX6_init 31 (.newarray .int) 2 33 := dc_of (by decide +kernel) rfl
theorem d_X6_init_33 : Dc cX6_init 33 (.putfield 21) 3 36 := dc_of (by decide +kernel) rfl
theorem d_X6_init_36 : Dc cX6_init 36 (.return_) 1 37 := dc_of (by decide +kernel) rfl
theorem d_X9_init_0 : Dc cX9_init 0 (.aload_n 0) 1 1 := dc_of (by decide +kernel) rfl
theorem d_X9_init_1 : Dc cX9_init 1 (.invokespecial 3) 3 4 := dc_of (by decide +kernel) rfl
theorem d_X9_init_4 : Dc cX9_init 4 (.aload_n 0) 1 5 := dc_of (by decide +kernel) rfl
theorem d_X9_init_5 : Dc cX9_init 5 (.bipush 12) 2 7 := dc_of (by decide +kernel) rfl
theorem d_X9_init_7 : Dc cX9_init 7 (.newarray .int) 2 9 := dc_of (by decide +kernel) rfl
theorem d_X9_init_9 : Dc cX9_init 9 (.putfield 9) 3 12 := dc_of (by decide +kernel) rfl
theorem d_X9_init_12 : Dc cX9_init 12 (.aload_n 0) 1 13 := dc_of (by decide +kernel) rfl
theorem d_X9_init_13 : Dc cX9_init 13 (.bipush 12) 2 15 := dc_of (by decide +kernel) rfl
theorem d_X9_init_15 : Dc cX9_init 15 (.newarray .int) 2 17 := dc_of (by decide +kernel) rfl
theorem d_X9_init_17 : Dc cX9_init 17 (.putfield 15) 3 20 := dc_of (by decide +kernel) rfl
theorem d_X9_init_20 : Dc cX9_init 20 (.aload_n 0) 1 21 := dc_of (by decide +kernel) rfl
theorem d_X9_init_21 : Dc cX9_init 21 (.bipush 12) 2 23 := dc_of (by decide +kernel) rfl
theorem d_X9_init_23 : Dc cX9_init 23 (.newarray .int) 2 25 := dc_of (by decide +kernel) rfl
theorem d_X9_init_25 : Dc cX9_init 25 (.putfield 18) 3 28 := dc_of (by decide +kernel) rfl
theorem d_X9_init_28 : Dc cX9_init 28 (.return_) 1 29 := dc_of (by decide +kernel) rfl
theorem d_X7_init_0 : Dc cX7_init 0 (.aload_n 0) 1 1 := dc_of (by decide +kernel) rfl
theorem d_X7_init_1 : Dc cX7_init 1 (.invokespecial 3) 3 4 := dc_of (by decide +kernel) rfl
theorem d_X7_init_4 : Dc cX7_init 4 (.aload_n 0) 1 5 := dc_of (by decide +kernel) rfl
theorem d_X7_init_5 : Dc cX7_init 5 (.new 9) 3 8 := dc_of (by decide +kernel) rfl
theorem d_X7_init_8 : Dc cX7_init 8 (.dup) 1 9 := dc_of (by decide +kernel) rfl
theorem d_X7_init_9 : Dc cX7_init 9 (.invokespecial 11) 3 12 := dc_of (by decide +kernel) rfl
theorem d_X7_init_12 : Dc cX7_init 12 (.putfield 12) 3 15 := dc_of (by decide +kernel) rfl
theorem d_X7_init_15 : Dc cX7_init 15 (.aload_n 0) 1 16 := dc_of (by decide +kernel) rfl
theorem d_X7_init_16 : Dc cX7_init 16 (.new 18) 3 19 := dc_of (by decide +kernel) rfl
theorem d_X7_init_19 : Dc cX7_init 19 (.dup) 1 20 := dc_of (by decide +kernel) rfl
theorem d_X7_init_20 : Dc cX7_init 20 (.invokespecial 20) 3 23 := dc_of (by decide +kernel) rfl
theorem d_X7_init_23 : Dc cX7_init 23 (.putfield 21) 3 26 := dc_of (by decide +kernel) rfl
theorem d_X7_init_26 : Dc cX7_init 26 (.aload_n 0) 1 27 := dc_of (by decide +kernel) rfl
theorem d_X7_init_27 : Dc cX7_init 27 (.new 25) 3 30 := dc_of (by decide +kernel) rfl
theorem d_X7_init_30 : Dc cX7_init 30 (.dup) 1 31 := dc_of (by decide +kernel) rfl
theorem d_X7_init_31 : Dc cX7_init 31 (.invokespecial 27) 3 34 := dc_of (by decide +kernel) rfl
theorem d_X7_init_34 : Dc cX7_init 34 (.putfield 28) 3 37 := dc_of (by decide +kernel) rfl
theorem d_X7_init_37 : Dc cX7_init 37 (.aload_n 0) 1 38 := dc_of (by decide +kernel) rfl
theorem d_X7_init_38 : Dc cX7_init 38 (.new 32) 3 41 := dc_of (by decide +kernel) rfl
theorem d_X7_init_41 : Dc cX7_init 41 (.dup) 1 42 := dc_of (by decide +kernel) rfl
theorem d_X7_init_42 : Dc cX7_init 42 (.invokespecial 34) 3 45 := dc_of (by decide +kernel) rfl
theorem d_X7_init_45 : Dc cX7_init 45 (.putfield 35) 3 48 := dc_of (by decide +kernel) rfl
theorem d_X7_init_48 : Dc cX7_init 48 (.aload_n 0) 1 49 := dc_of (by decide +kernel) rfl
theorem d_X7_init_49 : Dc cX7_init 49 (.iconst (-1)) 1 50 := dc_of (by decide +kernel) rfl
theorem d_X7_init_50 : Dc cX7_init 50 (.putfield 39) 3 53 := dc_of (by decide +kernel) rfl
theorem d_X7_init_53 : Dc cX7_init 53 (.aload_n 0) 1 54 := dc_of (by decide +kernel) rfl
theorem d_X7_init_54 : Dc cX7_init 54 (.sipush 400) 3 57 := dc_of (by decide +kernel) rfl
theorem d_X7_init_57 : Dc cX7_init 57 (.newarray .int) 2 59 := dc_of (by decide +kernel) rfl
theorem d_X7_init_59 : Dc cX7_init 59 (.putfield 43) 3 62 := dc_of (by decide +kernel) rfl
theorem d_X7_init_62 : Dc cX7_init 62 (.aload_n 0) 1 63 := dc_of (by decide +kernel) rfl
theorem d_X7_init_63 : Dc cX7_init 63 (.sipush 401) 3 66 := dc_of (by decide +kernel) rfl
theorem d_X7_init_66 : Dc cX7_init 66 (.newarray .int) 2 68 := dc_of (by decide +kernel) rfl
theorem d_X7_init_68 : Dc cX7_init 68 (.putfield 47) 3 71 := dc_of (by decide +kernel) rfl
theorem d_X7_init_71 : Dc cX7_init 71 (.aload_n 0) 1 72 := dc_of (by decide +kernel) rfl
theorem d_X7_init_72 : Dc cX7_init 72 (.sipush 401) 3 75 := dc_of (by decide +kernel) rfl
theorem d_X7_init_75 : Dc cX7_init 75 (.newarray .int) 2 77 := dc_of (by decide +kernel) rfl
theorem d_X7_init_77 : Dc cX7_init 77 (.putfield 50) 3 80 := dc_of (by decide +kernel) rfl
theorem d_X7_init_80 : Dc cX7_init 80 (.aload_n 0) 1 81 := dc_of (by decide +kernel) rfl
theorem d_X7_init_81 : Dc cX7_init 81 (.sipush 401) 3 84 := dc_of (by decide +kernel) rfl
theorem d_X7_init_84 : Dc cX7_init 84 (.newarray .int) 2 86 := dc_of (by decide +kernel) rfl
theorem d_X7_init_86 : Dc cX7_init 86 (.putfield 53) 3 89 := dc_of (by decide +kernel) rfl
theorem d_X7_init_89 : Dc cX7_init 89 (.aload_n 0) 1 90 := dc_of (by decide +kernel) rfl
theorem d_X7_init_90 : Dc cX7_init 90 (.bipush 32) 2 92 := dc_of (by decide +kernel) rfl
theorem d_X7_init_92 : Dc cX7_init 92 (.newarray .int) 2 94 := dc_of (by decide +kernel) rfl
theorem d_X7_init_94 : Dc cX7_init 94 (.putfield 56) 3 97 := dc_of (by decide +kernel) rfl
theorem d_X7_init_97 : Dc cX7_init 97 (.return_) 1 98 := dc_of (by decide +kernel) rfl
theorem d_X8_init_0 : Dc cX8_init 0 (.aload_n 0) 1 1 := dc_of (by decide +kernel) rfl
theorem d_X8_init_1 : Dc cX8_init 1 (.invokespecial 3) 3 4 := dc_of (by decide +kernel) rfl
theorem d_X8_init_4 : Dc cX8_init 4 (.aload_n 0) 1 5 := dc_of (by decide +kernel) rfl
theorem d_X8_init_5 : Dc cX8_init 5 (.bipush 11) 2 7 := dc_of (by decide +kernel) rfl
theorem d_X8_init_7 : Dc cX8_init 7 (.anewarray 9) 3 10 := dc_of (by decide +kernel) rfl
theorem d_X8_init_10 : Dc cX8_init 10 (.putfield 11) 3 13 := dc_of (by decide +kernel) rfl
theorem d_X8_init_13 : Dc cX8_init 13 (.aload_n 0) 1 14 := dc_of (by decide +kernel) rfl
theorem d_X8_init_14 : Dc cX8_init 14 (.bipush 10) 2 16 := dc_of (by decide +kernel) rfl
theorem d_X8_init_16 : Dc cX8_init 16 (.newarray .int) 2 18 := dc_of (by decide +kernel) rfl
theorem d_X8_init_18 : Dc cX8_init 18 (.putfield 17) 3 21 := dc_of (by decide +kernel) rfl
theorem d_X8_init_21 : Dc cX8_init 21 (.aload_n 0) 1 22 := dc_of (by decide +kernel) rfl
theorem d_X8_init_22 : Dc cX8_init 22 (.bipush 10) 2 24 := dc_of (by decide +kernel) rfl
theorem d_X8_init_24 : Dc cX8_init 24 (.newarray .int) 2 26 := dc_of (by decide +kernel) rfl
theorem d_X8_init_26 : Dc cX8_init 26 (.putfield 21) 3 29 := dc_of (by decide +kernel) rfl
theorem d_X8_init_29 : Dc cX8_init 29 (.iconst 0) 1 30 := dc_of (by decide +kernel) rfl
theorem d_X8_init_30 : Dc cX8_init 30 (.istore_n 1) 1 31 := dc_of (by decide +kernel) rfl
theorem d_X8_init_31 : Dc cX8_init 31 (.iload_n 1) 1 32 := dc_of (by decide +kernel) rfl
theorem d_X8_init_32 : Dc cX8_init 32 (.bipush 10) 2 34 := dc_of (by decide +kernel) rfl
theorem d_X8_init_34 : Db cX8_init 34 (.if_icmp .gt 22) 3 37 22 56 := db_of (by decide +kernel) rfl rfl
theorem d_X8_init_37 : Dc cX8_init 37 (.aload_n 0) 1 38 := dc_of (by decide +kernel) rfl
theorem d_X8_init_38 : Dc cX8_init 38 (.getfield 11) 3 41 := dc_of (by decide +kernel) rfl
theorem d_X8_init_41 : Dc cX8_init 41 (.iload_n 1) 1 42 := dc_of (by decide +kernel) rfl
theorem d_X8_init_42 : Dc cX8_init 42 (.new 9) 3 45 := dc_of (by decide +kernel) rfl
theorem d_X8_init_45 : Dc cX8_init 45 (.dup) 1 46 := dc_of (by decide +kernel) rfl
theorem d_X8_init_46 : Dc cX8_init 46 (.invokespecial 24) 3 49 := dc_of (by decide +kernel) rfl
theorem d_X8_init_49 : Dc cX8_init 49 (.aastore) 1 50 := dc_of (by decide +kernel) rfl
theorem d_X8_init_50 : Dc cX8_init 50 (.iinc 1 1) 3 53 := dc_of (by decide +kernel) rfl
theorem d_X8_init_53 : Db cX8_init 53 (.goto (-22)) 3 56 (-22) 31 := db_of (by decide +kernel) rfl rfl
theorem d_X8_init_56 : Dc cX8_init 56 (.return_) 1 57 := dc_of (by decide +kernel) rfl
theorem d_X10_init_0 : Dc cX10_init 0 (.aload_n 0) 1 1 := dc_of (by decide +kernel) rfl
theorem d_X10_init_1 : Dc cX10_init 1 (.invokespecial 3) 3 4 := dc_of (by decide +kernel) rfl
theorem d_X10_init_4 : Dc cX10_init 4 (.aload_n 0) 1 5 := dc_of (by decide +kernel) rfl
theorem d_X10_init_5 : Dc cX10_init 5 (.new 9) 3 8 := dc_of (by decide +kernel) rfl
theorem d_X10_init_8 : Dc cX10_init 8 (.dup) 1 9 := dc_of (by decide +kernel) rfl
theorem d_X10_init_9 : Dc cX10_init 9 (.invokespecial 11) 3 12 := dc_of (by decide +kernel) rfl
theorem d_X10_init_12 : Dc cX10_init 12 (.putfield 12) 3 15 := dc_of (by decide +kernel) rfl
theorem d_X10_init_15 : Dc cX10_init 15 (.aload_n 0) 1 16 := dc_of (by decide +kernel) rfl
theorem d_X10_init_16 : Dc cX10_init 16 (.sipush 600) 3 19 := dc_of (by decide +kernel) rfl
theorem d_X10_init_19 : Dc cX10_init 19 (.newarray .int) 2 21 := dc_of (by decide +kernel) rfl
theorem d_X10_init_21 : Dc cX10_init 21 (.putfield 18) 3 24 := dc_of (by decide +kernel) rfl
theorem d_X10_init_24 : Dc cX10_init 24 (.aload_n 0) 1 25 := dc_of (by decide +kernel) rfl
theorem d_X10_init_25 : Dc cX10_init 25 (.new 22) 3 28 := dc_of (by decide +kernel) rfl
theorem d_X10_init_28 : Dc cX10_init 28 (.dup) 1 29 := dc_of (by decide +kernel) rfl
theorem d_X10_init_29 : Dc cX10_init 29 (.invokespecial 24) 3 32 := dc_of (by decide +kernel) rfl
theorem d_X10_init_32 : Dc cX10_init 32 (.putfield 25) 3 35 := dc_of (by decide +kernel) rfl
theorem d_X10_init_35 : Dc cX10_init 35 (.aload_n 0) 1 36 := dc_of (by decide +kernel) rfl
theorem d_X10_init_36 : Dc cX10_init 36 (.new 29) 3 39 := dc_of (by decide +kernel) rfl
theorem d_X10_init_39 : Dc cX10_init 39 (.dup) 1 40 := dc_of (by decide +kernel) rfl
theorem d_X10_init_40 : Dc cX10_init 40 (.invokespecial 31) 3 43 := dc_of (by decide +kernel) rfl
theorem d_X10_init_43 : Dc cX10_init 43 (.putfield 32) 3 46 := dc_of (by decide +kernel) rfl
theorem d_X10_init_46 : Dc cX10_init 46 (.aload_n 0) 1 47 := dc_of (by decide +kernel) rfl
theorem d_X10_init_47 : Dc cX10_init 47 (.new 36) 3 50 := dc_of (by decide +kernel) rfl
theorem d_X10_init_50 : Dc cX10_init 50 (.dup) 1 51 := dc_of (by decide +kernel) rfl
theorem d_X10_init_51 : Dc cX10_init 51 (.invokespecial 38) 3 54 := dc_of (by decide +kernel) rfl
theorem d_X10_init_54 : Dc cX10_init 54 (.putfield 39) 3 57 := dc_of (by decide +kernel) rfl
theorem d_X10_init_57 : Dc cX10_init 57 (.aload_n 0) 1 58 := dc_of (by decide +kernel) rfl
theorem d_X10_init_58 : Dc cX10_init 58 (.new 43) 3 61 := dc_of (by decide +kernel) rfl
theorem d_X10_init_61 : Dc cX10_init 61 (.dup) 1 62 := dc_of (by decide +kernel) rfl
theorem d_X10_init_62 : Dc cX10_init 62 (.invokespecial 45) 3 65 := dc_of (by decide +kernel) rfl
theorem d_X10_init_65 : Dc cX10_init 65 (.putfield 46) 3 68 := dc_of (by decide +kernel) rfl
theorem d_X10_init_68 : Dc cX10_init 68 (.aload_n 0) 1 69 := dc_of (by decide +kernel) rfl
theorem d_X10_init_69 : Dc cX10_init 69 (.new 50) 3 72 := dc_of (by decide +kernel) rfl
theorem d_X10_init_72 : Dc cX10_init 72 (.dup) 1 73 := dc_of (by decide +kernel) rfl
theorem d_X10_init_73 : Dc cX10_init 73 (.invokespecial 52) 3 76 := dc_of (by decide +kernel) rfl
theorem d_X10_init_76 : Dc cX10_init 76 (.putfield 53) 3 79 := dc_of (by decide +kernel) rfl
theorem d_X10_init_79 : Dc cX10_init 79 (.aload_n 0) 1 80 := dc_of (by decide +kernel) rfl
theorem d_X10_init_80 : Dc cX10_init 80 (.new 57) 3 83 := dc_of (by decide +kernel) rfl
theorem d_X10_init_83 : Dc cX10_init 83 (.dup) 1 84 := dc_of (by decide +kernel) rfl
theorem d_X10_init_84 : Dc cX10_init 84 (.invokespecial 59) 3 87 := dc_of (by decide +kernel) rfl
theorem d_X10_init_87 : Dc cX10_init 87 (.putfield 60) 3 90 := dc_of (by decide +kernel) rfl
theorem d_X10_init_90 : Dc cX10_init 90 (.return_) 1 91 := dc_of (by decide +kernel) rfl
theorem d_X11_init_0 : Dc cX11_init 0 (.aload_n 0) 1 1 := dc_of (by decide +kernel) rfl
theorem d_X11_init_1 : Dc cX11_init 1 (.invokespecial 1) 3 4 := dc_of (by decide +kernel) rfl
theorem d_X11_init_4 : Dc cX11_init 4 (.aload_n 0) 1 5 := dc_of (by decide +kernel) rfl
theorem d_X11_init_5 : Dc cX11_init 5 (.new 7) 3 8 := dc_of (by decide +kernel) rfl
theorem d_X11_init_8 : Dc cX11_init 8 (.dup) 1 9 := dc_of (by decide +kernel) rfl
theorem d_X11_init_9 : Dc cX11_init 9 (.invokespecial 9) 3 12 := dc_of (by decide +kernel) rfl
theorem d_X11_init_12 : Dc cX11_init 12 (.putfield 10) 3 15 := dc_of (by decide +kernel) rfl
theorem d_X11_init_15 : Dc cX11_init 15 (.aload_n 0) 1 16 := dc_of (by decide +kernel) rfl
theorem d_X11_init_16 : Dc cX11_init 16 (.new 7) 3 19 := dc_of (by decide +kernel) rfl
theorem d_X11_init_19 : Dc cX11_init 19 (.dup) 1 20 := dc_of (by decide +kernel) rfl
theorem d_X11_init_20 : Dc cX11_init 20 (.invokespecial 9) 3 23 := dc_of (by decide +kernel) rfl
theorem d_X11_init_23 : Dc cX11_init 23 (.putfield 16) 3 26 := dc_of (by decide +kernel) rfl
theorem d_X11_init_26 : Dc cX11_init 26 (.aload_n 0) 1 27 := dc_of (by decide +kernel) rfl
theorem d_X11_init_27 : Dc cX11_init 27 (.new 19) 3 30 := dc_of (by decide +kernel) rfl
theorem d_X11_init_30 : Dc cX11_init 30 (.dup) 1 31 := dc_of (by decide +kernel) rfl
theorem d_X11_init_31 : Dc cX11_init 31 (.invokespecial 21) 3 34 := dc_of (by decide +kernel) rfl
theorem d_X11_init_34 : Dc cX11_init 34 (.putfield 22) 3 37 := dc_of (by decide +kernel) rfl
theorem d_X11_init_37 : Dc cX11_init 37 (.aload_n 0) 1 38 := dc_of (by decide +kernel) rfl
theorem d_X11_init_38 : Dc cX11_init 38 (.new 26) 3 41 := dc_of (by decide +kernel) rfl
theorem d_X11_init_41 : Dc cX11_init 41 (.dup) 1 42 := dc_of (by decide +kernel) rfl
theorem d_X11_init_42 : Dc cX11_init 42 (.invokespecial 28) 3 45 := dc_of (by decide +kernel) rfl
theorem d_X11_init_45 : Dc cX11_init 45 (.putfield 29) 3 48 := dc_of (by decide +kernel) rfl
theorem d_X11_init_48 : Dc cX11_init 48 (.aload_n 0) 1 49 := dc_of (by decide +kernel) rfl
theorem d_X11_init_49 : Dc cX11_init 49 (.new 33) 3 52 := dc_of (by decide +kernel) rfl
theorem d_X11_init_52 : Dc cX11_init 52 (.dup) 1 53 := dc_of (by decide +kernel) rfl
theorem d_X11_init_53 : Dc cX11_init 53 (.invokespecial 35) 3 56 := dc_of (by decide +kernel) rfl
theorem d_X11_init_56 : Dc cX11_init 56 (.putfield 36) 3 59 := dc_of (by decide +kernel) rfl
theorem d_X11_init_59 : Dc cX11_init 59 (.aload_n 0) 1 60 := dc_of (by decide +kernel) rfl
theorem d_X11_init_60 : Dc cX11_init 60 (.iconst 0) 1 61 := dc_of (by decide +kernel) rfl
theorem d_X11_init_61 : Dc cX11_init 61 (.putfield 40) 3 64 := dc_of (by decide +kernel) rfl
theorem d_X11_init_64 : Dc cX11_init 64 (.return_) 1 65 := dc_of (by decide +kernel) rfl
theorem d_X12_init_0 : Dc cX12_init 0 (.aload_n 0) 1 1 := dc_of (by decide +kernel) rfl
theorem d_X12_init_1 : Dc cX12_init 1 (.invokespecial 1) 3 4 := dc_of (by decide +kernel) rfl
theorem d_X12_init_4 : Dc cX12_init 4 (.aload_n 0) 1 5 := dc_of (by decide +kernel) rfl
theorem d_X12_init_5 : Dc cX12_init 5 (.sipush 1732) 3 8 := dc_of (by decide +kernel) rfl
theorem d_X12_init_8 : Dc cX12_init 8 (.newarray .int) 2 10 := dc_of (by decide +kernel) rfl
theorem d_X12_init_10 : Dc cX12_init 10 (.putfield 7) 3 13 := dc_of (by decide +kernel) rfl
theorem d_X12_init_13 : Dc cX12_init 13 (.aload_n 0) 1 14 := dc_of (by decide +kernel) rfl
theorem d_X12_init_14 : Dc cX12_init 14 (.sipush 1732) 3 17 := dc_of (by decide +kernel) rfl
theorem d_X12_init_17 : Dc cX12_init 17 (.newarray .int) 2 19 := dc_of (by decide +kernel) rfl
theorem d_X12_init_19 : Dc cX12_init 19 (.putfield 13) 3 22 := dc_of (by decide +kernel) rfl
theorem d_X12_init_22 : Dc cX12_init 22 (.aload_n 0) 1 23 := dc_of (by decide +kernel) rfl
theorem d_X12_init_23 : Dc cX12_init 23 (.sipush 342) 3 26 := dc_of (by decide +kernel) rfl
theorem d_X12_init_26 : Dc cX12_init 26 (.newarray .int) 2 28 := dc_of (by decide +kernel) rfl
theorem d_X12_init_28 : Dc cX12_init 28 (.putfield 16) 3 31 := dc_of (by decide +kernel) rfl
theorem d_X12_init_31 : Dc cX12_init 31 (.aload_n 0) 1 32 := dc_of (by decide +kernel) rfl
theorem d_X12_init_32 : Dc cX12_init 32 (.bipush 57) 2 34 := dc_of (by decide +kernel) rfl
theorem d_X12_init_34 : Dc cX12_init 34 (.newarray .int) 2 36 := dc_of (by decide +kernel) rfl
theorem d_X12_init_36 : Dc cX12_init 36 (.putfield 19) 3 39 := dc_of (by decide +kernel) rfl
theorem d_X12_init_39 : Dc cX12_init 39 (.aload_n 0) 1 40 := dc_of (by decide +kernel) rfl
theorem d_X12_init_40 : Dc cX12_init 40 (.bipush 64) 2 42 := dc_of (by decide +kernel) rfl
theorem d_X12_init_42 : Dc cX12_init 42 (.newarray .int) 2 44 := dc_of (by decide +kernel) rfl
theorem d_X12_init_44 : Dc cX12_init 44 (.putfield 22) 3 47 := dc_of (by decide +kernel) rfl
theorem d_X12_init_47 : Dc cX12_init 47 (.aload_n 0) 1 48 := dc_of (by decide +kernel) rfl
theorem d_X12_init_48 : Dc cX12_init 48 (.sipush 820) 3 51 := dc_of (by decide +kernel) rfl
theorem d_X12_init_51 : Dc cX12_init 51 (.newarray .int) 2 53 := dc_of (by decide +kernel) rfl
theorem d_X12_init_53 : Dc cX12_init 53 (.putfield 25) 3 56 := dc_of (by decide +kernel) rfl
theorem d_X12_init_56 : Dc cX12_init 56 (.aload_n 0) 1 57 := dc_of (by decide +kernel) rfl
theorem d_X12_init_57 : Dc cX12_init 57 (.bipush 64) 2 59 := dc_of (by decide +kernel) rfl
theorem d_X12_init_59 : Dc cX12_init 59 (.newarray .int) 2 61 := dc_of (by decide +kernel) rfl
theorem d_X12_init_61 : Dc cX12_init 61 (.putfield 28) 3 64 := dc_of (by decide +kernel) rfl
theorem d_X12_init_64 : Dc cX12_init 64 (.aload_n 0) 1 65 := dc_of (by decide +kernel) rfl
theorem d_X12_init_65 : Dc cX12_init 65 (.sipush 400) 3 68 := dc_of (by decide +kernel) rfl
theorem d_X12_init_68 : Dc cX12_init 68 (.newarray .int) 2 70 := dc_of (by decide +kernel) rfl
theorem d_X12_init_70 : Dc cX12_init 70 (.putfield 31) 3 73 := dc_of (by decide +kernel) rfl
theorem d_X12_init_73 : Dc cX12_init 73 (.aload_n 0) 1 74 := dc_of (by decide +kernel) rfl
theorem d_X12_init_74 : Dc cX12_init 74 (.sipush 420) 3 77 := dc_of (by decide +kernel) rfl
theorem d_X12_init_77 : Dc cX12_init 77 (.newarray .int) 2 79 := dc_of (by decide +kernel) rfl
theorem d_X12_init_79 : Dc cX12_init 79 (.putfield 34) 3 82 := dc_of (by decide +kernel) rfl
theorem d_X12_init_82 : Dc cX12_init 82 (.aload_n 0) 1 83 := dc_of (by decide +kernel) rfl
theorem d_X12_init_83 : Dc cX12_init 83 (.bipush 11) 2 85 := dc_of (by decide +kernel) rfl
theorem d_X12_init_85 : Dc cX12_init 85 (.newarray .int) 2 87 := dc_of (by decide +kernel) rfl
theorem d_X12_init_87 : Dc cX12_init 87 (.putfield 37) 3 90 := dc_of (by decide +kernel) rfl
theorem d_X12_init_90 : Dc cX12_init 90 (.aload_n 0) 1 91 := dc_of (by decide +kernel) rfl
theorem d_X12_init_91 : Dc cX12_init 91 (.iconst (-1)) 1 92 := dc_of (by decide +kernel) rfl
theorem d_X12_init_92 : Dc cX12_init 92 (.putfield 40) 3 95 := dc_of (by decide +kernel) rfl
theorem d_X12_init_95 : Dc cX12_init 95 (.aload_n 0) 1 96 := dc_of (by decide +kernel) rfl
theorem d_X12_init_96 : Dc cX12_init 96 (.bipush 10) 2 98 := dc_of (by decide +kernel) rfl
theorem d_X12_init_98 : Dc cX12_init 98 (.newarray .int) 2 100 := dc_of (by decide +kernel) rfl
theorem d_X12_init_100 : Dc cX12_init 100 (.putfield 44) 3 103 := dc_of (by decide +kernel) rfl
theorem d_X12_init_103 : Dc cX12_init 103 (.aload_n 0) 1 104 := dc_of (by decide +kernel) rfl
theorem d_X12_init_104 : Dc cX12_init 104 (.bipush 10) 2 106 := dc_of (by decide +kernel) rfl
theorem d_X12_init_106 : Dc cX12_init 106 (.newarray .int) 2 108 := dc_of (by decide +kernel) rfl
theorem d_X12_init_108 : Dc cX12_init 108 (.putfield 47) 3 111 := dc_of (by decide +kernel) rfl
theorem d_X12_init_111 : Dc cX12_init 111 (.aload_n 0) 1 112 := dc_of (by decide +kernel) rfl
theorem d_X12_init_112 : Dc cX12_init 112 (.bipush 30) 2 114 := dc_of (by decide +kernel) rfl
theorem d_X12_init_114 : Dc cX12_init 114 (.newarray .int) 2 116 := dc_of (by decide +kernel) rfl
theorem d_X12_init_116 : Dc cX12_init 116 (.putfield 50) 3 119 := dc_of (by decide +kernel) rfl
theorem d_X12_init_119 : Dc cX12_init 119 (.iconst 0) 1 120 := dc_of (by decide +kernel) rfl
theorem d_X12_init_120 : Dc cX12_init 120 (.istore_n 1) 1 121 := dc_of (by decide +kernel) rfl
theorem d_X12_init_121 : Dc cX12_init 121 (.iload_n 1) 1 122 := dc_of (by decide +kernel) rfl
theorem d_X12_init_122 : Dc cX12_init 122 (.bipush 16) 2 124 := dc_of (by decide +kernel) rfl
theorem d_X12_init_124 : Db cX12_init 124 (.if_icmp .ge 20) 3 127 20 144 := db_of (by decide +kernel) rfl rfl
theorem d_X12_init_127 : Dc cX12_init 127 (.aload_n 0) 1 128 := dc_of (by decide +kernel) rfl
theorem d_X12_init_128 : Dc cX12_init 128 (.getfield 7) 3 131 := dc_of (by decide +kernel) rfl
theorem d_X12_init_131 : Dc cX12_init 131 (.bipush 85) 2 133 := dc_of (by decide +kernel) rfl
theorem d_X12_init_133 : Dc cX12_init 133 (.iload_n 1) 1 134 := dc_of (by decide +kernel) rfl
theorem d_X12_init_134 : Dc cX12_init 134 (.iadd) 1 135 := dc_of (by decide +kernel) rfl
theorem d_X12_init_135 : Dc cX12_init 135 (.bipush 10) 2 137 := dc_of (by decide +kernel) rfl
theorem d_X12_init_137 : Dc cX12_init 137 (.iastore) 1 138 := dc_of (by decide +kernel) rfl
theorem d_X12_init_138 : Dc cX12_init 138 (.iinc 1 1) 3 141 := dc_of (by decide +kernel) rfl
theorem d_X12_init_141 : Db cX12_init 141 (.goto (-20)) 3 144 (-20) 121 := db_of (by decide +kernel) rfl rfl
theorem d_X12_init_144 : Dc cX12_init 144 (.aload_n 0) 1 145 := dc_of (by decide +kernel) rfl
theorem d_X12_init_145 : Dc cX12_init 145 (.getfield 7) 3 148 := dc_of (by decide +kernel) rfl
theorem d_X12_init_148 : Dc cX12_init 148 (.iconst 1) 1 149 := dc_of (by decide +kernel) rfl
theorem d_X12_init_149 : Dc cX12_init 149 (.iconst 5) 1 150 := dc_of (by decide +kernel) rfl
theorem d_X12_init_150 : Dc cX12_init 150 (.iastore) 1 151 := dc_of (by decide +kernel) rfl
theorem d_X12_init_151 : Dc cX12_init 151 (.aload_n 0) 1 152 := dc_of (by decide +kernel) rfl
theorem d_X12_init_152 : Dc cX12_init 152 (.getfield 7) 3 155 := dc_of (by decide +kernel) rfl
theorem d_X12_init_155 : Dc cX12_init 155 (.iconst 2) 1 156 := dc_of (by decide +kernel) rfl
theorem d_X12_init_156 : Dc cX12_init 156 (.iconst 3) 1 157 := dc_of (by decide +kernel) rfl
theorem d_X12_init_157 : Dc cX12_init 157 (.iastore) 1 158 := dc_of (by decide +kernel) rfl
theorem d_X12_init_158 : Dc cX12_init 158 (.return_) 1 159 := dc_of (by decide +kernel) rfl
theorem ml_11_1 : Cond.methodLink RX11 1 Lib.objectInit ∈ GT := gt_1 27 rfl rfl
theorem ml_11_21 : Cond.methodLink RX11 21 yX5_init ∈ GT := gt_2 72 rfl rfl
theorem ml_11_28 : Cond.methodLink RX11 28 yX8_init ∈ GT := gt_2 92 rfl rfl
theorem ml_0_3 : Cond.methodLink RX0 3 Lib.objectInit ∈ GT := gt_2 0 rfl rfl
theorem ml_1_3 : Cond.methodLink RX1 3 Lib.objectInit ∈ GT := gt_1 170 rfl rfl
theorem ml_2_3 : Cond.methodLink RX2 3 Lib.objectInit ∈ GT := gt_1 136 rfl rfl
theorem ml_3_3 : Cond.methodLink RX3 3 Lib.objectInit ∈ GT := gt_2 23 rfl rfl
theorem ml_4_3 : Cond.methodLink RX4 3 Lib.objectInit ∈ GT := gt_1 41 rfl rfl
theorem ml_5_3 : Cond.methodLink RX5 3 Lib.objectInit ∈ GT := gt_2 75 rfl rfl
theorem ml_5_17 : Cond.methodLink RX5 17 yX4_init ∈ GT := gt_2 78 rfl rfl
theorem ml_6_3 : Cond.methodLink RX6 3 Lib.objectInit ∈ GT := gt_1 188 rfl rfl
theorem ml_7_3 : Cond.methodLink RX7 3 Lib.objectInit ∈ GT := gt_2 113 rfl rfl
theorem ml_8_3 : Cond.methodLink RX8 3 Lib.objectInit ∈ GT := gt_2 95 rfl rfl
theorem ml_8_24 : Cond.methodLink RX8 24 yX4_init ∈ GT := gt_2 97 rfl rfl
theorem ml_9_3 : Cond.methodLink RX9 3 Lib.objectInit ∈ GT := gt_1 217 rfl rfl
theorem ml_10_3 : Cond.methodLink RX10 3 Lib.objectInit ∈ GT := gt_1 35 rfl rfl
theorem ml_10_11 : Cond.methodLink RX10 11 yX4_init ∈ GT := gt_1 38 rfl rfl
theorem ml_L_9 : Cond.methodLink "FogArrowsLaw" 9 yX11_init ∈ GT := gt_1 24 rfl rfl
theorem ml_L_12 : Cond.methodLink "FogArrowsLaw" 12 yX12_init ∈ GT := gt_6 14 rfl rfl
theorem ml_12_1 : Cond.methodLink RX12 1 Lib.objectInit ∈ GT := gt_6 17 rfl rfl
theorem ml_11_9 : Cond.methodLinkNest RX11 9 yX10_init "FogArrows" ∈ NT := nt_t 32 (by decide +kernel) rfl
theorem ml_11_35 : Cond.methodLinkNest RX11 35 yX7_init "FogArrows" ∈ NT := nt_t 350 (by decide +kernel) rfl
theorem ml_7_11 : Cond.methodLinkNest RX7 11 yX2_init "FogArrows" ∈ NT := nt_t 355 (by decide +kernel) rfl
theorem ml_7_20 : Cond.methodLinkNest RX7 20 yX1_init "FogArrows" ∈ NT := nt_t 357 (by decide +kernel) rfl
theorem ml_7_27 : Cond.methodLinkNest RX7 27 yX6_init "FogArrows" ∈ NT := nt_t 359 (by decide +kernel) rfl
theorem ml_7_34 : Cond.methodLinkNest RX7 34 yX9_init "FogArrows" ∈ NT := nt_t 361 (by decide +kernel) rfl
theorem ml_10_24 : Cond.methodLinkNest RX10 24 yX2_init "FogArrows" ∈ NT := nt_t 133 (by decide +kernel) rfl
theorem ml_10_31 : Cond.methodLinkNest RX10 31 yX1_init "FogArrows" ∈ NT := nt_t 167 (by decide +kernel) rfl
theorem ml_10_38 : Cond.methodLinkNest RX10 38 yX6_init "FogArrows" ∈ NT := nt_t 185 (by decide +kernel) rfl
theorem ml_10_45 : Cond.methodLinkNest RX10 45 yX9_init "FogArrows" ∈ NT := nt_t 214 (by decide +kernel) rfl
theorem ml_10_52 : Cond.methodLinkNest RX10 52 yX0_init "FogArrows" ∈ NT := nt_t 237 (by decide +kernel) rfl
theorem ml_10_59 : Cond.methodLinkNest RX10 59 yX3_init "FogArrows" ∈ NT := nt_t 260 (by decide +kernel) rfl
theorem im_X0_init : Cond.instanceMethod yX0_init ∈ GT := gt_1 238 rfl rfl
theorem im_X1_init : Cond.instanceMethod yX1_init ∈ GT := gt_1 168 rfl rfl
theorem im_X2_init : Cond.instanceMethod yX2_init ∈ GT := gt_1 134 rfl rfl
theorem im_X3_init : Cond.instanceMethod yX3_init ∈ GT := gt_2 21 rfl rfl
theorem im_X4_init : Cond.instanceMethod yX4_init ∈ GT := gt_1 39 rfl rfl
theorem im_X5_init : Cond.instanceMethod yX5_init ∈ GT := gt_2 73 rfl rfl
theorem im_X6_init : Cond.instanceMethod yX6_init ∈ GT := gt_1 186 rfl rfl
theorem im_X7_init : Cond.instanceMethod yX7_init ∈ GT := gt_2 111 rfl rfl
theorem im_X8_init : Cond.instanceMethod yX8_init ∈ GT := gt_2 93 rfl rfl
theorem im_X9_init : Cond.instanceMethod yX9_init ∈ GT := gt_1 215 rfl rfl
theorem im_X10_init : Cond.instanceMethod yX10_init ∈ GT := gt_1 33 rfl rfl
theorem im_X11_init : Cond.instanceMethod yX11_init ∈ GT := gt_1 25 rfl rfl
theorem im_X12_init : Cond.instanceMethod yX12_init ∈ GT := gt_6 15 rfl rfl
theorem cl_11_7 : Cond.classLink RX11 7 RX10 ∈ GT := gt_1 30 rfl rfl
theorem cl_11_19 : Cond.classLink RX11 19 RX5 ∈ GT := gt_2 70 rfl rfl
theorem cl_11_26 : Cond.classLink RX11 26 RX8 ∈ GT := gt_2 90 rfl rfl
theorem cl_11_33 : Cond.classLink RX11 33 RX7 ∈ GT := gt_2 108 rfl rfl
theorem cl_5_9 : Cond.classLink RX5 9 RX4 ∈ GT := gt_2 76 rfl rfl
theorem cl_7_9 : Cond.classLink RX7 9 RX2 ∈ GT := gt_2 114 rfl rfl
theorem cl_7_18 : Cond.classLink RX7 18 RX1 ∈ GT := gt_2 116 rfl rfl
theorem cl_7_25 : Cond.classLink RX7 25 RX6 ∈ GT := gt_2 118 rfl rfl
theorem cl_7_32 : Cond.classLink RX7 32 RX9 ∈ GT := gt_2 120 rfl rfl
theorem cl_8_9 : Cond.classLink RX8 9 RX4 ∈ GT := gt_2 96 rfl rfl
theorem cl_10_9 : Cond.classLink RX10 9 RX4 ∈ GT := gt_1 36 rfl rfl
theorem cl_10_22 : Cond.classLink RX10 22 RX2 ∈ GT := gt_1 131 rfl rfl
theorem cl_10_29 : Cond.classLink RX10 29 RX1 ∈ GT := gt_1 165 rfl rfl
theorem cl_10_36 : Cond.classLink RX10 36 RX6 ∈ GT := gt_1 183 rfl rfl
theorem cl_10_43 : Cond.classLink RX10 43 RX9 ∈ GT := gt_1 212 rfl rfl
theorem cl_10_50 : Cond.classLink RX10 50 RX0 ∈ GT := gt_1 235 rfl rfl
theorem cl_10_57 : Cond.classLink RX10 57 RX3 ∈ GT := gt_2 18 rfl rfl
theorem cl_L_7 : Cond.classLink "FogArrowsLaw" 7 RX11 ∈ GT := gt_1 22 rfl rfl
theorem cl_L_10 : Cond.classLink "FogArrowsLaw" 10 RX12 ∈ GT := gt_6 12 rfl rfl
theorem ff_11_10 : FF RX11 10 11 0 (.object "FogArrows$World") := ⟨RX11, TX11, 6, tyX11, rfl, by decide, in_11, gt_2 184 rfl rfl, rfl, rfl, rfl, tyX11_ok, nmX11⟩
theorem ff_11_16 : FF RX11 16 11 1 (.object "FogArrows$World") := ⟨RX11, TX11, 6, tyX11, rfl, by decide, in_11, gt_2 185 rfl rfl, rfl, rfl, rfl, tyX11_ok, nmX11⟩
theorem ff_11_22 : FF RX11 22 11 2 (.object "FogArrows$Past") := ⟨RX11, TX11, 6, tyX11, rfl, by decide, in_11, gt_2 186 rfl rfl, rfl, rfl, rfl, tyX11_ok, nmX11⟩
theorem ff_11_29 : FF RX11 29 11 3 (.object "FogArrows$Thought") := ⟨RX11, TX11, 6, tyX11, rfl, by decide, in_11, gt_2 187 rfl rfl, rfl, rfl, rfl, tyX11_ok, nmX11⟩
theorem ff_11_36 : FF RX11 36 11 4 (.object "FogArrows$Reader") := ⟨RX11, TX11, 6, tyX11, rfl, by decide, in_11, gt_2 188 rfl rfl, rfl, rfl, rfl, tyX11_ok, nmX11⟩
theorem ff_0_9 : FF RX0 9 0 0 (.array .int) := ⟨RX0, TX0, 5, tyX0, rfl, by decide, in_0, gt_2 1 rfl rfl, rfl, rfl, rfl, tyX0_ok, nmX0⟩
theorem ff_0_15 : FF RX0 15 0 1 (.array .int) := ⟨RX0, TX0, 5, tyX0, rfl, by decide, in_0, gt_2 2 rfl rfl, rfl, rfl, rfl, tyX0_ok, nmX0⟩
theorem ff_0_18 : FF RX0 18 0 2 (.array .int) := ⟨RX0, TX0, 5, tyX0, rfl, by decide, in_0, gt_2 3 rfl rfl, rfl, rfl, rfl, tyX0_ok, nmX0⟩
theorem ff_0_21 : FF RX0 21 0 3 (.array .int) := ⟨RX0, TX0, 5, tyX0, rfl, by decide, in_0, gt_2 4 rfl rfl, rfl, rfl, rfl, tyX0_ok, nmX0⟩
theorem ff_1_9 : FF RX1 9 1 0 (.array .int) := ⟨RX1, TX1, 3, tyX1, rfl, by decide, in_1, gt_1 171 rfl rfl, rfl, rfl, rfl, tyX1_ok, nmX1⟩
theorem ff_1_15 : FF RX1 15 1 1 (.array .int) := ⟨RX1, TX1, 3, tyX1, rfl, by decide, in_1, gt_1 172 rfl rfl, rfl, rfl, rfl, tyX1_ok, nmX1⟩
theorem ff_2_9 : FF RX2 9 2 0 (.array .int) := ⟨RX2, TX2, 8, tyX2, rfl, by decide, in_2, gt_1 137 rfl rfl, rfl, rfl, rfl, tyX2_ok, nmX2⟩
theorem ff_2_15 : FF RX2 15 2 1 (.array .int) := ⟨RX2, TX2, 8, tyX2, rfl, by decide, in_2, gt_1 138 rfl rfl, rfl, rfl, rfl, tyX2_ok, nmX2⟩
theorem ff_2_18 : FF RX2 18 2 2 (.array .int) := ⟨RX2, TX2, 8, tyX2, rfl, by decide, in_2, gt_1 139 rfl rfl, rfl, rfl, rfl, tyX2_ok, nmX2⟩
theorem ff_2_21 : FF RX2 21 2 3 (.array .int) := ⟨RX2, TX2, 8, tyX2, rfl, by decide, in_2, gt_1 140 rfl rfl, rfl, rfl, rfl, tyX2_ok, nmX2⟩
theorem ff_2_24 : FF RX2 24 2 6 (.array .int) := ⟨RX2, TX2, 8, tyX2, rfl, by decide, in_2, gt_1 146 rfl rfl, rfl, rfl, rfl, tyX2_ok, nmX2⟩
theorem ff_2_27 : FF RX2 27 2 7 (.array .int) := ⟨RX2, TX2, 8, tyX2, rfl, by decide, in_2, gt_1 147 rfl rfl, rfl, rfl, rfl, tyX2_ok, nmX2⟩
theorem ff_3_9 : FF RX3 9 3 0 (.array .int) := ⟨RX3, TX3, 3, tyX3, rfl, by decide, in_3, gt_2 24 rfl rfl, rfl, rfl, rfl, tyX3_ok, nmX3⟩
theorem ff_3_15 : FF RX3 15 3 1 (.array .int) := ⟨RX3, TX3, 3, tyX3, rfl, by decide, in_3, gt_2 26 rfl rfl, rfl, rfl, rfl, tyX3_ok, nmX3⟩
theorem ff_4_9 : FF RX4 9 4 0 (.array .int) := ⟨RX4, TX4, 17, tyX4, rfl, by decide, in_4, gt_1 42 rfl rfl, rfl, rfl, rfl, tyX4_ok, nmX4⟩
theorem ff_4_15 : FF RX4 15 4 1 (.array .int) := ⟨RX4, TX4, 17, tyX4, rfl, by decide, in_4, gt_1 45 rfl rfl, rfl, rfl, rfl, tyX4_ok, nmX4⟩
theorem ff_4_18 : FF RX4 18 4 2 (.array .int) := ⟨RX4, TX4, 17, tyX4, rfl, by decide, in_4, gt_1 49 rfl rfl, rfl, rfl, rfl, tyX4_ok, nmX4⟩
theorem ff_4_21 : FF RX4 21 4 3 (.array .int) := ⟨RX4, TX4, 17, tyX4, rfl, by decide, in_4, gt_1 53 rfl rfl, rfl, rfl, rfl, tyX4_ok, nmX4⟩
theorem ff_4_24 : FF RX4 24 4 4 (.array .int) := ⟨RX4, TX4, 17, tyX4, rfl, by decide, in_4, gt_1 55 rfl rfl, rfl, rfl, rfl, tyX4_ok, nmX4⟩
theorem ff_4_27 : FF RX4 27 4 5 (.array .int) := ⟨RX4, TX4, 17, tyX4, rfl, by decide, in_4, gt_1 57 rfl rfl, rfl, rfl, rfl, tyX4_ok, nmX4⟩
theorem ff_4_30 : FF RX4 30 4 6 (.array .int) := ⟨RX4, TX4, 17, tyX4, rfl, by decide, in_4, gt_1 60 rfl rfl, rfl, rfl, rfl, tyX4_ok, nmX4⟩
theorem ff_4_33 : FF RX4 33 4 7 (.array .int) := ⟨RX4, TX4, 17, tyX4, rfl, by decide, in_4, gt_1 63 rfl rfl, rfl, rfl, rfl, tyX4_ok, nmX4⟩
theorem ff_5_11 : FF RX5 11 5 0 (.array (.object "FogArrows$Night")) := ⟨RX5, TX5, 3, tyX5, rfl, by decide, in_5, gt_2 79 rfl rfl, rfl, rfl, rfl, tyX5_ok, nmX5⟩
theorem ff_6_9 : FF RX6 9 6 0 (.array .int) := ⟨RX6, TX6, 5, tyX6, rfl, by decide, in_6, gt_1 189 rfl rfl, rfl, rfl, rfl, tyX6_ok, nmX6⟩
theorem ff_6_15 : FF RX6 15 6 1 (.array .int) := ⟨RX6, TX6, 5, tyX6, rfl, by decide, in_6, gt_1 191 rfl rfl, rfl, rfl, rfl, tyX6_ok, nmX6⟩
theorem ff_6_18 : FF RX6 18 6 2 (.array .int) := ⟨RX6, TX6, 5, tyX6, rfl, by decide, in_6, gt_1 193 rfl rfl, rfl, rfl, rfl, tyX6_ok, nmX6⟩
theorem ff_6_21 : FF RX6 21 6 3 (.array .int) := ⟨RX6, TX6, 5, tyX6, rfl, by decide, in_6, gt_1 195 rfl rfl, rfl, rfl, rfl, tyX6_ok, nmX6⟩
theorem ff_7_12 : FF RX7 12 7 0 (.object "FogArrows$Law") := ⟨RX7, TX7, 18, tyX7, rfl, by decide, in_7, gt_2 122 rfl rfl, rfl, rfl, rfl, tyX7_ok, nmX7⟩
theorem ff_7_21 : FF RX7 21 7 1 (.object "FogArrows$Currents") := ⟨RX7, TX7, 18, tyX7, rfl, by decide, in_7, gt_2 124 rfl rfl, rfl, rfl, rfl, tyX7_ok, nmX7⟩
theorem ff_7_28 : FF RX7 28 7 2 (.object "FogArrows$Plan") := ⟨RX7, TX7, 18, tyX7, rfl, by decide, in_7, gt_2 126 rfl rfl, rfl, rfl, rfl, tyX7_ok, nmX7⟩
theorem ff_7_35 : FF RX7 35 7 3 (.object "FogArrows$Villages") := ⟨RX7, TX7, 18, tyX7, rfl, by decide, in_7, gt_2 128 rfl rfl, rfl, rfl, rfl, tyX7_ok, nmX7⟩
theorem ff_7_43 : FF RX7 43 7 7 (.array .int) := ⟨RX7, TX7, 18, tyX7, rfl, by decide, in_7, gt_2 136 rfl rfl, rfl, rfl, rfl, tyX7_ok, nmX7⟩
theorem ff_7_47 : FF RX7 47 7 8 (.array .int) := ⟨RX7, TX7, 18, tyX7, rfl, by decide, in_7, gt_2 137 rfl rfl, rfl, rfl, rfl, tyX7_ok, nmX7⟩
theorem ff_7_50 : FF RX7 50 7 9 (.array .int) := ⟨RX7, TX7, 18, tyX7, rfl, by decide, in_7, gt_2 138 rfl rfl, rfl, rfl, rfl, tyX7_ok, nmX7⟩
theorem ff_7_53 : FF RX7 53 7 10 (.array .int) := ⟨RX7, TX7, 18, tyX7, rfl, by decide, in_7, gt_2 139 rfl rfl, rfl, rfl, rfl, tyX7_ok, nmX7⟩
theorem ff_7_56 : FF RX7 56 7 14 (.array .int) := ⟨RX7, TX7, 18, tyX7, rfl, by decide, in_7, gt_2 143 rfl rfl, rfl, rfl, rfl, tyX7_ok, nmX7⟩
theorem ff_8_11 : FF RX8 11 8 0 (.array (.object "FogArrows$Night")) := ⟨RX8, TX8, 3, tyX8, rfl, by decide, in_8, gt_2 98 rfl rfl, rfl, rfl, rfl, tyX8_ok, nmX8⟩
theorem ff_9_9 : FF RX9 9 9 0 (.array .int) := ⟨RX9, TX9, 4, tyX9, rfl, by decide, in_9, gt_1 218 rfl rfl, rfl, rfl, rfl, tyX9_ok, nmX9⟩
theorem ff_9_15 : FF RX9 15 9 1 (.array .int) := ⟨RX9, TX9, 4, tyX9, rfl, by decide, in_9, gt_1 220 rfl rfl, rfl, rfl, rfl, tyX9_ok, nmX9⟩
theorem ff_9_18 : FF RX9 18 9 2 (.array .int) := ⟨RX9, TX9, 4, tyX9, rfl, by decide, in_9, gt_1 222 rfl rfl, rfl, rfl, rfl, tyX9_ok, nmX9⟩
theorem ff_10_12 : FF RX10 12 10 0 (.object "FogArrows$Night") := ⟨RX10, TX10, 8, tyX10, rfl, by decide, in_10, gt_2 36 rfl rfl, rfl, rfl, rfl, tyX10_ok, nmX10⟩
theorem ff_10_18 : FF RX10 18 10 1 (.array .int) := ⟨RX10, TX10, 8, tyX10, rfl, by decide, in_10, gt_2 39 rfl rfl, rfl, rfl, rfl, tyX10_ok, nmX10⟩
theorem ff_10_25 : FF RX10 25 10 2 (.object "FogArrows$Law") := ⟨RX10, TX10, 8, tyX10, rfl, by decide, in_10, gt_2 41 rfl rfl, rfl, rfl, rfl, tyX10_ok, nmX10⟩
theorem ff_10_32 : FF RX10 32 10 3 (.object "FogArrows$Currents") := ⟨RX10, TX10, 8, tyX10, rfl, by decide, in_10, gt_2 43 rfl rfl, rfl, rfl, rfl, tyX10_ok, nmX10⟩
theorem ff_10_39 : FF RX10 39 10 4 (.object "FogArrows$Plan") := ⟨RX10, TX10, 8, tyX10, rfl, by decide, in_10, gt_2 45 rfl rfl, rfl, rfl, rfl, tyX10_ok, nmX10⟩
theorem ff_10_46 : FF RX10 46 10 5 (.object "FogArrows$Villages") := ⟨RX10, TX10, 8, tyX10, rfl, by decide, in_10, gt_2 47 rfl rfl, rfl, rfl, rfl, tyX10_ok, nmX10⟩
theorem ff_10_53 : FF RX10 53 10 6 (.object "FogArrows$Clues") := ⟨RX10, TX10, 8, tyX10, rfl, by decide, in_10, gt_2 49 rfl rfl, rfl, rfl, rfl, tyX10_ok, nmX10⟩
theorem ff_10_60 : FF RX10 60 10 7 (.object "FogArrows$Ledger") := ⟨RX10, TX10, 8, tyX10, rfl, by decide, in_10, gt_2 51 rfl rfl, rfl, rfl, rfl, tyX10_ok, nmX10⟩
theorem ff_12_7 : FF RX12 7 12 0 (.array .int) := ⟨RX12, TX12, 30, tyX12, rfl, by decide, in_12, gt_6 18 rfl rfl, rfl, rfl, rfl, tyX12_ok, nmX12⟩
theorem ff_12_13 : FF RX12 13 12 1 (.array .int) := ⟨RX12, TX12, 30, tyX12, rfl, by decide, in_12, gt_6 19 rfl rfl, rfl, rfl, rfl, tyX12_ok, nmX12⟩
theorem ff_12_16 : FF RX12 16 12 2 (.array .int) := ⟨RX12, TX12, 30, tyX12, rfl, by decide, in_12, gt_6 20 rfl rfl, rfl, rfl, rfl, tyX12_ok, nmX12⟩
theorem ff_12_19 : FF RX12 19 12 3 (.array .int) := ⟨RX12, TX12, 30, tyX12, rfl, by decide, in_12, gt_6 21 rfl rfl, rfl, rfl, rfl, tyX12_ok, nmX12⟩
theorem ff_12_22 : FF RX12 22 12 6 (.array .int) := ⟨RX12, TX12, 30, tyX12, rfl, by decide, in_12, gt_6 24 rfl rfl, rfl, rfl, rfl, tyX12_ok, nmX12⟩
theorem ff_12_25 : FF RX12 25 12 7 (.array .int) := ⟨RX12, TX12, 30, tyX12, rfl, by decide, in_12, gt_6 25 rfl rfl, rfl, rfl, rfl, tyX12_ok, nmX12⟩
theorem ff_12_28 : FF RX12 28 12 8 (.array .int) := ⟨RX12, TX12, 30, tyX12, rfl, by decide, in_12, gt_6 26 rfl rfl, rfl, rfl, rfl, tyX12_ok, nmX12⟩
theorem ff_12_31 : FF RX12 31 12 9 (.array .int) := ⟨RX12, TX12, 30, tyX12, rfl, by decide, in_12, gt_6 27 rfl rfl, rfl, rfl, rfl, tyX12_ok, nmX12⟩
theorem ff_12_34 : FF RX12 34 12 10 (.array .int) := ⟨RX12, TX12, 30, tyX12, rfl, by decide, in_12, gt_6 28 rfl rfl, rfl, rfl, rfl, tyX12_ok, nmX12⟩
theorem ff_12_37 : FF RX12 37 12 11 (.array .int) := ⟨RX12, TX12, 30, tyX12, rfl, by decide, in_12, gt_6 29 rfl rfl, rfl, rfl, rfl, tyX12_ok, nmX12⟩
theorem ff_12_44 : FF RX12 44 12 27 (.array .int) := ⟨RX12, TX12, 30, tyX12, rfl, by decide, in_12, gt_6 45 rfl rfl, rfl, rfl, rfl, tyX12_ok, nmX12⟩
theorem ff_12_47 : FF RX12 47 12 28 (.array .int) := ⟨RX12, TX12, 30, tyX12, rfl, by decide, in_12, gt_6 46 rfl rfl, rfl, rfl, rfl, tyX12_ok, nmX12⟩
theorem ff_12_50 : FF RX12 50 12 29 (.array .int) := ⟨RX12, TX12, 30, tyX12, rfl, by decide, in_12, gt_6 47 rfl rfl, rfl, rfl, rfl, tyX12_ok, nmX12⟩
/-! ===== constructors (by program) ===== -/
theorem ow_1 : Cond.instanceMethod Lib.objectInit ∈ GT ∧ Cond.code Lib.objectInit ⟨#[0xb1]⟩ 1 none ∈ GT := ⟨gt_1 28 rfl rfl, gt_1 29 rfl rfl⟩
theorem ow_2 : Cond.arrayClass .int ∈ GT := gt_1 130 rfl rfl
theorem nw_0 : Cond.instantiable RX0 5 ∈ GT ∧ Cond.initialized RX0 ∈ GT := ⟨gt_1 236 rfl rfl, gt_1 8 rfl rfl⟩
theorem nq_0 : ∃ (T : u_T) (ty : Nat → FieldType), vwCl[0]? = some (RX0, T, 5) ∧ (∀ w ∈ u_ws RX0 T 5, w ∈ GT) ∧ (∀ k, k < 5 → parseFieldDescriptor (T k).2.2.1 = some (ty k)) ∧ ∀ j, j < 5 → defaultValue (ty j) = vp_V [.null, .null, .null, .null, .int 0] j := ⟨TX0, tyX0, rfl, in_0, tyX0_ok, by decide +kernel⟩
theorem nw_1 : Cond.instantiable RX1 3 ∈ GT ∧ Cond.initialized RX1 ∈ GT := ⟨gt_1 166 rfl rfl, gt_1 5 rfl rfl⟩
theorem nq_1 : ∃ (T : u_T) (ty : Nat → FieldType), vwCl[1]? = some (RX1, T, 3) ∧ (∀ w ∈ u_ws RX1 T 3, w ∈ GT) ∧ (∀ k, k < 3 → parseFieldDescriptor (T k).2.2.1 = some (ty k)) ∧ ∀ j, j < 3 → defaultValue (ty j) = vp_V [.null, .null, .int 0] j := ⟨TX1, tyX1, rfl, in_1, tyX1_ok, by decide +kernel⟩
theorem nw_2 : Cond.instantiable RX2 8 ∈ GT ∧ Cond.initialized RX2 ∈ GT := ⟨gt_1 132 rfl rfl, gt_1 4 rfl rfl⟩
theorem nq_2 : ∃ (T : u_T) (ty : Nat → FieldType), vwCl[2]? = some (RX2, T, 8) ∧ (∀ w ∈ u_ws RX2 T 8, w ∈ GT) ∧ (∀ k, k < 8 → parseFieldDescriptor (T k).2.2.1 = some (ty k)) ∧ ∀ j, j < 8 → defaultValue (ty j) = vp_V [.null, .null, .null, .null, .int 0, .int 0, .null, .null] j := ⟨TX2, tyX2, rfl, in_2, tyX2_ok, by decide +kernel⟩
theorem nw_3 : Cond.instantiable RX3 3 ∈ GT ∧ Cond.initialized RX3 ∈ GT := ⟨gt_2 19 rfl rfl, gt_1 9 rfl rfl⟩
theorem nq_3 : ∃ (T : u_T) (ty : Nat → FieldType), vwCl[3]? = some (RX3, T, 3) ∧ (∀ w ∈ u_ws RX3 T 3, w ∈ GT) ∧ (∀ k, k < 3 → parseFieldDescriptor (T k).2.2.1 = some (ty k)) ∧ ∀ j, j < 3 → defaultValue (ty j) = vp_V [.null, .null, .int 0] j := ⟨TX3, tyX3, rfl, in_3, tyX3_ok, by decide +kernel⟩
theorem nw_4 : Cond.instantiable RX4 17 ∈ GT ∧ Cond.initialized RX4 ∈ GT := ⟨gt_1 37 rfl rfl, gt_1 3 rfl rfl⟩
theorem nq_4 : ∃ (T : u_T) (ty : Nat → FieldType), vwCl[4]? = some (RX4, T, 17) ∧ (∀ w ∈ u_ws RX4 T 17, w ∈ GT) ∧ (∀ k, k < 17 → parseFieldDescriptor (T k).2.2.1 = some (ty k)) ∧ ∀ j, j < 17 → defaultValue (ty j) = vp_V [.null, .null, .null, .null, .null, .null, .null, .null, .int 0, .int 0, .int 0, .int 0, .int 0, .int 0, .int 0, .int 0, .int 0] j := ⟨TX4, tyX4, rfl, in_4, tyX4_ok, by decide +kernel⟩
theorem nw_5 : Cond.instantiable RX5 3 ∈ GT ∧ Cond.initialized RX5 ∈ GT := ⟨gt_2 71 rfl rfl, gt_1 10 rfl rfl⟩
theorem nq_5 : ∃ (T : u_T) (ty : Nat → FieldType), vwCl[5]? = some (RX5, T, 3) ∧ (∀ w ∈ u_ws RX5 T 3, w ∈ GT) ∧ (∀ k, k < 3 → parseFieldDescriptor (T k).2.2.1 = some (ty k)) ∧ ∀ j, j < 3 → defaultValue (ty j) = vp_V [.null, .int 0, .int 0] j := ⟨TX5, tyX5, rfl, in_5, tyX5_ok, by decide +kernel⟩
theorem nw_6 : Cond.instantiable RX6 5 ∈ GT ∧ Cond.initialized RX6 ∈ GT := ⟨gt_1 184 rfl rfl, gt_1 6 rfl rfl⟩
theorem nq_6 : ∃ (T : u_T) (ty : Nat → FieldType), vwCl[6]? = some (RX6, T, 5) ∧ (∀ w ∈ u_ws RX6 T 5, w ∈ GT) ∧ (∀ k, k < 5 → parseFieldDescriptor (T k).2.2.1 = some (ty k)) ∧ ∀ j, j < 5 → defaultValue (ty j) = vp_V [.null, .null, .null, .null, .int 0] j := ⟨TX6, tyX6, rfl, in_6, tyX6_ok, by decide +kernel⟩
theorem nw_7 : Cond.instantiable RX7 18 ∈ GT ∧ Cond.initialized RX7 ∈ GT := ⟨gt_2 109 rfl rfl, gt_1 12 rfl rfl⟩
theorem nq_7 : ∃ (T : u_T) (ty : Nat → FieldType), vwCl[7]? = some (RX7, T, 18) ∧ (∀ w ∈ u_ws RX7 T 18, w ∈ GT) ∧ (∀ k, k < 18 → parseFieldDescriptor (T k).2.2.1 = some (ty k)) ∧ ∀ j, j < 18 → defaultValue (ty j) = vp_V [.null, .null, .null, .null, .int 0, .int 0, .int 0, .null, .null, .null, .null, .int 0, .int 0, .int 0, .null, .int 0, .int 0, .int 0] j := ⟨TX7, tyX7, rfl, in_7, tyX7_ok, by decide +kernel⟩
theorem nw_8 : Cond.instantiable RX8 3 ∈ GT ∧ Cond.initialized RX8 ∈ GT := ⟨gt_2 91 rfl rfl, gt_1 11 rfl rfl⟩
theorem nq_8 : ∃ (T : u_T) (ty : Nat → FieldType), vwCl[8]? = some (RX8, T, 3) ∧ (∀ w ∈ u_ws RX8 T 3, w ∈ GT) ∧ (∀ k, k < 3 → parseFieldDescriptor (T k).2.2.1 = some (ty k)) ∧ ∀ j, j < 3 → defaultValue (ty j) = vp_V [.null, .null, .null] j := ⟨TX8, tyX8, rfl, in_8, tyX8_ok, by decide +kernel⟩
theorem nw_9 : Cond.instantiable RX9 4 ∈ GT ∧ Cond.initialized RX9 ∈ GT := ⟨gt_1 213 rfl rfl, gt_1 7 rfl rfl⟩
theorem nq_9 : ∃ (T : u_T) (ty : Nat → FieldType), vwCl[9]? = some (RX9, T, 4) ∧ (∀ w ∈ u_ws RX9 T 4, w ∈ GT) ∧ (∀ k, k < 4 → parseFieldDescriptor (T k).2.2.1 = some (ty k)) ∧ ∀ j, j < 4 → defaultValue (ty j) = vp_V [.null, .null, .null, .int 0] j := ⟨TX9, tyX9, rfl, in_9, tyX9_ok, by decide +kernel⟩
theorem nw_10 : Cond.instantiable RX10 8 ∈ GT ∧ Cond.initialized RX10 ∈ GT := ⟨gt_1 31 rfl rfl, gt_1 2 rfl rfl⟩
theorem nq_10 : ∃ (T : u_T) (ty : Nat → FieldType), vwCl[10]? = some (RX10, T, 8) ∧ (∀ w ∈ u_ws RX10 T 8, w ∈ GT) ∧ (∀ k, k < 8 → parseFieldDescriptor (T k).2.2.1 = some (ty k)) ∧ ∀ j, j < 8 → defaultValue (ty j) = vp_V [.null, .null, .null, .null, .null, .null, .null, .null] j := ⟨TX10, tyX10, rfl, in_10, tyX10_ok, by decide +kernel⟩
theorem nw_11 : Cond.instantiable RX11 6 ∈ GT ∧ Cond.initialized RX11 ∈ GT := ⟨gt_1 23 rfl rfl, gt_1 1 rfl rfl⟩
theorem nq_11 : ∃ (T : u_T) (ty : Nat → FieldType), vwCl[11]? = some (RX11, T, 6) ∧ (∀ w ∈ u_ws RX11 T 6, w ∈ GT) ∧ (∀ k, k < 6 → parseFieldDescriptor (T k).2.2.1 = some (ty k)) ∧ ∀ j, j < 6 → defaultValue (ty j) = vp_V [.null, .null, .null, .null, .null, .int 0] j := ⟨TX11, tyX11, rfl, in_11, tyX11_ok, by decide +kernel⟩
theorem nw_12 : Cond.instantiable RX12 30 ∈ GT ∧ Cond.initialized RX12 ∈ GT := ⟨gt_6 13 rfl rfl, gt_1 13 rfl rfl⟩
theorem nq_12 : ∃ (T : u_T) (ty : Nat → FieldType), vwCl[12]? = some (RX12, T, 30) ∧ (∀ w ∈ u_ws RX12 T 30, w ∈ GT) ∧ (∀ k, k < 30 → parseFieldDescriptor (T k).2.2.1 = some (ty k)) ∧ ∀ j, j < 30 → defaultValue (ty j) = vp_V [.null, .null, .null, .null, .int 0, .int 0, .null, .null, .null, .null, .null, .null, .int 0, .int 0, .int 0, .int 0, .int 0, .int 0, .int 0, .int 0, .int 0, .int 0, .int 0, .int 0, .int 0, .int 0, .int 0, .null, .null, .null] j := ⟨TX12, tyX12, rfl, in_12, tyX12_ok, by decide +kernel⟩
def ini_arch (j : Int) : Int := if 0 ≤ j ∧ j < 16 then 10 else 0
def ini_w (j : Int) : Int := if 85 ≤ j ∧ j < 101 then 10 else if j = 1 then 5 else if j = 2 then 3 else 0
def Lo_0 (κ : Kp) (q : Nat) : List va_E := [.inr (0, [.ref (q + 1), .ref (q + 2), .ref (q + 3), .ref (q + 4), .int 0]), .inl (κ.2.2.1.1, 8, .inl (fun _ => 0)), .inl (κ.2.2.1.1, 8, .inl (fun _ => 0)), .inl (κ.2.2.1.1, 1000, .inl (fun _ => 0)), .inl (κ.2.2.1.1, 30, .inl (fun _ => 0))]
theorem len_0 (κ : Kp) (q : Nat) : (Lo_0 κ q).length = 5 := rfl
abbrev R_X0_init : Room := { frames := 1, cells := 4, slots := 1046, locals := 30 }
set_option maxHeartbeats 8000000 in
set_option maxRecDepth 20000 in
theorem c_X0_init (κ : Kp) (q0 : Nat) : CtC κ M_X0_init R_X0_init q0 (.inr (0, [.null, .null, .null, .null, .int 0])) (Lo_0 κ q0) := by
  refine CtC.of (by decide) rfl rfl (Nat.le_of_ble_eq_true rfl) ?_
  refine x_ls (ls' := [some (.ref q0)]) ⟨rfl, trivial⟩ ?_
  show EC κ M_X0_init R_X0_init q0 0 [some (.ref (q0 + 0))] [] _ 0 0 _
  refine x_aload_n d_X0_init_0 rfl ?_
  refine x_obj d_X0_init_1 ml_0_3 ow_1 ⟨by decide, Nat.le_of_ble_eq_true rfl⟩ ?_
  refine x_aload_n d_X0_init_4 rfl ?_
  refine x_bipush d_X0_init_5 rfl ?_
  refine x_newa (N := 8) (i := 1) (L' := [.inr (0, [.null, .null, .null, .null, .int 0]), .inl (κ.2.2.1.1, 8, .inl (fun _ => 0))]) d_X0_init_7 ow_2 rfl rfl rfl rfl rfl rfl ?_
  refine x_putF (i := 0) (j := 0) (L' := [.inr (0, [.ref (q0 + 1), .null, .null, .null, .int 0]), .inl (κ.2.2.1.1, 8, .inl (fun _ => 0))]) d_X0_init_9 ff_0_9 rfl rfl rfl (Nat.le_of_ble_eq_true rfl) rfl ?_
  refine x_aload_n d_X0_init_12 rfl ?_
  refine x_bipush d_X0_init_13 rfl ?_
  refine x_newa (N := 8) (i := 2) (L' := [.inr (0, [.ref (q0 + 1), .null, .null, .null, .int 0]), .inl (κ.2.2.1.1, 8, .inl (fun _ => 0)), .inl (κ.2.2.1.1, 8, .inl (fun _ => 0))]) d_X0_init_15 ow_2 rfl rfl rfl rfl rfl rfl ?_
  refine x_putF (i := 0) (j := 1) (L' := [.inr (0, [.ref (q0 + 1), .ref (q0 + 2), .null, .null, .int 0]), .inl (κ.2.2.1.1, 8, .inl (fun _ => 0)), .inl (κ.2.2.1.1, 8, .inl (fun _ => 0))]) d_X0_init_17 ff_0_15 rfl rfl rfl (Nat.le_of_ble_eq_true rfl) rfl ?_
  refine x_aload_n d_X0_init_20 rfl ?_
  refine x_sipush d_X0_init_21 rfl ?_
  refine x_newa (N := 1000) (i := 3) (L' := [.inr (0, [.ref (q0 + 1), .ref (q0 + 2), .null, .null, .int 0]), .inl (κ.2.2.1.1, 8, .inl (fun _ => 0)), .inl (κ.2.2.1.1, 8, .inl (fun _ => 0)), .inl (κ.2.2.1.1, 1000, .inl (fun _ => 0))]) d_X0_init_24 ow_2 rfl rfl rfl rfl rfl rfl ?_
  refine x_putF (i := 0) (j := 2) (L' := [.inr (0, [.ref (q0 + 1), .ref (q0 + 2), .ref (q0 + 3), .null, .int 0]), .inl (κ.2.2.1.1, 8, .inl (fun _ => 0)), .inl (κ.2.2.1.1, 8, .inl (fun _ => 0)), .inl (κ.2.2.1.1, 1000, .inl (fun _ => 0))]) d_X0_init_26 ff_0_18 rfl rfl rfl (Nat.le_of_ble_eq_true rfl) rfl ?_
  refine x_aload_n d_X0_init_29 rfl ?_
  refine x_bipush d_X0_init_30 rfl ?_
  refine x_newa (N := 30) (i := 4) (L' := [.inr (0, [.ref (q0 + 1), .ref (q0 + 2), .ref (q0 + 3), .null, .int 0]), .inl (κ.2.2.1.1, 8, .inl (fun _ => 0)), .inl (κ.2.2.1.1, 8, .inl (fun _ => 0)), .inl (κ.2.2.1.1, 1000, .inl (fun _ => 0)), .inl (κ.2.2.1.1, 30, .inl (fun _ => 0))]) d_X0_init_32 ow_2 rfl rfl rfl rfl rfl rfl ?_
  refine x_putF (i := 0) (j := 3) (L' := [.inr (0, [.ref (q0 + 1), .ref (q0 + 2), .ref (q0 + 3), .ref (q0 + 4), .int 0]), .inl (κ.2.2.1.1, 8, .inl (fun _ => 0)), .inl (κ.2.2.1.1, 8, .inl (fun _ => 0)), .inl (κ.2.2.1.1, 1000, .inl (fun _ => 0)), .inl (κ.2.2.1.1, 30, .inl (fun _ => 0))]) d_X0_init_34 ff_0_21 rfl rfl rfl (Nat.le_of_ble_eq_true rfl) rfl ?_
  exact x_ret d_X0_init_37 rfl rfl rfl rfl
def Lo_1 (κ : Kp) (q : Nat) : List va_E := [.inr (1, [.ref (q + 1), .ref (q + 2), .int 0]), .inl (κ.2.2.1.1, 16, .inl (fun _ => 0)), .inl (κ.2.2.1.1, 16, .inl (fun _ => 0))]
theorem len_1 (κ : Kp) (q : Nat) : (Lo_1 κ q).length = 3 := rfl
abbrev R_X1_init : Room := { frames := 1, cells := 2, slots := 32, locals := 30 }
set_option maxHeartbeats 8000000 in
set_option maxRecDepth 20000 in
theorem c_X1_init (κ : Kp) (q0 : Nat) : CtC κ M_X1_init R_X1_init q0 (.inr (1, [.null, .null, .int 0])) (Lo_1 κ q0) := by
  refine CtC.of (by decide) rfl rfl (Nat.le_of_ble_eq_true rfl) ?_
  refine x_ls (ls' := [some (.ref q0)]) ⟨rfl, trivial⟩ ?_
  show EC κ M_X1_init R_X1_init q0 0 [some (.ref (q0 + 0))] [] _ 0 0 _
  refine x_aload_n d_X1_init_0 rfl ?_
  refine x_obj d_X1_init_1 ml_1_3 ow_1 ⟨by decide, Nat.le_of_ble_eq_true rfl⟩ ?_
  refine x_aload_n d_X1_init_4 rfl ?_
  refine x_bipush d_X1_init_5 rfl ?_
  refine x_newa (N := 16) (i := 1) (L' := [.inr (1, [.null, .null, .int 0]), .inl (κ.2.2.1.1, 16, .inl (fun _ => 0))]) d_X1_init_7 ow_2 rfl rfl rfl rfl rfl rfl ?_
  refine x_putF (i := 0) (j := 0) (L' := [.inr (1, [.ref (q0 + 1), .null, .int 0]), .inl (κ.2.2.1.1, 16, .inl (fun _ => 0))]) d_X1_init_9 ff_1_9 rfl rfl rfl (Nat.le_of_ble_eq_true rfl) rfl ?_
  refine x_aload_n d_X1_init_12 rfl ?_
  refine x_bipush d_X1_init_13 rfl ?_
  refine x_newa (N := 16) (i := 2) (L' := [.inr (1, [.ref (q0 + 1), .null, .int 0]), .inl (κ.2.2.1.1, 16, .inl (fun _ => 0)), .inl (κ.2.2.1.1, 16, .inl (fun _ => 0))]) d_X1_init_15 ow_2 rfl rfl rfl rfl rfl rfl ?_
  refine x_putF (i := 0) (j := 1) (L' := [.inr (1, [.ref (q0 + 1), .ref (q0 + 2), .int 0]), .inl (κ.2.2.1.1, 16, .inl (fun _ => 0)), .inl (κ.2.2.1.1, 16, .inl (fun _ => 0))]) d_X1_init_17 ff_1_15 rfl rfl rfl (Nat.le_of_ble_eq_true rfl) rfl ?_
  exact x_ret d_X1_init_20 rfl rfl rfl rfl
def Lo_2 (κ : Kp) (q : Nat) : List va_E := [.inr (2, [.ref (q + 1), .ref (q + 2), .ref (q + 3), .ref (q + 4), .int 0, .int 0, .ref (q + 5), .ref (q + 6)]), .inl (κ.2.2.1.1, 16, .inl (fun _ => 0)), .inl (κ.2.2.1.1, 16, .inl (fun _ => 0)), .inl (κ.2.2.1.1, 16, .inl (fun _ => 0)), .inl (κ.2.2.1.1, 400, .inl (fun _ => 0)), .inl (κ.2.2.1.1, 10, .inl (fun _ => 0)), .inl (κ.2.2.1.1, 32, .inl (fun _ => 0))]
theorem len_2 (κ : Kp) (q : Nat) : (Lo_2 κ q).length = 7 := rfl
abbrev R_X2_init : Room := { frames := 1, cells := 6, slots := 490, locals := 30 }
set_option maxHeartbeats 8000000 in
set_option maxRecDepth 20000 in
theorem c_X2_init (κ : Kp) (q0 : Nat) : CtC κ M_X2_init R_X2_init q0 (.inr (2, [.null, .null, .null, .null, .int 0, .int 0, .null, .null])) (Lo_2 κ q0) := by
  refine CtC.of (by decide) rfl rfl (Nat.le_of_ble_eq_true rfl) ?_
  refine x_ls (ls' := [some (.ref q0)]) ⟨rfl, trivial⟩ ?_
  show EC κ M_X2_init R_X2_init q0 0 [some (.ref (q0 + 0))] [] _ 0 0 _
  refine x_aload_n d_X2_init_0 rfl ?_
  refine x_obj d_X2_init_1 ml_2_3 ow_1 ⟨by decide, Nat.le_of_ble_eq_true rfl⟩ ?_
  refine x_aload_n d_X2_init_4 rfl ?_
  refine x_bipush d_X2_init_5 rfl ?_
  refine x_newa (N := 16) (i := 1) (L' := [.inr (2, [.null, .null, .null, .null, .int 0, .int 0, .null, .null]), .inl (κ.2.2.1.1, 16, .inl (fun _ => 0))]) d_X2_init_7 ow_2 rfl rfl rfl rfl rfl rfl ?_
  refine x_putF (i := 0) (j := 0) (L' := [.inr (2, [.ref (q0 + 1), .null, .null, .null, .int 0, .int 0, .null, .null]), .inl (κ.2.2.1.1, 16, .inl (fun _ => 0))]) d_X2_init_9 ff_2_9 rfl rfl rfl (Nat.le_of_ble_eq_true rfl) rfl ?_
  refine x_aload_n d_X2_init_12 rfl ?_
  refine x_bipush d_X2_init_13 rfl ?_
  refine x_newa (N := 16) (i := 2) (L' := [.inr (2, [.ref (q0 + 1), .null, .null, .null, .int 0, .int 0, .null, .null]), .inl (κ.2.2.1.1, 16, .inl (fun _ => 0)), .inl (κ.2.2.1.1, 16, .inl (fun _ => 0))]) d_X2_init_15 ow_2 rfl rfl rfl rfl rfl rfl ?_
  refine x_putF (i := 0) (j := 1) (L' := [.inr (2, [.ref (q0 + 1), .ref (q0 + 2), .null, .null, .int 0, .int 0, .null, .null]), .inl (κ.2.2.1.1, 16, .inl (fun _ => 0)), .inl (κ.2.2.1.1, 16, .inl (fun _ => 0))]) d_X2_init_17 ff_2_15 rfl rfl rfl (Nat.le_of_ble_eq_true rfl) rfl ?_
  refine x_aload_n d_X2_init_20 rfl ?_
  refine x_bipush d_X2_init_21 rfl ?_
  refine x_newa (N := 16) (i := 3) (L' := [.inr (2, [.ref (q0 + 1), .ref (q0 + 2), .null, .null, .int 0, .int 0, .null, .null]), .inl (κ.2.2.1.1, 16, .inl (fun _ => 0)), .inl (κ.2.2.1.1, 16, .inl (fun _ => 0)), .inl (κ.2.2.1.1, 16, .inl (fun _ => 0))]) d_X2_init_23 ow_2 rfl rfl rfl rfl rfl rfl ?_
  refine x_putF (i := 0) (j := 2) (L' := [.inr (2, [.ref (q0 + 1), .ref (q0 + 2), .ref (q0 + 3), .null, .int 0, .int 0, .null, .null]), .inl (κ.2.2.1.1, 16, .inl (fun _ => 0)), .inl (κ.2.2.1.1, 16, .inl (fun _ => 0)), .inl (κ.2.2.1.1, 16, .inl (fun _ => 0))]) d_X2_init_25 ff_2_18 rfl rfl rfl (Nat.le_of_ble_eq_true rfl) rfl ?_
  refine x_aload_n d_X2_init_28 rfl ?_
  refine x_sipush d_X2_init_29 rfl ?_
  refine x_newa (N := 400) (i := 4) (L' := [.inr (2, [.ref (q0 + 1), .ref (q0 + 2), .ref (q0 + 3), .null, .int 0, .int 0, .null, .null]), .inl (κ.2.2.1.1, 16, .inl (fun _ => 0)), .inl (κ.2.2.1.1, 16, .inl (fun _ => 0)), .inl (κ.2.2.1.1, 16, .inl (fun _ => 0)), .inl (κ.2.2.1.1, 400, .inl (fun _ => 0))]) d_X2_init_32 ow_2 rfl rfl rfl rfl rfl rfl ?_
  refine x_putF (i := 0) (j := 3) (L' := [.inr (2, [.ref (q0 + 1), .ref (q0 + 2), .ref (q0 + 3), .ref (q0 + 4), .int 0, .int 0, .null, .null]), .inl (κ.2.2.1.1, 16, .inl (fun _ => 0)), .inl (κ.2.2.1.1, 16, .inl (fun _ => 0)), .inl (κ.2.2.1.1, 16, .inl (fun _ => 0)), .inl (κ.2.2.1.1, 400, .inl (fun _ => 0))]) d_X2_init_34 ff_2_21 rfl rfl rfl (Nat.le_of_ble_eq_true rfl) rfl ?_
  refine x_aload_n d_X2_init_37 rfl ?_
  refine x_bipush d_X2_init_38 rfl ?_
  refine x_newa (N := 10) (i := 5) (L' := [.inr (2, [.ref (q0 + 1), .ref (q0 + 2), .ref (q0 + 3), .ref (q0 + 4), .int 0, .int 0, .null, .null]), .inl (κ.2.2.1.1, 16, .inl (fun _ => 0)), .inl (κ.2.2.1.1, 16, .inl (fun _ => 0)), .inl (κ.2.2.1.1, 16, .inl (fun _ => 0)), .inl (κ.2.2.1.1, 400, .inl (fun _ => 0)), .inl (κ.2.2.1.1, 10, .inl (fun _ => 0))]) d_X2_init_40 ow_2 rfl rfl rfl rfl rfl rfl ?_
  refine x_putF (i := 0) (j := 6) (L' := [.inr (2, [.ref (q0 + 1), .ref (q0 + 2), .ref (q0 + 3), .ref (q0 + 4), .int 0, .int 0, .ref (q0 + 5), .null]), .inl (κ.2.2.1.1, 16, .inl (fun _ => 0)), .inl (κ.2.2.1.1, 16, .inl (fun _ => 0)), .inl (κ.2.2.1.1, 16, .inl (fun _ => 0)), .inl (κ.2.2.1.1, 400, .inl (fun _ => 0)), .inl (κ.2.2.1.1, 10, .inl (fun _ => 0))]) d_X2_init_42 ff_2_24 rfl rfl rfl (Nat.le_of_ble_eq_true rfl) rfl ?_
  refine x_aload_n d_X2_init_45 rfl ?_
  refine x_bipush d_X2_init_46 rfl ?_
  refine x_newa (N := 32) (i := 6) (L' := [.inr (2, [.ref (q0 + 1), .ref (q0 + 2), .ref (q0 + 3), .ref (q0 + 4), .int 0, .int 0, .ref (q0 + 5), .null]), .inl (κ.2.2.1.1, 16, .inl (fun _ => 0)), .inl (κ.2.2.1.1, 16, .inl (fun _ => 0)), .inl (κ.2.2.1.1, 16, .inl (fun _ => 0)), .inl (κ.2.2.1.1, 400, .inl (fun _ => 0)), .inl (κ.2.2.1.1, 10, .inl (fun _ => 0)), .inl (κ.2.2.1.1, 32, .inl (fun _ => 0))]) d_X2_init_48 ow_2 rfl rfl rfl rfl rfl rfl ?_
  refine x_putF (i := 0) (j := 7) (L' := [.inr (2, [.ref (q0 + 1), .ref (q0 + 2), .ref (q0 + 3), .ref (q0 + 4), .int 0, .int 0, .ref (q0 + 5), .ref (q0 + 6)]), .inl (κ.2.2.1.1, 16, .inl (fun _ => 0)), .inl (κ.2.2.1.1, 16, .inl (fun _ => 0)), .inl (κ.2.2.1.1, 16, .inl (fun _ => 0)), .inl (κ.2.2.1.1, 400, .inl (fun _ => 0)), .inl (κ.2.2.1.1, 10, .inl (fun _ => 0)), .inl (κ.2.2.1.1, 32, .inl (fun _ => 0))]) d_X2_init_50 ff_2_27 rfl rfl rfl (Nat.le_of_ble_eq_true rfl) rfl ?_
  exact x_ret d_X2_init_53 rfl rfl rfl rfl
def Lo_3 (κ : Kp) (q : Nat) : List va_E := [.inr (3, [.ref (q + 1), .ref (q + 2), .int 0]), .inl (κ.2.2.1.1, 4, .inl (fun _ => 0)), .inl (κ.2.2.1.1, 6, .inl (fun _ => 0))]
theorem len_3 (κ : Kp) (q : Nat) : (Lo_3 κ q).length = 3 := rfl
abbrev R_X3_init : Room := { frames := 1, cells := 2, slots := 10, locals := 30 }
set_option maxHeartbeats 8000000 in
set_option maxRecDepth 20000 in
theorem c_X3_init (κ : Kp) (q0 : Nat) : CtC κ M_X3_init R_X3_init q0 (.inr (3, [.null, .null, .int 0])) (Lo_3 κ q0) := by
  refine CtC.of (by decide) rfl rfl (Nat.le_of_ble_eq_true rfl) ?_
  refine x_ls (ls' := [some (.ref q0)]) ⟨rfl, trivial⟩ ?_
  show EC κ M_X3_init R_X3_init q0 0 [some (.ref (q0 + 0))] [] _ 0 0 _
  refine x_aload_n d_X3_init_0 rfl ?_
  refine x_obj d_X3_init_1 ml_3_3 ow_1 ⟨by decide, Nat.le_of_ble_eq_true rfl⟩ ?_
  refine x_aload_n d_X3_init_4 rfl ?_
  refine x_iconst d_X3_init_5 ?_
  refine x_newa (N := 4) (i := 1) (L' := [.inr (3, [.null, .null, .int 0]), .inl (κ.2.2.1.1, 4, .inl (fun _ => 0))]) d_X3_init_6 ow_2 rfl rfl rfl rfl rfl rfl ?_
  refine x_putF (i := 0) (j := 0) (L' := [.inr (3, [.ref (q0 + 1), .null, .int 0]), .inl (κ.2.2.1.1, 4, .inl (fun _ => 0))]) d_X3_init_8 ff_3_9 rfl rfl rfl (Nat.le_of_ble_eq_true rfl) rfl ?_
  refine x_aload_n d_X3_init_11 rfl ?_
  refine x_bipush d_X3_init_12 rfl ?_
  refine x_newa (N := 6) (i := 2) (L' := [.inr (3, [.ref (q0 + 1), .null, .int 0]), .inl (κ.2.2.1.1, 4, .inl (fun _ => 0)), .inl (κ.2.2.1.1, 6, .inl (fun _ => 0))]) d_X3_init_14 ow_2 rfl rfl rfl rfl rfl rfl ?_
  refine x_putF (i := 0) (j := 1) (L' := [.inr (3, [.ref (q0 + 1), .ref (q0 + 2), .int 0]), .inl (κ.2.2.1.1, 4, .inl (fun _ => 0)), .inl (κ.2.2.1.1, 6, .inl (fun _ => 0))]) d_X3_init_16 ff_3_15 rfl rfl rfl (Nat.le_of_ble_eq_true rfl) rfl ?_
  exact x_ret d_X3_init_19 rfl rfl rfl rfl
def Lo_4 (κ : Kp) (q : Nat) : List va_E := [.inr (4, [.ref (q + 1), .ref (q + 2), .ref (q + 3), .ref (q + 4), .ref (q + 5), .ref (q + 6), .ref (q + 7), .ref (q + 8), .int 0, .int 0, .int 0, vi 5, vi 3, .int 0, .int 0, .int 0, .int 0]), .inl (κ.2.2.1.1, 10, .inl (fun _ => 0)), .inl (κ.2.2.1.1, 10, .inl (fun _ => 0)), .inl (κ.2.2.1.1, 10, .inl (fun _ => 0)), .inl (κ.2.2.1.1, 10, .inl (fun _ => 0)), .inl (κ.2.2.1.1, 10, .inl (fun _ => 0)), .inl (κ.2.2.1.1, 10, .inl (fun _ => 0)), .inl (κ.2.2.1.1, 10, .inl (fun _ => 0)), .inl (κ.2.2.1.1, 16, .inl (fun j => Int32.ofInt (ini_arch j)))]
theorem len_4 (κ : Kp) (q : Nat) : (Lo_4 κ q).length = 9 := rfl
def ar4_1 : Nat → Int32 := upd (fun _ => 0) 0 (Int32.ofInt 10)
def ar4_2 : Nat → Int32 := upd ar4_1 1 (Int32.ofInt 10)
def ar4_3 : Nat → Int32 := upd ar4_2 2 (Int32.ofInt 10)
def ar4_4 : Nat → Int32 := upd ar4_3 3 (Int32.ofInt 10)
def ar4_5 : Nat → Int32 := upd ar4_4 4 (Int32.ofInt 10)
def ar4_6 : Nat → Int32 := upd ar4_5 5 (Int32.ofInt 10)
def ar4_7 : Nat → Int32 := upd ar4_6 6 (Int32.ofInt 10)
def ar4_8 : Nat → Int32 := upd ar4_7 7 (Int32.ofInt 10)
def ar4_9 : Nat → Int32 := upd ar4_8 8 (Int32.ofInt 10)
def ar4_10 : Nat → Int32 := upd ar4_9 9 (Int32.ofInt 10)
def ar4_11 : Nat → Int32 := upd ar4_10 10 (Int32.ofInt 10)
def ar4_12 : Nat → Int32 := upd ar4_11 11 (Int32.ofInt 10)
def ar4_13 : Nat → Int32 := upd ar4_12 12 (Int32.ofInt 10)
def ar4_14 : Nat → Int32 := upd ar4_13 13 (Int32.ofInt 10)
def ar4_15 : Nat → Int32 := upd ar4_14 14 (Int32.ofInt 10)
def ar4_16 : Nat → Int32 := upd ar4_15 15 (Int32.ofInt 10)
abbrev R_X4_init : Room := { frames := 1, cells := 8, slots := 86, locals := 30 }
set_option maxHeartbeats 8000000 in
set_option maxRecDepth 20000 in
theorem c_X4_init (κ : Kp) (q0 : Nat) : CtC κ M_X4_init R_X4_init q0 (.inr (4, [.null, .null, .null, .null, .null, .null, .null, .null, .int 0, .int 0, .int 0, .int 0, .int 0, .int 0, .int 0, .int 0, .int 0])) (Lo_4 κ q0) := by
  refine CtC.of (by decide) rfl rfl (Nat.le_of_ble_eq_true rfl) ?_
  refine x_ls (ls' := [some (.ref q0), none]) ⟨rfl, trivial⟩ ?_
  show EC κ M_X4_init R_X4_init q0 0 [some (.ref (q0 + 0)), none] [] _ 0 0 _
  refine x_aload_n d_X4_init_0 rfl ?_
  refine x_obj d_X4_init_1 ml_4_3 ow_1 ⟨by decide, Nat.le_of_ble_eq_true rfl⟩ ?_
  refine x_aload_n d_X4_init_4 rfl ?_
  refine x_bipush d_X4_init_5 rfl ?_
  refine x_newa (N := 10) (i := 1) (L' := [.inr (4, [.null, .null, .null, .null, .null, .null, .null, .null, .int 0, .int 0, .int 0, .int 0, .int 0, .int 0, .int 0, .int 0, .int 0]), .inl (κ.2.2.1.1, 10, .inl (fun _ => 0))]) d_X4_init_7 ow_2 rfl rfl rfl rfl rfl rfl ?_
  refine x_putF (i := 0) (j := 0) (L' := [.inr (4, [.ref (q0 + 1), .null, .null, .null, .null, .null, .null, .null, .int 0, .int 0, .int 0, .int 0, .int 0, .int 0, .int 0, .int 0, .int 0]), .inl (κ.2.2.1.1, 10, .inl (fun _ => 0))]) d_X4_init_9 ff_4_9 rfl rfl rfl (Nat.le_of_ble_eq_true rfl) rfl ?_
  refine x_aload_n d_X4_init_12 rfl ?_
  refine x_bipush d_X4_init_13 rfl ?_
  refine x_newa (N := 10) (i := 2) (L' := [.inr (4, [.ref (q0 + 1), .null, .null, .null, .null, .null, .null, .null, .int 0, .int 0, .int 0, .int 0, .int 0, .int 0, .int 0, .int 0, .int 0]), .inl (κ.2.2.1.1, 10, .inl (fun _ => 0)), .inl (κ.2.2.1.1, 10, .inl (fun _ => 0))]) d_X4_init_15 ow_2 rfl rfl rfl rfl rfl rfl ?_
  refine x_putF (i := 0) (j := 1) (L' := [.inr (4, [.ref (q0 + 1), .ref (q0 + 2), .null, .null, .null, .null, .null, .null, .int 0, .int 0, .int 0, .int 0, .int 0, .int 0, .int 0, .int 0, .int 0]), .inl (κ.2.2.1.1, 10, .inl (fun _ => 0)), .inl (κ.2.2.1.1, 10, .inl (fun _ => 0))]) d_X4_init_17 ff_4_15 rfl rfl rfl (Nat.le_of_ble_eq_true rfl) rfl ?_
  refine x_aload_n d_X4_init_20 rfl ?_
  refine x_bipush d_X4_init_21 rfl ?_
  refine x_newa (N := 10) (i := 3) (L' := [.inr (4, [.ref (q0 + 1), .ref (q0 + 2), .null, .null, .null, .null, .null, .null, .int 0, .int 0, .int 0, .int 0, .int 0, .int 0, .int 0, .int 0, .int 0]), .inl (κ.2.2.1.1, 10, .inl (fun _ => 0)), .inl (κ.2.2.1.1, 10, .inl (fun _ => 0)), .inl (κ.2.2.1.1, 10, .inl (fun _ => 0))]) d_X4_init_23 ow_2 rfl rfl rfl rfl rfl rfl ?_
  refine x_putF (i := 0) (j := 2) (L' := [.inr (4, [.ref (q0 + 1), .ref (q0 + 2), .ref (q0 + 3), .null, .null, .null, .null, .null, .int 0, .int 0, .int 0, .int 0, .int 0, .int 0, .int 0, .int 0, .int 0]), .inl (κ.2.2.1.1, 10, .inl (fun _ => 0)), .inl (κ.2.2.1.1, 10, .inl (fun _ => 0)), .inl (κ.2.2.1.1, 10, .inl (fun _ => 0))]) d_X4_init_25 ff_4_18 rfl rfl rfl (Nat.le_of_ble_eq_true rfl) rfl ?_
  refine x_aload_n d_X4_init_28 rfl ?_
  refine x_bipush d_X4_init_29 rfl ?_
  refine x_newa (N := 10) (i := 4) (L' := [.inr (4, [.ref (q0 + 1), .ref (q0 + 2), .ref (q0 + 3), .null, .null, .null, .null, .null, .int 0, .int 0, .int 0, .int 0, .int 0, .int 0, .int 0, .int 0, .int 0]), .inl (κ.2.2.1.1, 10, .inl (fun _ => 0)), .inl (κ.2.2.1.1, 10, .inl (fun _ => 0)), .inl (κ.2.2.1.1, 10, .inl (fun _ => 0)), .inl (κ.2.2.1.1, 10, .inl (fun _ => 0))]) d_X4_init_31 ow_2 rfl rfl rfl rfl rfl rfl ?_
  refine x_putF (i := 0) (j := 3) (L' := [.inr (4, [.ref (q0 + 1), .ref (q0 + 2), .ref (q0 + 3), .ref (q0 + 4), .null, .null, .null, .null, .int 0, .int 0, .int 0, .int 0, .int 0, .int 0, .int 0, .int 0, .int 0]), .inl (κ.2.2.1.1, 10, .inl (fun _ => 0)), .inl (κ.2.2.1.1, 10, .inl (fun _ => 0)), .inl (κ.2.2.1.1, 10, .inl (fun _ => 0)), .inl (κ.2.2.1.1, 10, .inl (fun _ => 0))]) d_X4_init_33 ff_4_21 rfl rfl rfl (Nat.le_of_ble_eq_true rfl) rfl ?_
  refine x_aload_n d_X4_init_36 rfl ?_
  refine x_bipush d_X4_init_37 rfl ?_
  refine x_newa (N := 10) (i := 5) (L' := [.inr (4, [.ref (q0 + 1), .ref (q0 + 2), .ref (q0 + 3), .ref (q0 + 4), .null, .null, .null, .null, .int 0, .int 0, .int 0, .int 0, .int 0, .int 0, .int 0, .int 0, .int 0]), .inl (κ.2.2.1.1, 10, .inl (fun _ => 0)), .inl (κ.2.2.1.1, 10, .inl (fun _ => 0)), .inl (κ.2.2.1.1, 10, .inl (fun _ => 0)), .inl (κ.2.2.1.1, 10, .inl (fun _ => 0)), .inl (κ.2.2.1.1, 10, .inl (fun _ => 0))]) d_X4_init_39 ow_2 rfl rfl rfl rfl rfl rfl ?_
  refine x_putF (i := 0) (j := 4) (L' := [.inr (4, [.ref (q0 + 1), .ref (q0 + 2), .ref (q0 + 3), .ref (q0 + 4), .ref (q0 + 5), .null, .null, .null, .int 0, .int 0, .int 0, .int 0, .int 0, .int 0, .int 0, .int 0, .int 0]), .inl (κ.2.2.1.1, 10, .inl (fun _ => 0)), .inl (κ.2.2.1.1, 10, .inl (fun _ => 0)), .inl (κ.2.2.1.1, 10, .inl (fun _ => 0)), .inl (κ.2.2.1.1, 10, .inl (fun _ => 0)), .inl (κ.2.2.1.1, 10, .inl (fun _ => 0))]) d_X4_init_41 ff_4_24 rfl rfl rfl (Nat.le_of_ble_eq_true rfl) rfl ?_
  refine x_aload_n d_X4_init_44 rfl ?_
  refine x_bipush d_X4_init_45 rfl ?_
  refine x_newa (N := 10) (i := 6) (L' := [.inr (4, [.ref (q0 + 1), .ref (q0 + 2), .ref (q0 + 3), .ref (q0 + 4), .ref (q0 + 5), .null, .null, .null, .int 0, .int 0, .int 0, .int 0, .int 0, .int 0, .int 0, .int 0, .int 0]), .inl (κ.2.2.1.1, 10, .inl (fun _ => 0)), .inl (κ.2.2.1.1, 10, .inl (fun _ => 0)), .inl (κ.2.2.1.1, 10, .inl (fun _ => 0)), .inl (κ.2.2.1.1, 10, .inl (fun _ => 0)), .inl (κ.2.2.1.1, 10, .inl (fun _ => 0)), .inl (κ.2.2.1.1, 10, .inl (fun _ => 0))]) d_X4_init_47 ow_2 rfl rfl rfl rfl rfl rfl ?_
  refine x_putF (i := 0) (j := 5) (L' := [.inr (4, [.ref (q0 + 1), .ref (q0 + 2), .ref (q0 + 3), .ref (q0 + 4), .ref (q0 + 5), .ref (q0 + 6), .null, .null, .int 0, .int 0, .int 0, .int 0, .int 0, .int 0, .int 0, .int 0, .int 0]), .inl (κ.2.2.1.1, 10, .inl (fun _ => 0)), .inl (κ.2.2.1.1, 10, .inl (fun _ => 0)), .inl (κ.2.2.1.1, 10, .inl (fun _ => 0)), .inl (κ.2.2.1.1, 10, .inl (fun _ => 0)), .inl (κ.2.2.1.1, 10, .inl (fun _ => 0)), .inl (κ.2.2.1.1, 10, .inl (fun _ => 0))]) d_X4_init_49 ff_4_27 rfl rfl rfl (Nat.le_of_ble_eq_true rfl) rfl ?_
  refine x_aload_n d_X4_init_52 rfl ?_
  refine x_bipush d_X4_init_53 rfl ?_
  refine x_newa (N := 10) (i := 7) (L' := [.inr (4, [.ref (q0 + 1), .ref (q0 + 2), .ref (q0 + 3), .ref (q0 + 4), .ref (q0 + 5), .ref (q0 + 6), .null, .null, .int 0, .int 0, .int 0, .int 0, .int 0, .int 0, .int 0, .int 0, .int 0]), .inl (κ.2.2.1.1, 10, .inl (fun _ => 0)), .inl (κ.2.2.1.1, 10, .inl (fun _ => 0)), .inl (κ.2.2.1.1, 10, .inl (fun _ => 0)), .inl (κ.2.2.1.1, 10, .inl (fun _ => 0)), .inl (κ.2.2.1.1, 10, .inl (fun _ => 0)), .inl (κ.2.2.1.1, 10, .inl (fun _ => 0)), .inl (κ.2.2.1.1, 10, .inl (fun _ => 0))]) d_X4_init_55 ow_2 rfl rfl rfl rfl rfl rfl ?_
  refine x_putF (i := 0) (j := 6) (L' := [.inr (4, [.ref (q0 + 1), .ref (q0 + 2), .ref (q0 + 3), .ref (q0 + 4), .ref (q0 + 5), .ref (q0 + 6), .ref (q0 + 7), .null, .int 0, .int 0, .int 0, .int 0, .int 0, .int 0, .int 0, .int 0, .int 0]), .inl (κ.2.2.1.1, 10, .inl (fun _ => 0)), .inl (κ.2.2.1.1, 10, .inl (fun _ => 0)), .inl (κ.2.2.1.1, 10, .inl (fun _ => 0)), .inl (κ.2.2.1.1, 10, .inl (fun _ => 0)), .inl (κ.2.2.1.1, 10, .inl (fun _ => 0)), .inl (κ.2.2.1.1, 10, .inl (fun _ => 0)), .inl (κ.2.2.1.1, 10, .inl (fun _ => 0))]) d_X4_init_57 ff_4_30 rfl rfl rfl (Nat.le_of_ble_eq_true rfl) rfl ?_
  refine x_aload_n d_X4_init_60 rfl ?_
  refine x_bipush d_X4_init_61 rfl ?_
  refine x_newa (N := 16) (i := 8) (L' := [.inr (4, [.ref (q0 + 1), .ref (q0 + 2), .ref (q0 + 3), .ref (q0 + 4), .ref (q0 + 5), .ref (q0 + 6), .ref (q0 + 7), .null, .int 0, .int 0, .int 0, .int 0, .int 0, .int 0, .int 0, .int 0, .int 0]), .inl (κ.2.2.1.1, 10, .inl (fun _ => 0)), .inl (κ.2.2.1.1, 10, .inl (fun _ => 0)), .inl (κ.2.2.1.1, 10, .inl (fun _ => 0)), .inl (κ.2.2.1.1, 10, .inl (fun _ => 0)), .inl (κ.2.2.1.1, 10, .inl (fun _ => 0)), .inl (κ.2.2.1.1, 10, .inl (fun _ => 0)), .inl (κ.2.2.1.1, 10, .inl (fun _ => 0)), .inl (κ.2.2.1.1, 16, .inl (fun _ => 0))]) d_X4_init_63 ow_2 rfl rfl rfl rfl rfl rfl ?_
  refine x_putF (i := 0) (j := 7) (L' := [.inr (4, [.ref (q0 + 1), .ref (q0 + 2), .ref (q0 + 3), .ref (q0 + 4), .ref (q0 + 5), .ref (q0 + 6), .ref (q0 + 7), .ref (q0 + 8), .int 0, .int 0, .int 0, .int 0, .int 0, .int 0, .int 0, .int 0, .int 0]), .inl (κ.2.2.1.1, 10, .inl (fun _ => 0)), .inl (κ.2.2.1.1, 10, .inl (fun _ => 0)), .inl (κ.2.2.1.1, 10, .inl (fun _ => 0)), .inl (κ.2.2.1.1, 10, .inl (fun _ => 0)), .inl (κ.2.2.1.1, 10, .inl (fun _ => 0)), .inl (κ.2.2.1.1, 10, .inl (fun _ => 0)), .inl (κ.2.2.1.1, 10, .inl (fun _ => 0)), .inl (κ.2.2.1.1, 16, .inl (fun _ => 0))]) d_X4_init_65 ff_4_33 rfl rfl rfl (Nat.le_of_ble_eq_true rfl) rfl ?_
  refine x_iconst d_X4_init_68 ?_
  refine x_istore_n (ls' := [some (.ref (q0 + 0)), some (vi 0)]) d_X4_init_69 rfl rfl ?_
  refine x_iload_n (x := 0) d_X4_init_70 rfl ?_
  refine x_bipush d_X4_init_71 rfl ?_
  refine x_geN d_X4_init_73 rfl rfl rfl ?_
  refine x_aload_n d_X4_init_76 rfl ?_
  refine x_get (i := 0) (j := 7) (v := .ref (q0 + 8)) d_X4_init_77 fi_4_33 rfl rfl ?_
  refine x_iload_n (x := 0) d_X4_init_80 rfl ?_
  refine x_bipush d_X4_init_81 rfl ?_
  refine x_iast (i := 8) (N := 16) (f := (fun _ => 0)) (L' := [.inr (4, [.ref (q0 + 1), .ref (q0 + 2), .ref (q0 + 3), .ref (q0 + 4), .ref (q0 + 5), .ref (q0 + 6), .ref (q0 + 7), .ref (q0 + 8), .int 0, .int 0, .int 0, .int 0, .int 0, .int 0, .int 0, .int 0, .int 0]), .inl (κ.2.2.1.1, 10, .inl (fun _ => 0)), .inl (κ.2.2.1.1, 10, .inl (fun _ => 0)), .inl (κ.2.2.1.1, 10, .inl (fun _ => 0)), .inl (κ.2.2.1.1, 10, .inl (fun _ => 0)), .inl (κ.2.2.1.1, 10, .inl (fun _ => 0)), .inl (κ.2.2.1.1, 10, .inl (fun _ => 0)), .inl (κ.2.2.1.1, 10, .inl (fun _ => 0)), .inl (κ.2.2.1.1, 16, .inl ar4_1)]) d_X4_init_83 rfl (by decide) (by decide) rfl ?_
  refine x_iinc (x := 0) (y := 1) (ls' := [some (.ref (q0 + 0)), some (vi 1)]) d_X4_init_84 rfl rfl rfl rfl ?_
  refine x_goto d_X4_init_87 ?_
  refine x_iload_n (x := 1) d_X4_init_70 rfl ?_
  refine x_bipush d_X4_init_71 rfl ?_
  refine x_geN d_X4_init_73 rfl rfl rfl ?_
  refine x_aload_n d_X4_init_76 rfl ?_
  refine x_get (i := 0) (j := 7) (v := .ref (q0 + 8)) d_X4_init_77 fi_4_33 rfl rfl ?_
  refine x_iload_n (x := 1) d_X4_init_80 rfl ?_
  refine x_bipush d_X4_init_81 rfl ?_
  refine x_iast (i := 8) (N := 16) (f := ar4_1) (L' := [.inr (4, [.ref (q0 + 1), .ref (q0 + 2), .ref (q0 + 3), .ref (q0 + 4), .ref (q0 + 5), .ref (q0 + 6), .ref (q0 + 7), .ref (q0 + 8), .int 0, .int 0, .int 0, .int 0, .int 0, .int 0, .int 0, .int 0, .int 0]), .inl (κ.2.2.1.1, 10, .inl (fun _ => 0)), .inl (κ.2.2.1.1, 10, .inl (fun _ => 0)), .inl (κ.2.2.1.1, 10, .inl (fun _ => 0)), .inl (κ.2.2.1.1, 10, .inl (fun _ => 0)), .inl (κ.2.2.1.1, 10, .inl (fun _ => 0)), .inl (κ.2.2.1.1, 10, .inl (fun _ => 0)), .inl (κ.2.2.1.1, 10, .inl (fun _ => 0)), .inl (κ.2.2.1.1, 16, .inl ar4_2)]) d_X4_init_83 rfl (by decide) (by decide) rfl ?_
  refine x_iinc (x := 1) (y := 2) (ls' := [some (.ref (q0 + 0)), some (vi 2)]) d_X4_init_84 rfl rfl rfl rfl ?_
  refine x_goto d_X4_init_87 ?_
  refine x_iload_n (x := 2) d_X4_init_70 rfl ?_
  refine x_bipush d_X4_init_71 rfl ?_
  refine x_geN d_X4_init_73 rfl rfl rfl ?_
  refine x_aload_n d_X4_init_76 rfl ?_
  refine x_get (i := 0) (j := 7) (v := .ref (q0 + 8)) d_X4_init_77 fi_4_33 rfl rfl ?_
  refine x_iload_n (x := 2) d_X4_init_80 rfl ?_
  refine x_bipush d_X4_init_81 rfl ?_
  refine x_iast (i := 8) (N := 16) (f := ar4_2) (L' := [.inr (4, [.ref (q0 + 1), .ref (q0 + 2), .ref (q0 + 3), .ref (q0 + 4), .ref (q0 + 5), .ref (q0 + 6), .ref (q0 + 7), .ref (q0 + 8), .int 0, .int 0, .int 0, .int 0, .int 0, .int 0, .int 0, .int 0, .int 0]), .inl (κ.2.2.1.1, 10, .inl (fun _ => 0)), .inl (κ.2.2.1.1, 10, .inl (fun _ => 0)), .inl (κ.2.2.1.1, 10, .inl (fun _ => 0)), .inl (κ.2.2.1.1, 10, .inl (fun _ => 0)), .inl (κ.2.2.1.1, 10, .inl (fun _ => 0)), .inl (κ.2.2.1.1, 10, .inl (fun _ => 0)), .inl (κ.2.2.1.1, 10, .inl (fun _ => 0)), .inl (κ.2.2.1.1, 16, .inl ar4_3)]) d_X4_init_83 rfl (by decide) (by decide) rfl ?_
  refine x_iinc (x := 2) (y := 3) (ls' := [some (.ref (q0 + 0)), some (vi 3)]) d_X4_init_84 rfl rfl rfl rfl ?_
  refine x_goto d_X4_init_87 ?_
  refine x_iload_n (x := 3) d_X4_init_70 rfl ?_
  refine x_bipush d_X4_init_71 rfl ?_
  refine x_geN d_X4_init_73 rfl rfl rfl ?_
  refine x_aload_n d_X4_init_76 rfl ?_
  refine x_get (i := 0) (j := 7) (v := .ref (q0 + 8)) d_X4_init_77 fi_4_33 rfl rfl ?_
  refine x_iload_n (x := 3) d_X4_init_80 rfl ?_
  refine x_bipush d_X4_init_81 rfl ?_
  refine x_iast (i := 8) (N := 16) (f := ar4_3) (L' := [.inr (4, [.ref (q0 + 1), .ref (q0 + 2), .ref (q0 + 3), .ref (q0 + 4), .ref (q0 + 5), .ref (q0 + 6), .ref (q0 + 7), .ref (q0 + 8), .int 0, .int 0, .int 0, .int 0, .int 0, .int 0, .int 0, .int 0, .int 0]), .inl (κ.2.2.1.1, 10, .inl (fun _ => 0)), .inl (κ.2.2.1.1, 10, .inl (fun _ => 0)), .inl (κ.2.2.1.1, 10, .inl (fun _ => 0)), .inl (κ.2.2.1.1, 10, .inl (fun _ => 0)), .inl (κ.2.2.1.1, 10, .inl (fun _ => 0)), .inl (κ.2.2.1.1, 10, .inl (fun _ => 0)), .inl (κ.2.2.1.1, 10, .inl (fun _ => 0)), .inl (κ.2.2.1.1, 16, .inl ar4_4)]) d_X4_init_83 rfl (by decide) (by decide) rfl ?_
  refine x_iinc (x := 3) (y := 4) (ls' := [some (.ref (q0 + 0)), some (vi 4)]) d_X4_init_84 rfl rfl rfl rfl ?_
  refine x_goto d_X4_init_87 ?_
  refine x_iload_n (x := 4) d_X4_init_70 rfl ?_
  refine x_bipush d_X4_init_71 rfl ?_
  refine x_geN d_X4_init_73 rfl rfl rfl ?_
  refine x_aload_n d_X4_init_76 rfl ?_
  refine x_get (i := 0) (j := 7) (v := .ref (q0 + 8)) d_X4_init_77 fi_4_33 rfl rfl ?_
  refine x_iload_n (x := 4) d_X4_init_80 rfl ?_
  refine x_bipush d_X4_init_81 rfl ?_
  refine x_iast (i := 8) (N := 16) (f := ar4_4) (L' := [.inr (4, [.ref (q0 + 1), .ref (q0 + 2), .ref (q0 + 3), .ref (q0 + 4), .ref (q0 + 5), .ref (q0 + 6), .ref (q0 + 7), .ref (q0 + 8), .int 0, .int 0, .int 0, .int 0, .int 0, .int 0, .int 0, .int 0, .int 0]), .inl (κ.2.2.1.1, 10, .inl (fun _ => 0)), .inl (κ.2.2.1.1, 10, .inl (fun _ => 0)), .inl (κ.2.2.1.1, 10, .inl (fun _ => 0)), .inl (κ.2.2.1.1, 10, .inl (fun _ => 0)), .inl (κ.2.2.1.1, 10, .inl (fun _ => 0)), .inl (κ.2.2.1.1, 10, .inl (fun _ => 0)), .inl (κ.2.2.1.1, 10, .inl (fun _ => 0)), .inl (κ.2.2.1.1, 16, .inl ar4_5)]) d_X4_init_83 rfl (by decide) (by decide) rfl ?_
  refine x_iinc (x := 4) (y := 5) (ls' := [some (.ref (q0 + 0)), some (vi 5)]) d_X4_init_84 rfl rfl rfl rfl ?_
  refine x_goto d_X4_init_87 ?_
  refine x_iload_n (x := 5) d_X4_init_70 rfl ?_
  refine x_bipush d_X4_init_71 rfl ?_
  refine x_geN d_X4_init_73 rfl rfl rfl ?_
  refine x_aload_n d_X4_init_76 rfl ?_
  refine x_get (i := 0) (j := 7) (v := .ref (q0 + 8)) d_X4_init_77 fi_4_33 rfl rfl ?_
  refine x_iload_n (x := 5) d_X4_init_80 rfl ?_
  refine x_bipush d_X4_init_81 rfl ?_
  refine x_iast (i := 8) (N := 16) (f := ar4_5) (L' := [.inr (4, [.ref (q0 + 1), .ref (q0 + 2), .ref (q0 + 3), .ref (q0 + 4), .ref (q0 + 5), .ref (q0 + 6), .ref (q0 + 7), .ref (q0 + 8), .int 0, .int 0, .int 0, .int 0, .int 0, .int 0, .int 0, .int 0, .int 0]), .inl (κ.2.2.1.1, 10, .inl (fun _ => 0)), .inl (κ.2.2.1.1, 10, .inl (fun _ => 0)), .inl (κ.2.2.1.1, 10, .inl (fun _ => 0)), .inl (κ.2.2.1.1, 10, .inl (fun _ => 0)), .inl (κ.2.2.1.1, 10, .inl (fun _ => 0)), .inl (κ.2.2.1.1, 10, .inl (fun _ => 0)), .inl (κ.2.2.1.1, 10, .inl (fun _ => 0)), .inl (κ.2.2.1.1, 16, .inl ar4_6)]) d_X4_init_83 rfl (by decide) (by decide) rfl ?_
  refine x_iinc (x := 5) (y := 6) (ls' := [some (.ref (q0 + 0)), some (vi 6)]) d_X4_init_84 rfl rfl rfl rfl ?_
  refine x_goto d_X4_init_87 ?_
  refine x_iload_n (x := 6) d_X4_init_70 rfl ?_
  refine x_bipush d_X4_init_71 rfl ?_
  refine x_geN d_X4_init_73 rfl rfl rfl ?_
  refine x_aload_n d_X4_init_76 rfl ?_
  refine x_get (i := 0) (j := 7) (v := .ref (q0 + 8)) d_X4_init_77 fi_4_33 rfl rfl ?_
  refine x_iload_n (x := 6) d_X4_init_80 rfl ?_
  refine x_bipush d_X4_init_81 rfl ?_
  refine x_iast (i := 8) (N := 16) (f := ar4_6) (L' := [.inr (4, [.ref (q0 + 1), .ref (q0 + 2), .ref (q0 + 3), .ref (q0 + 4), .ref (q0 + 5), .ref (q0 + 6), .ref (q0 + 7), .ref (q0 + 8), .int 0, .int 0, .int 0, .int 0, .int 0, .int 0, .int 0, .int 0, .int 0]), .inl (κ.2.2.1.1, 10, .inl (fun _ => 0)), .inl (κ.2.2.1.1, 10, .inl (fun _ => 0)), .inl (κ.2.2.1.1, 10, .inl (fun _ => 0)), .inl (κ.2.2.1.1, 10, .inl (fun _ => 0)), .inl (κ.2.2.1.1, 10, .inl (fun _ => 0)), .inl (κ.2.2.1.1, 10, .inl (fun _ => 0)), .inl (κ.2.2.1.1, 10, .inl (fun _ => 0)), .inl (κ.2.2.1.1, 16, .inl ar4_7)]) d_X4_init_83 rfl (by decide) (by decide) rfl ?_
  refine x_iinc (x := 6) (y := 7) (ls' := [some (.ref (q0 + 0)), some (vi 7)]) d_X4_init_84 rfl rfl rfl rfl ?_
  refine x_goto d_X4_init_87 ?_
  refine x_iload_n (x := 7) d_X4_init_70 rfl ?_
  refine x_bipush d_X4_init_71 rfl ?_
  refine x_geN d_X4_init_73 rfl rfl rfl ?_
  refine x_aload_n d_X4_init_76 rfl ?_
  refine x_get (i := 0) (j := 7) (v := .ref (q0 + 8)) d_X4_init_77 fi_4_33 rfl rfl ?_
  refine x_iload_n (x := 7) d_X4_init_80 rfl ?_
  refine x_bipush d_X4_init_81 rfl ?_
  refine x_iast (i := 8) (N := 16) (f := ar4_7) (L' := [.inr (4, [.ref (q0 + 1), .ref (q0 + 2), .ref (q0 + 3), .ref (q0 + 4), .ref (q0 + 5), .ref (q0 + 6), .ref (q0 + 7), .ref (q0 + 8), .int 0, .int 0, .int 0, .int 0, .int 0, .int 0, .int 0, .int 0, .int 0]), .inl (κ.2.2.1.1, 10, .inl (fun _ => 0)), .inl (κ.2.2.1.1, 10, .inl (fun _ => 0)), .inl (κ.2.2.1.1, 10, .inl (fun _ => 0)), .inl (κ.2.2.1.1, 10, .inl (fun _ => 0)), .inl (κ.2.2.1.1, 10, .inl (fun _ => 0)), .inl (κ.2.2.1.1, 10, .inl (fun _ => 0)), .inl (κ.2.2.1.1, 10, .inl (fun _ => 0)), .inl (κ.2.2.1.1, 16, .inl ar4_8)]) d_X4_init_83 rfl (by decide) (by decide) rfl ?_
  refine x_iinc (x := 7) (y := 8) (ls' := [some (.ref (q0 + 0)), some (vi 8)]) d_X4_init_84 rfl rfl rfl rfl ?_
  refine x_goto d_X4_init_87 ?_
  refine x_iload_n (x := 8) d_X4_init_70 rfl ?_
  refine x_bipush d_X4_init_71 rfl ?_
  refine x_geN d_X4_init_73 rfl rfl rfl ?_
  refine x_aload_n d_X4_init_76 rfl ?_
  refine x_get (i := 0) (j := 7) (v := .ref (q0 + 8)) d_X4_init_77 fi_4_33 rfl rfl ?_
  refine x_iload_n (x := 8) d_X4_init_80 rfl ?_
  refine x_bipush d_X4_init_81 rfl ?_
  refine x_iast (i := 8) (N := 16) (f := ar4_8) (L' := [.inr (4, [.ref (q0 + 1), .ref (q0 + 2), .ref (q0 + 3), .ref (q0 + 4), .ref (q0 + 5), .ref (q0 + 6), .ref (q0 + 7), .ref (q0 + 8), .int 0, .int 0, .int 0, .int 0, .int 0, .int 0, .int 0, .int 0, .int 0]), .inl (κ.2.2.1.1, 10, .inl (fun _ => 0)), .inl (κ.2.2.1.1, 10, .inl (fun _ => 0)), .inl (κ.2.2.1.1, 10, .inl (fun _ => 0)), .inl (κ.2.2.1.1, 10, .inl (fun _ => 0)), .inl (κ.2.2.1.1, 10, .inl (fun _ => 0)), .inl (κ.2.2.1.1, 10, .inl (fun _ => 0)), .inl (κ.2.2.1.1, 10, .inl (fun _ => 0)), .inl (κ.2.2.1.1, 16, .inl ar4_9)]) d_X4_init_83 rfl (by decide) (by decide) rfl ?_
  refine x_iinc (x := 8) (y := 9) (ls' := [some (.ref (q0 + 0)), some (vi 9)]) d_X4_init_84 rfl rfl rfl rfl ?_
  refine x_goto d_X4_init_87 ?_
  refine x_iload_n (x := 9) d_X4_init_70 rfl ?_
  refine x_bipush d_X4_init_71 rfl ?_
  refine x_geN d_X4_init_73 rfl rfl rfl ?_
  refine x_aload_n d_X4_init_76 rfl ?_
  refine x_get (i := 0) (j := 7) (v := .ref (q0 + 8)) d_X4_init_77 fi_4_33 rfl rfl ?_
  refine x_iload_n (x := 9) d_X4_init_80 rfl ?_
  refine x_bipush d_X4_init_81 rfl ?_
  refine x_iast (i := 8) (N := 16) (f := ar4_9) (L' := [.inr (4, [.ref (q0 + 1), .ref (q0 + 2), .ref (q0 + 3), .ref (q0 + 4), .ref (q0 + 5), .ref (q0 + 6), .ref (q0 + 7), .ref (q0 + 8), .int 0, .int 0, .int 0, .int 0, .int 0, .int 0, .int 0, .int 0, .int 0]), .inl (κ.2.2.1.1, 10, .inl (fun _ => 0)), .inl (κ.2.2.1.1, 10, .inl (fun _ => 0)), .inl (κ.2.2.1.1, 10, .inl (fun _ => 0)), .inl (κ.2.2.1.1, 10, .inl (fun _ => 0)), .inl (κ.2.2.1.1, 10, .inl (fun _ => 0)), .inl (κ.2.2.1.1, 10, .inl (fun _ => 0)), .inl (κ.2.2.1.1, 10, .inl (fun _ => 0)), .inl (κ.2.2.1.1, 16, .inl ar4_10)]) d_X4_init_83 rfl (by decide) (by decide) rfl ?_
  refine x_iinc (x := 9) (y := 10) (ls' := [some (.ref (q0 + 0)), some (vi 10)]) d_X4_init_84 rfl rfl rfl rfl ?_
  refine x_goto d_X4_init_87 ?_
  refine x_iload_n (x := 10) d_X4_init_70 rfl ?_
  refine x_bipush d_X4_init_71 rfl ?_
  refine x_geN d_X4_init_73 rfl rfl rfl ?_
  refine x_aload_n d_X4_init_76 rfl ?_
  refine x_get (i := 0) (j := 7) (v := .ref (q0 + 8)) d_X4_init_77 fi_4_33 rfl rfl ?_
  refine x_iload_n (x := 10) d_X4_init_80 rfl ?_
  refine x_bipush d_X4_init_81 rfl ?_
  refine x_iast (i := 8) (N := 16) (f := ar4_10) (L' := [.inr (4, [.ref (q0 + 1), .ref (q0 + 2), .ref (q0 + 3), .ref (q0 + 4), .ref (q0 + 5), .ref (q0 + 6), .ref (q0 + 7), .ref (q0 + 8), .int 0, .int 0, .int 0, .int 0, .int 0, .int 0, .int 0, .int 0, .int 0]), .inl (κ.2.2.1.1, 10, .inl (fun _ => 0)), .inl (κ.2.2.1.1, 10, .inl (fun _ => 0)), .inl (κ.2.2.1.1, 10, .inl (fun _ => 0)), .inl (κ.2.2.1.1, 10, .inl (fun _ => 0)), .inl (κ.2.2.1.1, 10, .inl (fun _ => 0)), .inl (κ.2.2.1.1, 10, .inl (fun _ => 0)), .inl (κ.2.2.1.1, 10, .inl (fun _ => 0)), .inl (κ.2.2.1.1, 16, .inl ar4_11)]) d_X4_init_83 rfl (by decide) (by decide) rfl ?_
  refine x_iinc (x := 10) (y := 11) (ls' := [some (.ref (q0 + 0)), some (vi 11)]) d_X4_init_84 rfl rfl rfl rfl ?_
  refine x_goto d_X4_init_87 ?_
  refine x_iload_n (x := 11) d_X4_init_70 rfl ?_
  refine x_bipush d_X4_init_71 rfl ?_
  refine x_geN d_X4_init_73 rfl rfl rfl ?_
  refine x_aload_n d_X4_init_76 rfl ?_
  refine x_get (i := 0) (j := 7) (v := .ref (q0 + 8)) d_X4_init_77 fi_4_33 rfl rfl ?_
  refine x_iload_n (x := 11) d_X4_init_80 rfl ?_
  refine x_bipush d_X4_init_81 rfl ?_
  refine x_iast (i := 8) (N := 16) (f := ar4_11) (L' := [.inr (4, [.ref (q0 + 1), .ref (q0 + 2), .ref (q0 + 3), .ref (q0 + 4), .ref (q0 + 5), .ref (q0 + 6), .ref (q0 + 7), .ref (q0 + 8), .int 0, .int 0, .int 0, .int 0, .int 0, .int 0, .int 0, .int 0, .int 0]), .inl (κ.2.2.1.1, 10, .inl (fun _ => 0)), .inl (κ.2.2.1.1, 10, .inl (fun _ => 0)), .inl (κ.2.2.1.1, 10, .inl (fun _ => 0)), .inl (κ.2.2.1.1, 10, .inl (fun _ => 0)), .inl (κ.2.2.1.1, 10, .inl (fun _ => 0)), .inl (κ.2.2.1.1, 10, .inl (fun _ => 0)), .inl (κ.2.2.1.1, 10, .inl (fun _ => 0)), .inl (κ.2.2.1.1, 16, .inl ar4_12)]) d_X4_init_83 rfl (by decide) (by decide) rfl ?_
  refine x_iinc (x := 11) (y := 12) (ls' := [some (.ref (q0 + 0)), some (vi 12)]) d_X4_init_84 rfl rfl rfl rfl ?_
  refine x_goto d_X4_init_87 ?_
  refine x_iload_n (x := 12) d_X4_init_70 rfl ?_
  refine x_bipush d_X4_init_71 rfl ?_
  refine x_geN d_X4_init_73 rfl rfl rfl ?_
  refine x_aload_n d_X4_init_76 rfl ?_
  refine x_get (i := 0) (j := 7) (v := .ref (q0 + 8)) d_X4_init_77 fi_4_33 rfl rfl ?_
  refine x_iload_n (x := 12) d_X4_init_80 rfl ?_
  refine x_bipush d_X4_init_81 rfl ?_
  refine x_iast (i := 8) (N := 16) (f := ar4_12) (L' := [.inr (4, [.ref (q0 + 1), .ref (q0 + 2), .ref (q0 + 3), .ref (q0 + 4), .ref (q0 + 5), .ref (q0 + 6), .ref (q0 + 7), .ref (q0 + 8), .int 0, .int 0, .int 0, .int 0, .int 0, .int 0, .int 0, .int 0, .int 0]), .inl (κ.2.2.1.1, 10, .inl (fun _ => 0)), .inl (κ.2.2.1.1, 10, .inl (fun _ => 0)), .inl (κ.2.2.1.1, 10, .inl (fun _ => 0)), .inl (κ.2.2.1.1, 10, .inl (fun _ => 0)), .inl (κ.2.2.1.1, 10, .inl (fun _ => 0)), .inl (κ.2.2.1.1, 10, .inl (fun _ => 0)), .inl (κ.2.2.1.1, 10, .inl (fun _ => 0)), .inl (κ.2.2.1.1, 16, .inl ar4_13)]) d_X4_init_83 rfl (by decide) (by decide) rfl ?_
  refine x_iinc (x := 12) (y := 13) (ls' := [some (.ref (q0 + 0)), some (vi 13)]) d_X4_init_84 rfl rfl rfl rfl ?_
  refine x_goto d_X4_init_87 ?_
  refine x_iload_n (x := 13) d_X4_init_70 rfl ?_
  refine x_bipush d_X4_init_71 rfl ?_
  refine x_geN d_X4_init_73 rfl rfl rfl ?_
  refine x_aload_n d_X4_init_76 rfl ?_
  refine x_get (i := 0) (j := 7) (v := .ref (q0 + 8)) d_X4_init_77 fi_4_33 rfl rfl ?_
  refine x_iload_n (x := 13) d_X4_init_80 rfl ?_
  refine x_bipush d_X4_init_81 rfl ?_
  refine x_iast (i := 8) (N := 16) (f := ar4_13) (L' := [.inr (4, [.ref (q0 + 1), .ref (q0 + 2), .ref (q0 + 3), .ref (q0 + 4), .ref (q0 + 5), .ref (q0 + 6), .ref (q0 + 7), .ref (q0 + 8), .int 0, .int 0, .int 0, .int 0, .int 0, .int 0, .int 0, .int 0, .int 0]), .inl (κ.2.2.1.1, 10, .inl (fun _ => 0)), .inl (κ.2.2.1.1, 10, .inl (fun _ => 0)), .inl (κ.2.2.1.1, 10, .inl (fun _ => 0)), .inl (κ.2.2.1.1, 10, .inl (fun _ => 0)), .inl (κ.2.2.1.1, 10, .inl (fun _ => 0)), .inl (κ.2.2.1.1, 10, .inl (fun _ => 0)), .inl (κ.2.2.1.1, 10, .inl (fun _ => 0)), .inl (κ.2.2.1.1, 16, .inl ar4_14)]) d_X4_init_83 rfl (by decide) (by decide) rfl ?_
  refine x_iinc (x := 13) (y := 14) (ls' := [some (.ref (q0 + 0)), some (vi 14)]) d_X4_init_84 rfl rfl rfl rfl ?_
  refine x_goto d_X4_init_87 ?_
  refine x_iload_n (x := 14) d_X4_init_70 rfl ?_
  refine x_bipush d_X4_init_71 rfl ?_
  refine x_geN d_X4_init_73 rfl rfl rfl ?_
  refine x_aload_n d_X4_init_76 rfl ?_
  refine x_get (i := 0) (j := 7) (v := .ref (q0 + 8)) d_X4_init_77 fi_4_33 rfl rfl ?_
  refine x_iload_n (x := 14) d_X4_init_80 rfl ?_
  refine x_bipush d_X4_init_81 rfl ?_
  refine x_iast (i := 8) (N := 16) (f := ar4_14) (L' := [.inr (4, [.ref (q0 + 1), .ref (q0 + 2), .ref (q0 + 3), .ref (q0 + 4), .ref (q0 + 5), .ref (q0 + 6), .ref (q0 + 7), .ref (q0 + 8), .int 0, .int 0, .int 0, .int 0, .int 0, .int 0, .int 0, .int 0, .int 0]), .inl (κ.2.2.1.1, 10, .inl (fun _ => 0)), .inl (κ.2.2.1.1, 10, .inl (fun _ => 0)), .inl (κ.2.2.1.1, 10, .inl (fun _ => 0)), .inl (κ.2.2.1.1, 10, .inl (fun _ => 0)), .inl (κ.2.2.1.1, 10, .inl (fun _ => 0)), .inl (κ.2.2.1.1, 10, .inl (fun _ => 0)), .inl (κ.2.2.1.1, 10, .inl (fun _ => 0)), .inl (κ.2.2.1.1, 16, .inl ar4_15)]) d_X4_init_83 rfl (by decide) (by decide) rfl ?_
  refine x_iinc (x := 14) (y := 15) (ls' := [some (.ref (q0 + 0)), some (vi 15)]) d_X4_init_84 rfl rfl rfl rfl ?_
  refine x_goto d_X4_init_87 ?_
  refine x_iload_n (x := 15) d_X4_init_70 rfl ?_
  refine x_bipush d_X4_init_71 rfl ?_
  refine x_geN d_X4_init_73 rfl rfl rfl ?_
  refine x_aload_n d_X4_init_76 rfl ?_
  refine x_get (i := 0) (j := 7) (v := .ref (q0 + 8)) d_X4_init_77 fi_4_33 rfl rfl ?_
  refine x_iload_n (x := 15) d_X4_init_80 rfl ?_
  refine x_bipush d_X4_init_81 rfl ?_
  refine x_iast (i := 8) (N := 16) (f := ar4_15) (L' := [.inr (4, [.ref (q0 + 1), .ref (q0 + 2), .ref (q0 + 3), .ref (q0 + 4), .ref (q0 + 5), .ref (q0 + 6), .ref (q0 + 7), .ref (q0 + 8), .int 0, .int 0, .int 0, .int 0, .int 0, .int 0, .int 0, .int 0, .int 0]), .inl (κ.2.2.1.1, 10, .inl (fun _ => 0)), .inl (κ.2.2.1.1, 10, .inl (fun _ => 0)), .inl (κ.2.2.1.1, 10, .inl (fun _ => 0)), .inl (κ.2.2.1.1, 10, .inl (fun _ => 0)), .inl (κ.2.2.1.1, 10, .inl (fun _ => 0)), .inl (κ.2.2.1.1, 10, .inl (fun _ => 0)), .inl (κ.2.2.1.1, 10, .inl (fun _ => 0)), .inl (κ.2.2.1.1, 16, .inl ar4_16)]) d_X4_init_83 rfl (by decide) (by decide) rfl ?_
  refine x_iinc (x := 15) (y := 16) (ls' := [some (.ref (q0 + 0)), some (vi 16)]) d_X4_init_84 rfl rfl rfl rfl ?_
  refine x_goto d_X4_init_87 ?_
  refine x_iload_n (x := 16) d_X4_init_70 rfl ?_
  refine x_bipush d_X4_init_71 rfl ?_
  refine x_geY d_X4_init_73 rfl rfl rfl ?_
  refine x_aload_n d_X4_init_90 rfl ?_
  refine x_iconst d_X4_init_91 ?_
  refine x_put (i := 0) (j := 11) (L' := [.inr (4, [.ref (q0 + 1), .ref (q0 + 2), .ref (q0 + 3), .ref (q0 + 4), .ref (q0 + 5), .ref (q0 + 6), .ref (q0 + 7), .ref (q0 + 8), .int 0, .int 0, .int 0, vi 5, .int 0, .int 0, .int 0, .int 0, .int 0]), .inl (κ.2.2.1.1, 10, .inl (fun _ => 0)), .inl (κ.2.2.1.1, 10, .inl (fun _ => 0)), .inl (κ.2.2.1.1, 10, .inl (fun _ => 0)), .inl (κ.2.2.1.1, 10, .inl (fun _ => 0)), .inl (κ.2.2.1.1, 10, .inl (fun _ => 0)), .inl (κ.2.2.1.1, 10, .inl (fun _ => 0)), .inl (κ.2.2.1.1, 10, .inl (fun _ => 0)), .inl (κ.2.2.1.1, 16, .inl ar4_16)]) d_X4_init_92 fp_4_36 rfl rfl rfl (Nat.le_of_ble_eq_true rfl) rfl ?_
  refine x_aload_n d_X4_init_95 rfl ?_
  refine x_iconst d_X4_init_96 ?_
  refine x_put (i := 0) (j := 12) (L' := [.inr (4, [.ref (q0 + 1), .ref (q0 + 2), .ref (q0 + 3), .ref (q0 + 4), .ref (q0 + 5), .ref (q0 + 6), .ref (q0 + 7), .ref (q0 + 8), .int 0, .int 0, .int 0, vi 5, vi 3, .int 0, .int 0, .int 0, .int 0]), .inl (κ.2.2.1.1, 10, .inl (fun _ => 0)), .inl (κ.2.2.1.1, 10, .inl (fun _ => 0)), .inl (κ.2.2.1.1, 10, .inl (fun _ => 0)), .inl (κ.2.2.1.1, 10, .inl (fun _ => 0)), .inl (κ.2.2.1.1, 10, .inl (fun _ => 0)), .inl (κ.2.2.1.1, 10, .inl (fun _ => 0)), .inl (κ.2.2.1.1, 10, .inl (fun _ => 0)), .inl (κ.2.2.1.1, 16, .inl ar4_16)]) d_X4_init_97 fp_4_40 rfl rfl rfl (Nat.le_of_ble_eq_true rfl) rfl ?_
  refine x_same (i := 8) (N := 16) (f := ar4_16) (g := fun j => Int32.ofInt (ini_arch j)) (L' := [.inr (4, [.ref (q0 + 1), .ref (q0 + 2), .ref (q0 + 3), .ref (q0 + 4), .ref (q0 + 5), .ref (q0 + 6), .ref (q0 + 7), .ref (q0 + 8), .int 0, .int 0, .int 0, vi 5, vi 3, .int 0, .int 0, .int 0, .int 0]), .inl (κ.2.2.1.1, 10, .inl (fun _ => 0)), .inl (κ.2.2.1.1, 10, .inl (fun _ => 0)), .inl (κ.2.2.1.1, 10, .inl (fun _ => 0)), .inl (κ.2.2.1.1, 10, .inl (fun _ => 0)), .inl (κ.2.2.1.1, 10, .inl (fun _ => 0)), .inl (κ.2.2.1.1, 10, .inl (fun _ => 0)), .inl (κ.2.2.1.1, 10, .inl (fun _ => 0)), .inl (κ.2.2.1.1, 16, .inl (fun j => Int32.ofInt (ini_arch j)))]) rfl (by decide +kernel) rfl ?_
  exact x_ret d_X4_init_100 rfl rfl rfl rfl
def Lo_6 (κ : Kp) (q : Nat) : List va_E := [.inr (6, [.ref (q + 1), .ref (q + 2), .ref (q + 3), .ref (q + 4), .int 0]), .inl (κ.2.2.1.1, 16, .inl (fun _ => 0)), .inl (κ.2.2.1.1, 16, .inl (fun _ => 0)), .inl (κ.2.2.1.1, 16, .inl (fun _ => 0)), .inl (κ.2.2.1.1, 16, .inl (fun _ => 0))]
theorem len_6 (κ : Kp) (q : Nat) : (Lo_6 κ q).length = 5 := rfl
abbrev R_X6_init : Room := { frames := 1, cells := 4, slots := 64, locals := 30 }
set_option maxHeartbeats 8000000 in
set_option maxRecDepth 20000 in
theorem c_X6_init (κ : Kp) (q0 : Nat) : CtC κ M_X6_init R_X6_init q0 (.inr (6, [.null, .null, .null, .null, .int 0])) (Lo_6 κ q0) := by
  refine CtC.of (by decide) rfl rfl (Nat.le_of_ble_eq_true rfl) ?_
  refine x_ls (ls' := [some (.ref q0)]) ⟨rfl, trivial⟩ ?_
  show EC κ M_X6_init R_X6_init q0 0 [some (.ref (q0 + 0))] [] _ 0 0 _
  refine x_aload_n d_X6_init_0 rfl ?_
  refine x_obj d_X6_init_1 ml_6_3 ow_1 ⟨by decide, Nat.le_of_ble_eq_true rfl⟩ ?_
  refine x_aload_n d_X6_init_4 rfl ?_
  refine x_bipush d_X6_init_5 rfl ?_
  refine x_newa (N := 16) (i := 1) (L' := [.inr (6, [.null, .null, .null, .null, .int 0]), .inl (κ.2.2.1.1, 16, .inl (fun _ => 0))]) d_X6_init_7 ow_2 rfl rfl rfl rfl rfl rfl ?_
  refine x_putF (i := 0) (j := 0) (L' := [.inr (6, [.ref (q0 + 1), .null, .null, .null, .int 0]), .inl (κ.2.2.1.1, 16, .inl (fun _ => 0))]) d_X6_init_9 ff_6_9 rfl rfl rfl (Nat.le_of_ble_eq_true rfl) rfl ?_
  refine x_aload_n d_X6_init_12 rfl ?_
  refine x_bipush d_X6_init_13 rfl ?_
  refine x_newa (N := 16) (i := 2) (L' := [.inr (6, [.ref (q0 + 1), .null, .null, .null, .int 0]), .inl (κ.2.2.1.1, 16, .inl (fun _ => 0)), .inl (κ.2.2.1.1, 16, .inl (fun _ => 0))]) d_X6_init_15 ow_2 rfl rfl rfl rfl rfl rfl ?_
  refine x_putF (i := 0) (j := 1) (L' := [.inr (6, [.ref (q0 + 1), .ref (q0 + 2), .null, .null, .int 0]), .inl (κ.2.2.1.1, 16, .inl (fun _ => 0)), .inl (κ.2.2.1.1, 16, .inl (fun _ => 0))]) d_X6_init_17 ff_6_15 rfl rfl rfl (Nat.le_of_ble_eq_true rfl) rfl ?_
  refine x_aload_n d_X6_init_20 rfl ?_
  refine x_bipush d_X6_init_21 rfl ?_
  refine x_newa (N := 16) (i := 3) (L' := [.inr (6, [.ref (q0 + 1), .ref (q0 + 2), .null, .null, .int 0]), .inl (κ.2.2.1.1, 16, .inl (fun _ => 0)), .inl (κ.2.2.1.1, 16, .inl (fun _ => 0)), .inl (κ.2.2.1.1, 16, .inl (fun _ => 0))]) d_X6_init_23 ow_2 rfl rfl rfl rfl rfl rfl ?_
  refine x_putF (i := 0) (j := 2) (L' := [.inr (6, [.ref (q0 + 1), .ref (q0 + 2), .ref (q0 + 3), .null, .int 0]), .inl (κ.2.2.1.1, 16, .inl (fun _ => 0)), .inl (κ.2.2.1.1, 16, .inl (fun _ => 0)), .inl (κ.2.2.1.1, 16, .inl (fun _ => 0))]) d_X6_init_25 ff_6_18 rfl rfl rfl (Nat.le_of_ble_eq_true rfl) rfl ?_
  refine x_aload_n d_X6_init_28 rfl ?_
  refine x_bipush d_X6_init_29 rfl ?_
  refine x_newa (N := 16) (i := 4) (L' := [.inr (6, [.ref (q0 + 1), .ref (q0 + 2), .ref (q0 + 3), .null, .int 0]), .inl (κ.2.2.1.1, 16, .inl (fun _ => 0)), .inl (κ.2.2.1.1, 16, .inl (fun _ => 0)), .inl (κ.2.2.1.1, 16, .inl (fun _ => 0)), .inl (κ.2.2.1.1, 16, .inl (fun _ => 0))]) d_X6_init_31 ow_2 rfl rfl rfl rfl rfl rfl ?_
  refine x_putF (i := 0) (j := 3) (L' := [.inr (6, [.ref (q0 + 1), .ref (q0 + 2), .ref (q0 + 3), .ref (q0 + 4), .int 0]), .inl (κ.2.2.1.1, 16, .inl (fun _ => 0)), .inl (κ.2.2.1.1, 16, .inl (fun _ => 0)), .inl (κ.2.2.1.1, 16, .inl (fun _ => 0)), .inl (κ.2.2.1.1, 16, .inl (fun _ => 0))]) d_X6_init_33 ff_6_21 rfl rfl rfl (Nat.le_of_ble_eq_true rfl) rfl ?_
  exact x_ret d_X6_init_36 rfl rfl rfl rfl
def Lo_9 (κ : Kp) (q : Nat) : List va_E := [.inr (9, [.ref (q + 1), .ref (q + 2), .ref (q + 3), .int 0]), .inl (κ.2.2.1.1, 12, .inl (fun _ => 0)), .inl (κ.2.2.1.1, 12, .inl (fun _ => 0)), .inl (κ.2.2.1.1, 12, .inl (fun _ => 0))]
theorem len_9 (κ : Kp) (q : Nat) : (Lo_9 κ q).length = 4 := rfl
abbrev R_X9_init : Room := { frames := 1, cells := 3, slots := 36, locals := 30 }
set_option maxHeartbeats 8000000 in
set_option maxRecDepth 20000 in
theorem c_X9_init (κ : Kp) (q0 : Nat) : CtC κ M_X9_init R_X9_init q0 (.inr (9, [.null, .null, .null, .int 0])) (Lo_9 κ q0) := by
  refine CtC.of (by decide) rfl rfl (Nat.le_of_ble_eq_true rfl) ?_
  refine x_ls (ls' := [some (.ref q0)]) ⟨rfl, trivial⟩ ?_
  show EC κ M_X9_init R_X9_init q0 0 [some (.ref (q0 + 0))] [] _ 0 0 _
  refine x_aload_n d_X9_init_0 rfl ?_
  refine x_obj d_X9_init_1 ml_9_3 ow_1 ⟨by decide, Nat.le_of_ble_eq_true rfl⟩ ?_
  refine x_aload_n d_X9_init_4 rfl ?_
  refine x_bipush d_X9_init_5 rfl ?_
  refine x_newa (N := 12) (i := 1) (L' := [.inr (9, [.null, .null, .null, .int 0]), .inl (κ.2.2.1.1, 12, .inl (fun _ => 0))]) d_X9_init_7 ow_2 rfl rfl rfl rfl rfl rfl ?_
  refine x_putF (i := 0) (j := 0) (L' := [.inr (9, [.ref (q0 + 1), .null, .null, .int 0]), .inl (κ.2.2.1.1, 12, .inl (fun _ => 0))]) d_X9_init_9 ff_9_9 rfl rfl rfl (Nat.le_of_ble_eq_true rfl) rfl ?_
  refine x_aload_n d_X9_init_12 rfl ?_
  refine x_bipush d_X9_init_13 rfl ?_
  refine x_newa (N := 12) (i := 2) (L' := [.inr (9, [.ref (q0 + 1), .null, .null, .int 0]), .inl (κ.2.2.1.1, 12, .inl (fun _ => 0)), .inl (κ.2.2.1.1, 12, .inl (fun _ => 0))]) d_X9_init_15 ow_2 rfl rfl rfl rfl rfl rfl ?_
  refine x_putF (i := 0) (j := 1) (L' := [.inr (9, [.ref (q0 + 1), .ref (q0 + 2), .null, .int 0]), .inl (κ.2.2.1.1, 12, .inl (fun _ => 0)), .inl (κ.2.2.1.1, 12, .inl (fun _ => 0))]) d_X9_init_17 ff_9_15 rfl rfl rfl (Nat.le_of_ble_eq_true rfl) rfl ?_
  refine x_aload_n d_X9_init_20 rfl ?_
  refine x_bipush d_X9_init_21 rfl ?_
  refine x_newa (N := 12) (i := 3) (L' := [.inr (9, [.ref (q0 + 1), .ref (q0 + 2), .null, .int 0]), .inl (κ.2.2.1.1, 12, .inl (fun _ => 0)), .inl (κ.2.2.1.1, 12, .inl (fun _ => 0)), .inl (κ.2.2.1.1, 12, .inl (fun _ => 0))]) d_X9_init_23 ow_2 rfl rfl rfl rfl rfl rfl ?_
  refine x_putF (i := 0) (j := 2) (L' := [.inr (9, [.ref (q0 + 1), .ref (q0 + 2), .ref (q0 + 3), .int 0]), .inl (κ.2.2.1.1, 12, .inl (fun _ => 0)), .inl (κ.2.2.1.1, 12, .inl (fun _ => 0)), .inl (κ.2.2.1.1, 12, .inl (fun _ => 0))]) d_X9_init_25 ff_9_18 rfl rfl rfl (Nat.le_of_ble_eq_true rfl) rfl ?_
  exact x_ret d_X9_init_28 rfl rfl rfl rfl
