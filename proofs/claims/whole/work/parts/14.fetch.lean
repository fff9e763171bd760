/-! fetch rows, by wip/whole/gen14.py -/
-- X0_init
theorem f0_0 : amFetch 0 0 = some (.aload_n 0, 1, 0, 0, 0) := rfl
theorem f0_1 : amFetch 0 1 = some (.invokespecial 3, 3, 6, 0, 0) := rfl
theorem f0_4 : amFetch 0 4 = some (.aload_n 0, 1, 0, 0, 0) := rfl
theorem f0_5 : amFetch 0 5 = some (.sipush 512, 3, 0, 0, 0) := rfl
theorem f0_8 : amFetch 0 8 = some (.newarray .int, 2, 0, 0, 0) := rfl
theorem f0_10 : amFetch 0 10 = some (.putfield 9, 3, 0, 0, 0) := rfl
theorem f0_13 : amFetch 0 13 = some (.aload_n 0, 1, 0, 0, 0) := rfl
theorem f0_14 : amFetch 0 14 = some (.sipush 512, 3, 0, 0, 0) := rfl
theorem f0_17 : amFetch 0 17 = some (.newarray .int, 2, 0, 0, 0) := rfl
theorem f0_19 : amFetch 0 19 = some (.putfield 15, 3, 0, 1, 0) := rfl
theorem f0_22 : amFetch 0 22 = some (.return_, 1, 0, 0, 0) := rfl
theorem ow0 : amOwnL 0 = some (0, 1) := rfl
-- X0_drop
theorem f1_0 : amFetch 1 0 = some (.aload_n 0, 1, 0, 0, 0) := rfl
theorem f1_1 : amFetch 1 1 = some (.iconst 0, 1, 0, 0, 0) := rfl
theorem f1_2 : amFetch 1 2 = some (.putfield 18, 3, 0, 2, 0) := rfl
theorem f1_5 : amFetch 1 5 = some (.return_, 1, 0, 0, 0) := rfl
theorem ow1 : amOwnL 1 = some (0, 1) := rfl
-- X0_append
theorem f2_0 : amFetch 2 0 = some (.aload_n 0, 1, 0, 0, 0) := rfl
theorem f2_1 : amFetch 2 1 = some (.getfield 18, 3, 0, 2, 0) := rfl
theorem f2_4 : amFetch 2 4 = some (.iconst 1, 1, 0, 0, 0) := rfl
theorem f2_5 : amFetch 2 5 = some (.isub, 1, 0, 0, 0) := rfl
theorem f2_6 : amFetch 2 6 = some (.istore_n 3, 1, 0, 0, 0) := rfl
theorem f2_7 : amFetch 2 7 = some (.iload_n 3, 1, 0, 0, 0) := rfl
theorem f2_8 : amFetch 2 8 = some (.ifCond .lt 26, 3, 0, 0, 0) := rfl
theorem f2_11 : amFetch 2 11 = some (.aload_n 0, 1, 0, 0, 0) := rfl
theorem f2_12 : amFetch 2 12 = some (.getfield 9, 3, 0, 0, 0) := rfl
theorem f2_15 : amFetch 2 15 = some (.iload_n 3, 1, 0, 0, 0) := rfl
theorem f2_16 : amFetch 2 16 = some (.iaload, 1, 0, 0, 0) := rfl
theorem f2_17 : amFetch 2 17 = some (.iload_n 1, 1, 0, 0, 0) := rfl
theorem f2_18 : amFetch 2 18 = some (.if_icmp .ne 16, 3, 0, 0, 0) := rfl
theorem f2_21 : amFetch 2 21 = some (.aload_n 0, 1, 0, 0, 0) := rfl
theorem f2_22 : amFetch 2 22 = some (.getfield 15, 3, 0, 1, 0) := rfl
theorem f2_25 : amFetch 2 25 = some (.iload_n 3, 1, 0, 0, 0) := rfl
theorem f2_26 : amFetch 2 26 = some (.dup2, 1, 0, 0, 0) := rfl
theorem f2_27 : amFetch 2 27 = some (.iaload, 1, 0, 0, 0) := rfl
theorem f2_28 : amFetch 2 28 = some (.iload_n 2, 1, 0, 0, 0) := rfl
theorem f2_29 : amFetch 2 29 = some (.iadd, 1, 0, 0, 0) := rfl
theorem f2_30 : amFetch 2 30 = some (.iastore, 1, 0, 0, 0) := rfl
theorem f2_31 : amFetch 2 31 = some (.goto 49, 3, 0, 0, 0) := rfl
theorem f2_34 : amFetch 2 34 = some (.iload_n 2, 1, 0, 0, 0) := rfl
theorem f2_35 : amFetch 2 35 = some (.ifCond .le 45, 3, 0, 0, 0) := rfl
theorem f2_38 : amFetch 2 38 = some (.aload_n 0, 1, 0, 0, 0) := rfl
theorem f2_39 : amFetch 2 39 = some (.getfield 18, 3, 0, 2, 0) := rfl
theorem f2_42 : amFetch 2 42 = some (.aload_n 0, 1, 0, 0, 0) := rfl
theorem f2_43 : amFetch 2 43 = some (.getfield 9, 3, 0, 0, 0) := rfl
theorem f2_46 : amFetch 2 46 = some (.arraylength, 1, 0, 0, 0) := rfl
theorem f2_47 : amFetch 2 47 = some (.if_icmp .ge 33, 3, 0, 0, 0) := rfl
theorem f2_50 : amFetch 2 50 = some (.aload_n 0, 1, 0, 0, 0) := rfl
theorem f2_51 : amFetch 2 51 = some (.getfield 9, 3, 0, 0, 0) := rfl
theorem f2_54 : amFetch 2 54 = some (.aload_n 0, 1, 0, 0, 0) := rfl
theorem f2_55 : amFetch 2 55 = some (.getfield 18, 3, 0, 2, 0) := rfl
theorem f2_58 : amFetch 2 58 = some (.iload_n 1, 1, 0, 0, 0) := rfl
theorem f2_59 : amFetch 2 59 = some (.iastore, 1, 0, 0, 0) := rfl
theorem f2_60 : amFetch 2 60 = some (.aload_n 0, 1, 0, 0, 0) := rfl
theorem f2_61 : amFetch 2 61 = some (.getfield 15, 3, 0, 1, 0) := rfl
theorem f2_64 : amFetch 2 64 = some (.aload_n 0, 1, 0, 0, 0) := rfl
theorem f2_65 : amFetch 2 65 = some (.getfield 18, 3, 0, 2, 0) := rfl
theorem f2_68 : amFetch 2 68 = some (.iload_n 2, 1, 0, 0, 0) := rfl
theorem f2_69 : amFetch 2 69 = some (.iastore, 1, 0, 0, 0) := rfl
theorem f2_70 : amFetch 2 70 = some (.aload_n 0, 1, 0, 0, 0) := rfl
theorem f2_71 : amFetch 2 71 = some (.dup, 1, 0, 0, 0) := rfl
theorem f2_72 : amFetch 2 72 = some (.getfield 18, 3, 0, 2, 0) := rfl
theorem f2_75 : amFetch 2 75 = some (.iconst 1, 1, 0, 0, 0) := rfl
theorem f2_76 : amFetch 2 76 = some (.iadd, 1, 0, 0, 0) := rfl
theorem f2_77 : amFetch 2 77 = some (.putfield 18, 3, 0, 2, 0) := rfl
theorem f2_80 : amFetch 2 80 = some (.return_, 1, 0, 0, 0) := rfl
theorem ow2 : amOwnL 2 = some (0, 4) := rfl
-- X0_becomeSum
theorem f3_0 : amFetch 3 0 = some (.aload_n 0, 1, 0, 0, 0) := rfl
theorem f3_1 : amFetch 3 1 = some (.invokevirtual 22, 3, 0, 1, 0) := rfl
theorem f3_4 : amFetch 3 4 = some (.iconst 0, 1, 0, 0, 0) := rfl
theorem f3_5 : amFetch 3 5 = some (.istore_n 3, 1, 0, 0, 0) := rfl
theorem f3_6 : amFetch 3 6 = some (.iconst 0, 1, 0, 0, 0) := rfl
theorem f3_7 : amFetch 3 7 = some (.istore 4, 2, 0, 0, 0) := rfl
theorem f3_9 : amFetch 3 9 = some (.iload 4, 2, 0, 0, 0) := rfl
theorem f3_11 : amFetch 3 11 = some (.aload_n 1, 1, 0, 0, 0) := rfl
theorem f3_12 : amFetch 3 12 = some (.getfield 18, 3, 0, 2, 0) := rfl
theorem f3_15 : amFetch 3 15 = some (.if_icmp .ge 52, 3, 0, 0, 0) := rfl
theorem f3_18 : amFetch 3 18 = some (.aload_n 2, 1, 0, 0, 0) := rfl
theorem f3_19 : amFetch 3 19 = some (.aload_n 1, 1, 0, 0, 0) := rfl
theorem f3_20 : amFetch 3 20 = some (.getfield 9, 3, 0, 0, 0) := rfl
theorem f3_23 : amFetch 3 23 = some (.iload 4, 2, 0, 0, 0) := rfl
theorem f3_25 : amFetch 3 25 = some (.iaload, 1, 0, 0, 0) := rfl
theorem f3_26 : amFetch 3 26 = some (.iload_n 3, 1, 0, 0, 0) := rfl
theorem f3_27 : amFetch 3 27 = some (.invokevirtual 25, 3, 0, 6, 2) := rfl
theorem f3_30 : amFetch 3 30 = some (.istore 5, 2, 0, 0, 0) := rfl
theorem f3_32 : amFetch 3 32 = some (.aload_n 0, 1, 0, 0, 0) := rfl
theorem f3_33 : amFetch 3 33 = some (.aload_n 2, 1, 0, 0, 0) := rfl
theorem f3_34 : amFetch 3 34 = some (.iload_n 3, 1, 0, 0, 0) := rfl
theorem f3_35 : amFetch 3 35 = some (.iload 5, 2, 0, 0, 0) := rfl
theorem f3_37 : amFetch 3 37 = some (.invokevirtual 29, 3, 0, 155, 3) := rfl
theorem f3_40 : amFetch 3 40 = some (.aload_n 0, 1, 0, 0, 0) := rfl
theorem f3_41 : amFetch 3 41 = some (.aload_n 1, 1, 0, 0, 0) := rfl
theorem f3_42 : amFetch 3 42 = some (.getfield 9, 3, 0, 0, 0) := rfl
theorem f3_45 : amFetch 3 45 = some (.iload 4, 2, 0, 0, 0) := rfl
theorem f3_47 : amFetch 3 47 = some (.iaload, 1, 0, 0, 0) := rfl
theorem f3_48 : amFetch 3 48 = some (.aload_n 1, 1, 0, 0, 0) := rfl
theorem f3_49 : amFetch 3 49 = some (.getfield 15, 3, 0, 1, 0) := rfl
theorem f3_52 : amFetch 3 52 = some (.iload 4, 2, 0, 0, 0) := rfl
theorem f3_54 : amFetch 3 54 = some (.iaload, 1, 0, 0, 0) := rfl
theorem f3_55 : amFetch 3 55 = some (.invokevirtual 33, 3, 0, 2, 2) := rfl
theorem f3_58 : amFetch 3 58 = some (.iload 5, 2, 0, 0, 0) := rfl
theorem f3_60 : amFetch 3 60 = some (.istore_n 3, 1, 0, 0, 0) := rfl
theorem f3_61 : amFetch 3 61 = some (.iinc 4 1, 3, 0, 0, 0) := rfl
theorem f3_64 : amFetch 3 64 = some (.goto (-55), 3, 0, 0, 0) := rfl
theorem f3_67 : amFetch 3 67 = some (.aload_n 0, 1, 0, 0, 0) := rfl
theorem f3_68 : amFetch 3 68 = some (.aload_n 2, 1, 0, 0, 0) := rfl
theorem f3_69 : amFetch 3 69 = some (.iload_n 3, 1, 0, 0, 0) := rfl
theorem f3_70 : amFetch 3 70 = some (.aload_n 2, 1, 0, 0, 0) := rfl
theorem f3_71 : amFetch 3 71 = some (.getfield 18, 3, 0, 2, 0) := rfl
theorem f3_74 : amFetch 3 74 = some (.invokevirtual 29, 3, 0, 155, 3) := rfl
theorem f3_77 : amFetch 3 77 = some (.return_, 1, 0, 0, 0) := rfl
theorem ow3 : amOwnL 3 = some (0, 6) := rfl
-- X0_becomeLesser
theorem f4_0 : amFetch 4 0 = some (.aload_n 0, 1, 0, 0, 0) := rfl
theorem f4_1 : amFetch 4 1 = some (.invokevirtual 22, 3, 0, 1, 0) := rfl
theorem f4_4 : amFetch 4 4 = some (.iconst 0, 1, 0, 0, 0) := rfl
theorem f4_5 : amFetch 4 5 = some (.istore_n 3, 1, 0, 0, 0) := rfl
theorem f4_6 : amFetch 4 6 = some (.iconst 0, 1, 0, 0, 0) := rfl
theorem f4_7 : amFetch 4 7 = some (.istore 4, 2, 0, 0, 0) := rfl
theorem f4_9 : amFetch 4 9 = some (.iload 4, 2, 0, 0, 0) := rfl
theorem f4_11 : amFetch 4 11 = some (.aload_n 1, 1, 0, 0, 0) := rfl
theorem f4_12 : amFetch 4 12 = some (.getfield 18, 3, 0, 2, 0) := rfl
theorem f4_15 : amFetch 4 15 = some (.if_icmp .ge 67, 3, 0, 0, 0) := rfl
theorem f4_18 : amFetch 4 18 = some (.aload_n 1, 1, 0, 0, 0) := rfl
theorem f4_19 : amFetch 4 19 = some (.getfield 9, 3, 0, 0, 0) := rfl
theorem f4_22 : amFetch 4 22 = some (.iload 4, 2, 0, 0, 0) := rfl
theorem f4_24 : amFetch 4 24 = some (.iaload, 1, 0, 0, 0) := rfl
theorem f4_25 : amFetch 4 25 = some (.istore 5, 2, 0, 0, 0) := rfl
theorem f4_27 : amFetch 4 27 = some (.aload_n 2, 1, 0, 0, 0) := rfl
theorem f4_28 : amFetch 4 28 = some (.iload 5, 2, 0, 0, 0) := rfl
theorem f4_30 : amFetch 4 30 = some (.iload_n 3, 1, 0, 0, 0) := rfl
theorem f4_31 : amFetch 4 31 = some (.invokevirtual 25, 3, 0, 6, 2) := rfl
theorem f4_34 : amFetch 4 34 = some (.istore_n 3, 1, 0, 0, 0) := rfl
theorem f4_35 : amFetch 4 35 = some (.iload_n 3, 1, 0, 0, 0) := rfl
theorem f4_36 : amFetch 4 36 = some (.aload_n 2, 1, 0, 0, 0) := rfl
theorem f4_37 : amFetch 4 37 = some (.getfield 18, 3, 0, 2, 0) := rfl
theorem f4_40 : amFetch 4 40 = some (.if_icmp .ge 36, 3, 0, 0, 0) := rfl
theorem f4_43 : amFetch 4 43 = some (.aload_n 2, 1, 0, 0, 0) := rfl
theorem f4_44 : amFetch 4 44 = some (.getfield 9, 3, 0, 0, 0) := rfl
theorem f4_47 : amFetch 4 47 = some (.iload_n 3, 1, 0, 0, 0) := rfl
theorem f4_48 : amFetch 4 48 = some (.iaload, 1, 0, 0, 0) := rfl
theorem f4_49 : amFetch 4 49 = some (.iload 5, 2, 0, 0, 0) := rfl
theorem f4_51 : amFetch 4 51 = some (.if_icmp .ne 25, 3, 0, 0, 0) := rfl
theorem f4_54 : amFetch 4 54 = some (.aload_n 0, 1, 0, 0, 0) := rfl
theorem f4_55 : amFetch 4 55 = some (.iload 5, 2, 0, 0, 0) := rfl
theorem f4_57 : amFetch 4 57 = some (.aload_n 1, 1, 0, 0, 0) := rfl
theorem f4_58 : amFetch 4 58 = some (.getfield 15, 3, 0, 1, 0) := rfl
theorem f4_61 : amFetch 4 61 = some (.iload 4, 2, 0, 0, 0) := rfl
theorem f4_63 : amFetch 4 63 = some (.iaload, 1, 0, 0, 0) := rfl
theorem f4_64 : amFetch 4 64 = some (.aload_n 2, 1, 0, 0, 0) := rfl
theorem f4_65 : amFetch 4 65 = some (.getfield 15, 3, 0, 1, 0) := rfl
theorem f4_68 : amFetch 4 68 = some (.iload_n 3, 1, 0, 0, 0) := rfl
theorem f4_69 : amFetch 4 69 = some (.iaload, 1, 0, 0, 0) := rfl
theorem f4_70 : amFetch 4 70 = some (.invokestatic 37, 3, 5, 0, 2) := rfl
theorem f4_73 : amFetch 4 73 = some (.invokevirtual 33, 3, 0, 2, 2) := rfl
theorem f4_76 : amFetch 4 76 = some (.iinc 4 1, 3, 0, 0, 0) := rfl
theorem f4_79 : amFetch 4 79 = some (.goto (-70), 3, 0, 0, 0) := rfl
theorem f4_82 : amFetch 4 82 = some (.return_, 1, 0, 0, 0) := rfl
theorem ow4 : amOwnL 4 = some (0, 6) := rfl
-- X0_becomeRest
theorem f5_0 : amFetch 5 0 = some (.aload_n 0, 1, 0, 0, 0) := rfl
theorem f5_1 : amFetch 5 1 = some (.invokevirtual 22, 3, 0, 1, 0) := rfl
theorem f5_4 : amFetch 5 4 = some (.iconst 0, 1, 0, 0, 0) := rfl
theorem f5_5 : amFetch 5 5 = some (.istore 4, 2, 0, 0, 0) := rfl
theorem f5_7 : amFetch 5 7 = some (.iload 4, 2, 0, 0, 0) := rfl
theorem f5_9 : amFetch 5 9 = some (.aload_n 1, 1, 0, 0, 0) := rfl
theorem f5_10 : amFetch 5 10 = some (.getfield 18, 3, 0, 2, 0) := rfl
theorem f5_13 : amFetch 5 13 = some (.if_icmp .ge 48, 3, 0, 0, 0) := rfl
theorem f5_16 : amFetch 5 16 = some (.aload_n 1, 1, 0, 0, 0) := rfl
theorem f5_17 : amFetch 5 17 = some (.getfield 9, 3, 0, 0, 0) := rfl
theorem f5_20 : amFetch 5 20 = some (.iload 4, 2, 0, 0, 0) := rfl
theorem f5_22 : amFetch 5 22 = some (.iaload, 1, 0, 0, 0) := rfl
theorem f5_23 : amFetch 5 23 = some (.iload_n 2, 1, 0, 0, 0) := rfl
theorem f5_24 : amFetch 5 24 = some (.if_icmp .ne 7, 3, 0, 0, 0) := rfl
theorem f5_27 : amFetch 5 27 = some (.iload_n 3, 1, 0, 0, 0) := rfl
theorem f5_28 : amFetch 5 28 = some (.goto 4, 3, 0, 0, 0) := rfl
theorem f5_31 : amFetch 5 31 = some (.iconst 0, 1, 0, 0, 0) := rfl
theorem f5_32 : amFetch 5 32 = some (.istore 5, 2, 0, 0, 0) := rfl
theorem f5_34 : amFetch 5 34 = some (.aload_n 0, 1, 0, 0, 0) := rfl
theorem f5_35 : amFetch 5 35 = some (.aload_n 1, 1, 0, 0, 0) := rfl
theorem f5_36 : amFetch 5 36 = some (.getfield 9, 3, 0, 0, 0) := rfl
theorem f5_39 : amFetch 5 39 = some (.iload 4, 2, 0, 0, 0) := rfl
theorem f5_41 : amFetch 5 41 = some (.iaload, 1, 0, 0, 0) := rfl
theorem f5_42 : amFetch 5 42 = some (.aload_n 1, 1, 0, 0, 0) := rfl
theorem f5_43 : amFetch 5 43 = some (.getfield 15, 3, 0, 1, 0) := rfl
theorem f5_46 : amFetch 5 46 = some (.iload 4, 2, 0, 0, 0) := rfl
theorem f5_48 : amFetch 5 48 = some (.iaload, 1, 0, 0, 0) := rfl
theorem f5_49 : amFetch 5 49 = some (.iload 5, 2, 0, 0, 0) := rfl
theorem f5_51 : amFetch 5 51 = some (.isub, 1, 0, 0, 0) := rfl
theorem f5_52 : amFetch 5 52 = some (.invokevirtual 33, 3, 0, 2, 2) := rfl
theorem f5_55 : amFetch 5 55 = some (.iinc 4 1, 3, 0, 0, 0) := rfl
theorem f5_58 : amFetch 5 58 = some (.goto (-51), 3, 0, 0, 0) := rfl
theorem f5_61 : amFetch 5 61 = some (.return_, 1, 0, 0, 0) := rfl
theorem ow5 : amOwnL 5 = some (0, 6) := rfl
-- X0_placeNotBelow
theorem f6_0 : amFetch 6 0 = some (.iload_n 2, 1, 0, 0, 0) := rfl
theorem f6_1 : amFetch 6 1 = some (.istore_n 3, 1, 0, 0, 0) := rfl
theorem f6_2 : amFetch 6 2 = some (.iload_n 3, 1, 0, 0, 0) := rfl
theorem f6_3 : amFetch 6 3 = some (.aload_n 0, 1, 0, 0, 0) := rfl
theorem f6_4 : amFetch 6 4 = some (.getfield 18, 3, 0, 2, 0) := rfl
theorem f6_7 : amFetch 6 7 = some (.if_icmp .ge 19, 3, 0, 0, 0) := rfl
theorem f6_10 : amFetch 6 10 = some (.aload_n 0, 1, 0, 0, 0) := rfl
theorem f6_11 : amFetch 6 11 = some (.getfield 9, 3, 0, 0, 0) := rfl
theorem f6_14 : amFetch 6 14 = some (.iload_n 3, 1, 0, 0, 0) := rfl
theorem f6_15 : amFetch 6 15 = some (.iaload, 1, 0, 0, 0) := rfl
theorem f6_16 : amFetch 6 16 = some (.iload_n 1, 1, 0, 0, 0) := rfl
theorem f6_17 : amFetch 6 17 = some (.if_icmp .ge 9, 3, 0, 0, 0) := rfl
theorem f6_20 : amFetch 6 20 = some (.iinc 3 1, 3, 0, 0, 0) := rfl
theorem f6_23 : amFetch 6 23 = some (.goto (-21), 3, 0, 0, 0) := rfl
theorem f6_26 : amFetch 6 26 = some (.iload_n 3, 1, 0, 0, 0) := rfl
theorem f6_27 : amFetch 6 27 = some (.ireturn, 1, 0, 0, 0) := rfl
theorem ow6 : amOwnL 6 = some (0, 4) := rfl
-- X0_hasSameAs
theorem f7_0 : amFetch 7 0 = some (.aload_n 0, 1, 0, 0, 0) := rfl
theorem f7_1 : amFetch 7 1 = some (.getfield 18, 3, 0, 2, 0) := rfl
theorem f7_4 : amFetch 7 4 = some (.aload_n 1, 1, 0, 0, 0) := rfl
theorem f7_5 : amFetch 7 5 = some (.getfield 18, 3, 0, 2, 0) := rfl
theorem f7_8 : amFetch 7 8 = some (.if_icmp .eq 5, 3, 0, 0, 0) := rfl
theorem f7_11 : amFetch 7 11 = some (.iconst 0, 1, 0, 0, 0) := rfl
theorem f7_12 : amFetch 7 12 = some (.ireturn, 1, 0, 0, 0) := rfl
theorem f7_13 : amFetch 7 13 = some (.iconst 0, 1, 0, 0, 0) := rfl
theorem f7_14 : amFetch 7 14 = some (.istore_n 2, 1, 0, 0, 0) := rfl
theorem f7_15 : amFetch 7 15 = some (.iload_n 2, 1, 0, 0, 0) := rfl
theorem f7_16 : amFetch 7 16 = some (.aload_n 0, 1, 0, 0, 0) := rfl
theorem f7_17 : amFetch 7 17 = some (.getfield 18, 3, 0, 2, 0) := rfl
theorem f7_20 : amFetch 7 20 = some (.if_icmp .ge 41, 3, 0, 0, 0) := rfl
theorem f7_23 : amFetch 7 23 = some (.aload_n 0, 1, 0, 0, 0) := rfl
theorem f7_24 : amFetch 7 24 = some (.getfield 9, 3, 0, 0, 0) := rfl
theorem f7_27 : amFetch 7 27 = some (.iload_n 2, 1, 0, 0, 0) := rfl
theorem f7_28 : amFetch 7 28 = some (.iaload, 1, 0, 0, 0) := rfl
theorem f7_29 : amFetch 7 29 = some (.aload_n 1, 1, 0, 0, 0) := rfl
theorem f7_30 : amFetch 7 30 = some (.getfield 9, 3, 0, 0, 0) := rfl
theorem f7_33 : amFetch 7 33 = some (.iload_n 2, 1, 0, 0, 0) := rfl
theorem f7_34 : amFetch 7 34 = some (.iaload, 1, 0, 0, 0) := rfl
theorem f7_35 : amFetch 7 35 = some (.if_icmp .ne 18, 3, 0, 0, 0) := rfl
theorem f7_38 : amFetch 7 38 = some (.aload_n 0, 1, 0, 0, 0) := rfl
theorem f7_39 : amFetch 7 39 = some (.getfield 15, 3, 0, 1, 0) := rfl
theorem f7_42 : amFetch 7 42 = some (.iload_n 2, 1, 0, 0, 0) := rfl
theorem f7_43 : amFetch 7 43 = some (.iaload, 1, 0, 0, 0) := rfl
theorem f7_44 : amFetch 7 44 = some (.aload_n 1, 1, 0, 0, 0) := rfl
theorem f7_45 : amFetch 7 45 = some (.getfield 15, 3, 0, 1, 0) := rfl
theorem f7_48 : amFetch 7 48 = some (.iload_n 2, 1, 0, 0, 0) := rfl
theorem f7_49 : amFetch 7 49 = some (.iaload, 1, 0, 0, 0) := rfl
theorem f7_50 : amFetch 7 50 = some (.if_icmp .eq 5, 3, 0, 0, 0) := rfl
theorem f7_53 : amFetch 7 53 = some (.iconst 0, 1, 0, 0, 0) := rfl
theorem f7_54 : amFetch 7 54 = some (.ireturn, 1, 0, 0, 0) := rfl
theorem f7_55 : amFetch 7 55 = some (.iinc 2 1, 3, 0, 0, 0) := rfl
theorem f7_58 : amFetch 7 58 = some (.goto (-43), 3, 0, 0, 0) := rfl
theorem f7_61 : amFetch 7 61 = some (.iconst 1, 1, 0, 0, 0) := rfl
theorem f7_62 : amFetch 7 62 = some (.ireturn, 1, 0, 0, 0) := rfl
theorem ow7 : amOwnL 7 = some (0, 3) := rfl
-- X0_neededSlots
theorem f8_0 : amFetch 8 0 = some (.iconst 0, 1, 0, 0, 0) := rfl
theorem f8_1 : amFetch 8 1 = some (.istore_n 1, 1, 0, 0, 0) := rfl
theorem f8_2 : amFetch 8 2 = some (.iconst 0, 1, 0, 0, 0) := rfl
theorem f8_3 : amFetch 8 3 = some (.istore_n 2, 1, 0, 0, 0) := rfl
theorem f8_4 : amFetch 8 4 = some (.iload_n 2, 1, 0, 0, 0) := rfl
theorem f8_5 : amFetch 8 5 = some (.aload_n 0, 1, 0, 0, 0) := rfl
theorem f8_6 : amFetch 8 6 = some (.getfield 18, 3, 0, 2, 0) := rfl
theorem f8_9 : amFetch 8 9 = some (.if_icmp .ge 21, 3, 0, 0, 0) := rfl
theorem f8_12 : amFetch 8 12 = some (.iload_n 1, 1, 0, 0, 0) := rfl
theorem f8_13 : amFetch 8 13 = some (.aload_n 0, 1, 0, 0, 0) := rfl
theorem f8_14 : amFetch 8 14 = some (.getfield 15, 3, 0, 1, 0) := rfl
theorem f8_17 : amFetch 8 17 = some (.iload_n 2, 1, 0, 0, 0) := rfl
theorem f8_18 : amFetch 8 18 = some (.iaload, 1, 0, 0, 0) := rfl
theorem f8_19 : amFetch 8 19 = some (.invokestatic 42, 3, 2, 73, 1) := rfl
theorem f8_22 : amFetch 8 22 = some (.iadd, 1, 0, 0, 0) := rfl
theorem f8_23 : amFetch 8 23 = some (.istore_n 1, 1, 0, 0, 0) := rfl
theorem f8_24 : amFetch 8 24 = some (.iinc 2 1, 3, 0, 0, 0) := rfl
theorem f8_27 : amFetch 8 27 = some (.goto (-23), 3, 0, 0, 0) := rfl
theorem f8_30 : amFetch 8 30 = some (.iload_n 1, 1, 0, 0, 0) := rfl
theorem f8_31 : amFetch 8 31 = some (.ireturn, 1, 0, 0, 0) := rfl
theorem ow8 : amOwnL 8 = some (0, 3) := rfl
-- X1_init
theorem f9_0 : amFetch 9 0 = some (.aload_n 0, 1, 0, 0, 0) := rfl
theorem f9_1 : amFetch 9 1 = some (.invokespecial 3, 3, 6, 0, 0) := rfl
theorem f9_4 : amFetch 9 4 = some (.aload_n 0, 1, 0, 0, 0) := rfl
theorem f9_5 : amFetch 9 5 = some (.sipush 256, 3, 0, 0, 0) := rfl
theorem f9_8 : amFetch 9 8 = some (.newarray .int, 2, 0, 0, 0) := rfl
theorem f9_10 : amFetch 9 10 = some (.putfield 9, 3, 1, 0, 0) := rfl
theorem f9_13 : amFetch 9 13 = some (.aload_n 0, 1, 0, 0, 0) := rfl
theorem f9_14 : amFetch 9 14 = some (.sipush 256, 3, 0, 0, 0) := rfl
theorem f9_17 : amFetch 9 17 = some (.newarray .int, 2, 0, 0, 0) := rfl
theorem f9_19 : amFetch 9 19 = some (.putfield 15, 3, 1, 1, 0) := rfl
theorem f9_22 : amFetch 9 22 = some (.return_, 1, 0, 0, 0) := rfl
theorem ow9 : amOwnL 9 = some (1, 1) := rfl
-- X1_makeFrom
theorem f10_0 : amFetch 10 0 = some (.iconst 0, 1, 0, 0, 0) := rfl
theorem f10_1 : amFetch 10 1 = some (.istore_n 2, 1, 0, 0, 0) := rfl
theorem f10_2 : amFetch 10 2 = some (.iload_n 2, 1, 0, 0, 0) := rfl
theorem f10_3 : amFetch 10 3 = some (.sipush 256, 3, 0, 0, 0) := rfl
theorem f10_6 : amFetch 10 6 = some (.if_icmp .ge 16, 3, 0, 0, 0) := rfl
theorem f10_9 : amFetch 10 9 = some (.aload_n 0, 1, 0, 0, 0) := rfl
theorem f10_10 : amFetch 10 10 = some (.getfield 9, 3, 1, 0, 0) := rfl
theorem f10_13 : amFetch 10 13 = some (.iload_n 2, 1, 0, 0, 0) := rfl
theorem f10_14 : amFetch 10 14 = some (.iconst (-1), 1, 0, 0, 0) := rfl
theorem f10_15 : amFetch 10 15 = some (.iastore, 1, 0, 0, 0) := rfl
theorem f10_16 : amFetch 10 16 = some (.iinc 2 1, 3, 0, 0, 0) := rfl
theorem f10_19 : amFetch 10 19 = some (.goto (-17), 3, 0, 0, 0) := rfl
theorem f10_22 : amFetch 10 22 = some (.aload_n 1, 1, 0, 0, 0) := rfl
theorem f10_23 : amFetch 10 23 = some (.invokevirtual 18, 3, 0, 22, 0) := rfl
theorem f10_26 : amFetch 10 26 = some (.istore_n 2, 1, 0, 0, 0) := rfl
theorem f10_27 : amFetch 10 27 = some (.iload_n 2, 1, 0, 0, 0) := rfl
theorem f10_28 : amFetch 10 28 = some (.istore_n 3, 1, 0, 0, 0) := rfl
theorem f10_29 : amFetch 10 29 = some (.iconst 1, 1, 0, 0, 0) := rfl
theorem f10_30 : amFetch 10 30 = some (.istore 4, 2, 0, 0, 0) := rfl
theorem f10_32 : amFetch 10 32 = some (.iload 4, 2, 0, 0, 0) := rfl
theorem f10_34 : amFetch 10 34 = some (.aload_n 1, 1, 0, 0, 0) := rfl
theorem f10_35 : amFetch 10 35 = some (.invokevirtual 24, 3, 0, 14, 0) := rfl
theorem f10_38 : amFetch 10 38 = some (.if_icmp .ge 57, 3, 0, 0, 0) := rfl
theorem f10_41 : amFetch 10 41 = some (.aload_n 1, 1, 0, 0, 0) := rfl
theorem f10_42 : amFetch 10 42 = some (.iload_n 2, 1, 0, 0, 0) := rfl
theorem f10_43 : amFetch 10 43 = some (.iload 4, 2, 0, 0, 0) := rfl
theorem f10_45 : amFetch 10 45 = some (.iadd, 1, 0, 0, 0) := rfl
theorem f10_46 : amFetch 10 46 = some (.invokevirtual 27, 3, 0, 16, 1) := rfl
theorem f10_49 : amFetch 10 49 = some (.istore 5, 2, 0, 0, 0) := rfl
theorem f10_51 : amFetch 10 51 = some (.aload_n 1, 1, 0, 0, 0) := rfl
theorem f10_52 : amFetch 10 52 = some (.iload 5, 2, 0, 0, 0) := rfl
theorem f10_54 : amFetch 10 54 = some (.invokevirtual 31, 3, 0, 15, 1) := rfl
theorem f10_57 : amFetch 10 57 = some (.ifCond .ne 32, 3, 0, 0, 0) := rfl
theorem f10_60 : amFetch 10 60 = some (.aload_n 1, 1, 0, 0, 0) := rfl
theorem f10_61 : amFetch 10 61 = some (.iload 5, 2, 0, 0, 0) := rfl
theorem f10_63 : amFetch 10 63 = some (.iload_n 3, 1, 0, 0, 0) := rfl
theorem f10_64 : amFetch 10 64 = some (.invokestatic 35, 3, 1, 11, 3) := rfl
theorem f10_67 : amFetch 10 67 = some (.istore_n 3, 1, 0, 0, 0) := rfl
theorem f10_68 : amFetch 10 68 = some (.aload_n 0, 1, 0, 0, 0) := rfl
theorem f10_69 : amFetch 10 69 = some (.getfield 15, 3, 1, 1, 0) := rfl
theorem f10_72 : amFetch 10 72 = some (.iload 5, 2, 0, 0, 0) := rfl
theorem f10_74 : amFetch 10 74 = some (.aload_n 0, 1, 0, 0, 0) := rfl
theorem f10_75 : amFetch 10 75 = some (.getfield 9, 3, 1, 0, 0) := rfl
theorem f10_78 : amFetch 10 78 = some (.iload_n 3, 1, 0, 0, 0) := rfl
theorem f10_79 : amFetch 10 79 = some (.iaload, 1, 0, 0, 0) := rfl
theorem f10_80 : amFetch 10 80 = some (.iastore, 1, 0, 0, 0) := rfl
theorem f10_81 : amFetch 10 81 = some (.aload_n 0, 1, 0, 0, 0) := rfl
theorem f10_82 : amFetch 10 82 = some (.getfield 9, 3, 1, 0, 0) := rfl
theorem f10_85 : amFetch 10 85 = some (.iload_n 3, 1, 0, 0, 0) := rfl
theorem f10_86 : amFetch 10 86 = some (.iload 5, 2, 0, 0, 0) := rfl
theorem f10_88 : amFetch 10 88 = some (.iastore, 1, 0, 0, 0) := rfl
theorem f10_89 : amFetch 10 89 = some (.iinc 4 1, 3, 0, 0, 0) := rfl
theorem f10_92 : amFetch 10 92 = some (.goto (-60), 3, 0, 0, 0) := rfl
theorem f10_95 : amFetch 10 95 = some (.return_, 1, 0, 0, 0) := rfl
theorem ow10 : amOwnL 10 = some (1, 6) := rfl
-- X1_quotientHere
theorem f11_0 : amFetch 11 0 = some (.aload_n 0, 1, 0, 0, 0) := rfl
theorem f11_1 : amFetch 11 1 = some (.getfield 39, 3, 2, 4, 0) := rfl
theorem f11_4 : amFetch 11 4 = some (.iload_n 1, 1, 0, 0, 0) := rfl
theorem f11_5 : amFetch 11 5 = some (.baload, 1, 0, 0, 0) := rfl
theorem f11_6 : amFetch 11 6 = some (.ifCond .ne 5, 3, 0, 0, 0) := rfl
theorem f11_9 : amFetch 11 9 = some (.iload_n 1, 1, 0, 0, 0) := rfl
theorem f11_10 : amFetch 11 10 = some (.ireturn, 1, 0, 0, 0) := rfl
theorem f11_11 : amFetch 11 11 = some (.aload_n 0, 1, 0, 0, 0) := rfl
theorem f11_12 : amFetch 11 12 = some (.getfield 43, 3, 2, 3, 0) := rfl
theorem f11_15 : amFetch 11 15 = some (.iload_n 1, 1, 0, 0, 0) := rfl
theorem f11_16 : amFetch 11 16 = some (.baload, 1, 0, 0, 0) := rfl
theorem f11_17 : amFetch 11 17 = some (.ifCond .eq 7, 3, 0, 0, 0) := rfl
theorem f11_20 : amFetch 11 20 = some (.iload_n 2, 1, 0, 0, 0) := rfl
theorem f11_21 : amFetch 11 21 = some (.goto 8, 3, 0, 0, 0) := rfl
theorem f11_24 : amFetch 11 24 = some (.aload_n 0, 1, 0, 0, 0) := rfl
theorem f11_25 : amFetch 11 25 = some (.iload_n 2, 1, 0, 0, 0) := rfl
theorem f11_26 : amFetch 11 26 = some (.invokevirtual 46, 3, 0, 23, 1) := rfl
theorem f11_29 : amFetch 11 29 = some (.ireturn, 1, 0, 0, 0) := rfl
theorem ow11 : amOwnL 11 = some (1, 3) := rfl
-- X1_sumFor
theorem f12_0 : amFetch 12 0 = some (.aload_n 1, 1, 0, 0, 0) := rfl
theorem f12_1 : amFetch 12 1 = some (.iload_n 2, 1, 0, 0, 0) := rfl
theorem f12_2 : amFetch 12 2 = some (.invokevirtual 49, 3, 0, 18, 1) := rfl
theorem f12_5 : amFetch 12 5 = some (.istore_n 3, 1, 0, 0, 0) := rfl
theorem f12_6 : amFetch 12 6 = some (.aload_n 0, 1, 0, 0, 0) := rfl
theorem f12_7 : amFetch 12 7 = some (.getfield 9, 3, 1, 0, 0) := rfl
theorem f12_10 : amFetch 12 10 = some (.aload_n 1, 1, 0, 0, 0) := rfl
theorem f12_11 : amFetch 12 11 = some (.iload_n 2, 1, 0, 0, 0) := rfl
theorem f12_12 : amFetch 12 12 = some (.invokevirtual 52, 3, 0, 17, 1) := rfl
theorem f12_15 : amFetch 12 15 = some (.iaload, 1, 0, 0, 0) := rfl
theorem f12_16 : amFetch 12 16 = some (.istore 4, 2, 0, 0, 0) := rfl
theorem f12_18 : amFetch 12 18 = some (.iconst 0, 1, 0, 0, 0) := rfl
theorem f12_19 : amFetch 12 19 = some (.istore 5, 2, 0, 0, 0) := rfl
theorem f12_21 : amFetch 12 21 = some (.iconst 0, 1, 0, 0, 0) := rfl
theorem f12_22 : amFetch 12 22 = some (.istore 6, 2, 0, 0, 0) := rfl
theorem f12_24 : amFetch 12 24 = some (.iload 6, 2, 0, 0, 0) := rfl
theorem f12_26 : amFetch 12 26 = some (.sipush 256, 3, 0, 0, 0) := rfl
theorem f12_29 : amFetch 12 29 = some (.if_icmp .ge 51, 3, 0, 0, 0) := rfl
theorem f12_32 : amFetch 12 32 = some (.iload 4, 2, 0, 0, 0) := rfl
theorem f12_34 : amFetch 12 34 = some (.iconst (-1), 1, 0, 0, 0) := rfl
theorem f12_35 : amFetch 12 35 = some (.if_icmp .eq 45, 3, 0, 0, 0) := rfl
theorem f12_38 : amFetch 12 38 = some (.iload 5, 2, 0, 0, 0) := rfl
theorem f12_40 : amFetch 12 40 = some (.aload_n 1, 1, 0, 0, 0) := rfl
theorem f12_41 : amFetch 12 41 = some (.getfield 55, 3, 2, 0, 0) := rfl
theorem f12_44 : amFetch 12 44 = some (.iload 4, 2, 0, 0, 0) := rfl
theorem f12_46 : amFetch 12 46 = some (.iaload, 1, 0, 0, 0) := rfl
theorem f12_47 : amFetch 12 47 = some (.iload_n 3, 1, 0, 0, 0) := rfl
theorem f12_48 : amFetch 12 48 = some (.if_icmp .ne 13, 3, 0, 0, 0) := rfl
theorem f12_51 : amFetch 12 51 = some (.aload_n 1, 1, 0, 0, 0) := rfl
theorem f12_52 : amFetch 12 52 = some (.getfield 58, 3, 2, 1, 0) := rfl
theorem f12_55 : amFetch 12 55 = some (.iload 4, 2, 0, 0, 0) := rfl
theorem f12_57 : amFetch 12 57 = some (.iaload, 1, 0, 0, 0) := rfl
theorem f12_58 : amFetch 12 58 = some (.goto 4, 3, 0, 0, 0) := rfl
theorem f12_61 : amFetch 12 61 = some (.iconst 0, 1, 0, 0, 0) := rfl
theorem f12_62 : amFetch 12 62 = some (.iadd, 1, 0, 0, 0) := rfl
theorem f12_63 : amFetch 12 63 = some (.istore 5, 2, 0, 0, 0) := rfl
theorem f12_65 : amFetch 12 65 = some (.aload_n 0, 1, 0, 0, 0) := rfl
theorem f12_66 : amFetch 12 66 = some (.getfield 15, 3, 1, 1, 0) := rfl
theorem f12_69 : amFetch 12 69 = some (.iload 4, 2, 0, 0, 0) := rfl
theorem f12_71 : amFetch 12 71 = some (.iaload, 1, 0, 0, 0) := rfl
theorem f12_72 : amFetch 12 72 = some (.istore 4, 2, 0, 0, 0) := rfl
theorem f12_74 : amFetch 12 74 = some (.iinc 6 1, 3, 0, 0, 0) := rfl
theorem f12_77 : amFetch 12 77 = some (.goto (-53), 3, 0, 0, 0) := rfl
theorem f12_80 : amFetch 12 80 = some (.iload 5, 2, 0, 0, 0) := rfl
theorem f12_82 : amFetch 12 82 = some (.ireturn, 1, 0, 0, 0) := rfl
theorem ow12 : amOwnL 12 = some (1, 7) := rfl
-- X2_init
theorem f13_0 : amFetch 13 0 = some (.aload_n 0, 1, 0, 0, 0) := rfl
theorem f13_1 : amFetch 13 1 = some (.invokespecial 3, 3, 6, 0, 0) := rfl
theorem f13_4 : amFetch 13 4 = some (.aload_n 0, 1, 0, 0, 0) := rfl
theorem f13_5 : amFetch 13 5 = some (.sipush 256, 3, 0, 0, 0) := rfl
theorem f13_8 : amFetch 13 8 = some (.newarray .int, 2, 0, 0, 0) := rfl
theorem f13_10 : amFetch 13 10 = some (.putfield 9, 3, 2, 0, 0) := rfl
theorem f13_13 : amFetch 13 13 = some (.aload_n 0, 1, 0, 0, 0) := rfl
theorem f13_14 : amFetch 13 14 = some (.sipush 256, 3, 0, 0, 0) := rfl
theorem f13_17 : amFetch 13 17 = some (.newarray .int, 2, 0, 0, 0) := rfl
theorem f13_19 : amFetch 13 19 = some (.putfield 15, 3, 2, 1, 0) := rfl
theorem f13_22 : amFetch 13 22 = some (.aload_n 0, 1, 0, 0, 0) := rfl
theorem f13_23 : amFetch 13 23 = some (.sipush 256, 3, 0, 0, 0) := rfl
theorem f13_26 : amFetch 13 26 = some (.newarray .boolean, 2, 0, 0, 0) := rfl
theorem f13_28 : amFetch 13 28 = some (.putfield 18, 3, 2, 2, 0) := rfl
theorem f13_31 : amFetch 13 31 = some (.aload_n 0, 1, 0, 0, 0) := rfl
theorem f13_32 : amFetch 13 32 = some (.sipush 256, 3, 0, 0, 0) := rfl
theorem f13_35 : amFetch 13 35 = some (.newarray .boolean, 2, 0, 0, 0) := rfl
theorem f13_37 : amFetch 13 37 = some (.putfield 22, 3, 2, 3, 0) := rfl
theorem f13_40 : amFetch 13 40 = some (.aload_n 0, 1, 0, 0, 0) := rfl
theorem f13_41 : amFetch 13 41 = some (.sipush 256, 3, 0, 0, 0) := rfl
theorem f13_44 : amFetch 13 44 = some (.newarray .boolean, 2, 0, 0, 0) := rfl
theorem f13_46 : amFetch 13 46 = some (.putfield 25, 3, 2, 4, 0) := rfl
theorem f13_49 : amFetch 13 49 = some (.aload_n 0, 1, 0, 0, 0) := rfl
theorem f13_50 : amFetch 13 50 = some (.iconst 3, 1, 0, 0, 0) := rfl
theorem f13_51 : amFetch 13 51 = some (.putfield 28, 3, 2, 5, 0) := rfl
theorem f13_54 : amFetch 13 54 = some (.return_, 1, 0, 0, 0) := rfl
theorem ow13 : amOwnL 13 = some (2, 1) := rfl
-- X2_allSlots
theorem f14_0 : amFetch 14 0 = some (.iconst 1, 1, 0, 0, 0) := rfl
theorem f14_1 : amFetch 14 1 = some (.aload_n 0, 1, 0, 0, 0) := rfl
theorem f14_2 : amFetch 14 2 = some (.getfield 28, 3, 2, 5, 0) := rfl
theorem f14_5 : amFetch 14 5 = some (.ishl, 1, 0, 0, 0) := rfl
theorem f14_6 : amFetch 14 6 = some (.ireturn, 1, 0, 0, 0) := rfl
theorem ow14 : amOwnL 14 = some (2, 1) := rfl
-- X2_isEmpty
theorem f15_0 : amFetch 15 0 = some (.aload_n 0, 1, 0, 0, 0) := rfl
theorem f15_1 : amFetch 15 1 = some (.getfield 15, 3, 2, 1, 0) := rfl
theorem f15_4 : amFetch 15 4 = some (.iload_n 1, 1, 0, 0, 0) := rfl
theorem f15_5 : amFetch 15 5 = some (.iaload, 1, 0, 0, 0) := rfl
theorem f15_6 : amFetch 15 6 = some (.ifCond .ne 7, 3, 0, 0, 0) := rfl
theorem f15_9 : amFetch 15 9 = some (.iconst 1, 1, 0, 0, 0) := rfl
theorem f15_10 : amFetch 15 10 = some (.goto 4, 3, 0, 0, 0) := rfl
theorem f15_13 : amFetch 15 13 = some (.iconst 0, 1, 0, 0, 0) := rfl
theorem f15_14 : amFetch 15 14 = some (.ireturn, 1, 0, 0, 0) := rfl
theorem ow15 : amOwnL 15 = some (2, 2) := rfl
-- X2_wrap
theorem f16_0 : amFetch 16 0 = some (.iload_n 1, 1, 0, 0, 0) := rfl
theorem f16_1 : amFetch 16 1 = some (.aload_n 0, 1, 0, 0, 0) := rfl
theorem f16_2 : amFetch 16 2 = some (.invokevirtual 32, 3, 0, 14, 0) := rfl
theorem f16_5 : amFetch 16 5 = some (.iconst 1, 1, 0, 0, 0) := rfl
theorem f16_6 : amFetch 16 6 = some (.isub, 1, 0, 0, 0) := rfl
theorem f16_7 : amFetch 16 7 = some (.iand, 1, 0, 0, 0) := rfl
theorem f16_8 : amFetch 16 8 = some (.ireturn, 1, 0, 0, 0) := rfl
theorem ow16 : amOwnL 16 = some (2, 2) := rfl
-- X2_quotientOf
theorem f17_0 : amFetch 17 0 = some (.iload_n 1, 1, 0, 0, 0) := rfl
theorem f17_1 : amFetch 17 1 = some (.bipush 12, 2, 0, 0, 0) := rfl
theorem f17_3 : amFetch 17 3 = some (.aload_n 0, 1, 0, 0, 0) := rfl
theorem f17_4 : amFetch 17 4 = some (.getfield 28, 3, 2, 5, 0) := rfl
theorem f17_7 : amFetch 17 7 = some (.isub, 1, 0, 0, 0) := rfl
theorem f17_8 : amFetch 17 8 = some (.ishr, 1, 0, 0, 0) := rfl
theorem f17_9 : amFetch 17 9 = some (.ireturn, 1, 0, 0, 0) := rfl
theorem ow17 : amOwnL 17 = some (2, 2) := rfl
-- X2_remainderOf
theorem f18_0 : amFetch 18 0 = some (.iload_n 1, 1, 0, 0, 0) := rfl
theorem f18_1 : amFetch 18 1 = some (.iconst 1, 1, 0, 0, 0) := rfl
theorem f18_2 : amFetch 18 2 = some (.bipush 12, 2, 0, 0, 0) := rfl
theorem f18_4 : amFetch 18 4 = some (.aload_n 0, 1, 0, 0, 0) := rfl
theorem f18_5 : amFetch 18 5 = some (.getfield 28, 3, 2, 5, 0) := rfl
theorem f18_8 : amFetch 18 8 = some (.isub, 1, 0, 0, 0) := rfl
theorem f18_9 : amFetch 18 9 = some (.ishl, 1, 0, 0, 0) := rfl
theorem f18_10 : amFetch 18 10 = some (.iconst 1, 1, 0, 0, 0) := rfl
theorem f18_11 : amFetch 18 11 = some (.isub, 1, 0, 0, 0) := rfl
theorem f18_12 : amFetch 18 12 = some (.iand, 1, 0, 0, 0) := rfl
theorem f18_13 : amFetch 18 13 = some (.ireturn, 1, 0, 0, 0) := rfl
theorem ow18 : amOwnL 18 = some (2, 2) := rfl
-- X2_fingerprintOf
theorem f19_0 : amFetch 19 0 = some (.iload_n 1, 1, 0, 0, 0) := rfl
theorem f19_1 : amFetch 19 1 = some (.bipush 12, 2, 0, 0, 0) := rfl
theorem f19_3 : amFetch 19 3 = some (.aload_n 0, 1, 0, 0, 0) := rfl
theorem f19_4 : amFetch 19 4 = some (.getfield 28, 3, 2, 5, 0) := rfl
theorem f19_7 : amFetch 19 7 = some (.isub, 1, 0, 0, 0) := rfl
theorem f19_8 : amFetch 19 8 = some (.ishl, 1, 0, 0, 0) := rfl
theorem f19_9 : amFetch 19 9 = some (.iload_n 2, 1, 0, 0, 0) := rfl
theorem f19_10 : amFetch 19 10 = some (.ior, 1, 0, 0, 0) := rfl
theorem f19_11 : amFetch 19 11 = some (.ireturn, 1, 0, 0, 0) := rfl
theorem ow19 : amOwnL 19 = some (2, 3) := rfl
-- X2_usedSlots
theorem f20_0 : amFetch 20 0 = some (.iconst 0, 1, 0, 0, 0) := rfl
theorem f20_1 : amFetch 20 1 = some (.istore_n 1, 1, 0, 0, 0) := rfl
theorem f20_2 : amFetch 20 2 = some (.iconst 0, 1, 0, 0, 0) := rfl
theorem f20_3 : amFetch 20 3 = some (.istore_n 2, 1, 0, 0, 0) := rfl
theorem f20_4 : amFetch 20 4 = some (.iload_n 2, 1, 0, 0, 0) := rfl
theorem f20_5 : amFetch 20 5 = some (.aload_n 0, 1, 0, 0, 0) := rfl
theorem f20_6 : amFetch 20 6 = some (.invokevirtual 32, 3, 0, 14, 0) := rfl
theorem f20_9 : amFetch 20 9 = some (.if_icmp .ge 25, 3, 0, 0, 0) := rfl
theorem f20_12 : amFetch 20 12 = some (.iload_n 1, 1, 0, 0, 0) := rfl
theorem f20_13 : amFetch 20 13 = some (.aload_n 0, 1, 0, 0, 0) := rfl
theorem f20_14 : amFetch 20 14 = some (.iload_n 2, 1, 0, 0, 0) := rfl
theorem f20_15 : amFetch 20 15 = some (.invokevirtual 36, 3, 0, 15, 1) := rfl
theorem f20_18 : amFetch 20 18 = some (.ifCond .eq 7, 3, 0, 0, 0) := rfl
theorem f20_21 : amFetch 20 21 = some (.iconst 0, 1, 0, 0, 0) := rfl
theorem f20_22 : amFetch 20 22 = some (.goto 4, 3, 0, 0, 0) := rfl
theorem f20_25 : amFetch 20 25 = some (.iconst 1, 1, 0, 0, 0) := rfl
theorem f20_26 : amFetch 20 26 = some (.iadd, 1, 0, 0, 0) := rfl
theorem f20_27 : amFetch 20 27 = some (.istore_n 1, 1, 0, 0, 0) := rfl
theorem f20_28 : amFetch 20 28 = some (.iinc 2 1, 3, 0, 0, 0) := rfl
theorem f20_31 : amFetch 20 31 = some (.goto (-27), 3, 0, 0, 0) := rfl
theorem f20_34 : amFetch 20 34 = some (.iload_n 1, 1, 0, 0, 0) := rfl
theorem f20_35 : amFetch 20 35 = some (.ireturn, 1, 0, 0, 0) := rfl
theorem ow20 : amOwnL 20 = some (2, 3) := rfl
-- X2_sumOfCounters
theorem f21_0 : amFetch 21 0 = some (.iconst 0, 1, 0, 0, 0) := rfl
theorem f21_1 : amFetch 21 1 = some (.istore_n 1, 1, 0, 0, 0) := rfl
theorem f21_2 : amFetch 21 2 = some (.iconst 0, 1, 0, 0, 0) := rfl
theorem f21_3 : amFetch 21 3 = some (.istore_n 2, 1, 0, 0, 0) := rfl
theorem f21_4 : amFetch 21 4 = some (.iload_n 2, 1, 0, 0, 0) := rfl
theorem f21_5 : amFetch 21 5 = some (.aload_n 0, 1, 0, 0, 0) := rfl
theorem f21_6 : amFetch 21 6 = some (.invokevirtual 32, 3, 0, 14, 0) := rfl
theorem f21_9 : amFetch 21 9 = some (.if_icmp .ge 18, 3, 0, 0, 0) := rfl
theorem f21_12 : amFetch 21 12 = some (.iload_n 1, 1, 0, 0, 0) := rfl
theorem f21_13 : amFetch 21 13 = some (.aload_n 0, 1, 0, 0, 0) := rfl
theorem f21_14 : amFetch 21 14 = some (.getfield 15, 3, 2, 1, 0) := rfl
theorem f21_17 : amFetch 21 17 = some (.iload_n 2, 1, 0, 0, 0) := rfl
theorem f21_18 : amFetch 21 18 = some (.iaload, 1, 0, 0, 0) := rfl
theorem f21_19 : amFetch 21 19 = some (.iadd, 1, 0, 0, 0) := rfl
theorem f21_20 : amFetch 21 20 = some (.istore_n 1, 1, 0, 0, 0) := rfl
theorem f21_21 : amFetch 21 21 = some (.iinc 2 1, 3, 0, 0, 0) := rfl
theorem f21_24 : amFetch 21 24 = some (.goto (-20), 3, 0, 0, 0) := rfl
theorem f21_27 : amFetch 21 27 = some (.iload_n 1, 1, 0, 0, 0) := rfl
theorem f21_28 : amFetch 21 28 = some (.ireturn, 1, 0, 0, 0) := rfl
theorem ow21 : amOwnL 21 = some (2, 3) := rfl
-- X2_someEmptySlot
theorem f22_0 : amFetch 22 0 = some (.iconst 0, 1, 0, 0, 0) := rfl
theorem f22_1 : amFetch 22 1 = some (.istore_n 1, 1, 0, 0, 0) := rfl
theorem f22_2 : amFetch 22 2 = some (.iload_n 1, 1, 0, 0, 0) := rfl
theorem f22_3 : amFetch 22 3 = some (.aload_n 0, 1, 0, 0, 0) := rfl
theorem f22_4 : amFetch 22 4 = some (.invokevirtual 32, 3, 0, 14, 0) := rfl
theorem f22_7 : amFetch 22 7 = some (.iconst 1, 1, 0, 0, 0) := rfl
theorem f22_8 : amFetch 22 8 = some (.isub, 1, 0, 0, 0) := rfl
theorem f22_9 : amFetch 22 9 = some (.if_icmp .ge 17, 3, 0, 0, 0) := rfl
theorem f22_12 : amFetch 22 12 = some (.aload_n 0, 1, 0, 0, 0) := rfl
theorem f22_13 : amFetch 22 13 = some (.iload_n 1, 1, 0, 0, 0) := rfl
theorem f22_14 : amFetch 22 14 = some (.invokevirtual 36, 3, 0, 15, 1) := rfl
theorem f22_17 : amFetch 22 17 = some (.ifCond .ne 9, 3, 0, 0, 0) := rfl
theorem f22_20 : amFetch 22 20 = some (.iinc 1 1, 3, 0, 0, 0) := rfl
theorem f22_23 : amFetch 22 23 = some (.goto (-21), 3, 0, 0, 0) := rfl
theorem f22_26 : amFetch 22 26 = some (.iload_n 1, 1, 0, 0, 0) := rfl
theorem f22_27 : amFetch 22 27 = some (.ireturn, 1, 0, 0, 0) := rfl
theorem ow22 : amOwnL 22 = some (2, 2) := rfl
-- X2_occupiedAfter
theorem f23_0 : amFetch 23 0 = some (.iconst 1, 1, 0, 0, 0) := rfl
theorem f23_1 : amFetch 23 1 = some (.istore_n 2, 1, 0, 0, 0) := rfl
theorem f23_2 : amFetch 23 2 = some (.iload_n 2, 1, 0, 0, 0) := rfl
theorem f23_3 : amFetch 23 3 = some (.aload_n 0, 1, 0, 0, 0) := rfl
theorem f23_4 : amFetch 23 4 = some (.invokevirtual 32, 3, 0, 14, 0) := rfl
theorem f23_7 : amFetch 23 7 = some (.if_icmp .ge 28, 3, 0, 0, 0) := rfl
theorem f23_10 : amFetch 23 10 = some (.aload_n 0, 1, 0, 0, 0) := rfl
theorem f23_11 : amFetch 23 11 = some (.iload_n 1, 1, 0, 0, 0) := rfl
theorem f23_12 : amFetch 23 12 = some (.iload_n 2, 1, 0, 0, 0) := rfl
theorem f23_13 : amFetch 23 13 = some (.iadd, 1, 0, 0, 0) := rfl
theorem f23_14 : amFetch 23 14 = some (.invokevirtual 40, 3, 0, 16, 1) := rfl
theorem f23_17 : amFetch 23 17 = some (.istore_n 3, 1, 0, 0, 0) := rfl
theorem f23_18 : amFetch 23 18 = some (.aload_n 0, 1, 0, 0, 0) := rfl
theorem f23_19 : amFetch 23 19 = some (.getfield 18, 3, 2, 2, 0) := rfl
theorem f23_22 : amFetch 23 22 = some (.iload_n 3, 1, 0, 0, 0) := rfl
theorem f23_23 : amFetch 23 23 = some (.baload, 1, 0, 0, 0) := rfl
theorem f23_24 : amFetch 23 24 = some (.ifCond .eq 5, 3, 0, 0, 0) := rfl
theorem f23_27 : amFetch 23 27 = some (.iload_n 3, 1, 0, 0, 0) := rfl
theorem f23_28 : amFetch 23 28 = some (.ireturn, 1, 0, 0, 0) := rfl
theorem f23_29 : amFetch 23 29 = some (.iinc 2 1, 3, 0, 0, 0) := rfl
theorem f23_32 : amFetch 23 32 = some (.goto (-30), 3, 0, 0, 0) := rfl
theorem f23_35 : amFetch 23 35 = some (.iload_n 1, 1, 0, 0, 0) := rfl
theorem f23_36 : amFetch 23 36 = some (.ireturn, 1, 0, 0, 0) := rfl
theorem ow23 : amOwnL 23 = some (2, 4) := rfl
-- X2_firstOfCluster
theorem f24_0 : amFetch 24 0 = some (.iload_n 1, 1, 0, 0, 0) := rfl
theorem f24_1 : amFetch 24 1 = some (.istore_n 2, 1, 0, 0, 0) := rfl
theorem f24_2 : amFetch 24 2 = some (.iconst 0, 1, 0, 0, 0) := rfl
theorem f24_3 : amFetch 24 3 = some (.istore_n 3, 1, 0, 0, 0) := rfl
theorem f24_4 : amFetch 24 4 = some (.iload_n 3, 1, 0, 0, 0) := rfl
theorem f24_5 : amFetch 24 5 = some (.aload_n 0, 1, 0, 0, 0) := rfl
theorem f24_6 : amFetch 24 6 = some (.invokevirtual 32, 3, 0, 14, 0) := rfl
theorem f24_9 : amFetch 24 9 = some (.if_icmp .ge 26, 3, 0, 0, 0) := rfl
theorem f24_12 : amFetch 24 12 = some (.aload_n 0, 1, 0, 0, 0) := rfl
theorem f24_13 : amFetch 24 13 = some (.getfield 25, 3, 2, 4, 0) := rfl
theorem f24_16 : amFetch 24 16 = some (.iload_n 2, 1, 0, 0, 0) := rfl
theorem f24_17 : amFetch 24 17 = some (.baload, 1, 0, 0, 0) := rfl
theorem f24_18 : amFetch 24 18 = some (.ifCond .eq 17, 3, 0, 0, 0) := rfl
theorem f24_21 : amFetch 24 21 = some (.aload_n 0, 1, 0, 0, 0) := rfl
theorem f24_22 : amFetch 24 22 = some (.iload_n 2, 1, 0, 0, 0) := rfl
theorem f24_23 : amFetch 24 23 = some (.iconst 1, 1, 0, 0, 0) := rfl
theorem f24_24 : amFetch 24 24 = some (.isub, 1, 0, 0, 0) := rfl
theorem f24_25 : amFetch 24 25 = some (.invokevirtual 40, 3, 0, 16, 1) := rfl
theorem f24_28 : amFetch 24 28 = some (.istore_n 2, 1, 0, 0, 0) := rfl
theorem f24_29 : amFetch 24 29 = some (.iinc 3 1, 3, 0, 0, 0) := rfl
theorem f24_32 : amFetch 24 32 = some (.goto (-28), 3, 0, 0, 0) := rfl
theorem f24_35 : amFetch 24 35 = some (.iload_n 2, 1, 0, 0, 0) := rfl
theorem f24_36 : amFetch 24 36 = some (.ireturn, 1, 0, 0, 0) := rfl
theorem ow24 : amOwnL 24 = some (2, 4) := rfl
-- X2_firstOfRun
theorem f25_0 : amFetch 25 0 = some (.aload_n 0, 1, 0, 0, 0) := rfl
theorem f25_1 : amFetch 25 1 = some (.getfield 18, 3, 2, 2, 0) := rfl
theorem f25_4 : amFetch 25 4 = some (.iload_n 1, 1, 0, 0, 0) := rfl
theorem f25_5 : amFetch 25 5 = some (.baload, 1, 0, 0, 0) := rfl
theorem f25_6 : amFetch 25 6 = some (.ifCond .ne 5, 3, 0, 0, 0) := rfl
theorem f25_9 : amFetch 25 9 = some (.iconst (-1), 1, 0, 0, 0) := rfl
theorem f25_10 : amFetch 25 10 = some (.ireturn, 1, 0, 0, 0) := rfl
theorem f25_11 : amFetch 25 11 = some (.aload_n 0, 1, 0, 0, 0) := rfl
theorem f25_12 : amFetch 25 12 = some (.iload_n 1, 1, 0, 0, 0) := rfl
theorem f25_13 : amFetch 25 13 = some (.invokevirtual 44, 3, 0, 24, 1) := rfl
theorem f25_16 : amFetch 25 16 = some (.istore_n 2, 1, 0, 0, 0) := rfl
theorem f25_17 : amFetch 25 17 = some (.iload_n 2, 1, 0, 0, 0) := rfl
theorem f25_18 : amFetch 25 18 = some (.istore_n 3, 1, 0, 0, 0) := rfl
theorem f25_19 : amFetch 25 19 = some (.iconst 0, 1, 0, 0, 0) := rfl
theorem f25_20 : amFetch 25 20 = some (.istore 4, 2, 0, 0, 0) := rfl
theorem f25_22 : amFetch 25 22 = some (.iload 4, 2, 0, 0, 0) := rfl
theorem f25_24 : amFetch 25 24 = some (.aload_n 0, 1, 0, 0, 0) := rfl
theorem f25_25 : amFetch 25 25 = some (.invokevirtual 32, 3, 0, 14, 0) := rfl
theorem f25_28 : amFetch 25 28 = some (.if_icmp .ge 32, 3, 0, 0, 0) := rfl
theorem f25_31 : amFetch 25 31 = some (.iload_n 3, 1, 0, 0, 0) := rfl
theorem f25_32 : amFetch 25 32 = some (.iload_n 1, 1, 0, 0, 0) := rfl
theorem f25_33 : amFetch 25 33 = some (.if_icmp .eq 27, 3, 0, 0, 0) := rfl
theorem f25_36 : amFetch 25 36 = some (.aload_n 0, 1, 0, 0, 0) := rfl
theorem f25_37 : amFetch 25 37 = some (.iload_n 2, 1, 0, 0, 0) := rfl
theorem f25_38 : amFetch 25 38 = some (.aload_n 0, 1, 0, 0, 0) := rfl
theorem f25_39 : amFetch 25 39 = some (.iload_n 2, 1, 0, 0, 0) := rfl
theorem f25_40 : amFetch 25 40 = some (.invokevirtual 47, 3, 0, 26, 1) := rfl
theorem f25_43 : amFetch 25 43 = some (.iadd, 1, 0, 0, 0) := rfl
theorem f25_44 : amFetch 25 44 = some (.invokevirtual 40, 3, 0, 16, 1) := rfl
theorem f25_47 : amFetch 25 47 = some (.istore_n 2, 1, 0, 0, 0) := rfl
theorem f25_48 : amFetch 25 48 = some (.aload_n 0, 1, 0, 0, 0) := rfl
theorem f25_49 : amFetch 25 49 = some (.iload_n 3, 1, 0, 0, 0) := rfl
theorem f25_50 : amFetch 25 50 = some (.invokevirtual 50, 3, 0, 23, 1) := rfl
theorem f25_53 : amFetch 25 53 = some (.istore_n 3, 1, 0, 0, 0) := rfl
theorem f25_54 : amFetch 25 54 = some (.iinc 4 1, 3, 0, 0, 0) := rfl
theorem f25_57 : amFetch 25 57 = some (.goto (-35), 3, 0, 0, 0) := rfl
theorem f25_60 : amFetch 25 60 = some (.iload_n 2, 1, 0, 0, 0) := rfl
theorem f25_61 : amFetch 25 61 = some (.ireturn, 1, 0, 0, 0) := rfl
theorem ow25 : amOwnL 25 = some (2, 5) := rfl
-- X2_lengthOfRun
theorem f26_0 : amFetch 26 0 = some (.iconst 1, 1, 0, 0, 0) := rfl
theorem f26_1 : amFetch 26 1 = some (.istore_n 2, 1, 0, 0, 0) := rfl
theorem f26_2 : amFetch 26 2 = some (.iload_n 2, 1, 0, 0, 0) := rfl
theorem f26_3 : amFetch 26 3 = some (.aload_n 0, 1, 0, 0, 0) := rfl
theorem f26_4 : amFetch 26 4 = some (.invokevirtual 32, 3, 0, 14, 0) := rfl
theorem f26_7 : amFetch 26 7 = some (.if_icmp .ge 24, 3, 0, 0, 0) := rfl
theorem f26_10 : amFetch 26 10 = some (.aload_n 0, 1, 0, 0, 0) := rfl
theorem f26_11 : amFetch 26 11 = some (.getfield 22, 3, 2, 3, 0) := rfl
theorem f26_14 : amFetch 26 14 = some (.aload_n 0, 1, 0, 0, 0) := rfl
theorem f26_15 : amFetch 26 15 = some (.iload_n 1, 1, 0, 0, 0) := rfl
theorem f26_16 : amFetch 26 16 = some (.iload_n 2, 1, 0, 0, 0) := rfl
theorem f26_17 : amFetch 26 17 = some (.iadd, 1, 0, 0, 0) := rfl
theorem f26_18 : amFetch 26 18 = some (.invokevirtual 40, 3, 0, 16, 1) := rfl
theorem f26_21 : amFetch 26 21 = some (.baload, 1, 0, 0, 0) := rfl
theorem f26_22 : amFetch 26 22 = some (.ifCond .eq 9, 3, 0, 0, 0) := rfl
theorem f26_25 : amFetch 26 25 = some (.iinc 2 1, 3, 0, 0, 0) := rfl
theorem f26_28 : amFetch 26 28 = some (.goto (-26), 3, 0, 0, 0) := rfl
theorem f26_31 : amFetch 26 31 = some (.iload_n 2, 1, 0, 0, 0) := rfl
theorem f26_32 : amFetch 26 32 = some (.ireturn, 1, 0, 0, 0) := rfl
theorem ow26 : amOwnL 26 = some (2, 3) := rfl
-- X2_quotientOfEntry
theorem f27_0 : amFetch 27 0 = some (.aload_n 0, 1, 0, 0, 0) := rfl
theorem f27_1 : amFetch 27 1 = some (.iload_n 1, 1, 0, 0, 0) := rfl
theorem f27_2 : amFetch 27 2 = some (.invokevirtual 44, 3, 0, 24, 1) := rfl
theorem f27_5 : amFetch 27 5 = some (.istore_n 2, 1, 0, 0, 0) := rfl
theorem f27_6 : amFetch 27 6 = some (.iload_n 2, 1, 0, 0, 0) := rfl
theorem f27_7 : amFetch 27 7 = some (.istore_n 3, 1, 0, 0, 0) := rfl
theorem f27_8 : amFetch 27 8 = some (.iconst 0, 1, 0, 0, 0) := rfl
theorem f27_9 : amFetch 27 9 = some (.istore 4, 2, 0, 0, 0) := rfl
theorem f27_11 : amFetch 27 11 = some (.iload 4, 2, 0, 0, 0) := rfl
theorem f27_13 : amFetch 27 13 = some (.aload_n 0, 1, 0, 0, 0) := rfl
theorem f27_14 : amFetch 27 14 = some (.invokevirtual 32, 3, 0, 14, 0) := rfl
theorem f27_17 : amFetch 27 17 = some (.if_icmp .ge 37, 3, 0, 0, 0) := rfl
theorem f27_20 : amFetch 27 20 = some (.iload_n 2, 1, 0, 0, 0) := rfl
theorem f27_21 : amFetch 27 21 = some (.iload_n 1, 1, 0, 0, 0) := rfl
theorem f27_22 : amFetch 27 22 = some (.if_icmp .eq 32, 3, 0, 0, 0) := rfl
theorem f27_25 : amFetch 27 25 = some (.aload_n 0, 1, 0, 0, 0) := rfl
theorem f27_26 : amFetch 27 26 = some (.iload_n 2, 1, 0, 0, 0) := rfl
theorem f27_27 : amFetch 27 27 = some (.iconst 1, 1, 0, 0, 0) := rfl
theorem f27_28 : amFetch 27 28 = some (.iadd, 1, 0, 0, 0) := rfl
theorem f27_29 : amFetch 27 29 = some (.invokevirtual 40, 3, 0, 16, 1) := rfl
theorem f27_32 : amFetch 27 32 = some (.istore_n 2, 1, 0, 0, 0) := rfl
theorem f27_33 : amFetch 27 33 = some (.aload_n 0, 1, 0, 0, 0) := rfl
theorem f27_34 : amFetch 27 34 = some (.getfield 22, 3, 2, 3, 0) := rfl
theorem f27_37 : amFetch 27 37 = some (.iload_n 2, 1, 0, 0, 0) := rfl
theorem f27_38 : amFetch 27 38 = some (.baload, 1, 0, 0, 0) := rfl
theorem f27_39 : amFetch 27 39 = some (.ifCond .ne 9, 3, 0, 0, 0) := rfl
theorem f27_42 : amFetch 27 42 = some (.aload_n 0, 1, 0, 0, 0) := rfl
theorem f27_43 : amFetch 27 43 = some (.iload_n 3, 1, 0, 0, 0) := rfl
theorem f27_44 : amFetch 27 44 = some (.invokevirtual 50, 3, 0, 23, 1) := rfl
theorem f27_47 : amFetch 27 47 = some (.istore_n 3, 1, 0, 0, 0) := rfl
theorem f27_48 : amFetch 27 48 = some (.iinc 4 1, 3, 0, 0, 0) := rfl
theorem f27_51 : amFetch 27 51 = some (.goto (-40), 3, 0, 0, 0) := rfl
theorem f27_54 : amFetch 27 54 = some (.iload_n 3, 1, 0, 0, 0) := rfl
theorem f27_55 : amFetch 27 55 = some (.ireturn, 1, 0, 0, 0) := rfl
theorem ow27 : amOwnL 27 = some (2, 5) := rfl
-- X2_countInRun
theorem f28_0 : amFetch 28 0 = some (.aload_n 0, 1, 0, 0, 0) := rfl
theorem f28_1 : amFetch 28 1 = some (.aload_n 0, 1, 0, 0, 0) := rfl
theorem f28_2 : amFetch 28 2 = some (.iload_n 1, 1, 0, 0, 0) := rfl
theorem f28_3 : amFetch 28 3 = some (.invokevirtual 53, 3, 0, 17, 1) := rfl
theorem f28_6 : amFetch 28 6 = some (.invokevirtual 56, 3, 0, 25, 1) := rfl
theorem f28_9 : amFetch 28 9 = some (.istore_n 2, 1, 0, 0, 0) := rfl
theorem f28_10 : amFetch 28 10 = some (.iload_n 2, 1, 0, 0, 0) := rfl
theorem f28_11 : amFetch 28 11 = some (.iconst (-1), 1, 0, 0, 0) := rfl
theorem f28_12 : amFetch 28 12 = some (.if_icmp .ne 5, 3, 0, 0, 0) := rfl
theorem f28_15 : amFetch 28 15 = some (.iconst 0, 1, 0, 0, 0) := rfl
theorem f28_16 : amFetch 28 16 = some (.ireturn, 1, 0, 0, 0) := rfl
theorem f28_17 : amFetch 28 17 = some (.aload_n 0, 1, 0, 0, 0) := rfl
theorem f28_18 : amFetch 28 18 = some (.iload_n 1, 1, 0, 0, 0) := rfl
theorem f28_19 : amFetch 28 19 = some (.invokevirtual 59, 3, 0, 18, 1) := rfl
theorem f28_22 : amFetch 28 22 = some (.istore_n 3, 1, 0, 0, 0) := rfl
theorem f28_23 : amFetch 28 23 = some (.aload_n 0, 1, 0, 0, 0) := rfl
theorem f28_24 : amFetch 28 24 = some (.iload_n 2, 1, 0, 0, 0) := rfl
theorem f28_25 : amFetch 28 25 = some (.invokevirtual 47, 3, 0, 26, 1) := rfl
theorem f28_28 : amFetch 28 28 = some (.istore 4, 2, 0, 0, 0) := rfl
theorem f28_30 : amFetch 28 30 = some (.iconst 0, 1, 0, 0, 0) := rfl
theorem f28_31 : amFetch 28 31 = some (.istore 5, 2, 0, 0, 0) := rfl
theorem f28_33 : amFetch 28 33 = some (.iconst 0, 1, 0, 0, 0) := rfl
theorem f28_34 : amFetch 28 34 = some (.istore 6, 2, 0, 0, 0) := rfl
theorem f28_36 : amFetch 28 36 = some (.iload 6, 2, 0, 0, 0) := rfl
theorem f28_38 : amFetch 28 38 = some (.iload 4, 2, 0, 0, 0) := rfl
theorem f28_40 : amFetch 28 40 = some (.if_icmp .ge 46, 3, 0, 0, 0) := rfl
theorem f28_43 : amFetch 28 43 = some (.aload_n 0, 1, 0, 0, 0) := rfl
theorem f28_44 : amFetch 28 44 = some (.iload_n 2, 1, 0, 0, 0) := rfl
theorem f28_45 : amFetch 28 45 = some (.iload 6, 2, 0, 0, 0) := rfl
theorem f28_47 : amFetch 28 47 = some (.iadd, 1, 0, 0, 0) := rfl
theorem f28_48 : amFetch 28 48 = some (.invokevirtual 40, 3, 0, 16, 1) := rfl
theorem f28_51 : amFetch 28 51 = some (.istore 7, 2, 0, 0, 0) := rfl
theorem f28_53 : amFetch 28 53 = some (.iload 5, 2, 0, 0, 0) := rfl
theorem f28_55 : amFetch 28 55 = some (.aload_n 0, 1, 0, 0, 0) := rfl
theorem f28_56 : amFetch 28 56 = some (.getfield 9, 3, 2, 0, 0) := rfl
theorem f28_59 : amFetch 28 59 = some (.iload 7, 2, 0, 0, 0) := rfl
theorem f28_61 : amFetch 28 61 = some (.iaload, 1, 0, 0, 0) := rfl
theorem f28_62 : amFetch 28 62 = some (.iload_n 3, 1, 0, 0, 0) := rfl
theorem f28_63 : amFetch 28 63 = some (.if_icmp .ne 13, 3, 0, 0, 0) := rfl
theorem f28_66 : amFetch 28 66 = some (.aload_n 0, 1, 0, 0, 0) := rfl
theorem f28_67 : amFetch 28 67 = some (.getfield 15, 3, 2, 1, 0) := rfl
theorem f28_70 : amFetch 28 70 = some (.iload 7, 2, 0, 0, 0) := rfl
theorem f28_72 : amFetch 28 72 = some (.iaload, 1, 0, 0, 0) := rfl
theorem f28_73 : amFetch 28 73 = some (.goto 4, 3, 0, 0, 0) := rfl
theorem f28_76 : amFetch 28 76 = some (.iconst 0, 1, 0, 0, 0) := rfl
theorem f28_77 : amFetch 28 77 = some (.iadd, 1, 0, 0, 0) := rfl
theorem f28_78 : amFetch 28 78 = some (.istore 5, 2, 0, 0, 0) := rfl
theorem f28_80 : amFetch 28 80 = some (.iinc 6 1, 3, 0, 0, 0) := rfl
theorem f28_83 : amFetch 28 83 = some (.goto (-47), 3, 0, 0, 0) := rfl
theorem f28_86 : amFetch 28 86 = some (.iload 5, 2, 0, 0, 0) := rfl
theorem f28_88 : amFetch 28 88 = some (.ireturn, 1, 0, 0, 0) := rfl
theorem ow28 : amOwnL 28 = some (2, 8) := rfl
-- X2_looksFor
theorem f29_0 : amFetch 29 0 = some (.aload_n 0, 1, 0, 0, 0) := rfl
theorem f29_1 : amFetch 29 1 = some (.aload_n 0, 1, 0, 0, 0) := rfl
theorem f29_2 : amFetch 29 2 = some (.iload_n 1, 1, 0, 0, 0) := rfl
theorem f29_3 : amFetch 29 3 = some (.invokevirtual 53, 3, 0, 17, 1) := rfl
theorem f29_6 : amFetch 29 6 = some (.invokevirtual 56, 3, 0, 25, 1) := rfl
theorem f29_9 : amFetch 29 9 = some (.istore_n 2, 1, 0, 0, 0) := rfl
theorem f29_10 : amFetch 29 10 = some (.iload_n 2, 1, 0, 0, 0) := rfl
theorem f29_11 : amFetch 29 11 = some (.iconst (-1), 1, 0, 0, 0) := rfl
theorem f29_12 : amFetch 29 12 = some (.if_icmp .ne 5, 3, 0, 0, 0) := rfl
theorem f29_15 : amFetch 29 15 = some (.iconst 0, 1, 0, 0, 0) := rfl
theorem f29_16 : amFetch 29 16 = some (.ireturn, 1, 0, 0, 0) := rfl
theorem f29_17 : amFetch 29 17 = some (.aload_n 0, 1, 0, 0, 0) := rfl
theorem f29_18 : amFetch 29 18 = some (.iload_n 1, 1, 0, 0, 0) := rfl
theorem f29_19 : amFetch 29 19 = some (.invokevirtual 59, 3, 0, 18, 1) := rfl
theorem f29_22 : amFetch 29 22 = some (.istore_n 3, 1, 0, 0, 0) := rfl
theorem f29_23 : amFetch 29 23 = some (.aload_n 0, 1, 0, 0, 0) := rfl
theorem f29_24 : amFetch 29 24 = some (.iload_n 2, 1, 0, 0, 0) := rfl
theorem f29_25 : amFetch 29 25 = some (.invokevirtual 47, 3, 0, 26, 1) := rfl
theorem f29_28 : amFetch 29 28 = some (.istore 4, 2, 0, 0, 0) := rfl
theorem f29_30 : amFetch 29 30 = some (.iconst 0, 1, 0, 0, 0) := rfl
theorem f29_31 : amFetch 29 31 = some (.istore 5, 2, 0, 0, 0) := rfl
theorem f29_33 : amFetch 29 33 = some (.iload 5, 2, 0, 0, 0) := rfl
theorem f29_35 : amFetch 29 35 = some (.iload 4, 2, 0, 0, 0) := rfl
theorem f29_37 : amFetch 29 37 = some (.if_icmp .ge 31, 3, 0, 0, 0) := rfl
theorem f29_40 : amFetch 29 40 = some (.aload_n 0, 1, 0, 0, 0) := rfl
theorem f29_41 : amFetch 29 41 = some (.getfield 9, 3, 2, 0, 0) := rfl
theorem f29_44 : amFetch 29 44 = some (.aload_n 0, 1, 0, 0, 0) := rfl
theorem f29_45 : amFetch 29 45 = some (.iload_n 2, 1, 0, 0, 0) := rfl
theorem f29_46 : amFetch 29 46 = some (.iload 5, 2, 0, 0, 0) := rfl
theorem f29_48 : amFetch 29 48 = some (.iadd, 1, 0, 0, 0) := rfl
theorem f29_49 : amFetch 29 49 = some (.invokevirtual 40, 3, 0, 16, 1) := rfl
theorem f29_52 : amFetch 29 52 = some (.iaload, 1, 0, 0, 0) := rfl
theorem f29_53 : amFetch 29 53 = some (.iload_n 3, 1, 0, 0, 0) := rfl
theorem f29_54 : amFetch 29 54 = some (.if_icmp .lt 8, 3, 0, 0, 0) := rfl
theorem f29_57 : amFetch 29 57 = some (.iload 5, 2, 0, 0, 0) := rfl
theorem f29_59 : amFetch 29 59 = some (.iconst 1, 1, 0, 0, 0) := rfl
theorem f29_60 : amFetch 29 60 = some (.iadd, 1, 0, 0, 0) := rfl
theorem f29_61 : amFetch 29 61 = some (.ireturn, 1, 0, 0, 0) := rfl
theorem f29_62 : amFetch 29 62 = some (.iinc 5 1, 3, 0, 0, 0) := rfl
theorem f29_65 : amFetch 29 65 = some (.goto (-32), 3, 0, 0, 0) := rfl
theorem f29_68 : amFetch 29 68 = some (.iload 4, 2, 0, 0, 0) := rfl
theorem f29_70 : amFetch 29 70 = some (.ireturn, 1, 0, 0, 0) := rfl
theorem ow29 : amOwnL 29 = some (2, 6) := rfl
-- X2_lengthOfLongestCluster
theorem f30_0 : amFetch 30 0 = some (.aload_n 0, 1, 0, 0, 0) := rfl
theorem f30_1 : amFetch 30 1 = some (.invokevirtual 62, 3, 0, 22, 0) := rfl
theorem f30_4 : amFetch 30 4 = some (.istore_n 1, 1, 0, 0, 0) := rfl
theorem f30_5 : amFetch 30 5 = some (.iconst 0, 1, 0, 0, 0) := rfl
theorem f30_6 : amFetch 30 6 = some (.istore_n 2, 1, 0, 0, 0) := rfl
theorem f30_7 : amFetch 30 7 = some (.iconst 0, 1, 0, 0, 0) := rfl
theorem f30_8 : amFetch 30 8 = some (.istore_n 3, 1, 0, 0, 0) := rfl
theorem f30_9 : amFetch 30 9 = some (.iconst 0, 1, 0, 0, 0) := rfl
theorem f30_10 : amFetch 30 10 = some (.istore 4, 2, 0, 0, 0) := rfl
theorem f30_12 : amFetch 30 12 = some (.iload 4, 2, 0, 0, 0) := rfl
theorem f30_14 : amFetch 30 14 = some (.aload_n 0, 1, 0, 0, 0) := rfl
theorem f30_15 : amFetch 30 15 = some (.invokevirtual 32, 3, 0, 14, 0) := rfl
theorem f30_18 : amFetch 30 18 = some (.if_icmp .ge 52, 3, 0, 0, 0) := rfl
theorem f30_21 : amFetch 30 21 = some (.aload_n 0, 1, 0, 0, 0) := rfl
theorem f30_22 : amFetch 30 22 = some (.iload_n 1, 1, 0, 0, 0) := rfl
theorem f30_23 : amFetch 30 23 = some (.iload 4, 2, 0, 0, 0) := rfl
theorem f30_25 : amFetch 30 25 = some (.iadd, 1, 0, 0, 0) := rfl
theorem f30_26 : amFetch 30 26 = some (.invokevirtual 40, 3, 0, 16, 1) := rfl
theorem f30_29 : amFetch 30 29 = some (.istore 5, 2, 0, 0, 0) := rfl
theorem f30_31 : amFetch 30 31 = some (.aload_n 0, 1, 0, 0, 0) := rfl
theorem f30_32 : amFetch 30 32 = some (.iload 5, 2, 0, 0, 0) := rfl
theorem f30_34 : amFetch 30 34 = some (.invokevirtual 36, 3, 0, 15, 1) := rfl
theorem f30_37 : amFetch 30 37 = some (.ifCond .ne 27, 3, 0, 0, 0) := rfl
theorem f30_40 : amFetch 30 40 = some (.aload_n 0, 1, 0, 0, 0) := rfl
theorem f30_41 : amFetch 30 41 = some (.getfield 25, 3, 2, 4, 0) := rfl
theorem f30_44 : amFetch 30 44 = some (.iload 5, 2, 0, 0, 0) := rfl
theorem f30_46 : amFetch 30 46 = some (.baload, 1, 0, 0, 0) := rfl
theorem f30_47 : amFetch 30 47 = some (.ifCond .eq 9, 3, 0, 0, 0) := rfl
theorem f30_50 : amFetch 30 50 = some (.iload_n 3, 1, 0, 0, 0) := rfl
theorem f30_51 : amFetch 30 51 = some (.iconst 1, 1, 0, 0, 0) := rfl
theorem f30_52 : amFetch 30 52 = some (.iadd, 1, 0, 0, 0) := rfl
theorem f30_53 : amFetch 30 53 = some (.goto 4, 3, 0, 0, 0) := rfl
theorem f30_56 : amFetch 30 56 = some (.iconst 1, 1, 0, 0, 0) := rfl
theorem f30_57 : amFetch 30 57 = some (.istore_n 3, 1, 0, 0, 0) := rfl
theorem f30_58 : amFetch 30 58 = some (.iload_n 2, 1, 0, 0, 0) := rfl
theorem f30_59 : amFetch 30 59 = some (.iload_n 3, 1, 0, 0, 0) := rfl
theorem f30_60 : amFetch 30 60 = some (.invokestatic 65, 3, 4, 0, 2) := rfl
theorem f30_63 : amFetch 30 63 = some (.istore_n 2, 1, 0, 0, 0) := rfl
theorem f30_64 : amFetch 30 64 = some (.iinc 4 1, 3, 0, 0, 0) := rfl
theorem f30_67 : amFetch 30 67 = some (.goto (-55), 3, 0, 0, 0) := rfl
theorem f30_70 : amFetch 30 70 = some (.iload_n 2, 1, 0, 0, 0) := rfl
theorem f30_71 : amFetch 30 71 = some (.ireturn, 1, 0, 0, 0) := rfl
theorem ow30 : amOwnL 30 = some (2, 6) := rfl
-- X2_readInto
theorem f31_0 : amFetch 31 0 = some (.aload_n 1, 1, 0, 0, 0) := rfl
theorem f31_1 : amFetch 31 1 = some (.invokevirtual 71, 3, 0, 1, 0) := rfl
theorem f31_4 : amFetch 31 4 = some (.aload_n 0, 1, 0, 0, 0) := rfl
theorem f31_5 : amFetch 31 5 = some (.invokevirtual 32, 3, 0, 14, 0) := rfl
theorem f31_8 : amFetch 31 8 = some (.iconst 1, 1, 0, 0, 0) := rfl
theorem f31_9 : amFetch 31 9 = some (.isub, 1, 0, 0, 0) := rfl
theorem f31_10 : amFetch 31 10 = some (.istore_n 2, 1, 0, 0, 0) := rfl
theorem f31_11 : amFetch 31 11 = some (.aload_n 0, 1, 0, 0, 0) := rfl
theorem f31_12 : amFetch 31 12 = some (.aload_n 0, 1, 0, 0, 0) := rfl
theorem f31_13 : amFetch 31 13 = some (.iload_n 2, 1, 0, 0, 0) := rfl
theorem f31_14 : amFetch 31 14 = some (.invokevirtual 50, 3, 0, 23, 1) := rfl
theorem f31_17 : amFetch 31 17 = some (.invokevirtual 56, 3, 0, 25, 1) := rfl
theorem f31_20 : amFetch 31 20 = some (.istore_n 3, 1, 0, 0, 0) := rfl
theorem f31_21 : amFetch 31 21 = some (.iload_n 3, 1, 0, 0, 0) := rfl
theorem f31_22 : amFetch 31 22 = some (.iconst (-1), 1, 0, 0, 0) := rfl
theorem f31_23 : amFetch 31 23 = some (.if_icmp .ne 4, 3, 0, 0, 0) := rfl
theorem f31_26 : amFetch 31 26 = some (.return_, 1, 0, 0, 0) := rfl
theorem f31_27 : amFetch 31 27 = some (.iconst 0, 1, 0, 0, 0) := rfl
theorem f31_28 : amFetch 31 28 = some (.istore 4, 2, 0, 0, 0) := rfl
theorem f31_30 : amFetch 31 30 = some (.iload 4, 2, 0, 0, 0) := rfl
theorem f31_32 : amFetch 31 32 = some (.aload_n 0, 1, 0, 0, 0) := rfl
theorem f31_33 : amFetch 31 33 = some (.invokevirtual 32, 3, 0, 14, 0) := rfl
theorem f31_36 : amFetch 31 36 = some (.if_icmp .ge 71, 3, 0, 0, 0) := rfl
theorem f31_39 : amFetch 31 39 = some (.aload_n 0, 1, 0, 0, 0) := rfl
theorem f31_40 : amFetch 31 40 = some (.iload_n 3, 1, 0, 0, 0) := rfl
theorem f31_41 : amFetch 31 41 = some (.iload 4, 2, 0, 0, 0) := rfl
theorem f31_43 : amFetch 31 43 = some (.iadd, 1, 0, 0, 0) := rfl
theorem f31_44 : amFetch 31 44 = some (.invokevirtual 40, 3, 0, 16, 1) := rfl
theorem f31_47 : amFetch 31 47 = some (.istore 5, 2, 0, 0, 0) := rfl
theorem f31_49 : amFetch 31 49 = some (.aload_n 0, 1, 0, 0, 0) := rfl
theorem f31_50 : amFetch 31 50 = some (.iload 5, 2, 0, 0, 0) := rfl
theorem f31_52 : amFetch 31 52 = some (.invokevirtual 36, 3, 0, 15, 1) := rfl
theorem f31_55 : amFetch 31 55 = some (.ifCond .ne 46, 3, 0, 0, 0) := rfl
theorem f31_58 : amFetch 31 58 = some (.aload_n 0, 1, 0, 0, 0) := rfl
theorem f31_59 : amFetch 31 59 = some (.getfield 22, 3, 2, 3, 0) := rfl
theorem f31_62 : amFetch 31 62 = some (.iload 5, 2, 0, 0, 0) := rfl
theorem f31_64 : amFetch 31 64 = some (.baload, 1, 0, 0, 0) := rfl
theorem f31_65 : amFetch 31 65 = some (.ifCond .eq 7, 3, 0, 0, 0) := rfl
theorem f31_68 : amFetch 31 68 = some (.iload_n 2, 1, 0, 0, 0) := rfl
theorem f31_69 : amFetch 31 69 = some (.goto 8, 3, 0, 0, 0) := rfl
theorem f31_72 : amFetch 31 72 = some (.aload_n 0, 1, 0, 0, 0) := rfl
theorem f31_73 : amFetch 31 73 = some (.iload_n 2, 1, 0, 0, 0) := rfl
theorem f31_74 : amFetch 31 74 = some (.invokevirtual 50, 3, 0, 23, 1) := rfl
theorem f31_77 : amFetch 31 77 = some (.istore_n 2, 1, 0, 0, 0) := rfl
theorem f31_78 : amFetch 31 78 = some (.aload_n 1, 1, 0, 0, 0) := rfl
theorem f31_79 : amFetch 31 79 = some (.aload_n 0, 1, 0, 0, 0) := rfl
theorem f31_80 : amFetch 31 80 = some (.iload_n 2, 1, 0, 0, 0) := rfl
theorem f31_81 : amFetch 31 81 = some (.aload_n 0, 1, 0, 0, 0) := rfl
theorem f31_82 : amFetch 31 82 = some (.getfield 9, 3, 2, 0, 0) := rfl
theorem f31_85 : amFetch 31 85 = some (.iload 5, 2, 0, 0, 0) := rfl
theorem f31_87 : amFetch 31 87 = some (.iaload, 1, 0, 0, 0) := rfl
theorem f31_88 : amFetch 31 88 = some (.invokevirtual 76, 3, 0, 19, 2) := rfl
theorem f31_91 : amFetch 31 91 = some (.aload_n 0, 1, 0, 0, 0) := rfl
theorem f31_92 : amFetch 31 92 = some (.getfield 15, 3, 2, 1, 0) := rfl
theorem f31_95 : amFetch 31 95 = some (.iload 5, 2, 0, 0, 0) := rfl
theorem f31_97 : amFetch 31 97 = some (.iaload, 1, 0, 0, 0) := rfl
theorem f31_98 : amFetch 31 98 = some (.invokevirtual 79, 3, 0, 2, 2) := rfl
theorem f31_101 : amFetch 31 101 = some (.iinc 4 1, 3, 0, 0, 0) := rfl
theorem f31_104 : amFetch 31 104 = some (.goto (-74), 3, 0, 0, 0) := rfl
theorem f31_107 : amFetch 31 107 = some (.return_, 1, 0, 0, 0) := rfl
theorem ow31 : amOwnL 31 = some (2, 6) := rfl
-- X2_wipe
theorem f32_0 : amFetch 32 0 = some (.iconst 0, 1, 0, 0, 0) := rfl
theorem f32_1 : amFetch 32 1 = some (.istore_n 1, 1, 0, 0, 0) := rfl
theorem f32_2 : amFetch 32 2 = some (.iload_n 1, 1, 0, 0, 0) := rfl
theorem f32_3 : amFetch 32 3 = some (.sipush 256, 3, 0, 0, 0) := rfl
theorem f32_6 : amFetch 32 6 = some (.if_icmp .ge 44, 3, 0, 0, 0) := rfl
theorem f32_9 : amFetch 32 9 = some (.aload_n 0, 1, 0, 0, 0) := rfl
theorem f32_10 : amFetch 32 10 = some (.getfield 9, 3, 2, 0, 0) := rfl
theorem f32_13 : amFetch 32 13 = some (.iload_n 1, 1, 0, 0, 0) := rfl
theorem f32_14 : amFetch 32 14 = some (.iconst 0, 1, 0, 0, 0) := rfl
theorem f32_15 : amFetch 32 15 = some (.iastore, 1, 0, 0, 0) := rfl
theorem f32_16 : amFetch 32 16 = some (.aload_n 0, 1, 0, 0, 0) := rfl
theorem f32_17 : amFetch 32 17 = some (.getfield 15, 3, 2, 1, 0) := rfl
theorem f32_20 : amFetch 32 20 = some (.iload_n 1, 1, 0, 0, 0) := rfl
theorem f32_21 : amFetch 32 21 = some (.iconst 0, 1, 0, 0, 0) := rfl
theorem f32_22 : amFetch 32 22 = some (.iastore, 1, 0, 0, 0) := rfl
theorem f32_23 : amFetch 32 23 = some (.aload_n 0, 1, 0, 0, 0) := rfl
theorem f32_24 : amFetch 32 24 = some (.getfield 18, 3, 2, 2, 0) := rfl
theorem f32_27 : amFetch 32 27 = some (.iload_n 1, 1, 0, 0, 0) := rfl
theorem f32_28 : amFetch 32 28 = some (.iconst 0, 1, 0, 0, 0) := rfl
theorem f32_29 : amFetch 32 29 = some (.bastore, 1, 0, 0, 0) := rfl
theorem f32_30 : amFetch 32 30 = some (.aload_n 0, 1, 0, 0, 0) := rfl
theorem f32_31 : amFetch 32 31 = some (.getfield 22, 3, 2, 3, 0) := rfl
theorem f32_34 : amFetch 32 34 = some (.iload_n 1, 1, 0, 0, 0) := rfl
theorem f32_35 : amFetch 32 35 = some (.iconst 0, 1, 0, 0, 0) := rfl
theorem f32_36 : amFetch 32 36 = some (.bastore, 1, 0, 0, 0) := rfl
theorem f32_37 : amFetch 32 37 = some (.aload_n 0, 1, 0, 0, 0) := rfl
theorem f32_38 : amFetch 32 38 = some (.getfield 25, 3, 2, 4, 0) := rfl
theorem f32_41 : amFetch 32 41 = some (.iload_n 1, 1, 0, 0, 0) := rfl
theorem f32_42 : amFetch 32 42 = some (.iconst 0, 1, 0, 0, 0) := rfl
theorem f32_43 : amFetch 32 43 = some (.bastore, 1, 0, 0, 0) := rfl
theorem f32_44 : amFetch 32 44 = some (.iinc 1 1, 3, 0, 0, 0) := rfl
theorem f32_47 : amFetch 32 47 = some (.goto (-45), 3, 0, 0, 0) := rfl
theorem f32_50 : amFetch 32 50 = some (.return_, 1, 0, 0, 0) := rfl
theorem ow32 : amOwnL 32 = some (2, 2) := rfl
-- X2_fill
theorem f33_0 : amFetch 33 0 = some (.aload_n 0, 1, 0, 0, 0) := rfl
theorem f33_1 : amFetch 33 1 = some (.invokevirtual 83, 3, 0, 32, 0) := rfl
theorem f33_4 : amFetch 33 4 = some (.aload_n 0, 1, 0, 0, 0) := rfl
theorem f33_5 : amFetch 33 5 = some (.iload_n 1, 1, 0, 0, 0) := rfl
theorem f33_6 : amFetch 33 6 = some (.putfield 28, 3, 2, 5, 0) := rfl
theorem f33_9 : amFetch 33 9 = some (.iconst 0, 1, 0, 0, 0) := rfl
theorem f33_10 : amFetch 33 10 = some (.aload_n 0, 1, 0, 0, 0) := rfl
theorem f33_11 : amFetch 33 11 = some (.aload_n 2, 1, 0, 0, 0) := rfl
theorem f33_12 : amFetch 33 12 = some (.invokevirtual 86, 3, 0, 34, 1) := rfl
theorem f33_15 : amFetch 33 15 = some (.aload_n 0, 1, 0, 0, 0) := rfl
theorem f33_16 : amFetch 33 16 = some (.invokevirtual 32, 3, 0, 14, 0) := rfl
theorem f33_19 : amFetch 33 19 = some (.isub, 1, 0, 0, 0) := rfl
theorem f33_20 : amFetch 33 20 = some (.invokestatic 65, 3, 4, 0, 2) := rfl
theorem f33_23 : amFetch 33 23 = some (.istore_n 3, 1, 0, 0, 0) := rfl
theorem f33_24 : amFetch 33 24 = some (.iconst 0, 1, 0, 0, 0) := rfl
theorem f33_25 : amFetch 33 25 = some (.istore 4, 2, 0, 0, 0) := rfl
theorem f33_27 : amFetch 33 27 = some (.iload 4, 2, 0, 0, 0) := rfl
theorem f33_29 : amFetch 33 29 = some (.aload_n 2, 1, 0, 0, 0) := rfl
theorem f33_30 : amFetch 33 30 = some (.getfield 90, 3, 0, 2, 0) := rfl
theorem f33_33 : amFetch 33 33 = some (.if_icmp .ge 57, 3, 0, 0, 0) := rfl
theorem f33_36 : amFetch 33 36 = some (.iload_n 3, 1, 0, 0, 0) := rfl
theorem f33_37 : amFetch 33 37 = some (.aload_n 0, 1, 0, 0, 0) := rfl
theorem f33_38 : amFetch 33 38 = some (.aload_n 2, 1, 0, 0, 0) := rfl
theorem f33_39 : amFetch 33 39 = some (.getfield 93, 3, 0, 0, 0) := rfl
theorem f33_42 : amFetch 33 42 = some (.iload 4, 2, 0, 0, 0) := rfl
theorem f33_44 : amFetch 33 44 = some (.iaload, 1, 0, 0, 0) := rfl
theorem f33_45 : amFetch 33 45 = some (.invokevirtual 53, 3, 0, 17, 1) := rfl
theorem f33_48 : amFetch 33 48 = some (.invokestatic 65, 3, 4, 0, 2) := rfl
theorem f33_51 : amFetch 33 51 = some (.istore_n 3, 1, 0, 0, 0) := rfl
theorem f33_52 : amFetch 33 52 = some (.aload_n 0, 1, 0, 0, 0) := rfl
theorem f33_53 : amFetch 33 53 = some (.iload_n 3, 1, 0, 0, 0) := rfl
theorem f33_54 : amFetch 33 54 = some (.aload_n 2, 1, 0, 0, 0) := rfl
theorem f33_55 : amFetch 33 55 = some (.getfield 93, 3, 0, 0, 0) := rfl
theorem f33_58 : amFetch 33 58 = some (.iload 4, 2, 0, 0, 0) := rfl
theorem f33_60 : amFetch 33 60 = some (.iaload, 1, 0, 0, 0) := rfl
theorem f33_61 : amFetch 33 61 = some (.aload_n 2, 1, 0, 0, 0) := rfl
theorem f33_62 : amFetch 33 62 = some (.getfield 96, 3, 0, 1, 0) := rfl
theorem f33_65 : amFetch 33 65 = some (.iload 4, 2, 0, 0, 0) := rfl
theorem f33_67 : amFetch 33 67 = some (.iaload, 1, 0, 0, 0) := rfl
theorem f33_68 : amFetch 33 68 = some (.invokevirtual 99, 3, 0, 35, 3) := rfl
theorem f33_71 : amFetch 33 71 = some (.iload_n 3, 1, 0, 0, 0) := rfl
theorem f33_72 : amFetch 33 72 = some (.aload_n 2, 1, 0, 0, 0) := rfl
theorem f33_73 : amFetch 33 73 = some (.getfield 96, 3, 0, 1, 0) := rfl
theorem f33_76 : amFetch 33 76 = some (.iload 4, 2, 0, 0, 0) := rfl
theorem f33_78 : amFetch 33 78 = some (.iaload, 1, 0, 0, 0) := rfl
theorem f33_79 : amFetch 33 79 = some (.invokestatic 103, 3, 2, 73, 1) := rfl
theorem f33_82 : amFetch 33 82 = some (.iadd, 1, 0, 0, 0) := rfl
theorem f33_83 : amFetch 33 83 = some (.istore_n 3, 1, 0, 0, 0) := rfl
theorem f33_84 : amFetch 33 84 = some (.iinc 4 1, 3, 0, 0, 0) := rfl
theorem f33_87 : amFetch 33 87 = some (.goto (-60), 3, 0, 0, 0) := rfl
theorem f33_90 : amFetch 33 90 = some (.return_, 1, 0, 0, 0) := rfl
theorem ow33 : amOwnL 33 = some (2, 5) := rfl
-- X2_endInLine
theorem f34_0 : amFetch 34 0 = some (.iconst 0, 1, 0, 0, 0) := rfl
theorem f34_1 : amFetch 34 1 = some (.istore_n 2, 1, 0, 0, 0) := rfl
theorem f34_2 : amFetch 34 2 = some (.iconst 0, 1, 0, 0, 0) := rfl
theorem f34_3 : amFetch 34 3 = some (.istore_n 3, 1, 0, 0, 0) := rfl
theorem f34_4 : amFetch 34 4 = some (.iload_n 3, 1, 0, 0, 0) := rfl
theorem f34_5 : amFetch 34 5 = some (.aload_n 1, 1, 0, 0, 0) := rfl
theorem f34_6 : amFetch 34 6 = some (.getfield 90, 3, 0, 2, 0) := rfl
theorem f34_9 : amFetch 34 9 = some (.if_icmp .ge 34, 3, 0, 0, 0) := rfl
theorem f34_12 : amFetch 34 12 = some (.iload_n 2, 1, 0, 0, 0) := rfl
theorem f34_13 : amFetch 34 13 = some (.aload_n 0, 1, 0, 0, 0) := rfl
theorem f34_14 : amFetch 34 14 = some (.aload_n 1, 1, 0, 0, 0) := rfl
theorem f34_15 : amFetch 34 15 = some (.getfield 93, 3, 0, 0, 0) := rfl
theorem f34_18 : amFetch 34 18 = some (.iload_n 3, 1, 0, 0, 0) := rfl
theorem f34_19 : amFetch 34 19 = some (.iaload, 1, 0, 0, 0) := rfl
theorem f34_20 : amFetch 34 20 = some (.invokevirtual 53, 3, 0, 17, 1) := rfl
theorem f34_23 : amFetch 34 23 = some (.invokestatic 65, 3, 4, 0, 2) := rfl
theorem f34_26 : amFetch 34 26 = some (.aload_n 1, 1, 0, 0, 0) := rfl
theorem f34_27 : amFetch 34 27 = some (.getfield 96, 3, 0, 1, 0) := rfl
theorem f34_30 : amFetch 34 30 = some (.iload_n 3, 1, 0, 0, 0) := rfl
theorem f34_31 : amFetch 34 31 = some (.iaload, 1, 0, 0, 0) := rfl
theorem f34_32 : amFetch 34 32 = some (.invokestatic 103, 3, 2, 73, 1) := rfl
theorem f34_35 : amFetch 34 35 = some (.iadd, 1, 0, 0, 0) := rfl
theorem f34_36 : amFetch 34 36 = some (.istore_n 2, 1, 0, 0, 0) := rfl
theorem f34_37 : amFetch 34 37 = some (.iinc 3 1, 3, 0, 0, 0) := rfl
theorem f34_40 : amFetch 34 40 = some (.goto (-36), 3, 0, 0, 0) := rfl
theorem f34_43 : amFetch 34 43 = some (.iload_n 2, 1, 0, 0, 0) := rfl
theorem f34_44 : amFetch 34 44 = some (.ireturn, 1, 0, 0, 0) := rfl
theorem ow34 : amOwnL 34 = some (2, 4) := rfl
-- X2_writeEntries
theorem f35_0 : amFetch 35 0 = some (.aload_n 0, 1, 0, 0, 0) := rfl
theorem f35_1 : amFetch 35 1 = some (.iload_n 2, 1, 0, 0, 0) := rfl
theorem f35_2 : amFetch 35 2 = some (.invokevirtual 53, 3, 0, 17, 1) := rfl
theorem f35_5 : amFetch 35 5 = some (.istore 4, 2, 0, 0, 0) := rfl
theorem f35_7 : amFetch 35 7 = some (.iload_n 1, 1, 0, 0, 0) := rfl
theorem f35_8 : amFetch 35 8 = some (.istore 5, 2, 0, 0, 0) := rfl
theorem f35_10 : amFetch 35 10 = some (.iload_n 3, 1, 0, 0, 0) := rfl
theorem f35_11 : amFetch 35 11 = some (.istore 6, 2, 0, 0, 0) := rfl
theorem f35_13 : amFetch 35 13 = some (.iload 6, 2, 0, 0, 0) := rfl
theorem f35_15 : amFetch 35 15 = some (.ifCond .le 87, 3, 0, 0, 0) := rfl
theorem f35_18 : amFetch 35 18 = some (.aload_n 0, 1, 0, 0, 0) := rfl
theorem f35_19 : amFetch 35 19 = some (.iload 5, 2, 0, 0, 0) := rfl
theorem f35_21 : amFetch 35 21 = some (.invokevirtual 40, 3, 0, 16, 1) := rfl
theorem f35_24 : amFetch 35 24 = some (.istore 7, 2, 0, 0, 0) := rfl
theorem f35_26 : amFetch 35 26 = some (.aload_n 0, 1, 0, 0, 0) := rfl
theorem f35_27 : amFetch 35 27 = some (.getfield 9, 3, 2, 0, 0) := rfl
theorem f35_30 : amFetch 35 30 = some (.iload 7, 2, 0, 0, 0) := rfl
theorem f35_32 : amFetch 35 32 = some (.aload_n 0, 1, 0, 0, 0) := rfl
theorem f35_33 : amFetch 35 33 = some (.iload_n 2, 1, 0, 0, 0) := rfl
theorem f35_34 : amFetch 35 34 = some (.invokevirtual 59, 3, 0, 18, 1) := rfl
theorem f35_37 : amFetch 35 37 = some (.iastore, 1, 0, 0, 0) := rfl
theorem f35_38 : amFetch 35 38 = some (.aload_n 0, 1, 0, 0, 0) := rfl
theorem f35_39 : amFetch 35 39 = some (.getfield 15, 3, 2, 1, 0) := rfl
theorem f35_42 : amFetch 35 42 = some (.iload 7, 2, 0, 0, 0) := rfl
theorem f35_44 : amFetch 35 44 = some (.iload 6, 2, 0, 0, 0) := rfl
theorem f35_46 : amFetch 35 46 = some (.bipush 7, 2, 0, 0, 0) := rfl
theorem f35_48 : amFetch 35 48 = some (.invokestatic 106, 3, 5, 0, 2) := rfl
theorem f35_51 : amFetch 35 51 = some (.iastore, 1, 0, 0, 0) := rfl
theorem f35_52 : amFetch 35 52 = some (.aload_n 0, 1, 0, 0, 0) := rfl
theorem f35_53 : amFetch 35 53 = some (.getfield 22, 3, 2, 3, 0) := rfl
theorem f35_56 : amFetch 35 56 = some (.iload 7, 2, 0, 0, 0) := rfl
theorem f35_58 : amFetch 35 58 = some (.aload_n 0, 1, 0, 0, 0) := rfl
theorem f35_59 : amFetch 35 59 = some (.getfield 18, 3, 2, 2, 0) := rfl
theorem f35_62 : amFetch 35 62 = some (.iload 4, 2, 0, 0, 0) := rfl
theorem f35_64 : amFetch 35 64 = some (.baload, 1, 0, 0, 0) := rfl
theorem f35_65 : amFetch 35 65 = some (.bastore, 1, 0, 0, 0) := rfl
theorem f35_66 : amFetch 35 66 = some (.aload_n 0, 1, 0, 0, 0) := rfl
theorem f35_67 : amFetch 35 67 = some (.getfield 25, 3, 2, 4, 0) := rfl
theorem f35_70 : amFetch 35 70 = some (.iload 7, 2, 0, 0, 0) := rfl
theorem f35_72 : amFetch 35 72 = some (.iload 7, 2, 0, 0, 0) := rfl
theorem f35_74 : amFetch 35 74 = some (.iload 4, 2, 0, 0, 0) := rfl
theorem f35_76 : amFetch 35 76 = some (.if_icmp .eq 7, 3, 0, 0, 0) := rfl
theorem f35_79 : amFetch 35 79 = some (.iconst 1, 1, 0, 0, 0) := rfl
theorem f35_80 : amFetch 35 80 = some (.goto 4, 3, 0, 0, 0) := rfl
theorem f35_83 : amFetch 35 83 = some (.iconst 0, 1, 0, 0, 0) := rfl
theorem f35_84 : amFetch 35 84 = some (.bastore, 1, 0, 0, 0) := rfl
theorem f35_85 : amFetch 35 85 = some (.aload_n 0, 1, 0, 0, 0) := rfl
theorem f35_86 : amFetch 35 86 = some (.getfield 18, 3, 2, 2, 0) := rfl
theorem f35_89 : amFetch 35 89 = some (.iload 4, 2, 0, 0, 0) := rfl
theorem f35_91 : amFetch 35 91 = some (.iconst 1, 1, 0, 0, 0) := rfl
theorem f35_92 : amFetch 35 92 = some (.bastore, 1, 0, 0, 0) := rfl
theorem f35_93 : amFetch 35 93 = some (.iinc 5 1, 3, 0, 0, 0) := rfl
theorem f35_96 : amFetch 35 96 = some (.iinc 6 (-7), 3, 0, 0, 0) := rfl
theorem f35_99 : amFetch 35 99 = some (.goto (-86), 3, 0, 0, 0) := rfl
theorem f35_102 : amFetch 35 102 = some (.return_, 1, 0, 0, 0) := rfl
theorem ow35 : amOwnL 35 = some (2, 8) := rfl
-- X3_init
theorem f36_0 : amFetch 36 0 = some (.aload_n 0, 1, 0, 0, 0) := rfl
theorem f36_1 : amFetch 36 1 = some (.invokespecial 3, 3, 6, 0, 0) := rfl
theorem f36_4 : amFetch 36 4 = some (.aload_n 0, 1, 0, 0, 0) := rfl
theorem f36_5 : amFetch 36 5 = some (.iconst 4, 1, 0, 0, 0) := rfl
theorem f36_6 : amFetch 36 6 = some (.anewarray 9, 3, 0, 2, 0) := rfl
theorem f36_9 : amFetch 36 9 = some (.putfield 11, 3, 3, 0, 0) := rfl
theorem f36_12 : amFetch 36 12 = some (.iconst 0, 1, 0, 0, 0) := rfl
theorem f36_13 : amFetch 36 13 = some (.istore_n 1, 1, 0, 0, 0) := rfl
theorem f36_14 : amFetch 36 14 = some (.iload_n 1, 1, 0, 0, 0) := rfl
theorem f36_15 : amFetch 36 15 = some (.aload_n 0, 1, 0, 0, 0) := rfl
theorem f36_16 : amFetch 36 16 = some (.getfield 11, 3, 3, 0, 0) := rfl
theorem f36_19 : amFetch 36 19 = some (.arraylength, 1, 0, 0, 0) := rfl
theorem f36_20 : amFetch 36 20 = some (.if_icmp .ge 22, 3, 0, 0, 0) := rfl
theorem f36_23 : amFetch 36 23 = some (.aload_n 0, 1, 0, 0, 0) := rfl
theorem f36_24 : amFetch 36 24 = some (.getfield 11, 3, 3, 0, 0) := rfl
theorem f36_27 : amFetch 36 27 = some (.iload_n 1, 1, 0, 0, 0) := rfl
theorem f36_28 : amFetch 36 28 = some (.new 9, 3, 0, 2, 0) := rfl
theorem f36_31 : amFetch 36 31 = some (.dup, 1, 0, 0, 0) := rfl
theorem f36_32 : amFetch 36 32 = some (.invokespecial 15, 3, 3, 13, 0) := rfl
theorem f36_35 : amFetch 36 35 = some (.aastore, 1, 0, 0, 0) := rfl
theorem f36_36 : amFetch 36 36 = some (.iinc 1 1, 3, 0, 0, 0) := rfl
theorem f36_39 : amFetch 36 39 = some (.goto (-25), 3, 0, 0, 0) := rfl
theorem f36_42 : amFetch 36 42 = some (.aload_n 0, 1, 0, 0, 0) := rfl
theorem f36_43 : amFetch 36 43 = some (.new 16, 3, 0, 0, 0) := rfl
theorem f36_46 : amFetch 36 46 = some (.dup, 1, 0, 0, 0) := rfl
theorem f36_47 : amFetch 36 47 = some (.invokespecial 18, 3, 3, 0, 0) := rfl
theorem f36_50 : amFetch 36 50 = some (.putfield 19, 3, 3, 1, 0) := rfl
theorem f36_53 : amFetch 36 53 = some (.aload_n 0, 1, 0, 0, 0) := rfl
theorem f36_54 : amFetch 36 54 = some (.new 16, 3, 0, 0, 0) := rfl
theorem f36_57 : amFetch 36 57 = some (.dup, 1, 0, 0, 0) := rfl
theorem f36_58 : amFetch 36 58 = some (.invokespecial 18, 3, 3, 0, 0) := rfl
theorem f36_61 : amFetch 36 61 = some (.putfield 23, 3, 3, 2, 0) := rfl
theorem f36_64 : amFetch 36 64 = some (.aload_n 0, 1, 0, 0, 0) := rfl
theorem f36_65 : amFetch 36 65 = some (.new 16, 3, 0, 0, 0) := rfl
theorem f36_68 : amFetch 36 68 = some (.dup, 1, 0, 0, 0) := rfl
theorem f36_69 : amFetch 36 69 = some (.invokespecial 18, 3, 3, 0, 0) := rfl
theorem f36_72 : amFetch 36 72 = some (.putfield 26, 3, 3, 3, 0) := rfl
theorem f36_75 : amFetch 36 75 = some (.aload_n 0, 1, 0, 0, 0) := rfl
theorem f36_76 : amFetch 36 76 = some (.new 29, 3, 0, 1, 0) := rfl
theorem f36_79 : amFetch 36 79 = some (.dup, 1, 0, 0, 0) := rfl
theorem f36_80 : amFetch 36 80 = some (.invokespecial 31, 3, 3, 9, 0) := rfl
theorem f36_83 : amFetch 36 83 = some (.putfield 32, 3, 3, 4, 0) := rfl
theorem f36_86 : amFetch 36 86 = some (.return_, 1, 0, 0, 0) := rfl
theorem ow36 : amOwnL 36 = some (3, 2) := rfl
-- X3_fingerprint
theorem f37_0 : amFetch 37 0 = some (.iload_n 1, 1, 0, 0, 0) := rfl
theorem f37_1 : amFetch 37 1 = some (.ldc 36, 2, 0, 0, (-1640531527)) := rfl
theorem f37_3 : amFetch 37 3 = some (.imul, 1, 0, 0, 0) := rfl
theorem f37_4 : amFetch 37 4 = some (.bipush 20, 2, 0, 0, 0) := rfl
theorem f37_6 : amFetch 37 6 = some (.iushr, 1, 0, 0, 0) := rfl
theorem f37_7 : amFetch 37 7 = some (.ireturn, 1, 0, 0, 0) := rfl
theorem ow37 : amOwnL 37 = some (3, 2) := rfl
-- X3_insert
theorem f38_0 : amFetch 38 0 = some (.aload_n 0, 1, 0, 0, 0) := rfl
theorem f38_1 : amFetch 38 1 = some (.iload_n 1, 1, 0, 0, 0) := rfl
theorem f38_2 : amFetch 38 2 = some (.invokevirtual 37, 3, 0, 67, 1) := rfl
theorem f38_5 : amFetch 38 5 = some (.astore_n 3, 1, 0, 0, 0) := rfl
theorem f38_6 : amFetch 38 6 = some (.aload_n 0, 1, 0, 0, 0) := rfl
theorem f38_7 : amFetch 38 7 = some (.aload_n 3, 1, 0, 0, 0) := rfl
theorem f38_8 : amFetch 38 8 = some (.aload_n 0, 1, 0, 0, 0) := rfl
theorem f38_9 : amFetch 38 9 = some (.iload_n 2, 1, 0, 0, 0) := rfl
theorem f38_10 : amFetch 38 10 = some (.invokevirtual 41, 3, 0, 37, 1) := rfl
theorem f38_13 : amFetch 38 13 = some (.iconst 1, 1, 0, 0, 0) := rfl
theorem f38_14 : amFetch 38 14 = some (.invokevirtual 45, 3, 0, 74, 3) := rfl
theorem f38_17 : amFetch 38 17 = some (.ireturn, 1, 0, 0, 0) := rfl
theorem ow38 : amOwnL 38 = some (3, 4) := rfl
-- X3_remove
theorem f39_0 : amFetch 39 0 = some (.aload_n 0, 1, 0, 0, 0) := rfl
theorem f39_1 : amFetch 39 1 = some (.iload_n 1, 1, 0, 0, 0) := rfl
theorem f39_2 : amFetch 39 2 = some (.invokevirtual 37, 3, 0, 67, 1) := rfl
theorem f39_5 : amFetch 39 5 = some (.astore_n 3, 1, 0, 0, 0) := rfl
theorem f39_6 : amFetch 39 6 = some (.aload_n 0, 1, 0, 0, 0) := rfl
theorem f39_7 : amFetch 39 7 = some (.aload_n 3, 1, 0, 0, 0) := rfl
theorem f39_8 : amFetch 39 8 = some (.aload_n 0, 1, 0, 0, 0) := rfl
theorem f39_9 : amFetch 39 9 = some (.iload_n 2, 1, 0, 0, 0) := rfl
theorem f39_10 : amFetch 39 10 = some (.invokevirtual 41, 3, 0, 37, 1) := rfl
theorem f39_13 : amFetch 39 13 = some (.iconst 1, 1, 0, 0, 0) := rfl
theorem f39_14 : amFetch 39 14 = some (.invokevirtual 49, 3, 0, 75, 3) := rfl
theorem f39_17 : amFetch 39 17 = some (.iconst 1, 1, 0, 0, 0) := rfl
theorem f39_18 : amFetch 39 18 = some (.if_icmp .ne 7, 3, 0, 0, 0) := rfl
theorem f39_21 : amFetch 39 21 = some (.iconst 1, 1, 0, 0, 0) := rfl
theorem f39_22 : amFetch 39 22 = some (.goto 4, 3, 0, 0, 0) := rfl
theorem f39_25 : amFetch 39 25 = some (.iconst 0, 1, 0, 0, 0) := rfl
theorem f39_26 : amFetch 39 26 = some (.ireturn, 1, 0, 0, 0) := rfl
theorem ow39 : amOwnL 39 = some (3, 4) := rfl
-- X3_count
theorem f40_0 : amFetch 40 0 = some (.aload_n 0, 1, 0, 0, 0) := rfl
theorem f40_1 : amFetch 40 1 = some (.iload_n 1, 1, 0, 0, 0) := rfl
theorem f40_2 : amFetch 40 2 = some (.invokevirtual 37, 3, 0, 67, 1) := rfl
theorem f40_5 : amFetch 40 5 = some (.astore_n 3, 1, 0, 0, 0) := rfl
theorem f40_6 : amFetch 40 6 = some (.aload_n 3, 1, 0, 0, 0) := rfl
theorem f40_7 : amFetch 40 7 = some (.aload_n 0, 1, 0, 0, 0) := rfl
theorem f40_8 : amFetch 40 8 = some (.iload_n 2, 1, 0, 0, 0) := rfl
theorem f40_9 : amFetch 40 9 = some (.invokevirtual 41, 3, 0, 37, 1) := rfl
theorem f40_12 : amFetch 40 12 = some (.invokevirtual 52, 3, 0, 28, 1) := rfl
theorem f40_15 : amFetch 40 15 = some (.ireturn, 1, 0, 0, 0) := rfl
theorem ow40 : amOwnL 40 = some (3, 4) := rfl
-- X3_add
theorem f41_0 : amFetch 41 0 = some (.aload_n 0, 1, 0, 0, 0) := rfl
theorem f41_1 : amFetch 41 1 = some (.iload_n 1, 1, 0, 0, 0) := rfl
theorem f41_2 : amFetch 41 2 = some (.invokevirtual 37, 3, 0, 67, 1) := rfl
theorem f41_5 : amFetch 41 5 = some (.astore 4, 2, 0, 0, 0) := rfl
theorem f41_7 : amFetch 41 7 = some (.iload_n 2, 1, 0, 0, 0) := rfl
theorem f41_8 : amFetch 41 8 = some (.invokestatic 55, 3, 1, 69, 1) := rfl
theorem f41_11 : amFetch 41 11 = some (.iload_n 3, 1, 0, 0, 0) := rfl
theorem f41_12 : amFetch 41 12 = some (.invokestatic 59, 3, 1, 70, 1) := rfl
theorem f41_15 : amFetch 41 15 = some (.aload_n 0, 1, 0, 0, 0) := rfl
theorem f41_16 : amFetch 41 16 = some (.aload 4, 2, 0, 0, 0) := rfl
theorem f41_18 : amFetch 41 18 = some (.iload_n 2, 1, 0, 0, 0) := rfl
theorem f41_19 : amFetch 41 19 = some (.iload_n 3, 1, 0, 0, 0) := rfl
theorem f41_20 : amFetch 41 20 = some (.invokevirtual 45, 3, 0, 74, 3) := rfl
theorem f41_23 : amFetch 41 23 = some (.ireturn, 1, 0, 0, 0) := rfl
theorem ow41 : amOwnL 41 = some (3, 5) := rfl
-- X3_take
theorem f42_0 : amFetch 42 0 = some (.aload_n 0, 1, 0, 0, 0) := rfl
theorem f42_1 : amFetch 42 1 = some (.iload_n 1, 1, 0, 0, 0) := rfl
theorem f42_2 : amFetch 42 2 = some (.invokevirtual 37, 3, 0, 67, 1) := rfl
theorem f42_5 : amFetch 42 5 = some (.astore 4, 2, 0, 0, 0) := rfl
theorem f42_7 : amFetch 42 7 = some (.iload_n 2, 1, 0, 0, 0) := rfl
theorem f42_8 : amFetch 42 8 = some (.invokestatic 55, 3, 1, 69, 1) := rfl
theorem f42_11 : amFetch 42 11 = some (.iload_n 3, 1, 0, 0, 0) := rfl
theorem f42_12 : amFetch 42 12 = some (.invokestatic 59, 3, 1, 70, 1) := rfl
theorem f42_15 : amFetch 42 15 = some (.aload_n 0, 1, 0, 0, 0) := rfl
theorem f42_16 : amFetch 42 16 = some (.aload 4, 2, 0, 0, 0) := rfl
theorem f42_18 : amFetch 42 18 = some (.iload_n 2, 1, 0, 0, 0) := rfl
theorem f42_19 : amFetch 42 19 = some (.iload_n 3, 1, 0, 0, 0) := rfl
theorem f42_20 : amFetch 42 20 = some (.invokevirtual 49, 3, 0, 75, 3) := rfl
theorem f42_23 : amFetch 42 23 = some (.ireturn, 1, 0, 0, 0) := rfl
theorem ow42 : amOwnL 42 = some (3, 5) := rfl
-- X3_countOf
theorem f43_0 : amFetch 43 0 = some (.aload_n 0, 1, 0, 0, 0) := rfl
theorem f43_1 : amFetch 43 1 = some (.iload_n 1, 1, 0, 0, 0) := rfl
theorem f43_2 : amFetch 43 2 = some (.invokevirtual 37, 3, 0, 67, 1) := rfl
theorem f43_5 : amFetch 43 5 = some (.astore_n 3, 1, 0, 0, 0) := rfl
theorem f43_6 : amFetch 43 6 = some (.iload_n 2, 1, 0, 0, 0) := rfl
theorem f43_7 : amFetch 43 7 = some (.invokestatic 55, 3, 1, 69, 1) := rfl
theorem f43_10 : amFetch 43 10 = some (.aload_n 3, 1, 0, 0, 0) := rfl
theorem f43_11 : amFetch 43 11 = some (.iload_n 2, 1, 0, 0, 0) := rfl
theorem f43_12 : amFetch 43 12 = some (.invokevirtual 52, 3, 0, 28, 1) := rfl
theorem f43_15 : amFetch 43 15 = some (.ireturn, 1, 0, 0, 0) := rfl
theorem ow43 : amOwnL 43 = some (3, 4) := rfl
-- X3_countInLists
theorem f44_0 : amFetch 44 0 = some (.aload_n 0, 1, 0, 0, 0) := rfl
theorem f44_1 : amFetch 44 1 = some (.iload_n 1, 1, 0, 0, 0) := rfl
theorem f44_2 : amFetch 44 2 = some (.invokevirtual 37, 3, 0, 67, 1) := rfl
theorem f44_5 : amFetch 44 5 = some (.astore_n 3, 1, 0, 0, 0) := rfl
theorem f44_6 : amFetch 44 6 = some (.iload_n 2, 1, 0, 0, 0) := rfl
theorem f44_7 : amFetch 44 7 = some (.invokestatic 55, 3, 1, 69, 1) := rfl
theorem f44_10 : amFetch 44 10 = some (.aload_n 0, 1, 0, 0, 0) := rfl
theorem f44_11 : amFetch 44 11 = some (.getfield 32, 3, 3, 4, 0) := rfl
theorem f44_14 : amFetch 44 14 = some (.aload_n 3, 1, 0, 0, 0) := rfl
theorem f44_15 : amFetch 44 15 = some (.invokevirtual 62, 3, 0, 10, 1) := rfl
theorem f44_18 : amFetch 44 18 = some (.aload_n 0, 1, 0, 0, 0) := rfl
theorem f44_19 : amFetch 44 19 = some (.getfield 32, 3, 3, 4, 0) := rfl
theorem f44_22 : amFetch 44 22 = some (.aload_n 3, 1, 0, 0, 0) := rfl
theorem f44_23 : amFetch 44 23 = some (.iload_n 2, 1, 0, 0, 0) := rfl
theorem f44_24 : amFetch 44 24 = some (.invokevirtual 66, 3, 0, 12, 2) := rfl
theorem f44_27 : amFetch 44 27 = some (.ireturn, 1, 0, 0, 0) := rfl
theorem ow44 : amOwnL 44 = some (3, 4) := rfl
-- X3_lookedAt
theorem f45_0 : amFetch 45 0 = some (.aload_n 0, 1, 0, 0, 0) := rfl
theorem f45_1 : amFetch 45 1 = some (.iload_n 1, 1, 0, 0, 0) := rfl
theorem f45_2 : amFetch 45 2 = some (.invokevirtual 37, 3, 0, 67, 1) := rfl
theorem f45_5 : amFetch 45 5 = some (.astore_n 3, 1, 0, 0, 0) := rfl
theorem f45_6 : amFetch 45 6 = some (.iload_n 2, 1, 0, 0, 0) := rfl
theorem f45_7 : amFetch 45 7 = some (.invokestatic 55, 3, 1, 69, 1) := rfl
theorem f45_10 : amFetch 45 10 = some (.aload_n 3, 1, 0, 0, 0) := rfl
theorem f45_11 : amFetch 45 11 = some (.iload_n 2, 1, 0, 0, 0) := rfl
theorem f45_12 : amFetch 45 12 = some (.invokevirtual 70, 3, 0, 29, 1) := rfl
theorem f45_15 : amFetch 45 15 = some (.ireturn, 1, 0, 0, 0) := rfl
theorem ow45 : amOwnL 45 = some (3, 4) := rfl
-- X3_clear
theorem f46_0 : amFetch 46 0 = some (.aload_n 0, 1, 0, 0, 0) := rfl
theorem f46_1 : amFetch 46 1 = some (.iload_n 1, 1, 0, 0, 0) := rfl
theorem f46_2 : amFetch 46 2 = some (.invokevirtual 37, 3, 0, 67, 1) := rfl
theorem f46_5 : amFetch 46 5 = some (.invokevirtual 73, 3, 0, 32, 0) := rfl
theorem f46_8 : amFetch 46 8 = some (.return_, 1, 0, 0, 0) := rfl
theorem ow46 : amOwnL 46 = some (3, 2) := rfl
-- X3_grow
theorem f47_0 : amFetch 47 0 = some (.aload_n 0, 1, 0, 0, 0) := rfl
theorem f47_1 : amFetch 47 1 = some (.iload_n 1, 1, 0, 0, 0) := rfl
theorem f47_2 : amFetch 47 2 = some (.invokevirtual 37, 3, 0, 67, 1) := rfl
theorem f47_5 : amFetch 47 5 = some (.astore_n 2, 1, 0, 0, 0) := rfl
theorem f47_6 : amFetch 47 6 = some (.aload_n 2, 1, 0, 0, 0) := rfl
theorem f47_7 : amFetch 47 7 = some (.getfield 76, 3, 2, 5, 0) := rfl
theorem f47_10 : amFetch 47 10 = some (.bipush 8, 2, 0, 0, 0) := rfl
theorem f47_12 : amFetch 47 12 = some (.if_icmp .lt 13, 3, 0, 0, 0) := rfl
theorem f47_15 : amFetch 47 15 = some (.new 80, 3, 1, 2, 82084) := rfl
theorem f47_18 : amFetch 47 18 = some (.dup, 1, 0, 0, 0) := rfl
theorem f47_19 : amFetch 47 19 = some (.ldc 82, 2, 0, 0, 0) := rfl
theorem f47_21 : amFetch 47 21 = some (.invokespecial 84, 3, 9, 0, 1) := rfl
theorem f47_24 : amFetch 47 24 = some (.athrow, 1, 0, 0, 0) := rfl
theorem f47_25 : amFetch 47 25 = some (.aload_n 0, 1, 0, 0, 0) := rfl
theorem f47_26 : amFetch 47 26 = some (.aload_n 2, 1, 0, 0, 0) := rfl
theorem f47_27 : amFetch 47 27 = some (.aload_n 2, 1, 0, 0, 0) := rfl
theorem f47_28 : amFetch 47 28 = some (.getfield 76, 3, 2, 5, 0) := rfl
theorem f47_31 : amFetch 47 31 = some (.iconst 1, 1, 0, 0, 0) := rfl
theorem f47_32 : amFetch 47 32 = some (.iadd, 1, 0, 0, 0) := rfl
theorem f47_33 : amFetch 47 33 = some (.invokevirtual 87, 3, 0, 76, 2) := rfl
theorem f47_36 : amFetch 47 36 = some (.ireturn, 1, 0, 0, 0) := rfl
theorem ow47 : amOwnL 47 = some (3, 3) := rfl
-- X3_shrink
theorem f48_0 : amFetch 48 0 = some (.aload_n 0, 1, 0, 0, 0) := rfl
theorem f48_1 : amFetch 48 1 = some (.iload_n 1, 1, 0, 0, 0) := rfl
theorem f48_2 : amFetch 48 2 = some (.invokevirtual 37, 3, 0, 67, 1) := rfl
theorem f48_5 : amFetch 48 5 = some (.astore_n 2, 1, 0, 0, 0) := rfl
theorem f48_6 : amFetch 48 6 = some (.aload_n 2, 1, 0, 0, 0) := rfl
theorem f48_7 : amFetch 48 7 = some (.getfield 76, 3, 2, 5, 0) := rfl
theorem f48_10 : amFetch 48 10 = some (.iconst 3, 1, 0, 0, 0) := rfl
theorem f48_11 : amFetch 48 11 = some (.if_icmp .gt 13, 3, 0, 0, 0) := rfl
theorem f48_14 : amFetch 48 14 = some (.new 80, 3, 1, 2, 90084) := rfl
theorem f48_17 : amFetch 48 17 = some (.dup, 1, 0, 0, 0) := rfl
theorem f48_18 : amFetch 48 18 = some (.ldc 90, 2, 0, 0, 0) := rfl
theorem f48_20 : amFetch 48 20 = some (.invokespecial 84, 3, 9, 0, 1) := rfl
theorem f48_23 : amFetch 48 23 = some (.athrow, 1, 0, 0, 0) := rfl
theorem f48_24 : amFetch 48 24 = some (.aload_n 0, 1, 0, 0, 0) := rfl
theorem f48_25 : amFetch 48 25 = some (.aload_n 2, 1, 0, 0, 0) := rfl
theorem f48_26 : amFetch 48 26 = some (.aload_n 2, 1, 0, 0, 0) := rfl
theorem f48_27 : amFetch 48 27 = some (.getfield 76, 3, 2, 5, 0) := rfl
theorem f48_30 : amFetch 48 30 = some (.iconst 1, 1, 0, 0, 0) := rfl
theorem f48_31 : amFetch 48 31 = some (.isub, 1, 0, 0, 0) := rfl
theorem f48_32 : amFetch 48 32 = some (.invokevirtual 87, 3, 0, 76, 2) := rfl
theorem f48_35 : amFetch 48 35 = some (.ireturn, 1, 0, 0, 0) := rfl
theorem ow48 : amOwnL 48 = some (3, 3) := rfl
-- X3_merge
theorem f49_0 : amFetch 49 0 = some (.aload_n 0, 1, 0, 0, 0) := rfl
theorem f49_1 : amFetch 49 1 = some (.iload_n 1, 1, 0, 0, 0) := rfl
theorem f49_2 : amFetch 49 2 = some (.invokevirtual 37, 3, 0, 67, 1) := rfl
theorem f49_5 : amFetch 49 5 = some (.astore_n 3, 1, 0, 0, 0) := rfl
theorem f49_6 : amFetch 49 6 = some (.aload_n 0, 1, 0, 0, 0) := rfl
theorem f49_7 : amFetch 49 7 = some (.iload_n 2, 1, 0, 0, 0) := rfl
theorem f49_8 : amFetch 49 8 = some (.invokevirtual 37, 3, 0, 67, 1) := rfl
theorem f49_11 : amFetch 49 11 = some (.astore 4, 2, 0, 0, 0) := rfl
theorem f49_13 : amFetch 49 13 = some (.aload_n 3, 1, 0, 0, 0) := rfl
theorem f49_14 : amFetch 49 14 = some (.aload_n 0, 1, 0, 0, 0) := rfl
theorem f49_15 : amFetch 49 15 = some (.getfield 19, 3, 3, 1, 0) := rfl
theorem f49_18 : amFetch 49 18 = some (.invokevirtual 92, 3, 0, 31, 1) := rfl
theorem f49_21 : amFetch 49 21 = some (.aload 4, 2, 0, 0, 0) := rfl
theorem f49_23 : amFetch 49 23 = some (.aload_n 0, 1, 0, 0, 0) := rfl
theorem f49_24 : amFetch 49 24 = some (.getfield 23, 3, 3, 2, 0) := rfl
theorem f49_27 : amFetch 49 27 = some (.invokevirtual 92, 3, 0, 31, 1) := rfl
theorem f49_30 : amFetch 49 30 = some (.aload_n 0, 1, 0, 0, 0) := rfl
theorem f49_31 : amFetch 49 31 = some (.getfield 26, 3, 3, 3, 0) := rfl
theorem f49_34 : amFetch 49 34 = some (.aload_n 0, 1, 0, 0, 0) := rfl
theorem f49_35 : amFetch 49 35 = some (.getfield 19, 3, 3, 1, 0) := rfl
theorem f49_38 : amFetch 49 38 = some (.aload_n 0, 1, 0, 0, 0) := rfl
theorem f49_39 : amFetch 49 39 = some (.getfield 23, 3, 3, 2, 0) := rfl
theorem f49_42 : amFetch 49 42 = some (.invokevirtual 96, 3, 0, 3, 2) := rfl
theorem f49_45 : amFetch 49 45 = some (.aload_n 0, 1, 0, 0, 0) := rfl
theorem f49_46 : amFetch 49 46 = some (.getfield 26, 3, 3, 3, 0) := rfl
theorem f49_49 : amFetch 49 49 = some (.aload_n 3, 1, 0, 0, 0) := rfl
theorem f49_50 : amFetch 49 50 = some (.getfield 76, 3, 2, 5, 0) := rfl
theorem f49_53 : amFetch 49 53 = some (.invokestatic 100, 3, 1, 71, 2) := rfl
theorem f49_56 : amFetch 49 56 = some (.aload_n 3, 1, 0, 0, 0) := rfl
theorem f49_57 : amFetch 49 57 = some (.aload_n 3, 1, 0, 0, 0) := rfl
theorem f49_58 : amFetch 49 58 = some (.getfield 76, 3, 2, 5, 0) := rfl
theorem f49_61 : amFetch 49 61 = some (.aload_n 0, 1, 0, 0, 0) := rfl
theorem f49_62 : amFetch 49 62 = some (.getfield 26, 3, 3, 3, 0) := rfl
theorem f49_65 : amFetch 49 65 = some (.invokevirtual 104, 3, 0, 33, 2) := rfl
theorem f49_68 : amFetch 49 68 = some (.aload_n 3, 1, 0, 0, 0) := rfl
theorem f49_69 : amFetch 49 69 = some (.invokevirtual 108, 3, 0, 20, 0) := rfl
theorem f49_72 : amFetch 49 72 = some (.ireturn, 1, 0, 0, 0) := rfl
theorem ow49 : amOwnL 49 = some (3, 5) := rfl
-- X3_intersect
theorem f50_0 : amFetch 50 0 = some (.aload_n 0, 1, 0, 0, 0) := rfl
theorem f50_1 : amFetch 50 1 = some (.iload_n 1, 1, 0, 0, 0) := rfl
theorem f50_2 : amFetch 50 2 = some (.invokevirtual 37, 3, 0, 67, 1) := rfl
theorem f50_5 : amFetch 50 5 = some (.astore_n 3, 1, 0, 0, 0) := rfl
theorem f50_6 : amFetch 50 6 = some (.aload_n 0, 1, 0, 0, 0) := rfl
theorem f50_7 : amFetch 50 7 = some (.iload_n 2, 1, 0, 0, 0) := rfl
theorem f50_8 : amFetch 50 8 = some (.invokevirtual 37, 3, 0, 67, 1) := rfl
theorem f50_11 : amFetch 50 11 = some (.astore 4, 2, 0, 0, 0) := rfl
theorem f50_13 : amFetch 50 13 = some (.aload_n 3, 1, 0, 0, 0) := rfl
theorem f50_14 : amFetch 50 14 = some (.aload_n 0, 1, 0, 0, 0) := rfl
theorem f50_15 : amFetch 50 15 = some (.getfield 19, 3, 3, 1, 0) := rfl
theorem f50_18 : amFetch 50 18 = some (.invokevirtual 92, 3, 0, 31, 1) := rfl
theorem f50_21 : amFetch 50 21 = some (.aload 4, 2, 0, 0, 0) := rfl
theorem f50_23 : amFetch 50 23 = some (.aload_n 0, 1, 0, 0, 0) := rfl
theorem f50_24 : amFetch 50 24 = some (.getfield 23, 3, 3, 2, 0) := rfl
theorem f50_27 : amFetch 50 27 = some (.invokevirtual 92, 3, 0, 31, 1) := rfl
theorem f50_30 : amFetch 50 30 = some (.aload_n 0, 1, 0, 0, 0) := rfl
theorem f50_31 : amFetch 50 31 = some (.getfield 26, 3, 3, 3, 0) := rfl
theorem f50_34 : amFetch 50 34 = some (.aload_n 0, 1, 0, 0, 0) := rfl
theorem f50_35 : amFetch 50 35 = some (.getfield 19, 3, 3, 1, 0) := rfl
theorem f50_38 : amFetch 50 38 = some (.aload_n 0, 1, 0, 0, 0) := rfl
theorem f50_39 : amFetch 50 39 = some (.getfield 23, 3, 3, 2, 0) := rfl
theorem f50_42 : amFetch 50 42 = some (.invokevirtual 112, 3, 0, 4, 2) := rfl
theorem f50_45 : amFetch 50 45 = some (.aload_n 3, 1, 0, 0, 0) := rfl
theorem f50_46 : amFetch 50 46 = some (.aload_n 3, 1, 0, 0, 0) := rfl
theorem f50_47 : amFetch 50 47 = some (.getfield 76, 3, 2, 5, 0) := rfl
theorem f50_50 : amFetch 50 50 = some (.aload_n 0, 1, 0, 0, 0) := rfl
theorem f50_51 : amFetch 50 51 = some (.getfield 26, 3, 3, 3, 0) := rfl
theorem f50_54 : amFetch 50 54 = some (.invokevirtual 104, 3, 0, 33, 2) := rfl
theorem f50_57 : amFetch 50 57 = some (.aload_n 3, 1, 0, 0, 0) := rfl
theorem f50_58 : amFetch 50 58 = some (.invokevirtual 108, 3, 0, 20, 0) := rfl
theorem f50_61 : amFetch 50 61 = some (.ireturn, 1, 0, 0, 0) := rfl
theorem ow50 : amOwnL 50 = some (3, 5) := rfl
-- X3_isSame
theorem f51_0 : amFetch 51 0 = some (.aload_n 0, 1, 0, 0, 0) := rfl
theorem f51_1 : amFetch 51 1 = some (.iload_n 1, 1, 0, 0, 0) := rfl
theorem f51_2 : amFetch 51 2 = some (.invokevirtual 37, 3, 0, 67, 1) := rfl
theorem f51_5 : amFetch 51 5 = some (.astore_n 3, 1, 0, 0, 0) := rfl
theorem f51_6 : amFetch 51 6 = some (.aload_n 0, 1, 0, 0, 0) := rfl
theorem f51_7 : amFetch 51 7 = some (.iload_n 2, 1, 0, 0, 0) := rfl
theorem f51_8 : amFetch 51 8 = some (.invokevirtual 37, 3, 0, 67, 1) := rfl
theorem f51_11 : amFetch 51 11 = some (.astore 4, 2, 0, 0, 0) := rfl
theorem f51_13 : amFetch 51 13 = some (.aload_n 3, 1, 0, 0, 0) := rfl
theorem f51_14 : amFetch 51 14 = some (.aload_n 0, 1, 0, 0, 0) := rfl
theorem f51_15 : amFetch 51 15 = some (.getfield 19, 3, 3, 1, 0) := rfl
theorem f51_18 : amFetch 51 18 = some (.invokevirtual 92, 3, 0, 31, 1) := rfl
theorem f51_21 : amFetch 51 21 = some (.aload 4, 2, 0, 0, 0) := rfl
theorem f51_23 : amFetch 51 23 = some (.aload_n 0, 1, 0, 0, 0) := rfl
theorem f51_24 : amFetch 51 24 = some (.getfield 23, 3, 3, 2, 0) := rfl
theorem f51_27 : amFetch 51 27 = some (.invokevirtual 92, 3, 0, 31, 1) := rfl
theorem f51_30 : amFetch 51 30 = some (.aload_n 0, 1, 0, 0, 0) := rfl
theorem f51_31 : amFetch 51 31 = some (.getfield 19, 3, 3, 1, 0) := rfl
theorem f51_34 : amFetch 51 34 = some (.aload_n 0, 1, 0, 0, 0) := rfl
theorem f51_35 : amFetch 51 35 = some (.getfield 23, 3, 3, 2, 0) := rfl
theorem f51_38 : amFetch 51 38 = some (.invokevirtual 115, 3, 0, 7, 1) := rfl
theorem f51_41 : amFetch 51 41 = some (.ireturn, 1, 0, 0, 0) := rfl
theorem ow51 : amOwnL 51 = some (3, 5) := rfl
-- X3_slots
theorem f52_0 : amFetch 52 0 = some (.aload_n 0, 1, 0, 0, 0) := rfl
theorem f52_1 : amFetch 52 1 = some (.iload_n 1, 1, 0, 0, 0) := rfl
theorem f52_2 : amFetch 52 2 = some (.invokevirtual 37, 3, 0, 67, 1) := rfl
theorem f52_5 : amFetch 52 5 = some (.invokevirtual 119, 3, 0, 14, 0) := rfl
theorem f52_8 : amFetch 52 8 = some (.ireturn, 1, 0, 0, 0) := rfl
theorem ow52 : amOwnL 52 = some (3, 2) := rfl
-- X3_entries
theorem f53_0 : amFetch 53 0 = some (.aload_n 0, 1, 0, 0, 0) := rfl
theorem f53_1 : amFetch 53 1 = some (.iload_n 1, 1, 0, 0, 0) := rfl
theorem f53_2 : amFetch 53 2 = some (.invokevirtual 37, 3, 0, 67, 1) := rfl
theorem f53_5 : amFetch 53 5 = some (.invokevirtual 108, 3, 0, 20, 0) := rfl
theorem f53_8 : amFetch 53 8 = some (.ireturn, 1, 0, 0, 0) := rfl
theorem ow53 : amOwnL 53 = some (3, 2) := rfl
-- X3_distinct
theorem f54_0 : amFetch 54 0 = some (.aload_n 0, 1, 0, 0, 0) := rfl
theorem f54_1 : amFetch 54 1 = some (.iload_n 1, 1, 0, 0, 0) := rfl
theorem f54_2 : amFetch 54 2 = some (.invokevirtual 37, 3, 0, 67, 1) := rfl
theorem f54_5 : amFetch 54 5 = some (.aload_n 0, 1, 0, 0, 0) := rfl
theorem f54_6 : amFetch 54 6 = some (.getfield 19, 3, 3, 1, 0) := rfl
theorem f54_9 : amFetch 54 9 = some (.invokevirtual 92, 3, 0, 31, 1) := rfl
theorem f54_12 : amFetch 54 12 = some (.aload_n 0, 1, 0, 0, 0) := rfl
theorem f54_13 : amFetch 54 13 = some (.getfield 19, 3, 3, 1, 0) := rfl
theorem f54_16 : amFetch 54 16 = some (.getfield 122, 3, 0, 2, 0) := rfl
theorem f54_19 : amFetch 54 19 = some (.ireturn, 1, 0, 0, 0) := rfl
theorem ow54 : amOwnL 54 = some (3, 2) := rfl
-- X3_total
theorem f55_0 : amFetch 55 0 = some (.aload_n 0, 1, 0, 0, 0) := rfl
theorem f55_1 : amFetch 55 1 = some (.iload_n 1, 1, 0, 0, 0) := rfl
theorem f55_2 : amFetch 55 2 = some (.invokevirtual 37, 3, 0, 67, 1) := rfl
theorem f55_5 : amFetch 55 5 = some (.invokevirtual 125, 3, 0, 21, 0) := rfl
theorem f55_8 : amFetch 55 8 = some (.ireturn, 1, 0, 0, 0) := rfl
theorem ow55 : amOwnL 55 = some (3, 2) := rfl
-- X3_fingerprintAt
theorem f56_0 : amFetch 56 0 = some (.aload_n 0, 1, 0, 0, 0) := rfl
theorem f56_1 : amFetch 56 1 = some (.iload_n 1, 1, 0, 0, 0) := rfl
theorem f56_2 : amFetch 56 2 = some (.invokevirtual 37, 3, 0, 67, 1) := rfl
theorem f56_5 : amFetch 56 5 = some (.aload_n 0, 1, 0, 0, 0) := rfl
theorem f56_6 : amFetch 56 6 = some (.getfield 19, 3, 3, 1, 0) := rfl
theorem f56_9 : amFetch 56 9 = some (.invokevirtual 92, 3, 0, 31, 1) := rfl
theorem f56_12 : amFetch 56 12 = some (.iload_n 2, 1, 0, 0, 0) := rfl
theorem f56_13 : amFetch 56 13 = some (.ifCond .lt 14, 3, 0, 0, 0) := rfl
theorem f56_16 : amFetch 56 16 = some (.iload_n 2, 1, 0, 0, 0) := rfl
theorem f56_17 : amFetch 56 17 = some (.aload_n 0, 1, 0, 0, 0) := rfl
theorem f56_18 : amFetch 56 18 = some (.getfield 19, 3, 3, 1, 0) := rfl
theorem f56_21 : amFetch 56 21 = some (.getfield 122, 3, 0, 2, 0) := rfl
theorem f56_24 : amFetch 56 24 = some (.if_icmp .lt 13, 3, 0, 0, 0) := rfl
theorem f56_27 : amFetch 56 27 = some (.new 128, 3, 1, 1, 130132) := rfl
theorem f56_30 : amFetch 56 30 = some (.dup, 1, 0, 0, 0) := rfl
theorem f56_31 : amFetch 56 31 = some (.ldc 130, 2, 0, 0, 0) := rfl
theorem f56_33 : amFetch 56 33 = some (.invokespecial 132, 3, 9, 0, 1) := rfl
theorem f56_36 : amFetch 56 36 = some (.athrow, 1, 0, 0, 0) := rfl
theorem f56_37 : amFetch 56 37 = some (.aload_n 0, 1, 0, 0, 0) := rfl
theorem f56_38 : amFetch 56 38 = some (.getfield 19, 3, 3, 1, 0) := rfl
theorem f56_41 : amFetch 56 41 = some (.getfield 133, 3, 0, 0, 0) := rfl
theorem f56_44 : amFetch 56 44 = some (.iload_n 2, 1, 0, 0, 0) := rfl
theorem f56_45 : amFetch 56 45 = some (.iaload, 1, 0, 0, 0) := rfl
theorem f56_46 : amFetch 56 46 = some (.ireturn, 1, 0, 0, 0) := rfl
theorem ow56 : amOwnL 56 = some (3, 3) := rfl
-- X3_remainderAt
theorem f57_0 : amFetch 57 0 = some (.aload_n 0, 1, 0, 0, 0) := rfl
theorem f57_1 : amFetch 57 1 = some (.iload_n 1, 1, 0, 0, 0) := rfl
theorem f57_2 : amFetch 57 2 = some (.invokevirtual 37, 3, 0, 67, 1) := rfl
theorem f57_5 : amFetch 57 5 = some (.astore_n 3, 1, 0, 0, 0) := rfl
theorem f57_6 : amFetch 57 6 = some (.aload_n 3, 1, 0, 0, 0) := rfl
theorem f57_7 : amFetch 57 7 = some (.iload_n 2, 1, 0, 0, 0) := rfl
theorem f57_8 : amFetch 57 8 = some (.invokestatic 137, 3, 1, 68, 2) := rfl
theorem f57_11 : amFetch 57 11 = some (.aload_n 3, 1, 0, 0, 0) := rfl
theorem f57_12 : amFetch 57 12 = some (.iload_n 2, 1, 0, 0, 0) := rfl
theorem f57_13 : amFetch 57 13 = some (.invokevirtual 141, 3, 0, 15, 1) := rfl
theorem f57_16 : amFetch 57 16 = some (.ifCond .eq 7, 3, 0, 0, 0) := rfl
theorem f57_19 : amFetch 57 19 = some (.iconst (-1), 1, 0, 0, 0) := rfl
theorem f57_20 : amFetch 57 20 = some (.goto 9, 3, 0, 0, 0) := rfl
theorem f57_23 : amFetch 57 23 = some (.aload_n 3, 1, 0, 0, 0) := rfl
theorem f57_24 : amFetch 57 24 = some (.getfield 145, 3, 2, 0, 0) := rfl
theorem f57_27 : amFetch 57 27 = some (.iload_n 2, 1, 0, 0, 0) := rfl
theorem f57_28 : amFetch 57 28 = some (.iaload, 1, 0, 0, 0) := rfl
theorem f57_29 : amFetch 57 29 = some (.ireturn, 1, 0, 0, 0) := rfl
theorem ow57 : amOwnL 57 = some (3, 4) := rfl
-- X3_counterAt
theorem f58_0 : amFetch 58 0 = some (.aload_n 0, 1, 0, 0, 0) := rfl
theorem f58_1 : amFetch 58 1 = some (.iload_n 1, 1, 0, 0, 0) := rfl
theorem f58_2 : amFetch 58 2 = some (.invokevirtual 37, 3, 0, 67, 1) := rfl
theorem f58_5 : amFetch 58 5 = some (.astore_n 3, 1, 0, 0, 0) := rfl
theorem f58_6 : amFetch 58 6 = some (.aload_n 3, 1, 0, 0, 0) := rfl
theorem f58_7 : amFetch 58 7 = some (.iload_n 2, 1, 0, 0, 0) := rfl
theorem f58_8 : amFetch 58 8 = some (.invokestatic 137, 3, 1, 68, 2) := rfl
theorem f58_11 : amFetch 58 11 = some (.aload_n 3, 1, 0, 0, 0) := rfl
theorem f58_12 : amFetch 58 12 = some (.getfield 148, 3, 2, 1, 0) := rfl
theorem f58_15 : amFetch 58 15 = some (.iload_n 2, 1, 0, 0, 0) := rfl
theorem f58_16 : amFetch 58 16 = some (.iaload, 1, 0, 0, 0) := rfl
theorem f58_17 : amFetch 58 17 = some (.ireturn, 1, 0, 0, 0) := rfl
theorem ow58 : amOwnL 58 = some (3, 4) := rfl
-- X3_quotientAt
theorem f59_0 : amFetch 59 0 = some (.aload_n 0, 1, 0, 0, 0) := rfl
theorem f59_1 : amFetch 59 1 = some (.iload_n 1, 1, 0, 0, 0) := rfl
theorem f59_2 : amFetch 59 2 = some (.invokevirtual 37, 3, 0, 67, 1) := rfl
theorem f59_5 : amFetch 59 5 = some (.astore_n 3, 1, 0, 0, 0) := rfl
theorem f59_6 : amFetch 59 6 = some (.aload_n 3, 1, 0, 0, 0) := rfl
theorem f59_7 : amFetch 59 7 = some (.iload_n 2, 1, 0, 0, 0) := rfl
theorem f59_8 : amFetch 59 8 = some (.invokestatic 137, 3, 1, 68, 2) := rfl
theorem f59_11 : amFetch 59 11 = some (.aload_n 3, 1, 0, 0, 0) := rfl
theorem f59_12 : amFetch 59 12 = some (.iload_n 2, 1, 0, 0, 0) := rfl
theorem f59_13 : amFetch 59 13 = some (.invokevirtual 141, 3, 0, 15, 1) := rfl
theorem f59_16 : amFetch 59 16 = some (.ifCond .eq 7, 3, 0, 0, 0) := rfl
theorem f59_19 : amFetch 59 19 = some (.iconst (-1), 1, 0, 0, 0) := rfl
theorem f59_20 : amFetch 59 20 = some (.goto 8, 3, 0, 0, 0) := rfl
theorem f59_23 : amFetch 59 23 = some (.aload_n 3, 1, 0, 0, 0) := rfl
theorem f59_24 : amFetch 59 24 = some (.iload_n 2, 1, 0, 0, 0) := rfl
theorem f59_25 : amFetch 59 25 = some (.invokevirtual 151, 3, 0, 27, 1) := rfl
theorem f59_28 : amFetch 59 28 = some (.ireturn, 1, 0, 0, 0) := rfl
theorem ow59 : amOwnL 59 = some (3, 4) := rfl
-- X3_isOccupied
theorem f60_0 : amFetch 60 0 = some (.aload_n 0, 1, 0, 0, 0) := rfl
theorem f60_1 : amFetch 60 1 = some (.iload_n 1, 1, 0, 0, 0) := rfl
theorem f60_2 : amFetch 60 2 = some (.invokevirtual 37, 3, 0, 67, 1) := rfl
theorem f60_5 : amFetch 60 5 = some (.astore_n 3, 1, 0, 0, 0) := rfl
theorem f60_6 : amFetch 60 6 = some (.aload_n 3, 1, 0, 0, 0) := rfl
theorem f60_7 : amFetch 60 7 = some (.iload_n 2, 1, 0, 0, 0) := rfl
theorem f60_8 : amFetch 60 8 = some (.invokestatic 137, 3, 1, 68, 2) := rfl
theorem f60_11 : amFetch 60 11 = some (.aload_n 3, 1, 0, 0, 0) := rfl
theorem f60_12 : amFetch 60 12 = some (.getfield 154, 3, 2, 2, 0) := rfl
theorem f60_15 : amFetch 60 15 = some (.iload_n 2, 1, 0, 0, 0) := rfl
theorem f60_16 : amFetch 60 16 = some (.baload, 1, 0, 0, 0) := rfl
theorem f60_17 : amFetch 60 17 = some (.ireturn, 1, 0, 0, 0) := rfl
theorem ow60 : amOwnL 60 = some (3, 4) := rfl
-- X3_isContinuation
theorem f61_0 : amFetch 61 0 = some (.aload_n 0, 1, 0, 0, 0) := rfl
theorem f61_1 : amFetch 61 1 = some (.iload_n 1, 1, 0, 0, 0) := rfl
theorem f61_2 : amFetch 61 2 = some (.invokevirtual 37, 3, 0, 67, 1) := rfl
theorem f61_5 : amFetch 61 5 = some (.astore_n 3, 1, 0, 0, 0) := rfl
theorem f61_6 : amFetch 61 6 = some (.aload_n 3, 1, 0, 0, 0) := rfl
theorem f61_7 : amFetch 61 7 = some (.iload_n 2, 1, 0, 0, 0) := rfl
theorem f61_8 : amFetch 61 8 = some (.invokestatic 137, 3, 1, 68, 2) := rfl
theorem f61_11 : amFetch 61 11 = some (.aload_n 3, 1, 0, 0, 0) := rfl
theorem f61_12 : amFetch 61 12 = some (.getfield 158, 3, 2, 3, 0) := rfl
theorem f61_15 : amFetch 61 15 = some (.iload_n 2, 1, 0, 0, 0) := rfl
theorem f61_16 : amFetch 61 16 = some (.baload, 1, 0, 0, 0) := rfl
theorem f61_17 : amFetch 61 17 = some (.ireturn, 1, 0, 0, 0) := rfl
theorem ow61 : amOwnL 61 = some (3, 4) := rfl
-- X3_isShifted
theorem f62_0 : amFetch 62 0 = some (.aload_n 0, 1, 0, 0, 0) := rfl
theorem f62_1 : amFetch 62 1 = some (.iload_n 1, 1, 0, 0, 0) := rfl
theorem f62_2 : amFetch 62 2 = some (.invokevirtual 37, 3, 0, 67, 1) := rfl
theorem f62_5 : amFetch 62 5 = some (.astore_n 3, 1, 0, 0, 0) := rfl
theorem f62_6 : amFetch 62 6 = some (.aload_n 3, 1, 0, 0, 0) := rfl
theorem f62_7 : amFetch 62 7 = some (.iload_n 2, 1, 0, 0, 0) := rfl
theorem f62_8 : amFetch 62 8 = some (.invokestatic 137, 3, 1, 68, 2) := rfl
theorem f62_11 : amFetch 62 11 = some (.aload_n 3, 1, 0, 0, 0) := rfl
theorem f62_12 : amFetch 62 12 = some (.getfield 161, 3, 2, 4, 0) := rfl
theorem f62_15 : amFetch 62 15 = some (.iload_n 2, 1, 0, 0, 0) := rfl
theorem f62_16 : amFetch 62 16 = some (.baload, 1, 0, 0, 0) := rfl
theorem f62_17 : amFetch 62 17 = some (.ireturn, 1, 0, 0, 0) := rfl
theorem ow62 : amOwnL 62 = some (3, 4) := rfl
-- X3_runStart
theorem f63_0 : amFetch 63 0 = some (.aload_n 0, 1, 0, 0, 0) := rfl
theorem f63_1 : amFetch 63 1 = some (.iload_n 1, 1, 0, 0, 0) := rfl
theorem f63_2 : amFetch 63 2 = some (.invokevirtual 37, 3, 0, 67, 1) := rfl
theorem f63_5 : amFetch 63 5 = some (.astore_n 3, 1, 0, 0, 0) := rfl
theorem f63_6 : amFetch 63 6 = some (.aload_n 3, 1, 0, 0, 0) := rfl
theorem f63_7 : amFetch 63 7 = some (.iload_n 2, 1, 0, 0, 0) := rfl
theorem f63_8 : amFetch 63 8 = some (.invokestatic 137, 3, 1, 68, 2) := rfl
theorem f63_11 : amFetch 63 11 = some (.aload_n 3, 1, 0, 0, 0) := rfl
theorem f63_12 : amFetch 63 12 = some (.iload_n 2, 1, 0, 0, 0) := rfl
theorem f63_13 : amFetch 63 13 = some (.invokevirtual 164, 3, 0, 25, 1) := rfl
theorem f63_16 : amFetch 63 16 = some (.ireturn, 1, 0, 0, 0) := rfl
theorem ow63 : amOwnL 63 = some (3, 4) := rfl
-- X3_runLength
theorem f64_0 : amFetch 64 0 = some (.aload_n 0, 1, 0, 0, 0) := rfl
theorem f64_1 : amFetch 64 1 = some (.iload_n 1, 1, 0, 0, 0) := rfl
theorem f64_2 : amFetch 64 2 = some (.invokevirtual 37, 3, 0, 67, 1) := rfl
theorem f64_5 : amFetch 64 5 = some (.astore_n 3, 1, 0, 0, 0) := rfl
theorem f64_6 : amFetch 64 6 = some (.aload_n 3, 1, 0, 0, 0) := rfl
theorem f64_7 : amFetch 64 7 = some (.iload_n 2, 1, 0, 0, 0) := rfl
theorem f64_8 : amFetch 64 8 = some (.invokestatic 137, 3, 1, 68, 2) := rfl
theorem f64_11 : amFetch 64 11 = some (.aload_n 3, 1, 0, 0, 0) := rfl
theorem f64_12 : amFetch 64 12 = some (.iload_n 2, 1, 0, 0, 0) := rfl
theorem f64_13 : amFetch 64 13 = some (.invokevirtual 164, 3, 0, 25, 1) := rfl
theorem f64_16 : amFetch 64 16 = some (.istore 4, 2, 0, 0, 0) := rfl
theorem f64_18 : amFetch 64 18 = some (.iload 4, 2, 0, 0, 0) := rfl
theorem f64_20 : amFetch 64 20 = some (.iconst (-1), 1, 0, 0, 0) := rfl
theorem f64_21 : amFetch 64 21 = some (.if_icmp .ne 7, 3, 0, 0, 0) := rfl
theorem f64_24 : amFetch 64 24 = some (.iconst 0, 1, 0, 0, 0) := rfl
theorem f64_25 : amFetch 64 25 = some (.goto 9, 3, 0, 0, 0) := rfl
theorem f64_28 : amFetch 64 28 = some (.aload_n 3, 1, 0, 0, 0) := rfl
theorem f64_29 : amFetch 64 29 = some (.iload 4, 2, 0, 0, 0) := rfl
theorem f64_31 : amFetch 64 31 = some (.invokevirtual 167, 3, 0, 26, 1) := rfl
theorem f64_34 : amFetch 64 34 = some (.ireturn, 1, 0, 0, 0) := rfl
theorem ow64 : amOwnL 64 = some (3, 5) := rfl
-- X3_clusterStart
theorem f65_0 : amFetch 65 0 = some (.aload_n 0, 1, 0, 0, 0) := rfl
theorem f65_1 : amFetch 65 1 = some (.iload_n 1, 1, 0, 0, 0) := rfl
theorem f65_2 : amFetch 65 2 = some (.invokevirtual 37, 3, 0, 67, 1) := rfl
theorem f65_5 : amFetch 65 5 = some (.astore_n 3, 1, 0, 0, 0) := rfl
theorem f65_6 : amFetch 65 6 = some (.aload_n 3, 1, 0, 0, 0) := rfl
theorem f65_7 : amFetch 65 7 = some (.iload_n 2, 1, 0, 0, 0) := rfl
theorem f65_8 : amFetch 65 8 = some (.invokestatic 137, 3, 1, 68, 2) := rfl
theorem f65_11 : amFetch 65 11 = some (.aload_n 3, 1, 0, 0, 0) := rfl
theorem f65_12 : amFetch 65 12 = some (.iload_n 2, 1, 0, 0, 0) := rfl
theorem f65_13 : amFetch 65 13 = some (.invokevirtual 141, 3, 0, 15, 1) := rfl
theorem f65_16 : amFetch 65 16 = some (.ifCond .eq 7, 3, 0, 0, 0) := rfl
theorem f65_19 : amFetch 65 19 = some (.iconst (-1), 1, 0, 0, 0) := rfl
theorem f65_20 : amFetch 65 20 = some (.goto 8, 3, 0, 0, 0) := rfl
theorem f65_23 : amFetch 65 23 = some (.aload_n 3, 1, 0, 0, 0) := rfl
theorem f65_24 : amFetch 65 24 = some (.iload_n 2, 1, 0, 0, 0) := rfl
theorem f65_25 : amFetch 65 25 = some (.invokevirtual 170, 3, 0, 24, 1) := rfl
theorem f65_28 : amFetch 65 28 = some (.ireturn, 1, 0, 0, 0) := rfl
theorem ow65 : amOwnL 65 = some (3, 4) := rfl
-- X3_longestCluster
theorem f66_0 : amFetch 66 0 = some (.aload_n 0, 1, 0, 0, 0) := rfl
theorem f66_1 : amFetch 66 1 = some (.iload_n 1, 1, 0, 0, 0) := rfl
theorem f66_2 : amFetch 66 2 = some (.invokevirtual 37, 3, 0, 67, 1) := rfl
theorem f66_5 : amFetch 66 5 = some (.invokevirtual 173, 3, 0, 30, 0) := rfl
theorem f66_8 : amFetch 66 8 = some (.ireturn, 1, 0, 0, 0) := rfl
theorem ow66 : amOwnL 66 = some (3, 2) := rfl
-- X3_tableOf
theorem f67_0 : amFetch 67 0 = some (.iload_n 1, 1, 0, 0, 0) := rfl
theorem f67_1 : amFetch 67 1 = some (.ifCond .lt 12, 3, 0, 0, 0) := rfl
theorem f67_4 : amFetch 67 4 = some (.iload_n 1, 1, 0, 0, 0) := rfl
theorem f67_5 : amFetch 67 5 = some (.aload_n 0, 1, 0, 0, 0) := rfl
theorem f67_6 : amFetch 67 6 = some (.getfield 11, 3, 3, 0, 0) := rfl
theorem f67_9 : amFetch 67 9 = some (.arraylength, 1, 0, 0, 0) := rfl
theorem f67_10 : amFetch 67 10 = some (.if_icmp .lt 13, 3, 0, 0, 0) := rfl
theorem f67_13 : amFetch 67 13 = some (.new 128, 3, 1, 1, 176132) := rfl
theorem f67_16 : amFetch 67 16 = some (.dup, 1, 0, 0, 0) := rfl
theorem f67_17 : amFetch 67 17 = some (.ldc 176, 2, 0, 0, 0) := rfl
theorem f67_19 : amFetch 67 19 = some (.invokespecial 132, 3, 9, 0, 1) := rfl
theorem f67_22 : amFetch 67 22 = some (.athrow, 1, 0, 0, 0) := rfl
theorem f67_23 : amFetch 67 23 = some (.aload_n 0, 1, 0, 0, 0) := rfl
theorem f67_24 : amFetch 67 24 = some (.getfield 11, 3, 3, 0, 0) := rfl
theorem f67_27 : amFetch 67 27 = some (.iload_n 1, 1, 0, 0, 0) := rfl
theorem f67_28 : amFetch 67 28 = some (.aaload, 1, 0, 0, 0) := rfl
theorem f67_29 : amFetch 67 29 = some (.areturn, 1, 0, 0, 0) := rfl
theorem ow67 : amOwnL 67 = some (3, 2) := rfl
-- X3_checkSlot
theorem f68_0 : amFetch 68 0 = some (.iload_n 1, 1, 0, 0, 0) := rfl
theorem f68_1 : amFetch 68 1 = some (.ifCond .lt 11, 3, 0, 0, 0) := rfl
theorem f68_4 : amFetch 68 4 = some (.iload_n 1, 1, 0, 0, 0) := rfl
theorem f68_5 : amFetch 68 5 = some (.aload_n 0, 1, 0, 0, 0) := rfl
theorem f68_6 : amFetch 68 6 = some (.invokevirtual 119, 3, 0, 14, 0) := rfl
theorem f68_9 : amFetch 68 9 = some (.if_icmp .lt 13, 3, 0, 0, 0) := rfl
theorem f68_12 : amFetch 68 12 = some (.new 128, 3, 1, 1, 178132) := rfl
theorem f68_15 : amFetch 68 15 = some (.dup, 1, 0, 0, 0) := rfl
theorem f68_16 : amFetch 68 16 = some (.ldc 178, 2, 0, 0, 0) := rfl
theorem f68_18 : amFetch 68 18 = some (.invokespecial 132, 3, 9, 0, 1) := rfl
theorem f68_21 : amFetch 68 21 = some (.athrow, 1, 0, 0, 0) := rfl
theorem f68_22 : amFetch 68 22 = some (.return_, 1, 0, 0, 0) := rfl
theorem ow68 : amOwnL 68 = some (3, 2) := rfl
-- X3_checkFingerprint
theorem f69_0 : amFetch 69 0 = some (.iload_n 0, 1, 0, 0, 0) := rfl
theorem f69_1 : amFetch 69 1 = some (.ifCond .lt 10, 3, 0, 0, 0) := rfl
theorem f69_4 : amFetch 69 4 = some (.iload_n 0, 1, 0, 0, 0) := rfl
theorem f69_5 : amFetch 69 5 = some (.sipush 4096, 3, 0, 0, 0) := rfl
theorem f69_8 : amFetch 69 8 = some (.if_icmp .lt 13, 3, 0, 0, 0) := rfl
theorem f69_11 : amFetch 69 11 = some (.new 180, 3, 1, 3, 182184) := rfl
theorem f69_14 : amFetch 69 14 = some (.dup, 1, 0, 0, 0) := rfl
theorem f69_15 : amFetch 69 15 = some (.ldc 182, 2, 0, 0, 0) := rfl
theorem f69_17 : amFetch 69 17 = some (.invokespecial 184, 3, 9, 0, 1) := rfl
theorem f69_20 : amFetch 69 20 = some (.athrow, 1, 0, 0, 0) := rfl
theorem f69_21 : amFetch 69 21 = some (.return_, 1, 0, 0, 0) := rfl
theorem ow69 : amOwnL 69 = some (3, 1) := rfl
-- X3_checkTimes
theorem f70_0 : amFetch 70 0 = some (.iload_n 0, 1, 0, 0, 0) := rfl
theorem f70_1 : amFetch 70 1 = some (.iconst 1, 1, 0, 0, 0) := rfl
theorem f70_2 : amFetch 70 2 = some (.if_icmp .lt 9, 3, 0, 0, 0) := rfl
theorem f70_5 : amFetch 70 5 = some (.iload_n 0, 1, 0, 0, 0) := rfl
theorem f70_6 : amFetch 70 6 = some (.bipush 100, 2, 0, 0, 0) := rfl
theorem f70_8 : amFetch 70 8 = some (.if_icmp .le 13, 3, 0, 0, 0) := rfl
theorem f70_11 : amFetch 70 11 = some (.new 180, 3, 1, 3, 185184) := rfl
theorem f70_14 : amFetch 70 14 = some (.dup, 1, 0, 0, 0) := rfl
theorem f70_15 : amFetch 70 15 = some (.ldc 185, 2, 0, 0, 0) := rfl
theorem f70_17 : amFetch 70 17 = some (.invokespecial 184, 3, 9, 0, 1) := rfl
theorem f70_20 : amFetch 70 20 = some (.athrow, 1, 0, 0, 0) := rfl
theorem f70_21 : amFetch 70 21 = some (.return_, 1, 0, 0, 0) := rfl
theorem ow70 : amOwnL 70 = some (3, 1) := rfl
-- X3_checkFits
theorem f71_0 : amFetch 71 0 = some (.aload_n 0, 1, 0, 0, 0) := rfl
theorem f71_1 : amFetch 71 1 = some (.invokevirtual 187, 3, 0, 8, 0) := rfl
theorem f71_4 : amFetch 71 4 = some (.iload_n 1, 1, 0, 0, 0) := rfl
theorem f71_5 : amFetch 71 5 = some (.invokestatic 190, 3, 1, 72, 1) := rfl
theorem f71_8 : amFetch 71 8 = some (.if_icmp .le 13, 3, 0, 0, 0) := rfl
theorem f71_11 : amFetch 71 11 = some (.new 80, 3, 1, 2, 193084) := rfl
theorem f71_14 : amFetch 71 14 = some (.dup, 1, 0, 0, 0) := rfl
theorem f71_15 : amFetch 71 15 = some (.ldc 193, 2, 0, 0, 0) := rfl
theorem f71_17 : amFetch 71 17 = some (.invokespecial 84, 3, 9, 0, 1) := rfl
theorem f71_20 : amFetch 71 20 = some (.athrow, 1, 0, 0, 0) := rfl
theorem f71_21 : amFetch 71 21 = some (.return_, 1, 0, 0, 0) := rfl
theorem ow71 : amOwnL 71 = some (3, 2) := rfl
-- X3_mostEntries
theorem f72_0 : amFetch 72 0 = some (.bipush 7, 2, 0, 0, 0) := rfl
theorem f72_2 : amFetch 72 2 = some (.iload_n 0, 1, 0, 0, 0) := rfl
theorem f72_3 : amFetch 72 3 = some (.ishl, 1, 0, 0, 0) := rfl
theorem f72_4 : amFetch 72 4 = some (.iconst 3, 1, 0, 0, 0) := rfl
theorem f72_5 : amFetch 72 5 = some (.ishr, 1, 0, 0, 0) := rfl
theorem f72_6 : amFetch 72 6 = some (.ireturn, 1, 0, 0, 0) := rfl
theorem ow72 : amOwnL 72 = some (3, 1) := rfl
-- X3_entriesFor
theorem f73_0 : amFetch 73 0 = some (.iload_n 0, 1, 0, 0, 0) := rfl
theorem f73_1 : amFetch 73 1 = some (.bipush 7, 2, 0, 0, 0) := rfl
theorem f73_3 : amFetch 73 3 = some (.iadd, 1, 0, 0, 0) := rfl
theorem f73_4 : amFetch 73 4 = some (.iconst 1, 1, 0, 0, 0) := rfl
theorem f73_5 : amFetch 73 5 = some (.isub, 1, 0, 0, 0) := rfl
theorem f73_6 : amFetch 73 6 = some (.bipush 7, 2, 0, 0, 0) := rfl
theorem f73_8 : amFetch 73 8 = some (.idiv, 1, 0, 0, 0) := rfl
theorem f73_9 : amFetch 73 9 = some (.ireturn, 1, 0, 0, 0) := rfl
theorem ow73 : amOwnL 73 = some (3, 1) := rfl
-- X3_putIn
theorem f74_0 : amFetch 74 0 = some (.aload_n 1, 1, 0, 0, 0) := rfl
theorem f74_1 : amFetch 74 1 = some (.aload_n 0, 1, 0, 0, 0) := rfl
theorem f74_2 : amFetch 74 2 = some (.getfield 19, 3, 3, 1, 0) := rfl
theorem f74_5 : amFetch 74 5 = some (.invokevirtual 92, 3, 0, 31, 1) := rfl
theorem f74_8 : amFetch 74 8 = some (.aload_n 0, 1, 0, 0, 0) := rfl
theorem f74_9 : amFetch 74 9 = some (.getfield 23, 3, 3, 2, 0) := rfl
theorem f74_12 : amFetch 74 12 = some (.invokevirtual 195, 3, 0, 1, 0) := rfl
theorem f74_15 : amFetch 74 15 = some (.aload_n 0, 1, 0, 0, 0) := rfl
theorem f74_16 : amFetch 74 16 = some (.getfield 23, 3, 3, 2, 0) := rfl
theorem f74_19 : amFetch 74 19 = some (.iload_n 2, 1, 0, 0, 0) := rfl
theorem f74_20 : amFetch 74 20 = some (.iload_n 3, 1, 0, 0, 0) := rfl
theorem f74_21 : amFetch 74 21 = some (.invokevirtual 198, 3, 0, 2, 2) := rfl
theorem f74_24 : amFetch 74 24 = some (.aload_n 0, 1, 0, 0, 0) := rfl
theorem f74_25 : amFetch 74 25 = some (.getfield 26, 3, 3, 3, 0) := rfl
theorem f74_28 : amFetch 74 28 = some (.aload_n 0, 1, 0, 0, 0) := rfl
theorem f74_29 : amFetch 74 29 = some (.getfield 19, 3, 3, 1, 0) := rfl
theorem f74_32 : amFetch 74 32 = some (.aload_n 0, 1, 0, 0, 0) := rfl
theorem f74_33 : amFetch 74 33 = some (.getfield 23, 3, 3, 2, 0) := rfl
theorem f74_36 : amFetch 74 36 = some (.invokevirtual 96, 3, 0, 3, 2) := rfl
theorem f74_39 : amFetch 74 39 = some (.aload_n 0, 1, 0, 0, 0) := rfl
theorem f74_40 : amFetch 74 40 = some (.getfield 26, 3, 3, 3, 0) := rfl
theorem f74_43 : amFetch 74 43 = some (.aload_n 1, 1, 0, 0, 0) := rfl
theorem f74_44 : amFetch 74 44 = some (.getfield 76, 3, 2, 5, 0) := rfl
theorem f74_47 : amFetch 74 47 = some (.invokestatic 100, 3, 1, 71, 2) := rfl
theorem f74_50 : amFetch 74 50 = some (.aload_n 1, 1, 0, 0, 0) := rfl
theorem f74_51 : amFetch 74 51 = some (.aload_n 1, 1, 0, 0, 0) := rfl
theorem f74_52 : amFetch 74 52 = some (.getfield 76, 3, 2, 5, 0) := rfl
theorem f74_55 : amFetch 74 55 = some (.aload_n 0, 1, 0, 0, 0) := rfl
theorem f74_56 : amFetch 74 56 = some (.getfield 26, 3, 3, 3, 0) := rfl
theorem f74_59 : amFetch 74 59 = some (.invokevirtual 104, 3, 0, 33, 2) := rfl
theorem f74_62 : amFetch 74 62 = some (.aload_n 1, 1, 0, 0, 0) := rfl
theorem f74_63 : amFetch 74 63 = some (.iload_n 2, 1, 0, 0, 0) := rfl
theorem f74_64 : amFetch 74 64 = some (.invokevirtual 52, 3, 0, 28, 1) := rfl
theorem f74_67 : amFetch 74 67 = some (.ireturn, 1, 0, 0, 0) := rfl
theorem ow74 : amOwnL 74 = some (3, 4) := rfl
-- X3_takeOut
theorem f75_0 : amFetch 75 0 = some (.iload_n 3, 1, 0, 0, 0) := rfl
theorem f75_1 : amFetch 75 1 = some (.aload_n 1, 1, 0, 0, 0) := rfl
theorem f75_2 : amFetch 75 2 = some (.iload_n 2, 1, 0, 0, 0) := rfl
theorem f75_3 : amFetch 75 3 = some (.invokevirtual 52, 3, 0, 28, 1) := rfl
theorem f75_6 : amFetch 75 6 = some (.invokestatic 202, 3, 5, 0, 2) := rfl
theorem f75_9 : amFetch 75 9 = some (.istore 4, 2, 0, 0, 0) := rfl
theorem f75_11 : amFetch 75 11 = some (.iload 4, 2, 0, 0, 0) := rfl
theorem f75_13 : amFetch 75 13 = some (.ifCond .le 37, 3, 0, 0, 0) := rfl
theorem f75_16 : amFetch 75 16 = some (.aload_n 1, 1, 0, 0, 0) := rfl
theorem f75_17 : amFetch 75 17 = some (.aload_n 0, 1, 0, 0, 0) := rfl
theorem f75_18 : amFetch 75 18 = some (.getfield 19, 3, 3, 1, 0) := rfl
theorem f75_21 : amFetch 75 21 = some (.invokevirtual 92, 3, 0, 31, 1) := rfl
theorem f75_24 : amFetch 75 24 = some (.aload_n 0, 1, 0, 0, 0) := rfl
theorem f75_25 : amFetch 75 25 = some (.getfield 26, 3, 3, 3, 0) := rfl
theorem f75_28 : amFetch 75 28 = some (.aload_n 0, 1, 0, 0, 0) := rfl
theorem f75_29 : amFetch 75 29 = some (.getfield 19, 3, 3, 1, 0) := rfl
theorem f75_32 : amFetch 75 32 = some (.iload_n 2, 1, 0, 0, 0) := rfl
theorem f75_33 : amFetch 75 33 = some (.iload 4, 2, 0, 0, 0) := rfl
theorem f75_35 : amFetch 75 35 = some (.invokevirtual 208, 3, 0, 5, 3) := rfl
theorem f75_38 : amFetch 75 38 = some (.aload_n 1, 1, 0, 0, 0) := rfl
theorem f75_39 : amFetch 75 39 = some (.aload_n 1, 1, 0, 0, 0) := rfl
theorem f75_40 : amFetch 75 40 = some (.getfield 76, 3, 2, 5, 0) := rfl
theorem f75_43 : amFetch 75 43 = some (.aload_n 0, 1, 0, 0, 0) := rfl
theorem f75_44 : amFetch 75 44 = some (.getfield 26, 3, 3, 3, 0) := rfl
theorem f75_47 : amFetch 75 47 = some (.invokevirtual 104, 3, 0, 33, 2) := rfl
theorem f75_50 : amFetch 75 50 = some (.iload 4, 2, 0, 0, 0) := rfl
theorem f75_52 : amFetch 75 52 = some (.ireturn, 1, 0, 0, 0) := rfl
theorem ow75 : amOwnL 75 = some (3, 5) := rfl
-- X3_resize
theorem f76_0 : amFetch 76 0 = some (.aload_n 1, 1, 0, 0, 0) := rfl
theorem f76_1 : amFetch 76 1 = some (.aload_n 0, 1, 0, 0, 0) := rfl
theorem f76_2 : amFetch 76 2 = some (.getfield 19, 3, 3, 1, 0) := rfl
theorem f76_5 : amFetch 76 5 = some (.invokevirtual 92, 3, 0, 31, 1) := rfl
theorem f76_8 : amFetch 76 8 = some (.aload_n 0, 1, 0, 0, 0) := rfl
theorem f76_9 : amFetch 76 9 = some (.getfield 19, 3, 3, 1, 0) := rfl
theorem f76_12 : amFetch 76 12 = some (.iload_n 2, 1, 0, 0, 0) := rfl
theorem f76_13 : amFetch 76 13 = some (.invokestatic 100, 3, 1, 71, 2) := rfl
theorem f76_16 : amFetch 76 16 = some (.aload_n 1, 1, 0, 0, 0) := rfl
theorem f76_17 : amFetch 76 17 = some (.iload_n 2, 1, 0, 0, 0) := rfl
theorem f76_18 : amFetch 76 18 = some (.aload_n 0, 1, 0, 0, 0) := rfl
theorem f76_19 : amFetch 76 19 = some (.getfield 19, 3, 3, 1, 0) := rfl
theorem f76_22 : amFetch 76 22 = some (.invokevirtual 104, 3, 0, 33, 2) := rfl
theorem f76_25 : amFetch 76 25 = some (.aload_n 1, 1, 0, 0, 0) := rfl
theorem f76_26 : amFetch 76 26 = some (.invokevirtual 119, 3, 0, 14, 0) := rfl
theorem f76_29 : amFetch 76 29 = some (.ireturn, 1, 0, 0, 0) := rfl
theorem ow76 : amOwnL 76 = some (3, 3) := rfl
-- X4_init
theorem f77_0 : amFetch 77 0 = some (.aload_n 0, 1, 0, 0, 0) := rfl
theorem f77_1 : amFetch 77 1 = some (.invokespecial 1, 3, 6, 0, 0) := rfl
theorem f77_4 : amFetch 77 4 = some (.aload_n 0, 1, 0, 0, 0) := rfl
theorem f77_5 : amFetch 77 5 = some (.sipush 16384, 3, 0, 0, 0) := rfl
theorem f77_8 : amFetch 77 8 = some (.newarray .int, 2, 0, 0, 0) := rfl
theorem f77_10 : amFetch 77 10 = some (.putfield 7, 3, 4, 0, 0) := rfl
theorem f77_13 : amFetch 77 13 = some (.aload_n 0, 1, 0, 0, 0) := rfl
theorem f77_14 : amFetch 77 14 = some (.iconst 4, 1, 0, 0, 0) := rfl
theorem f77_15 : amFetch 77 15 = some (.newarray .int, 2, 0, 0, 0) := rfl
theorem f77_17 : amFetch 77 17 = some (.putfield 13, 3, 4, 1, 0) := rfl
theorem f77_20 : amFetch 77 20 = some (.aload_n 0, 1, 0, 0, 0) := rfl
theorem f77_21 : amFetch 77 21 = some (.sipush 256, 3, 0, 0, 0) := rfl
theorem f77_24 : amFetch 77 24 = some (.newarray .int, 2, 0, 0, 0) := rfl
theorem f77_26 : amFetch 77 26 = some (.putfield 16, 3, 4, 2, 0) := rfl
theorem f77_29 : amFetch 77 29 = some (.aload_n 0, 1, 0, 0, 0) := rfl
theorem f77_30 : amFetch 77 30 = some (.sipush 256, 3, 0, 0, 0) := rfl
theorem f77_33 : amFetch 77 33 = some (.newarray .int, 2, 0, 0, 0) := rfl
theorem f77_35 : amFetch 77 35 = some (.putfield 19, 3, 4, 3, 0) := rfl
theorem f77_38 : amFetch 77 38 = some (.aload_n 0, 1, 0, 0, 0) := rfl
theorem f77_39 : amFetch 77 39 = some (.sipush 256, 3, 0, 0, 0) := rfl
theorem f77_42 : amFetch 77 42 = some (.newarray .int, 2, 0, 0, 0) := rfl
theorem f77_44 : amFetch 77 44 = some (.putfield 22, 3, 4, 4, 0) := rfl
theorem f77_47 : amFetch 77 47 = some (.aload_n 0, 1, 0, 0, 0) := rfl
theorem f77_48 : amFetch 77 48 = some (.sipush 256, 3, 0, 0, 0) := rfl
theorem f77_51 : amFetch 77 51 = some (.newarray .int, 2, 0, 0, 0) := rfl
theorem f77_53 : amFetch 77 53 = some (.putfield 25, 3, 4, 5, 0) := rfl
theorem f77_56 : amFetch 77 56 = some (.aload_n 0, 1, 0, 0, 0) := rfl
theorem f77_57 : amFetch 77 57 = some (.sipush 256, 3, 0, 0, 0) := rfl
theorem f77_60 : amFetch 77 60 = some (.newarray .int, 2, 0, 0, 0) := rfl
theorem f77_62 : amFetch 77 62 = some (.putfield 28, 3, 4, 6, 0) := rfl
theorem f77_65 : amFetch 77 65 = some (.iconst 0, 1, 0, 0, 0) := rfl
theorem f77_66 : amFetch 77 66 = some (.istore_n 1, 1, 0, 0, 0) := rfl
theorem f77_67 : amFetch 77 67 = some (.iload_n 1, 1, 0, 0, 0) := rfl
theorem f77_68 : amFetch 77 68 = some (.iconst 4, 1, 0, 0, 0) := rfl
theorem f77_69 : amFetch 77 69 = some (.if_icmp .ge 16, 3, 0, 0, 0) := rfl
theorem f77_72 : amFetch 77 72 = some (.aload_n 0, 1, 0, 0, 0) := rfl
theorem f77_73 : amFetch 77 73 = some (.getfield 13, 3, 4, 1, 0) := rfl
theorem f77_76 : amFetch 77 76 = some (.iload_n 1, 1, 0, 0, 0) := rfl
theorem f77_77 : amFetch 77 77 = some (.iconst 3, 1, 0, 0, 0) := rfl
theorem f77_78 : amFetch 77 78 = some (.iastore, 1, 0, 0, 0) := rfl
theorem f77_79 : amFetch 77 79 = some (.iinc 1 1, 3, 0, 0, 0) := rfl
theorem f77_82 : amFetch 77 82 = some (.goto (-15), 3, 0, 0, 0) := rfl
theorem f77_85 : amFetch 77 85 = some (.return_, 1, 0, 0, 0) := rfl
theorem ow77 : amOwnL 77 = some (4, 2) := rfl
-- X4_thrown
theorem f78_0 : amFetch 78 0 = some (.aload_n 0, 1, 0, 0, 0) := rfl
theorem f78_1 : amFetch 78 1 = some (.getfield 31, 3, 4, 7, 0) := rfl
theorem f78_4 : amFetch 78 4 = some (.ireturn, 1, 0, 0, 0) := rfl
theorem ow78 : amOwnL 78 = some (4, 1) := rfl
-- X4_in
theorem f79_0 : amFetch 79 0 = some (.iload_n 0, 1, 0, 0, 0) := rfl
theorem f79_1 : amFetch 79 1 = some (.iload_n 1, 1, 0, 0, 0) := rfl
theorem f79_2 : amFetch 79 2 = some (.if_icmp .lt 12, 3, 0, 0, 0) := rfl
theorem f79_5 : amFetch 79 5 = some (.iload_n 0, 1, 0, 0, 0) := rfl
theorem f79_6 : amFetch 79 6 = some (.iload_n 2, 1, 0, 0, 0) := rfl
theorem f79_7 : amFetch 79 7 = some (.if_icmp .gt 7, 3, 0, 0, 0) := rfl
theorem f79_10 : amFetch 79 10 = some (.iconst 1, 1, 0, 0, 0) := rfl
theorem f79_11 : amFetch 79 11 = some (.goto 4, 3, 0, 0, 0) := rfl
theorem f79_14 : amFetch 79 14 = some (.iconst 0, 1, 0, 0, 0) := rfl
theorem f79_15 : amFetch 79 15 = some (.ireturn, 1, 0, 0, 0) := rfl
theorem ow79 : amOwnL 79 = some (4, 3) := rfl
-- X4_isFilter
theorem f80_0 : amFetch 80 0 = some (.iload_n 0, 1, 0, 0, 0) := rfl
theorem f80_1 : amFetch 80 1 = some (.iconst 0, 1, 0, 0, 0) := rfl
theorem f80_2 : amFetch 80 2 = some (.iconst 3, 1, 0, 0, 0) := rfl
theorem f80_3 : amFetch 80 3 = some (.invokestatic 35, 3, 1, 79, 3) := rfl
theorem f80_6 : amFetch 80 6 = some (.ireturn, 1, 0, 0, 0) := rfl
theorem ow80 : amOwnL 80 = some (4, 1) := rfl
-- X4_isPrint
theorem f81_0 : amFetch 81 0 = some (.iload_n 0, 1, 0, 0, 0) := rfl
theorem f81_1 : amFetch 81 1 = some (.iconst 0, 1, 0, 0, 0) := rfl
theorem f81_2 : amFetch 81 2 = some (.sipush 4095, 3, 0, 0, 0) := rfl
theorem f81_5 : amFetch 81 5 = some (.invokestatic 35, 3, 1, 79, 3) := rfl
theorem f81_8 : amFetch 81 8 = some (.ireturn, 1, 0, 0, 0) := rfl
theorem ow81 : amOwnL 81 = some (4, 1) := rfl
-- X4_goes
theorem f82_0 : amFetch 82 0 = some (.aload_n 0, 1, 0, 0, 0) := rfl
theorem f82_1 : amFetch 82 1 = some (.iload_n 1, 1, 0, 0, 0) := rfl
theorem f82_2 : amFetch 82 2 = some (.ifCond .ne 7, 3, 0, 0, 0) := rfl
theorem f82_5 : amFetch 82 5 = some (.iconst 1, 1, 0, 0, 0) := rfl
theorem f82_6 : amFetch 82 6 = some (.goto 12, 3, 0, 0, 0) := rfl
theorem f82_9 : amFetch 82 9 = some (.iload_n 2, 1, 0, 0, 0) := rfl
theorem f82_10 : amFetch 82 10 = some (.ifCond .eq 7, 3, 0, 0, 0) := rfl
theorem f82_13 : amFetch 82 13 = some (.iconst 0, 1, 0, 0, 0) := rfl
theorem f82_14 : amFetch 82 14 = some (.goto 4, 3, 0, 0, 0) := rfl
theorem f82_17 : amFetch 82 17 = some (.iconst 2, 1, 0, 0, 0) := rfl
theorem f82_18 : amFetch 82 18 = some (.putfield 31, 3, 4, 7, 0) := rfl
theorem f82_21 : amFetch 82 21 = some (.aload_n 0, 1, 0, 0, 0) := rfl
theorem f82_22 : amFetch 82 22 = some (.getfield 31, 3, 4, 7, 0) := rfl
theorem f82_25 : amFetch 82 25 = some (.ifCond .ne 7, 3, 0, 0, 0) := rfl
theorem f82_28 : amFetch 82 28 = some (.iconst 1, 1, 0, 0, 0) := rfl
theorem f82_29 : amFetch 82 29 = some (.goto 4, 3, 0, 0, 0) := rfl
theorem f82_32 : amFetch 82 32 = some (.iconst 0, 1, 0, 0, 0) := rfl
theorem f82_33 : amFetch 82 33 = some (.ireturn, 1, 0, 0, 0) := rfl
theorem ow82 : amOwnL 82 = some (4, 3) := rfl
-- X4_slotsOf
theorem f83_0 : amFetch 83 0 = some (.iconst 1, 1, 0, 0, 0) := rfl
theorem f83_1 : amFetch 83 1 = some (.aload_n 0, 1, 0, 0, 0) := rfl
theorem f83_2 : amFetch 83 2 = some (.getfield 13, 3, 4, 1, 0) := rfl
theorem f83_5 : amFetch 83 5 = some (.iload_n 1, 1, 0, 0, 0) := rfl
theorem f83_6 : amFetch 83 6 = some (.iaload, 1, 0, 0, 0) := rfl
theorem f83_7 : amFetch 83 7 = some (.ishl, 1, 0, 0, 0) := rfl
theorem f83_8 : amFetch 83 8 = some (.ireturn, 1, 0, 0, 0) := rfl
theorem ow83 : amOwnL 83 = some (4, 2) := rfl
-- X4_entriesOf
theorem f84_0 : amFetch 84 0 = some (.iload_n 0, 1, 0, 0, 0) := rfl
theorem f84_1 : amFetch 84 1 = some (.bipush 7, 2, 0, 0, 0) := rfl
theorem f84_3 : amFetch 84 3 = some (.iadd, 1, 0, 0, 0) := rfl
theorem f84_4 : amFetch 84 4 = some (.iconst 1, 1, 0, 0, 0) := rfl
theorem f84_5 : amFetch 84 5 = some (.isub, 1, 0, 0, 0) := rfl
theorem f84_6 : amFetch 84 6 = some (.bipush 7, 2, 0, 0, 0) := rfl
theorem f84_8 : amFetch 84 8 = some (.idiv, 1, 0, 0, 0) := rfl
theorem f84_9 : amFetch 84 9 = some (.ireturn, 1, 0, 0, 0) := rfl
theorem ow84 : amOwnL 84 = some (4, 1) := rfl
-- X4_countEntries
theorem f85_0 : amFetch 85 0 = some (.iconst 0, 1, 0, 0, 0) := rfl
theorem f85_1 : amFetch 85 1 = some (.istore_n 2, 1, 0, 0, 0) := rfl
theorem f85_2 : amFetch 85 2 = some (.iconst 0, 1, 0, 0, 0) := rfl
theorem f85_3 : amFetch 85 3 = some (.istore_n 3, 1, 0, 0, 0) := rfl
theorem f85_4 : amFetch 85 4 = some (.iload_n 3, 1, 0, 0, 0) := rfl
theorem f85_5 : amFetch 85 5 = some (.sipush 4096, 3, 0, 0, 0) := rfl
theorem f85_8 : amFetch 85 8 = some (.if_icmp .ge 27, 3, 0, 0, 0) := rfl
theorem f85_11 : amFetch 85 11 = some (.iload_n 2, 1, 0, 0, 0) := rfl
theorem f85_12 : amFetch 85 12 = some (.aload_n 0, 1, 0, 0, 0) := rfl
theorem f85_13 : amFetch 85 13 = some (.getfield 7, 3, 4, 0, 0) := rfl
theorem f85_16 : amFetch 85 16 = some (.sipush 4096, 3, 0, 0, 0) := rfl
theorem f85_19 : amFetch 85 19 = some (.iload_n 1, 1, 0, 0, 0) := rfl
theorem f85_20 : amFetch 85 20 = some (.imul, 1, 0, 0, 0) := rfl
theorem f85_21 : amFetch 85 21 = some (.iload_n 3, 1, 0, 0, 0) := rfl
theorem f85_22 : amFetch 85 22 = some (.iadd, 1, 0, 0, 0) := rfl
theorem f85_23 : amFetch 85 23 = some (.iaload, 1, 0, 0, 0) := rfl
theorem f85_24 : amFetch 85 24 = some (.invokestatic 39, 3, 1, 84, 1) := rfl
theorem f85_27 : amFetch 85 27 = some (.iadd, 1, 0, 0, 0) := rfl
theorem f85_28 : amFetch 85 28 = some (.istore_n 2, 1, 0, 0, 0) := rfl
theorem f85_29 : amFetch 85 29 = some (.iinc 3 1, 3, 0, 0, 0) := rfl
theorem f85_32 : amFetch 85 32 = some (.goto (-28), 3, 0, 0, 0) := rfl
theorem f85_35 : amFetch 85 35 = some (.iload_n 2, 1, 0, 0, 0) := rfl
theorem f85_36 : amFetch 85 36 = some (.ireturn, 1, 0, 0, 0) := rfl
theorem ow85 : amOwnL 85 = some (4, 4) := rfl
-- X4_hasRoom
theorem f86_0 : amFetch 86 0 = some (.iload_n 0, 1, 0, 0, 0) := rfl
theorem f86_1 : amFetch 86 1 = some (.iload_n 1, 1, 0, 0, 0) := rfl
theorem f86_2 : amFetch 86 2 = some (.bipush 8, 2, 0, 0, 0) := rfl
theorem f86_4 : amFetch 86 4 = some (.idiv, 1, 0, 0, 0) := rfl
theorem f86_5 : amFetch 86 5 = some (.bipush 7, 2, 0, 0, 0) := rfl
theorem f86_7 : amFetch 86 7 = some (.imul, 1, 0, 0, 0) := rfl
theorem f86_8 : amFetch 86 8 = some (.if_icmp .gt 7, 3, 0, 0, 0) := rfl
theorem f86_11 : amFetch 86 11 = some (.iconst 1, 1, 0, 0, 0) := rfl
theorem f86_12 : amFetch 86 12 = some (.goto 4, 3, 0, 0, 0) := rfl
theorem f86_15 : amFetch 86 15 = some (.iconst 0, 1, 0, 0, 0) := rfl
theorem f86_16 : amFetch 86 16 = some (.ireturn, 1, 0, 0, 0) := rfl
theorem ow86 : amOwnL 86 = some (4, 2) := rfl
-- X4_printOf
theorem f87_0 : amFetch 87 0 = some (.iload_n 0, 1, 0, 0, 0) := rfl
theorem f87_1 : amFetch 87 1 = some (.ldc 43, 2, 0, 0, (-1640531527)) := rfl
theorem f87_3 : amFetch 87 3 = some (.imul, 1, 0, 0, 0) := rfl
theorem f87_4 : amFetch 87 4 = some (.bipush 20, 2, 0, 0, 0) := rfl
theorem f87_6 : amFetch 87 6 = some (.iushr, 1, 0, 0, 0) := rfl
theorem f87_7 : amFetch 87 7 = some (.ireturn, 1, 0, 0, 0) := rfl
theorem ow87 : amOwnL 87 = some (4, 1) := rfl
-- X4_places
theorem f88_0 : amFetch 88 0 = some (.iconst 0, 1, 0, 0, 0) := rfl
theorem f88_1 : amFetch 88 1 = some (.istore_n 2, 1, 0, 0, 0) := rfl
theorem f88_2 : amFetch 88 2 = some (.iconst 0, 1, 0, 0, 0) := rfl
theorem f88_3 : amFetch 88 3 = some (.istore_n 3, 1, 0, 0, 0) := rfl
theorem f88_4 : amFetch 88 4 = some (.iload_n 3, 1, 0, 0, 0) := rfl
theorem f88_5 : amFetch 88 5 = some (.iconst 2, 1, 0, 0, 0) := rfl
theorem f88_6 : amFetch 88 6 = some (.if_icmp .ge 90, 3, 0, 0, 0) := rfl
theorem f88_9 : amFetch 88 9 = some (.iload_n 2, 1, 0, 0, 0) := rfl
theorem f88_10 : amFetch 88 10 = some (.istore 4, 2, 0, 0, 0) := rfl
theorem f88_12 : amFetch 88 12 = some (.iconst 0, 1, 0, 0, 0) := rfl
theorem f88_13 : amFetch 88 13 = some (.istore 5, 2, 0, 0, 0) := rfl
theorem f88_15 : amFetch 88 15 = some (.iload 5, 2, 0, 0, 0) := rfl
theorem f88_17 : amFetch 88 17 = some (.iload_n 1, 1, 0, 0, 0) := rfl
theorem f88_18 : amFetch 88 18 = some (.if_icmp .ge 57, 3, 0, 0, 0) := rfl
theorem f88_21 : amFetch 88 21 = some (.aload_n 0, 1, 0, 0, 0) := rfl
theorem f88_22 : amFetch 88 22 = some (.getfield 22, 3, 4, 4, 0) := rfl
theorem f88_25 : amFetch 88 25 = some (.iload 5, 2, 0, 0, 0) := rfl
theorem f88_27 : amFetch 88 27 = some (.iaload, 1, 0, 0, 0) := rfl
theorem f88_28 : amFetch 88 28 = some (.ifCond .le 41, 3, 0, 0, 0) := rfl
theorem f88_31 : amFetch 88 31 = some (.aload_n 0, 1, 0, 0, 0) := rfl
theorem f88_32 : amFetch 88 32 = some (.getfield 25, 3, 4, 5, 0) := rfl
theorem f88_35 : amFetch 88 35 = some (.iload 5, 2, 0, 0, 0) := rfl
theorem f88_37 : amFetch 88 37 = some (.iload 4, 2, 0, 0, 0) := rfl
theorem f88_39 : amFetch 88 39 = some (.iload 5, 2, 0, 0, 0) := rfl
theorem f88_41 : amFetch 88 41 = some (.if_icmp .le 8, 3, 0, 0, 0) := rfl
theorem f88_44 : amFetch 88 44 = some (.iload 4, 2, 0, 0, 0) := rfl
theorem f88_46 : amFetch 88 46 = some (.goto 5, 3, 0, 0, 0) := rfl
theorem f88_49 : amFetch 88 49 = some (.iload 5, 2, 0, 0, 0) := rfl
theorem f88_51 : amFetch 88 51 = some (.iastore, 1, 0, 0, 0) := rfl
theorem f88_52 : amFetch 88 52 = some (.aload_n 0, 1, 0, 0, 0) := rfl
theorem f88_53 : amFetch 88 53 = some (.getfield 25, 3, 4, 5, 0) := rfl
theorem f88_56 : amFetch 88 56 = some (.iload 5, 2, 0, 0, 0) := rfl
theorem f88_58 : amFetch 88 58 = some (.iaload, 1, 0, 0, 0) := rfl
theorem f88_59 : amFetch 88 59 = some (.aload_n 0, 1, 0, 0, 0) := rfl
theorem f88_60 : amFetch 88 60 = some (.getfield 22, 3, 4, 4, 0) := rfl
theorem f88_63 : amFetch 88 63 = some (.iload 5, 2, 0, 0, 0) := rfl
theorem f88_65 : amFetch 88 65 = some (.iaload, 1, 0, 0, 0) := rfl
theorem f88_66 : amFetch 88 66 = some (.iadd, 1, 0, 0, 0) := rfl
theorem f88_67 : amFetch 88 67 = some (.istore 4, 2, 0, 0, 0) := rfl
theorem f88_69 : amFetch 88 69 = some (.iinc 5 1, 3, 0, 0, 0) := rfl
theorem f88_72 : amFetch 88 72 = some (.goto (-57), 3, 0, 0, 0) := rfl
theorem f88_75 : amFetch 88 75 = some (.iload 4, 2, 0, 0, 0) := rfl
theorem f88_77 : amFetch 88 77 = some (.iload_n 1, 1, 0, 0, 0) := rfl
theorem f88_78 : amFetch 88 78 = some (.if_icmp .le 10, 3, 0, 0, 0) := rfl
theorem f88_81 : amFetch 88 81 = some (.iload 4, 2, 0, 0, 0) := rfl
theorem f88_83 : amFetch 88 83 = some (.iload_n 1, 1, 0, 0, 0) := rfl
theorem f88_84 : amFetch 88 84 = some (.isub, 1, 0, 0, 0) := rfl
theorem f88_85 : amFetch 88 85 = some (.goto 4, 3, 0, 0, 0) := rfl
theorem f88_88 : amFetch 88 88 = some (.iconst 0, 1, 0, 0, 0) := rfl
theorem f88_89 : amFetch 88 89 = some (.istore_n 2, 1, 0, 0, 0) := rfl
theorem f88_90 : amFetch 88 90 = some (.iinc 3 1, 3, 0, 0, 0) := rfl
theorem f88_93 : amFetch 88 93 = some (.goto (-89), 3, 0, 0, 0) := rfl
theorem f88_96 : amFetch 88 96 = some (.return_, 1, 0, 0, 0) := rfl
theorem ow88 : amOwnL 88 = some (4, 6) := rfl
-- X4_lays
theorem f89_0 : amFetch 89 0 = some (.aload_n 0, 1, 0, 0, 0) := rfl
theorem f89_1 : amFetch 89 1 = some (.iload_n 1, 1, 0, 0, 0) := rfl
theorem f89_2 : amFetch 89 2 = some (.invokevirtual 44, 3, 0, 83, 1) := rfl
theorem f89_5 : amFetch 89 5 = some (.istore_n 2, 1, 0, 0, 0) := rfl
theorem f89_6 : amFetch 89 6 = some (.bipush 12, 2, 0, 0, 0) := rfl
theorem f89_8 : amFetch 89 8 = some (.aload_n 0, 1, 0, 0, 0) := rfl
theorem f89_9 : amFetch 89 9 = some (.getfield 13, 3, 4, 1, 0) := rfl
theorem f89_12 : amFetch 89 12 = some (.iload_n 1, 1, 0, 0, 0) := rfl
theorem f89_13 : amFetch 89 13 = some (.iaload, 1, 0, 0, 0) := rfl
theorem f89_14 : amFetch 89 14 = some (.isub, 1, 0, 0, 0) := rfl
theorem f89_15 : amFetch 89 15 = some (.istore_n 3, 1, 0, 0, 0) := rfl
theorem f89_16 : amFetch 89 16 = some (.iconst 0, 1, 0, 0, 0) := rfl
theorem f89_17 : amFetch 89 17 = some (.istore 4, 2, 0, 0, 0) := rfl
theorem f89_19 : amFetch 89 19 = some (.iload 4, 2, 0, 0, 0) := rfl
theorem f89_21 : amFetch 89 21 = some (.iload_n 2, 1, 0, 0, 0) := rfl
theorem f89_22 : amFetch 89 22 = some (.if_icmp .ge 41, 3, 0, 0, 0) := rfl
theorem f89_25 : amFetch 89 25 = some (.aload_n 0, 1, 0, 0, 0) := rfl
theorem f89_26 : amFetch 89 26 = some (.getfield 22, 3, 4, 4, 0) := rfl
theorem f89_29 : amFetch 89 29 = some (.iload 4, 2, 0, 0, 0) := rfl
theorem f89_31 : amFetch 89 31 = some (.iconst 0, 1, 0, 0, 0) := rfl
theorem f89_32 : amFetch 89 32 = some (.iastore, 1, 0, 0, 0) := rfl
theorem f89_33 : amFetch 89 33 = some (.aload_n 0, 1, 0, 0, 0) := rfl
theorem f89_34 : amFetch 89 34 = some (.getfield 28, 3, 4, 6, 0) := rfl
theorem f89_37 : amFetch 89 37 = some (.iload 4, 2, 0, 0, 0) := rfl
theorem f89_39 : amFetch 89 39 = some (.iconst 0, 1, 0, 0, 0) := rfl
theorem f89_40 : amFetch 89 40 = some (.iastore, 1, 0, 0, 0) := rfl
theorem f89_41 : amFetch 89 41 = some (.aload_n 0, 1, 0, 0, 0) := rfl
theorem f89_42 : amFetch 89 42 = some (.getfield 16, 3, 4, 2, 0) := rfl
theorem f89_45 : amFetch 89 45 = some (.iload 4, 2, 0, 0, 0) := rfl
theorem f89_47 : amFetch 89 47 = some (.iconst 0, 1, 0, 0, 0) := rfl
theorem f89_48 : amFetch 89 48 = some (.iastore, 1, 0, 0, 0) := rfl
theorem f89_49 : amFetch 89 49 = some (.aload_n 0, 1, 0, 0, 0) := rfl
theorem f89_50 : amFetch 89 50 = some (.getfield 19, 3, 4, 3, 0) := rfl
theorem f89_53 : amFetch 89 53 = some (.iload 4, 2, 0, 0, 0) := rfl
theorem f89_55 : amFetch 89 55 = some (.iconst 0, 1, 0, 0, 0) := rfl
theorem f89_56 : amFetch 89 56 = some (.iastore, 1, 0, 0, 0) := rfl
theorem f89_57 : amFetch 89 57 = some (.iinc 4 1, 3, 0, 0, 0) := rfl
theorem f89_60 : amFetch 89 60 = some (.goto (-41), 3, 0, 0, 0) := rfl
theorem f89_63 : amFetch 89 63 = some (.iconst 0, 1, 0, 0, 0) := rfl
theorem f89_64 : amFetch 89 64 = some (.istore 4, 2, 0, 0, 0) := rfl
theorem f89_66 : amFetch 89 66 = some (.iload 4, 2, 0, 0, 0) := rfl
theorem f89_68 : amFetch 89 68 = some (.sipush 4096, 3, 0, 0, 0) := rfl
theorem f89_71 : amFetch 89 71 = some (.if_icmp .ge 37, 3, 0, 0, 0) := rfl
theorem f89_74 : amFetch 89 74 = some (.aload_n 0, 1, 0, 0, 0) := rfl
theorem f89_75 : amFetch 89 75 = some (.getfield 22, 3, 4, 4, 0) := rfl
theorem f89_78 : amFetch 89 78 = some (.iload 4, 2, 0, 0, 0) := rfl
theorem f89_80 : amFetch 89 80 = some (.iload_n 3, 1, 0, 0, 0) := rfl
theorem f89_81 : amFetch 89 81 = some (.ishr, 1, 0, 0, 0) := rfl
theorem f89_82 : amFetch 89 82 = some (.dup2, 1, 0, 0, 0) := rfl
theorem f89_83 : amFetch 89 83 = some (.iaload, 1, 0, 0, 0) := rfl
theorem f89_84 : amFetch 89 84 = some (.aload_n 0, 1, 0, 0, 0) := rfl
theorem f89_85 : amFetch 89 85 = some (.getfield 7, 3, 4, 0, 0) := rfl
theorem f89_88 : amFetch 89 88 = some (.sipush 4096, 3, 0, 0, 0) := rfl
theorem f89_91 : amFetch 89 91 = some (.iload_n 1, 1, 0, 0, 0) := rfl
theorem f89_92 : amFetch 89 92 = some (.imul, 1, 0, 0, 0) := rfl
theorem f89_93 : amFetch 89 93 = some (.iload 4, 2, 0, 0, 0) := rfl
theorem f89_95 : amFetch 89 95 = some (.iadd, 1, 0, 0, 0) := rfl
theorem f89_96 : amFetch 89 96 = some (.iaload, 1, 0, 0, 0) := rfl
theorem f89_97 : amFetch 89 97 = some (.invokestatic 39, 3, 1, 84, 1) := rfl
theorem f89_100 : amFetch 89 100 = some (.iadd, 1, 0, 0, 0) := rfl
theorem f89_101 : amFetch 89 101 = some (.iastore, 1, 0, 0, 0) := rfl
theorem f89_102 : amFetch 89 102 = some (.iinc 4 1, 3, 0, 0, 0) := rfl
theorem f89_105 : amFetch 89 105 = some (.goto (-39), 3, 0, 0, 0) := rfl
theorem f89_108 : amFetch 89 108 = some (.aload_n 0, 1, 0, 0, 0) := rfl
theorem f89_109 : amFetch 89 109 = some (.iload_n 2, 1, 0, 0, 0) := rfl
theorem f89_110 : amFetch 89 110 = some (.invokevirtual 47, 3, 0, 88, 1) := rfl
theorem f89_113 : amFetch 89 113 = some (.iconst 0, 1, 0, 0, 0) := rfl
theorem f89_114 : amFetch 89 114 = some (.istore 4, 2, 0, 0, 0) := rfl
theorem f89_116 : amFetch 89 116 = some (.iload 4, 2, 0, 0, 0) := rfl
theorem f89_118 : amFetch 89 118 = some (.sipush 4096, 3, 0, 0, 0) := rfl
theorem f89_121 : amFetch 89 121 = some (.if_icmp .ge 103, 3, 0, 0, 0) := rfl
theorem f89_124 : amFetch 89 124 = some (.iload 4, 2, 0, 0, 0) := rfl
theorem f89_126 : amFetch 89 126 = some (.iload_n 3, 1, 0, 0, 0) := rfl
theorem f89_127 : amFetch 89 127 = some (.ishr, 1, 0, 0, 0) := rfl
theorem f89_128 : amFetch 89 128 = some (.istore 5, 2, 0, 0, 0) := rfl
theorem f89_130 : amFetch 89 130 = some (.aload_n 0, 1, 0, 0, 0) := rfl
theorem f89_131 : amFetch 89 131 = some (.getfield 7, 3, 4, 0, 0) := rfl
theorem f89_134 : amFetch 89 134 = some (.sipush 4096, 3, 0, 0, 0) := rfl
theorem f89_137 : amFetch 89 137 = some (.iload_n 1, 1, 0, 0, 0) := rfl
theorem f89_138 : amFetch 89 138 = some (.imul, 1, 0, 0, 0) := rfl
theorem f89_139 : amFetch 89 139 = some (.iload 4, 2, 0, 0, 0) := rfl
theorem f89_141 : amFetch 89 141 = some (.iadd, 1, 0, 0, 0) := rfl
theorem f89_142 : amFetch 89 142 = some (.iaload, 1, 0, 0, 0) := rfl
theorem f89_143 : amFetch 89 143 = some (.istore 6, 2, 0, 0, 0) := rfl
theorem f89_145 : amFetch 89 145 = some (.iload 6, 2, 0, 0, 0) := rfl
theorem f89_147 : amFetch 89 147 = some (.ifCond .le 71, 3, 0, 0, 0) := rfl
theorem f89_150 : amFetch 89 150 = some (.aload_n 0, 1, 0, 0, 0) := rfl
theorem f89_151 : amFetch 89 151 = some (.getfield 25, 3, 4, 5, 0) := rfl
theorem f89_154 : amFetch 89 154 = some (.iload 5, 2, 0, 0, 0) := rfl
theorem f89_156 : amFetch 89 156 = some (.iaload, 1, 0, 0, 0) := rfl
theorem f89_157 : amFetch 89 157 = some (.aload_n 0, 1, 0, 0, 0) := rfl
theorem f89_158 : amFetch 89 158 = some (.getfield 28, 3, 4, 6, 0) := rfl
theorem f89_161 : amFetch 89 161 = some (.iload 5, 2, 0, 0, 0) := rfl
theorem f89_163 : amFetch 89 163 = some (.iaload, 1, 0, 0, 0) := rfl
theorem f89_164 : amFetch 89 164 = some (.iadd, 1, 0, 0, 0) := rfl
theorem f89_165 : amFetch 89 165 = some (.iload_n 2, 1, 0, 0, 0) := rfl
theorem f89_166 : amFetch 89 166 = some (.irem, 1, 0, 0, 0) := rfl
theorem f89_167 : amFetch 89 167 = some (.istore 7, 2, 0, 0, 0) := rfl
theorem f89_169 : amFetch 89 169 = some (.aload_n 0, 1, 0, 0, 0) := rfl
theorem f89_170 : amFetch 89 170 = some (.getfield 16, 3, 4, 2, 0) := rfl
theorem f89_173 : amFetch 89 173 = some (.iload 7, 2, 0, 0, 0) := rfl
theorem f89_175 : amFetch 89 175 = some (.iload 4, 2, 0, 0, 0) := rfl
theorem f89_177 : amFetch 89 177 = some (.iconst 1, 1, 0, 0, 0) := rfl
theorem f89_178 : amFetch 89 178 = some (.iadd, 1, 0, 0, 0) := rfl
theorem f89_179 : amFetch 89 179 = some (.iastore, 1, 0, 0, 0) := rfl
theorem f89_180 : amFetch 89 180 = some (.aload_n 0, 1, 0, 0, 0) := rfl
theorem f89_181 : amFetch 89 181 = some (.getfield 19, 3, 4, 3, 0) := rfl
theorem f89_184 : amFetch 89 184 = some (.iload 7, 2, 0, 0, 0) := rfl
theorem f89_186 : amFetch 89 186 = some (.iload 6, 2, 0, 0, 0) := rfl
theorem f89_188 : amFetch 89 188 = some (.bipush 7, 2, 0, 0, 0) := rfl
theorem f89_190 : amFetch 89 190 = some (.if_icmp .le 8, 3, 0, 0, 0) := rfl
theorem f89_193 : amFetch 89 193 = some (.bipush 7, 2, 0, 0, 0) := rfl
theorem f89_195 : amFetch 89 195 = some (.goto 5, 3, 0, 0, 0) := rfl
theorem f89_198 : amFetch 89 198 = some (.iload 6, 2, 0, 0, 0) := rfl
theorem f89_200 : amFetch 89 200 = some (.iastore, 1, 0, 0, 0) := rfl
theorem f89_201 : amFetch 89 201 = some (.aload_n 0, 1, 0, 0, 0) := rfl
theorem f89_202 : amFetch 89 202 = some (.getfield 28, 3, 4, 6, 0) := rfl
theorem f89_205 : amFetch 89 205 = some (.iload 5, 2, 0, 0, 0) := rfl
theorem f89_207 : amFetch 89 207 = some (.dup2, 1, 0, 0, 0) := rfl
theorem f89_208 : amFetch 89 208 = some (.iaload, 1, 0, 0, 0) := rfl
theorem f89_209 : amFetch 89 209 = some (.iconst 1, 1, 0, 0, 0) := rfl
theorem f89_210 : amFetch 89 210 = some (.iadd, 1, 0, 0, 0) := rfl
theorem f89_211 : amFetch 89 211 = some (.iastore, 1, 0, 0, 0) := rfl
theorem f89_212 : amFetch 89 212 = some (.iinc 6 (-7), 3, 0, 0, 0) := rfl
theorem f89_215 : amFetch 89 215 = some (.goto (-70), 3, 0, 0, 0) := rfl
theorem f89_218 : amFetch 89 218 = some (.iinc 4 1, 3, 0, 0, 0) := rfl
theorem f89_221 : amFetch 89 221 = some (.goto (-105), 3, 0, 0, 0) := rfl
theorem f89_224 : amFetch 89 224 = some (.return_, 1, 0, 0, 0) := rfl
theorem ow89 : amOwnL 89 = some (4, 8) := rfl
-- X4_isEntry
theorem f90_0 : amFetch 90 0 = some (.aload_n 0, 1, 0, 0, 0) := rfl
theorem f90_1 : amFetch 90 1 = some (.getfield 16, 3, 4, 2, 0) := rfl
theorem f90_4 : amFetch 90 4 = some (.iload_n 1, 1, 0, 0, 0) := rfl
theorem f90_5 : amFetch 90 5 = some (.iaload, 1, 0, 0, 0) := rfl
theorem f90_6 : amFetch 90 6 = some (.ifCond .le 7, 3, 0, 0, 0) := rfl
theorem f90_9 : amFetch 90 9 = some (.iconst 1, 1, 0, 0, 0) := rfl
theorem f90_10 : amFetch 90 10 = some (.goto 4, 3, 0, 0, 0) := rfl
theorem f90_13 : amFetch 90 13 = some (.iconst 0, 1, 0, 0, 0) := rfl
theorem f90_14 : amFetch 90 14 = some (.ireturn, 1, 0, 0, 0) := rfl
theorem ow90 : amOwnL 90 = some (4, 2) := rfl
-- X4_quotientIn
theorem f91_0 : amFetch 91 0 = some (.aload_n 0, 1, 0, 0, 0) := rfl
theorem f91_1 : amFetch 91 1 = some (.getfield 16, 3, 4, 2, 0) := rfl
theorem f91_4 : amFetch 91 4 = some (.iload_n 2, 1, 0, 0, 0) := rfl
theorem f91_5 : amFetch 91 5 = some (.iaload, 1, 0, 0, 0) := rfl
theorem f91_6 : amFetch 91 6 = some (.iconst 1, 1, 0, 0, 0) := rfl
theorem f91_7 : amFetch 91 7 = some (.isub, 1, 0, 0, 0) := rfl
theorem f91_8 : amFetch 91 8 = some (.bipush 12, 2, 0, 0, 0) := rfl
theorem f91_10 : amFetch 91 10 = some (.aload_n 0, 1, 0, 0, 0) := rfl
theorem f91_11 : amFetch 91 11 = some (.getfield 13, 3, 4, 1, 0) := rfl
theorem f91_14 : amFetch 91 14 = some (.iload_n 1, 1, 0, 0, 0) := rfl
theorem f91_15 : amFetch 91 15 = some (.iaload, 1, 0, 0, 0) := rfl
theorem f91_16 : amFetch 91 16 = some (.isub, 1, 0, 0, 0) := rfl
theorem f91_17 : amFetch 91 17 = some (.ishr, 1, 0, 0, 0) := rfl
theorem f91_18 : amFetch 91 18 = some (.ireturn, 1, 0, 0, 0) := rfl
theorem ow91 : amOwnL 91 = some (4, 3) := rfl
-- X4_isMoved
theorem f92_0 : amFetch 92 0 = some (.aload_n 0, 1, 0, 0, 0) := rfl
theorem f92_1 : amFetch 92 1 = some (.iload_n 2, 1, 0, 0, 0) := rfl
theorem f92_2 : amFetch 92 2 = some (.invokevirtual 51, 3, 0, 90, 1) := rfl
theorem f92_5 : amFetch 92 5 = some (.ifCond .eq 17, 3, 0, 0, 0) := rfl
theorem f92_8 : amFetch 92 8 = some (.aload_n 0, 1, 0, 0, 0) := rfl
theorem f92_9 : amFetch 92 9 = some (.iload_n 1, 1, 0, 0, 0) := rfl
theorem f92_10 : amFetch 92 10 = some (.iload_n 2, 1, 0, 0, 0) := rfl
theorem f92_11 : amFetch 92 11 = some (.invokevirtual 55, 3, 0, 91, 2) := rfl
theorem f92_14 : amFetch 92 14 = some (.iload_n 2, 1, 0, 0, 0) := rfl
theorem f92_15 : amFetch 92 15 = some (.if_icmp .eq 7, 3, 0, 0, 0) := rfl
theorem f92_18 : amFetch 92 18 = some (.iconst 1, 1, 0, 0, 0) := rfl
theorem f92_19 : amFetch 92 19 = some (.goto 4, 3, 0, 0, 0) := rfl
theorem f92_22 : amFetch 92 22 = some (.iconst 0, 1, 0, 0, 0) := rfl
theorem f92_23 : amFetch 92 23 = some (.ireturn, 1, 0, 0, 0) := rfl
theorem ow92 : amOwnL 92 = some (4, 3) := rfl
-- X4_fingerprint
theorem f93_0 : amFetch 93 0 = some (.aload_n 0, 1, 0, 0, 0) := rfl
theorem f93_1 : amFetch 93 1 = some (.iconst 0, 1, 0, 0, 0) := rfl
theorem f93_2 : amFetch 93 2 = some (.putfield 31, 3, 4, 7, 0) := rfl
theorem f93_5 : amFetch 93 5 = some (.iload_n 1, 1, 0, 0, 0) := rfl
theorem f93_6 : amFetch 93 6 = some (.invokestatic 59, 3, 1, 87, 1) := rfl
theorem f93_9 : amFetch 93 9 = some (.ireturn, 1, 0, 0, 0) := rfl
theorem ow93 : amOwnL 93 = some (4, 2) := rfl
-- X4_changes
theorem f94_0 : amFetch 94 0 = some (.aload_n 0, 1, 0, 0, 0) := rfl
theorem f94_1 : amFetch 94 1 = some (.getfield 7, 3, 4, 0, 0) := rfl
theorem f94_4 : amFetch 94 4 = some (.sipush 4096, 3, 0, 0, 0) := rfl
theorem f94_7 : amFetch 94 7 = some (.iload_n 1, 1, 0, 0, 0) := rfl
theorem f94_8 : amFetch 94 8 = some (.imul, 1, 0, 0, 0) := rfl
theorem f94_9 : amFetch 94 9 = some (.iload_n 2, 1, 0, 0, 0) := rfl
theorem f94_10 : amFetch 94 10 = some (.iadd, 1, 0, 0, 0) := rfl
theorem f94_11 : amFetch 94 11 = some (.iaload, 1, 0, 0, 0) := rfl
theorem f94_12 : amFetch 94 12 = some (.istore 4, 2, 0, 0, 0) := rfl
theorem f94_14 : amFetch 94 14 = some (.aload_n 0, 1, 0, 0, 0) := rfl
theorem f94_15 : amFetch 94 15 = some (.iload_n 1, 1, 0, 0, 0) := rfl
theorem f94_16 : amFetch 94 16 = some (.invokevirtual 62, 3, 0, 85, 1) := rfl
theorem f94_19 : amFetch 94 19 = some (.iload 4, 2, 0, 0, 0) := rfl
theorem f94_21 : amFetch 94 21 = some (.invokestatic 39, 3, 1, 84, 1) := rfl
theorem f94_24 : amFetch 94 24 = some (.isub, 1, 0, 0, 0) := rfl
theorem f94_25 : amFetch 94 25 = some (.iload_n 3, 1, 0, 0, 0) := rfl
theorem f94_26 : amFetch 94 26 = some (.invokestatic 39, 3, 1, 84, 1) := rfl
theorem f94_29 : amFetch 94 29 = some (.iadd, 1, 0, 0, 0) := rfl
theorem f94_30 : amFetch 94 30 = some (.istore 5, 2, 0, 0, 0) := rfl
theorem f94_32 : amFetch 94 32 = some (.iload 5, 2, 0, 0, 0) := rfl
theorem f94_34 : amFetch 94 34 = some (.aload_n 0, 1, 0, 0, 0) := rfl
theorem f94_35 : amFetch 94 35 = some (.iload_n 1, 1, 0, 0, 0) := rfl
theorem f94_36 : amFetch 94 36 = some (.invokevirtual 44, 3, 0, 83, 1) := rfl
theorem f94_39 : amFetch 94 39 = some (.invokestatic 65, 3, 1, 86, 2) := rfl
theorem f94_42 : amFetch 94 42 = some (.istore 6, 2, 0, 0, 0) := rfl
theorem f94_44 : amFetch 94 44 = some (.aload_n 0, 1, 0, 0, 0) := rfl
theorem f94_45 : amFetch 94 45 = some (.getfield 7, 3, 4, 0, 0) := rfl
theorem f94_48 : amFetch 94 48 = some (.sipush 4096, 3, 0, 0, 0) := rfl
theorem f94_51 : amFetch 94 51 = some (.iload_n 1, 1, 0, 0, 0) := rfl
theorem f94_52 : amFetch 94 52 = some (.imul, 1, 0, 0, 0) := rfl
theorem f94_53 : amFetch 94 53 = some (.iload_n 2, 1, 0, 0, 0) := rfl
theorem f94_54 : amFetch 94 54 = some (.iadd, 1, 0, 0, 0) := rfl
theorem f94_55 : amFetch 94 55 = some (.iload 6, 2, 0, 0, 0) := rfl
theorem f94_57 : amFetch 94 57 = some (.ifCond .eq 7, 3, 0, 0, 0) := rfl
theorem f94_60 : amFetch 94 60 = some (.iload_n 3, 1, 0, 0, 0) := rfl
theorem f94_61 : amFetch 94 61 = some (.goto 5, 3, 0, 0, 0) := rfl
theorem f94_64 : amFetch 94 64 = some (.iload 4, 2, 0, 0, 0) := rfl
theorem f94_66 : amFetch 94 66 = some (.iastore, 1, 0, 0, 0) := rfl
theorem f94_67 : amFetch 94 67 = some (.iload 6, 2, 0, 0, 0) := rfl
theorem f94_69 : amFetch 94 69 = some (.ireturn, 1, 0, 0, 0) := rfl
theorem ow94 : amOwnL 94 = some (4, 7) := rfl
-- X4_insert
theorem f95_0 : amFetch 95 0 = some (.aload_n 0, 1, 0, 0, 0) := rfl
theorem f95_1 : amFetch 95 1 = some (.iload_n 1, 1, 0, 0, 0) := rfl
theorem f95_2 : amFetch 95 2 = some (.invokestatic 69, 3, 1, 80, 1) := rfl
theorem f95_5 : amFetch 95 5 = some (.iconst 1, 1, 0, 0, 0) := rfl
theorem f95_6 : amFetch 95 6 = some (.invokevirtual 72, 3, 0, 82, 2) := rfl
theorem f95_9 : amFetch 95 9 = some (.ifCond .ne 5, 3, 0, 0, 0) := rfl
theorem f95_12 : amFetch 95 12 = some (.iconst 0, 1, 0, 0, 0) := rfl
theorem f95_13 : amFetch 95 13 = some (.ireturn, 1, 0, 0, 0) := rfl
theorem f95_14 : amFetch 95 14 = some (.sipush 4096, 3, 0, 0, 0) := rfl
theorem f95_17 : amFetch 95 17 = some (.iload_n 1, 1, 0, 0, 0) := rfl
theorem f95_18 : amFetch 95 18 = some (.imul, 1, 0, 0, 0) := rfl
theorem f95_19 : amFetch 95 19 = some (.iload_n 2, 1, 0, 0, 0) := rfl
theorem f95_20 : amFetch 95 20 = some (.invokestatic 59, 3, 1, 87, 1) := rfl
theorem f95_23 : amFetch 95 23 = some (.iadd, 1, 0, 0, 0) := rfl
theorem f95_24 : amFetch 95 24 = some (.istore_n 3, 1, 0, 0, 0) := rfl
theorem f95_25 : amFetch 95 25 = some (.aload_n 0, 1, 0, 0, 0) := rfl
theorem f95_26 : amFetch 95 26 = some (.aload_n 0, 1, 0, 0, 0) := rfl
theorem f95_27 : amFetch 95 27 = some (.iload_n 1, 1, 0, 0, 0) := rfl
theorem f95_28 : amFetch 95 28 = some (.iload_n 2, 1, 0, 0, 0) := rfl
theorem f95_29 : amFetch 95 29 = some (.invokestatic 59, 3, 1, 87, 1) := rfl
theorem f95_32 : amFetch 95 32 = some (.aload_n 0, 1, 0, 0, 0) := rfl
theorem f95_33 : amFetch 95 33 = some (.getfield 7, 3, 4, 0, 0) := rfl
theorem f95_36 : amFetch 95 36 = some (.iload_n 3, 1, 0, 0, 0) := rfl
theorem f95_37 : amFetch 95 37 = some (.iaload, 1, 0, 0, 0) := rfl
theorem f95_38 : amFetch 95 38 = some (.iconst 1, 1, 0, 0, 0) := rfl
theorem f95_39 : amFetch 95 39 = some (.iadd, 1, 0, 0, 0) := rfl
theorem f95_40 : amFetch 95 40 = some (.invokevirtual 76, 3, 0, 94, 3) := rfl
theorem f95_43 : amFetch 95 43 = some (.ifCond .eq 7, 3, 0, 0, 0) := rfl
theorem f95_46 : amFetch 95 46 = some (.iconst 0, 1, 0, 0, 0) := rfl
theorem f95_47 : amFetch 95 47 = some (.goto 4, 3, 0, 0, 0) := rfl
theorem f95_50 : amFetch 95 50 = some (.iconst 2, 1, 0, 0, 0) := rfl
theorem f95_51 : amFetch 95 51 = some (.putfield 31, 3, 4, 7, 0) := rfl
theorem f95_54 : amFetch 95 54 = some (.aload_n 0, 1, 0, 0, 0) := rfl
theorem f95_55 : amFetch 95 55 = some (.getfield 31, 3, 4, 7, 0) := rfl
theorem f95_58 : amFetch 95 58 = some (.ifCond .ne 12, 3, 0, 0, 0) := rfl
theorem f95_61 : amFetch 95 61 = some (.aload_n 0, 1, 0, 0, 0) := rfl
theorem f95_62 : amFetch 95 62 = some (.getfield 7, 3, 4, 0, 0) := rfl
theorem f95_65 : amFetch 95 65 = some (.iload_n 3, 1, 0, 0, 0) := rfl
theorem f95_66 : amFetch 95 66 = some (.iaload, 1, 0, 0, 0) := rfl
theorem f95_67 : amFetch 95 67 = some (.goto 4, 3, 0, 0, 0) := rfl
theorem f95_70 : amFetch 95 70 = some (.iconst 0, 1, 0, 0, 0) := rfl
theorem f95_71 : amFetch 95 71 = some (.ireturn, 1, 0, 0, 0) := rfl
theorem ow95 : amOwnL 95 = some (4, 4) := rfl
-- X4_remove
theorem f96_0 : amFetch 96 0 = some (.aload_n 0, 1, 0, 0, 0) := rfl
theorem f96_1 : amFetch 96 1 = some (.iload_n 1, 1, 0, 0, 0) := rfl
theorem f96_2 : amFetch 96 2 = some (.invokestatic 69, 3, 1, 80, 1) := rfl
theorem f96_5 : amFetch 96 5 = some (.iconst 1, 1, 0, 0, 0) := rfl
theorem f96_6 : amFetch 96 6 = some (.invokevirtual 72, 3, 0, 82, 2) := rfl
theorem f96_9 : amFetch 96 9 = some (.ifCond .ne 5, 3, 0, 0, 0) := rfl
theorem f96_12 : amFetch 96 12 = some (.iconst 0, 1, 0, 0, 0) := rfl
theorem f96_13 : amFetch 96 13 = some (.ireturn, 1, 0, 0, 0) := rfl
theorem f96_14 : amFetch 96 14 = some (.aload_n 0, 1, 0, 0, 0) := rfl
theorem f96_15 : amFetch 96 15 = some (.getfield 7, 3, 4, 0, 0) := rfl
theorem f96_18 : amFetch 96 18 = some (.sipush 4096, 3, 0, 0, 0) := rfl
theorem f96_21 : amFetch 96 21 = some (.iload_n 1, 1, 0, 0, 0) := rfl
theorem f96_22 : amFetch 96 22 = some (.imul, 1, 0, 0, 0) := rfl
theorem f96_23 : amFetch 96 23 = some (.iload_n 2, 1, 0, 0, 0) := rfl
theorem f96_24 : amFetch 96 24 = some (.invokestatic 59, 3, 1, 87, 1) := rfl
theorem f96_27 : amFetch 96 27 = some (.iadd, 1, 0, 0, 0) := rfl
theorem f96_28 : amFetch 96 28 = some (.iaload, 1, 0, 0, 0) := rfl
theorem f96_29 : amFetch 96 29 = some (.istore_n 3, 1, 0, 0, 0) := rfl
theorem f96_30 : amFetch 96 30 = some (.iload_n 3, 1, 0, 0, 0) := rfl
theorem f96_31 : amFetch 96 31 = some (.ifCond .le 22, 3, 0, 0, 0) := rfl
theorem f96_34 : amFetch 96 34 = some (.aload_n 0, 1, 0, 0, 0) := rfl
theorem f96_35 : amFetch 96 35 = some (.iload_n 1, 1, 0, 0, 0) := rfl
theorem f96_36 : amFetch 96 36 = some (.iload_n 2, 1, 0, 0, 0) := rfl
theorem f96_37 : amFetch 96 37 = some (.invokestatic 59, 3, 1, 87, 1) := rfl
theorem f96_40 : amFetch 96 40 = some (.iload_n 3, 1, 0, 0, 0) := rfl
theorem f96_41 : amFetch 96 41 = some (.iconst 1, 1, 0, 0, 0) := rfl
theorem f96_42 : amFetch 96 42 = some (.isub, 1, 0, 0, 0) := rfl
theorem f96_43 : amFetch 96 43 = some (.invokevirtual 76, 3, 0, 94, 3) := rfl
theorem f96_46 : amFetch 96 46 = some (.ifCond .eq 7, 3, 0, 0, 0) := rfl
theorem f96_49 : amFetch 96 49 = some (.iconst 1, 1, 0, 0, 0) := rfl
theorem f96_50 : amFetch 96 50 = some (.goto 4, 3, 0, 0, 0) := rfl
theorem f96_53 : amFetch 96 53 = some (.iconst 0, 1, 0, 0, 0) := rfl
theorem f96_54 : amFetch 96 54 = some (.ireturn, 1, 0, 0, 0) := rfl
theorem ow96 : amOwnL 96 = some (4, 4) := rfl
-- X4_count
theorem f97_0 : amFetch 97 0 = some (.aload_n 0, 1, 0, 0, 0) := rfl
theorem f97_1 : amFetch 97 1 = some (.iload_n 1, 1, 0, 0, 0) := rfl
theorem f97_2 : amFetch 97 2 = some (.invokestatic 69, 3, 1, 80, 1) := rfl
theorem f97_5 : amFetch 97 5 = some (.iconst 1, 1, 0, 0, 0) := rfl
theorem f97_6 : amFetch 97 6 = some (.invokevirtual 72, 3, 0, 82, 2) := rfl
theorem f97_9 : amFetch 97 9 = some (.ifCond .eq 21, 3, 0, 0, 0) := rfl
theorem f97_12 : amFetch 97 12 = some (.aload_n 0, 1, 0, 0, 0) := rfl
theorem f97_13 : amFetch 97 13 = some (.getfield 7, 3, 4, 0, 0) := rfl
theorem f97_16 : amFetch 97 16 = some (.sipush 4096, 3, 0, 0, 0) := rfl
theorem f97_19 : amFetch 97 19 = some (.iload_n 1, 1, 0, 0, 0) := rfl
theorem f97_20 : amFetch 97 20 = some (.imul, 1, 0, 0, 0) := rfl
theorem f97_21 : amFetch 97 21 = some (.iload_n 2, 1, 0, 0, 0) := rfl
theorem f97_22 : amFetch 97 22 = some (.invokestatic 59, 3, 1, 87, 1) := rfl
theorem f97_25 : amFetch 97 25 = some (.iadd, 1, 0, 0, 0) := rfl
theorem f97_26 : amFetch 97 26 = some (.iaload, 1, 0, 0, 0) := rfl
theorem f97_27 : amFetch 97 27 = some (.goto 4, 3, 0, 0, 0) := rfl
theorem f97_30 : amFetch 97 30 = some (.iconst 0, 1, 0, 0, 0) := rfl
theorem f97_31 : amFetch 97 31 = some (.ireturn, 1, 0, 0, 0) := rfl
theorem ow97 : amOwnL 97 = some (4, 3) := rfl
-- X4_add
theorem f98_0 : amFetch 98 0 = some (.aload_n 0, 1, 0, 0, 0) := rfl
theorem f98_1 : amFetch 98 1 = some (.iload_n 1, 1, 0, 0, 0) := rfl
theorem f98_2 : amFetch 98 2 = some (.invokestatic 69, 3, 1, 80, 1) := rfl
theorem f98_5 : amFetch 98 5 = some (.iload_n 2, 1, 0, 0, 0) := rfl
theorem f98_6 : amFetch 98 6 = some (.invokestatic 79, 3, 1, 81, 1) := rfl
theorem f98_9 : amFetch 98 9 = some (.ifCond .eq 17, 3, 0, 0, 0) := rfl
theorem f98_12 : amFetch 98 12 = some (.iload_n 3, 1, 0, 0, 0) := rfl
theorem f98_13 : amFetch 98 13 = some (.iconst 1, 1, 0, 0, 0) := rfl
theorem f98_14 : amFetch 98 14 = some (.bipush 100, 2, 0, 0, 0) := rfl
theorem f98_16 : amFetch 98 16 = some (.invokestatic 35, 3, 1, 79, 3) := rfl
theorem f98_19 : amFetch 98 19 = some (.ifCond .eq 7, 3, 0, 0, 0) := rfl
theorem f98_22 : amFetch 98 22 = some (.iconst 1, 1, 0, 0, 0) := rfl
theorem f98_23 : amFetch 98 23 = some (.goto 4, 3, 0, 0, 0) := rfl
theorem f98_26 : amFetch 98 26 = some (.iconst 0, 1, 0, 0, 0) := rfl
theorem f98_27 : amFetch 98 27 = some (.invokevirtual 72, 3, 0, 82, 2) := rfl
theorem f98_30 : amFetch 98 30 = some (.ifCond .ne 5, 3, 0, 0, 0) := rfl
theorem f98_33 : amFetch 98 33 = some (.iconst 0, 1, 0, 0, 0) := rfl
theorem f98_34 : amFetch 98 34 = some (.ireturn, 1, 0, 0, 0) := rfl
theorem f98_35 : amFetch 98 35 = some (.aload_n 0, 1, 0, 0, 0) := rfl
theorem f98_36 : amFetch 98 36 = some (.getfield 7, 3, 4, 0, 0) := rfl
theorem f98_39 : amFetch 98 39 = some (.sipush 4096, 3, 0, 0, 0) := rfl
theorem f98_42 : amFetch 98 42 = some (.iload_n 1, 1, 0, 0, 0) := rfl
theorem f98_43 : amFetch 98 43 = some (.imul, 1, 0, 0, 0) := rfl
theorem f98_44 : amFetch 98 44 = some (.iload_n 2, 1, 0, 0, 0) := rfl
theorem f98_45 : amFetch 98 45 = some (.iadd, 1, 0, 0, 0) := rfl
theorem f98_46 : amFetch 98 46 = some (.iaload, 1, 0, 0, 0) := rfl
theorem f98_47 : amFetch 98 47 = some (.iload_n 3, 1, 0, 0, 0) := rfl
theorem f98_48 : amFetch 98 48 = some (.iadd, 1, 0, 0, 0) := rfl
theorem f98_49 : amFetch 98 49 = some (.istore 4, 2, 0, 0, 0) := rfl
theorem f98_51 : amFetch 98 51 = some (.aload_n 0, 1, 0, 0, 0) := rfl
theorem f98_52 : amFetch 98 52 = some (.aload_n 0, 1, 0, 0, 0) := rfl
theorem f98_53 : amFetch 98 53 = some (.iload_n 1, 1, 0, 0, 0) := rfl
theorem f98_54 : amFetch 98 54 = some (.iload_n 2, 1, 0, 0, 0) := rfl
theorem f98_55 : amFetch 98 55 = some (.iload 4, 2, 0, 0, 0) := rfl
theorem f98_57 : amFetch 98 57 = some (.invokevirtual 76, 3, 0, 94, 3) := rfl
theorem f98_60 : amFetch 98 60 = some (.ifCond .eq 7, 3, 0, 0, 0) := rfl
theorem f98_63 : amFetch 98 63 = some (.iconst 0, 1, 0, 0, 0) := rfl
theorem f98_64 : amFetch 98 64 = some (.goto 4, 3, 0, 0, 0) := rfl
theorem f98_67 : amFetch 98 67 = some (.iconst 3, 1, 0, 0, 0) := rfl
theorem f98_68 : amFetch 98 68 = some (.putfield 31, 3, 4, 7, 0) := rfl
theorem f98_71 : amFetch 98 71 = some (.aload_n 0, 1, 0, 0, 0) := rfl
theorem f98_72 : amFetch 98 72 = some (.getfield 31, 3, 4, 7, 0) := rfl
theorem f98_75 : amFetch 98 75 = some (.ifCond .ne 8, 3, 0, 0, 0) := rfl
theorem f98_78 : amFetch 98 78 = some (.iload 4, 2, 0, 0, 0) := rfl
theorem f98_80 : amFetch 98 80 = some (.goto 4, 3, 0, 0, 0) := rfl
theorem f98_83 : amFetch 98 83 = some (.iconst 0, 1, 0, 0, 0) := rfl
theorem f98_84 : amFetch 98 84 = some (.ireturn, 1, 0, 0, 0) := rfl
theorem ow98 : amOwnL 98 = some (4, 5) := rfl
-- X4_take
theorem f99_0 : amFetch 99 0 = some (.aload_n 0, 1, 0, 0, 0) := rfl
theorem f99_1 : amFetch 99 1 = some (.iload_n 1, 1, 0, 0, 0) := rfl
theorem f99_2 : amFetch 99 2 = some (.invokestatic 69, 3, 1, 80, 1) := rfl
theorem f99_5 : amFetch 99 5 = some (.iload_n 2, 1, 0, 0, 0) := rfl
theorem f99_6 : amFetch 99 6 = some (.invokestatic 79, 3, 1, 81, 1) := rfl
theorem f99_9 : amFetch 99 9 = some (.ifCond .eq 17, 3, 0, 0, 0) := rfl
theorem f99_12 : amFetch 99 12 = some (.iload_n 3, 1, 0, 0, 0) := rfl
theorem f99_13 : amFetch 99 13 = some (.iconst 1, 1, 0, 0, 0) := rfl
theorem f99_14 : amFetch 99 14 = some (.bipush 100, 2, 0, 0, 0) := rfl
theorem f99_16 : amFetch 99 16 = some (.invokestatic 35, 3, 1, 79, 3) := rfl
theorem f99_19 : amFetch 99 19 = some (.ifCond .eq 7, 3, 0, 0, 0) := rfl
theorem f99_22 : amFetch 99 22 = some (.iconst 1, 1, 0, 0, 0) := rfl
theorem f99_23 : amFetch 99 23 = some (.goto 4, 3, 0, 0, 0) := rfl
theorem f99_26 : amFetch 99 26 = some (.iconst 0, 1, 0, 0, 0) := rfl
theorem f99_27 : amFetch 99 27 = some (.invokevirtual 72, 3, 0, 82, 2) := rfl
theorem f99_30 : amFetch 99 30 = some (.ifCond .ne 5, 3, 0, 0, 0) := rfl
theorem f99_33 : amFetch 99 33 = some (.iconst 0, 1, 0, 0, 0) := rfl
theorem f99_34 : amFetch 99 34 = some (.ireturn, 1, 0, 0, 0) := rfl
theorem f99_35 : amFetch 99 35 = some (.aload_n 0, 1, 0, 0, 0) := rfl
theorem f99_36 : amFetch 99 36 = some (.getfield 7, 3, 4, 0, 0) := rfl
theorem f99_39 : amFetch 99 39 = some (.sipush 4096, 3, 0, 0, 0) := rfl
theorem f99_42 : amFetch 99 42 = some (.iload_n 1, 1, 0, 0, 0) := rfl
theorem f99_43 : amFetch 99 43 = some (.imul, 1, 0, 0, 0) := rfl
theorem f99_44 : amFetch 99 44 = some (.iload_n 2, 1, 0, 0, 0) := rfl
theorem f99_45 : amFetch 99 45 = some (.iadd, 1, 0, 0, 0) := rfl
theorem f99_46 : amFetch 99 46 = some (.iaload, 1, 0, 0, 0) := rfl
theorem f99_47 : amFetch 99 47 = some (.istore 4, 2, 0, 0, 0) := rfl
theorem f99_49 : amFetch 99 49 = some (.iload_n 3, 1, 0, 0, 0) := rfl
theorem f99_50 : amFetch 99 50 = some (.iload 4, 2, 0, 0, 0) := rfl
theorem f99_52 : amFetch 99 52 = some (.if_icmp .le 8, 3, 0, 0, 0) := rfl
theorem f99_55 : amFetch 99 55 = some (.iload 4, 2, 0, 0, 0) := rfl
theorem f99_57 : amFetch 99 57 = some (.goto 4, 3, 0, 0, 0) := rfl
theorem f99_60 : amFetch 99 60 = some (.iload_n 3, 1, 0, 0, 0) := rfl
theorem f99_61 : amFetch 99 61 = some (.istore 5, 2, 0, 0, 0) := rfl
theorem f99_63 : amFetch 99 63 = some (.aload_n 0, 1, 0, 0, 0) := rfl
theorem f99_64 : amFetch 99 64 = some (.getfield 7, 3, 4, 0, 0) := rfl
theorem f99_67 : amFetch 99 67 = some (.sipush 4096, 3, 0, 0, 0) := rfl
theorem f99_70 : amFetch 99 70 = some (.iload_n 1, 1, 0, 0, 0) := rfl
theorem f99_71 : amFetch 99 71 = some (.imul, 1, 0, 0, 0) := rfl
theorem f99_72 : amFetch 99 72 = some (.iload_n 2, 1, 0, 0, 0) := rfl
theorem f99_73 : amFetch 99 73 = some (.iadd, 1, 0, 0, 0) := rfl
theorem f99_74 : amFetch 99 74 = some (.iload 4, 2, 0, 0, 0) := rfl
theorem f99_76 : amFetch 99 76 = some (.iload 5, 2, 0, 0, 0) := rfl
theorem f99_78 : amFetch 99 78 = some (.isub, 1, 0, 0, 0) := rfl
theorem f99_79 : amFetch 99 79 = some (.iastore, 1, 0, 0, 0) := rfl
theorem f99_80 : amFetch 99 80 = some (.iload 5, 2, 0, 0, 0) := rfl
theorem f99_82 : amFetch 99 82 = some (.ireturn, 1, 0, 0, 0) := rfl
theorem ow99 : amOwnL 99 = some (4, 6) := rfl
-- X4_countOf
theorem f100_0 : amFetch 100 0 = some (.aload_n 0, 1, 0, 0, 0) := rfl
theorem f100_1 : amFetch 100 1 = some (.iload_n 1, 1, 0, 0, 0) := rfl
theorem f100_2 : amFetch 100 2 = some (.invokestatic 69, 3, 1, 80, 1) := rfl
theorem f100_5 : amFetch 100 5 = some (.iload_n 2, 1, 0, 0, 0) := rfl
theorem f100_6 : amFetch 100 6 = some (.invokestatic 79, 3, 1, 81, 1) := rfl
theorem f100_9 : amFetch 100 9 = some (.invokevirtual 72, 3, 0, 82, 2) := rfl
theorem f100_12 : amFetch 100 12 = some (.ifCond .eq 18, 3, 0, 0, 0) := rfl
theorem f100_15 : amFetch 100 15 = some (.aload_n 0, 1, 0, 0, 0) := rfl
theorem f100_16 : amFetch 100 16 = some (.getfield 7, 3, 4, 0, 0) := rfl
theorem f100_19 : amFetch 100 19 = some (.sipush 4096, 3, 0, 0, 0) := rfl
theorem f100_22 : amFetch 100 22 = some (.iload_n 1, 1, 0, 0, 0) := rfl
theorem f100_23 : amFetch 100 23 = some (.imul, 1, 0, 0, 0) := rfl
theorem f100_24 : amFetch 100 24 = some (.iload_n 2, 1, 0, 0, 0) := rfl
theorem f100_25 : amFetch 100 25 = some (.iadd, 1, 0, 0, 0) := rfl
theorem f100_26 : amFetch 100 26 = some (.iaload, 1, 0, 0, 0) := rfl
theorem f100_27 : amFetch 100 27 = some (.goto 4, 3, 0, 0, 0) := rfl
theorem f100_30 : amFetch 100 30 = some (.iconst 0, 1, 0, 0, 0) := rfl
theorem f100_31 : amFetch 100 31 = some (.ireturn, 1, 0, 0, 0) := rfl
theorem ow100 : amOwnL 100 = some (4, 3) := rfl
-- X4_countInLists
theorem f101_0 : amFetch 101 0 = some (.aload_n 0, 1, 0, 0, 0) := rfl
theorem f101_1 : amFetch 101 1 = some (.iload_n 1, 1, 0, 0, 0) := rfl
theorem f101_2 : amFetch 101 2 = some (.iload_n 2, 1, 0, 0, 0) := rfl
theorem f101_3 : amFetch 101 3 = some (.invokevirtual 82, 3, 0, 100, 2) := rfl
theorem f101_6 : amFetch 101 6 = some (.ireturn, 1, 0, 0, 0) := rfl
theorem ow101 : amOwnL 101 = some (4, 3) := rfl
-- X4_lookedAt
theorem f102_0 : amFetch 102 0 = some (.aload_n 0, 1, 0, 0, 0) := rfl
theorem f102_1 : amFetch 102 1 = some (.iload_n 1, 1, 0, 0, 0) := rfl
theorem f102_2 : amFetch 102 2 = some (.invokestatic 69, 3, 1, 80, 1) := rfl
theorem f102_5 : amFetch 102 5 = some (.iload_n 2, 1, 0, 0, 0) := rfl
theorem f102_6 : amFetch 102 6 = some (.invokestatic 79, 3, 1, 81, 1) := rfl
theorem f102_9 : amFetch 102 9 = some (.invokevirtual 72, 3, 0, 82, 2) := rfl
theorem f102_12 : amFetch 102 12 = some (.ifCond .ne 5, 3, 0, 0, 0) := rfl
theorem f102_15 : amFetch 102 15 = some (.iconst 0, 1, 0, 0, 0) := rfl
theorem f102_16 : amFetch 102 16 = some (.ireturn, 1, 0, 0, 0) := rfl
theorem f102_17 : amFetch 102 17 = some (.bipush 12, 2, 0, 0, 0) := rfl
theorem f102_19 : amFetch 102 19 = some (.aload_n 0, 1, 0, 0, 0) := rfl
theorem f102_20 : amFetch 102 20 = some (.getfield 13, 3, 4, 1, 0) := rfl
theorem f102_23 : amFetch 102 23 = some (.iload_n 1, 1, 0, 0, 0) := rfl
theorem f102_24 : amFetch 102 24 = some (.iaload, 1, 0, 0, 0) := rfl
theorem f102_25 : amFetch 102 25 = some (.isub, 1, 0, 0, 0) := rfl
theorem f102_26 : amFetch 102 26 = some (.istore_n 3, 1, 0, 0, 0) := rfl
theorem f102_27 : amFetch 102 27 = some (.iload_n 2, 1, 0, 0, 0) := rfl
theorem f102_28 : amFetch 102 28 = some (.iload_n 3, 1, 0, 0, 0) := rfl
theorem f102_29 : amFetch 102 29 = some (.ishr, 1, 0, 0, 0) := rfl
theorem f102_30 : amFetch 102 30 = some (.iload_n 3, 1, 0, 0, 0) := rfl
theorem f102_31 : amFetch 102 31 = some (.ishl, 1, 0, 0, 0) := rfl
theorem f102_32 : amFetch 102 32 = some (.istore 4, 2, 0, 0, 0) := rfl
theorem f102_34 : amFetch 102 34 = some (.iconst 0, 1, 0, 0, 0) := rfl
theorem f102_35 : amFetch 102 35 = some (.istore 5, 2, 0, 0, 0) := rfl
theorem f102_37 : amFetch 102 37 = some (.iload 4, 2, 0, 0, 0) := rfl
theorem f102_39 : amFetch 102 39 = some (.istore 6, 2, 0, 0, 0) := rfl
theorem f102_41 : amFetch 102 41 = some (.iload 6, 2, 0, 0, 0) := rfl
theorem f102_43 : amFetch 102 43 = some (.iload_n 2, 1, 0, 0, 0) := rfl
theorem f102_44 : amFetch 102 44 = some (.if_icmp .ge 30, 3, 0, 0, 0) := rfl
theorem f102_47 : amFetch 102 47 = some (.iload 5, 2, 0, 0, 0) := rfl
theorem f102_49 : amFetch 102 49 = some (.aload_n 0, 1, 0, 0, 0) := rfl
theorem f102_50 : amFetch 102 50 = some (.getfield 7, 3, 4, 0, 0) := rfl
theorem f102_53 : amFetch 102 53 = some (.sipush 4096, 3, 0, 0, 0) := rfl
theorem f102_56 : amFetch 102 56 = some (.iload_n 1, 1, 0, 0, 0) := rfl
theorem f102_57 : amFetch 102 57 = some (.imul, 1, 0, 0, 0) := rfl
theorem f102_58 : amFetch 102 58 = some (.iload 6, 2, 0, 0, 0) := rfl
theorem f102_60 : amFetch 102 60 = some (.iadd, 1, 0, 0, 0) := rfl
theorem f102_61 : amFetch 102 61 = some (.iaload, 1, 0, 0, 0) := rfl
theorem f102_62 : amFetch 102 62 = some (.invokestatic 39, 3, 1, 84, 1) := rfl
theorem f102_65 : amFetch 102 65 = some (.iadd, 1, 0, 0, 0) := rfl
theorem f102_66 : amFetch 102 66 = some (.istore 5, 2, 0, 0, 0) := rfl
theorem f102_68 : amFetch 102 68 = some (.iinc 6 1, 3, 0, 0, 0) := rfl
theorem f102_71 : amFetch 102 71 = some (.goto (-30), 3, 0, 0, 0) := rfl
theorem f102_74 : amFetch 102 74 = some (.iconst 0, 1, 0, 0, 0) := rfl
theorem f102_75 : amFetch 102 75 = some (.istore 6, 2, 0, 0, 0) := rfl
theorem f102_77 : amFetch 102 77 = some (.iload_n 2, 1, 0, 0, 0) := rfl
theorem f102_78 : amFetch 102 78 = some (.istore 7, 2, 0, 0, 0) := rfl
theorem f102_80 : amFetch 102 80 = some (.iload 7, 2, 0, 0, 0) := rfl
theorem f102_82 : amFetch 102 82 = some (.iload 4, 2, 0, 0, 0) := rfl
theorem f102_84 : amFetch 102 84 = some (.iconst 1, 1, 0, 0, 0) := rfl
theorem f102_85 : amFetch 102 85 = some (.iload_n 3, 1, 0, 0, 0) := rfl
theorem f102_86 : amFetch 102 86 = some (.ishl, 1, 0, 0, 0) := rfl
theorem f102_87 : amFetch 102 87 = some (.iadd, 1, 0, 0, 0) := rfl
theorem f102_88 : amFetch 102 88 = some (.if_icmp .ge 37, 3, 0, 0, 0) := rfl
theorem f102_91 : amFetch 102 91 = some (.iload 6, 2, 0, 0, 0) := rfl
theorem f102_93 : amFetch 102 93 = some (.ifCond .ne 19, 3, 0, 0, 0) := rfl
theorem f102_96 : amFetch 102 96 = some (.aload_n 0, 1, 0, 0, 0) := rfl
theorem f102_97 : amFetch 102 97 = some (.getfield 7, 3, 4, 0, 0) := rfl
theorem f102_100 : amFetch 102 100 = some (.sipush 4096, 3, 0, 0, 0) := rfl
theorem f102_103 : amFetch 102 103 = some (.iload_n 1, 1, 0, 0, 0) := rfl
theorem f102_104 : amFetch 102 104 = some (.imul, 1, 0, 0, 0) := rfl
theorem f102_105 : amFetch 102 105 = some (.iload 7, 2, 0, 0, 0) := rfl
theorem f102_107 : amFetch 102 107 = some (.iadd, 1, 0, 0, 0) := rfl
theorem f102_108 : amFetch 102 108 = some (.iaload, 1, 0, 0, 0) := rfl
theorem f102_109 : amFetch 102 109 = some (.ifCond .le 7, 3, 0, 0, 0) := rfl
theorem f102_112 : amFetch 102 112 = some (.iconst 1, 1, 0, 0, 0) := rfl
theorem f102_113 : amFetch 102 113 = some (.goto 4, 3, 0, 0, 0) := rfl
theorem f102_116 : amFetch 102 116 = some (.iconst 0, 1, 0, 0, 0) := rfl
theorem f102_117 : amFetch 102 117 = some (.istore 6, 2, 0, 0, 0) := rfl
theorem f102_119 : amFetch 102 119 = some (.iinc 7 1, 3, 0, 0, 0) := rfl
theorem f102_122 : amFetch 102 122 = some (.goto (-42), 3, 0, 0, 0) := rfl
theorem f102_125 : amFetch 102 125 = some (.iload 6, 2, 0, 0, 0) := rfl
theorem f102_127 : amFetch 102 127 = some (.ifCond .eq 10, 3, 0, 0, 0) := rfl
theorem f102_130 : amFetch 102 130 = some (.iload 5, 2, 0, 0, 0) := rfl
theorem f102_132 : amFetch 102 132 = some (.iconst 1, 1, 0, 0, 0) := rfl
theorem f102_133 : amFetch 102 133 = some (.iadd, 1, 0, 0, 0) := rfl
theorem f102_134 : amFetch 102 134 = some (.goto 5, 3, 0, 0, 0) := rfl
theorem f102_137 : amFetch 102 137 = some (.iload 5, 2, 0, 0, 0) := rfl
theorem f102_139 : amFetch 102 139 = some (.ireturn, 1, 0, 0, 0) := rfl
theorem ow102 : amOwnL 102 = some (4, 8) := rfl
-- X4_clear
theorem f103_0 : amFetch 103 0 = some (.aload_n 0, 1, 0, 0, 0) := rfl
theorem f103_1 : amFetch 103 1 = some (.iload_n 1, 1, 0, 0, 0) := rfl
theorem f103_2 : amFetch 103 2 = some (.invokestatic 69, 3, 1, 80, 1) := rfl
theorem f103_5 : amFetch 103 5 = some (.iconst 1, 1, 0, 0, 0) := rfl
theorem f103_6 : amFetch 103 6 = some (.invokevirtual 72, 3, 0, 82, 2) := rfl
theorem f103_9 : amFetch 103 9 = some (.istore_n 2, 1, 0, 0, 0) := rfl
theorem f103_10 : amFetch 103 10 = some (.iconst 0, 1, 0, 0, 0) := rfl
theorem f103_11 : amFetch 103 11 = some (.istore_n 3, 1, 0, 0, 0) := rfl
theorem f103_12 : amFetch 103 12 = some (.iload_n 3, 1, 0, 0, 0) := rfl
theorem f103_13 : amFetch 103 13 = some (.sipush 4096, 3, 0, 0, 0) := rfl
theorem f103_16 : amFetch 103 16 = some (.if_icmp .ge 26, 3, 0, 0, 0) := rfl
theorem f103_19 : amFetch 103 19 = some (.iload_n 2, 1, 0, 0, 0) := rfl
theorem f103_20 : amFetch 103 20 = some (.ifCond .eq 22, 3, 0, 0, 0) := rfl
theorem f103_23 : amFetch 103 23 = some (.aload_n 0, 1, 0, 0, 0) := rfl
theorem f103_24 : amFetch 103 24 = some (.getfield 7, 3, 4, 0, 0) := rfl
theorem f103_27 : amFetch 103 27 = some (.sipush 4096, 3, 0, 0, 0) := rfl
theorem f103_30 : amFetch 103 30 = some (.iload_n 1, 1, 0, 0, 0) := rfl
theorem f103_31 : amFetch 103 31 = some (.imul, 1, 0, 0, 0) := rfl
theorem f103_32 : amFetch 103 32 = some (.iload_n 3, 1, 0, 0, 0) := rfl
theorem f103_33 : amFetch 103 33 = some (.iadd, 1, 0, 0, 0) := rfl
theorem f103_34 : amFetch 103 34 = some (.iconst 0, 1, 0, 0, 0) := rfl
theorem f103_35 : amFetch 103 35 = some (.iastore, 1, 0, 0, 0) := rfl
theorem f103_36 : amFetch 103 36 = some (.iinc 3 1, 3, 0, 0, 0) := rfl
theorem f103_39 : amFetch 103 39 = some (.goto (-27), 3, 0, 0, 0) := rfl
theorem f103_42 : amFetch 103 42 = some (.return_, 1, 0, 0, 0) := rfl
theorem ow103 : amOwnL 103 = some (4, 4) := rfl
-- X4_grow
theorem f104_0 : amFetch 104 0 = some (.iload_n 1, 1, 0, 0, 0) := rfl
theorem f104_1 : amFetch 104 1 = some (.invokestatic 69, 3, 1, 80, 1) := rfl
theorem f104_4 : amFetch 104 4 = some (.istore_n 2, 1, 0, 0, 0) := rfl
theorem f104_5 : amFetch 104 5 = some (.aload_n 0, 1, 0, 0, 0) := rfl
theorem f104_6 : amFetch 104 6 = some (.iload_n 2, 1, 0, 0, 0) := rfl
theorem f104_7 : amFetch 104 7 = some (.iload_n 2, 1, 0, 0, 0) := rfl
theorem f104_8 : amFetch 104 8 = some (.ifCond .eq 18, 3, 0, 0, 0) := rfl
theorem f104_11 : amFetch 104 11 = some (.aload_n 0, 1, 0, 0, 0) := rfl
theorem f104_12 : amFetch 104 12 = some (.getfield 13, 3, 4, 1, 0) := rfl
theorem f104_15 : amFetch 104 15 = some (.iload_n 1, 1, 0, 0, 0) := rfl
theorem f104_16 : amFetch 104 16 = some (.iaload, 1, 0, 0, 0) := rfl
theorem f104_17 : amFetch 104 17 = some (.bipush 8, 2, 0, 0, 0) := rfl
theorem f104_19 : amFetch 104 19 = some (.if_icmp .ge 7, 3, 0, 0, 0) := rfl
theorem f104_22 : amFetch 104 22 = some (.iconst 1, 1, 0, 0, 0) := rfl
theorem f104_23 : amFetch 104 23 = some (.goto 4, 3, 0, 0, 0) := rfl
theorem f104_26 : amFetch 104 26 = some (.iconst 0, 1, 0, 0, 0) := rfl
theorem f104_27 : amFetch 104 27 = some (.invokevirtual 72, 3, 0, 82, 2) := rfl
theorem f104_30 : amFetch 104 30 = some (.ifCond .ne 5, 3, 0, 0, 0) := rfl
theorem f104_33 : amFetch 104 33 = some (.iconst 0, 1, 0, 0, 0) := rfl
theorem f104_34 : amFetch 104 34 = some (.ireturn, 1, 0, 0, 0) := rfl
theorem f104_35 : amFetch 104 35 = some (.aload_n 0, 1, 0, 0, 0) := rfl
theorem f104_36 : amFetch 104 36 = some (.getfield 13, 3, 4, 1, 0) := rfl
theorem f104_39 : amFetch 104 39 = some (.iload_n 1, 1, 0, 0, 0) := rfl
theorem f104_40 : amFetch 104 40 = some (.dup2, 1, 0, 0, 0) := rfl
theorem f104_41 : amFetch 104 41 = some (.iaload, 1, 0, 0, 0) := rfl
theorem f104_42 : amFetch 104 42 = some (.iconst 1, 1, 0, 0, 0) := rfl
theorem f104_43 : amFetch 104 43 = some (.iadd, 1, 0, 0, 0) := rfl
theorem f104_44 : amFetch 104 44 = some (.iastore, 1, 0, 0, 0) := rfl
theorem f104_45 : amFetch 104 45 = some (.aload_n 0, 1, 0, 0, 0) := rfl
theorem f104_46 : amFetch 104 46 = some (.iload_n 1, 1, 0, 0, 0) := rfl
theorem f104_47 : amFetch 104 47 = some (.invokevirtual 44, 3, 0, 83, 1) := rfl
theorem f104_50 : amFetch 104 50 = some (.ireturn, 1, 0, 0, 0) := rfl
theorem ow104 : amOwnL 104 = some (4, 3) := rfl
-- X4_shrink
theorem f105_0 : amFetch 105 0 = some (.iload_n 1, 1, 0, 0, 0) := rfl
theorem f105_1 : amFetch 105 1 = some (.invokestatic 69, 3, 1, 80, 1) := rfl
theorem f105_4 : amFetch 105 4 = some (.istore_n 2, 1, 0, 0, 0) := rfl
theorem f105_5 : amFetch 105 5 = some (.aload_n 0, 1, 0, 0, 0) := rfl
theorem f105_6 : amFetch 105 6 = some (.iload_n 2, 1, 0, 0, 0) := rfl
theorem f105_7 : amFetch 105 7 = some (.iload_n 2, 1, 0, 0, 0) := rfl
theorem f105_8 : amFetch 105 8 = some (.ifCond .eq 35, 3, 0, 0, 0) := rfl
theorem f105_11 : amFetch 105 11 = some (.aload_n 0, 1, 0, 0, 0) := rfl
theorem f105_12 : amFetch 105 12 = some (.getfield 13, 3, 4, 1, 0) := rfl
theorem f105_15 : amFetch 105 15 = some (.iload_n 1, 1, 0, 0, 0) := rfl
theorem f105_16 : amFetch 105 16 = some (.iaload, 1, 0, 0, 0) := rfl
theorem f105_17 : amFetch 105 17 = some (.iconst 3, 1, 0, 0, 0) := rfl
theorem f105_18 : amFetch 105 18 = some (.if_icmp .le 25, 3, 0, 0, 0) := rfl
theorem f105_21 : amFetch 105 21 = some (.aload_n 0, 1, 0, 0, 0) := rfl
theorem f105_22 : amFetch 105 22 = some (.iload_n 1, 1, 0, 0, 0) := rfl
theorem f105_23 : amFetch 105 23 = some (.invokevirtual 62, 3, 0, 85, 1) := rfl
theorem f105_26 : amFetch 105 26 = some (.aload_n 0, 1, 0, 0, 0) := rfl
theorem f105_27 : amFetch 105 27 = some (.iload_n 1, 1, 0, 0, 0) := rfl
theorem f105_28 : amFetch 105 28 = some (.invokevirtual 44, 3, 0, 83, 1) := rfl
theorem f105_31 : amFetch 105 31 = some (.iconst 2, 1, 0, 0, 0) := rfl
theorem f105_32 : amFetch 105 32 = some (.idiv, 1, 0, 0, 0) := rfl
theorem f105_33 : amFetch 105 33 = some (.invokestatic 65, 3, 1, 86, 2) := rfl
theorem f105_36 : amFetch 105 36 = some (.ifCond .eq 7, 3, 0, 0, 0) := rfl
theorem f105_39 : amFetch 105 39 = some (.iconst 1, 1, 0, 0, 0) := rfl
theorem f105_40 : amFetch 105 40 = some (.goto 4, 3, 0, 0, 0) := rfl
theorem f105_43 : amFetch 105 43 = some (.iconst 0, 1, 0, 0, 0) := rfl
theorem f105_44 : amFetch 105 44 = some (.invokevirtual 72, 3, 0, 82, 2) := rfl
theorem f105_47 : amFetch 105 47 = some (.ifCond .ne 5, 3, 0, 0, 0) := rfl
theorem f105_50 : amFetch 105 50 = some (.iconst 0, 1, 0, 0, 0) := rfl
theorem f105_51 : amFetch 105 51 = some (.ireturn, 1, 0, 0, 0) := rfl
theorem f105_52 : amFetch 105 52 = some (.aload_n 0, 1, 0, 0, 0) := rfl
theorem f105_53 : amFetch 105 53 = some (.getfield 13, 3, 4, 1, 0) := rfl
theorem f105_56 : amFetch 105 56 = some (.iload_n 1, 1, 0, 0, 0) := rfl
theorem f105_57 : amFetch 105 57 = some (.dup2, 1, 0, 0, 0) := rfl
theorem f105_58 : amFetch 105 58 = some (.iaload, 1, 0, 0, 0) := rfl
theorem f105_59 : amFetch 105 59 = some (.iconst 1, 1, 0, 0, 0) := rfl
theorem f105_60 : amFetch 105 60 = some (.isub, 1, 0, 0, 0) := rfl
theorem f105_61 : amFetch 105 61 = some (.iastore, 1, 0, 0, 0) := rfl
theorem f105_62 : amFetch 105 62 = some (.aload_n 0, 1, 0, 0, 0) := rfl
theorem f105_63 : amFetch 105 63 = some (.iload_n 1, 1, 0, 0, 0) := rfl
theorem f105_64 : amFetch 105 64 = some (.invokevirtual 44, 3, 0, 83, 1) := rfl
theorem f105_67 : amFetch 105 67 = some (.ireturn, 1, 0, 0, 0) := rfl
theorem ow105 : amOwnL 105 = some (4, 3) := rfl
-- X4_merge
theorem f106_0 : amFetch 106 0 = some (.aload_n 0, 1, 0, 0, 0) := rfl
theorem f106_1 : amFetch 106 1 = some (.iload_n 1, 1, 0, 0, 0) := rfl
theorem f106_2 : amFetch 106 2 = some (.invokestatic 69, 3, 1, 80, 1) := rfl
theorem f106_5 : amFetch 106 5 = some (.ifCond .eq 14, 3, 0, 0, 0) := rfl
theorem f106_8 : amFetch 106 8 = some (.iload_n 2, 1, 0, 0, 0) := rfl
theorem f106_9 : amFetch 106 9 = some (.invokestatic 69, 3, 1, 80, 1) := rfl
theorem f106_12 : amFetch 106 12 = some (.ifCond .eq 7, 3, 0, 0, 0) := rfl
theorem f106_15 : amFetch 106 15 = some (.iconst 1, 1, 0, 0, 0) := rfl
theorem f106_16 : amFetch 106 16 = some (.goto 4, 3, 0, 0, 0) := rfl
theorem f106_19 : amFetch 106 19 = some (.iconst 0, 1, 0, 0, 0) := rfl
theorem f106_20 : amFetch 106 20 = some (.iconst 1, 1, 0, 0, 0) := rfl
theorem f106_21 : amFetch 106 21 = some (.invokevirtual 72, 3, 0, 82, 2) := rfl
theorem f106_24 : amFetch 106 24 = some (.ifCond .ne 5, 3, 0, 0, 0) := rfl
theorem f106_27 : amFetch 106 27 = some (.iconst 0, 1, 0, 0, 0) := rfl
theorem f106_28 : amFetch 106 28 = some (.ireturn, 1, 0, 0, 0) := rfl
theorem f106_29 : amFetch 106 29 = some (.iconst 0, 1, 0, 0, 0) := rfl
theorem f106_30 : amFetch 106 30 = some (.istore_n 3, 1, 0, 0, 0) := rfl
theorem f106_31 : amFetch 106 31 = some (.iconst 0, 1, 0, 0, 0) := rfl
theorem f106_32 : amFetch 106 32 = some (.istore 4, 2, 0, 0, 0) := rfl
theorem f106_34 : amFetch 106 34 = some (.iload 4, 2, 0, 0, 0) := rfl
theorem f106_36 : amFetch 106 36 = some (.sipush 4096, 3, 0, 0, 0) := rfl
theorem f106_39 : amFetch 106 39 = some (.if_icmp .ge 42, 3, 0, 0, 0) := rfl
theorem f106_42 : amFetch 106 42 = some (.iload_n 3, 1, 0, 0, 0) := rfl
theorem f106_43 : amFetch 106 43 = some (.aload_n 0, 1, 0, 0, 0) := rfl
theorem f106_44 : amFetch 106 44 = some (.getfield 7, 3, 4, 0, 0) := rfl
theorem f106_47 : amFetch 106 47 = some (.sipush 4096, 3, 0, 0, 0) := rfl
theorem f106_50 : amFetch 106 50 = some (.iload_n 1, 1, 0, 0, 0) := rfl
theorem f106_51 : amFetch 106 51 = some (.imul, 1, 0, 0, 0) := rfl
theorem f106_52 : amFetch 106 52 = some (.iload 4, 2, 0, 0, 0) := rfl
theorem f106_54 : amFetch 106 54 = some (.iadd, 1, 0, 0, 0) := rfl
theorem f106_55 : amFetch 106 55 = some (.iaload, 1, 0, 0, 0) := rfl
theorem f106_56 : amFetch 106 56 = some (.aload_n 0, 1, 0, 0, 0) := rfl
theorem f106_57 : amFetch 106 57 = some (.getfield 7, 3, 4, 0, 0) := rfl
theorem f106_60 : amFetch 106 60 = some (.sipush 4096, 3, 0, 0, 0) := rfl
theorem f106_63 : amFetch 106 63 = some (.iload_n 2, 1, 0, 0, 0) := rfl
theorem f106_64 : amFetch 106 64 = some (.imul, 1, 0, 0, 0) := rfl
theorem f106_65 : amFetch 106 65 = some (.iload 4, 2, 0, 0, 0) := rfl
theorem f106_67 : amFetch 106 67 = some (.iadd, 1, 0, 0, 0) := rfl
theorem f106_68 : amFetch 106 68 = some (.iaload, 1, 0, 0, 0) := rfl
theorem f106_69 : amFetch 106 69 = some (.iadd, 1, 0, 0, 0) := rfl
theorem f106_70 : amFetch 106 70 = some (.invokestatic 39, 3, 1, 84, 1) := rfl
theorem f106_73 : amFetch 106 73 = some (.iadd, 1, 0, 0, 0) := rfl
theorem f106_74 : amFetch 106 74 = some (.istore_n 3, 1, 0, 0, 0) := rfl
theorem f106_75 : amFetch 106 75 = some (.iinc 4 1, 3, 0, 0, 0) := rfl
theorem f106_78 : amFetch 106 78 = some (.goto (-44), 3, 0, 0, 0) := rfl
theorem f106_81 : amFetch 106 81 = some (.aload_n 0, 1, 0, 0, 0) := rfl
theorem f106_82 : amFetch 106 82 = some (.iload_n 3, 1, 0, 0, 0) := rfl
theorem f106_83 : amFetch 106 83 = some (.aload_n 0, 1, 0, 0, 0) := rfl
theorem f106_84 : amFetch 106 84 = some (.iload_n 1, 1, 0, 0, 0) := rfl
theorem f106_85 : amFetch 106 85 = some (.invokevirtual 44, 3, 0, 83, 1) := rfl
theorem f106_88 : amFetch 106 88 = some (.invokestatic 65, 3, 1, 86, 2) := rfl
theorem f106_91 : amFetch 106 91 = some (.ifCond .eq 7, 3, 0, 0, 0) := rfl
theorem f106_94 : amFetch 106 94 = some (.iconst 0, 1, 0, 0, 0) := rfl
theorem f106_95 : amFetch 106 95 = some (.goto 4, 3, 0, 0, 0) := rfl
theorem f106_98 : amFetch 106 98 = some (.iconst 2, 1, 0, 0, 0) := rfl
theorem f106_99 : amFetch 106 99 = some (.putfield 31, 3, 4, 7, 0) := rfl
theorem f106_102 : amFetch 106 102 = some (.iconst 0, 1, 0, 0, 0) := rfl
theorem f106_103 : amFetch 106 103 = some (.istore 4, 2, 0, 0, 0) := rfl
theorem f106_105 : amFetch 106 105 = some (.iload 4, 2, 0, 0, 0) := rfl
theorem f106_107 : amFetch 106 107 = some (.sipush 4096, 3, 0, 0, 0) := rfl
theorem f106_110 : amFetch 106 110 = some (.if_icmp .ge 45, 3, 0, 0, 0) := rfl
theorem f106_113 : amFetch 106 113 = some (.aload_n 0, 1, 0, 0, 0) := rfl
theorem f106_114 : amFetch 106 114 = some (.getfield 31, 3, 4, 7, 0) := rfl
theorem f106_117 : amFetch 106 117 = some (.ifCond .ne 38, 3, 0, 0, 0) := rfl
theorem f106_120 : amFetch 106 120 = some (.aload_n 0, 1, 0, 0, 0) := rfl
theorem f106_121 : amFetch 106 121 = some (.getfield 7, 3, 4, 0, 0) := rfl
theorem f106_124 : amFetch 106 124 = some (.sipush 4096, 3, 0, 0, 0) := rfl
theorem f106_127 : amFetch 106 127 = some (.iload_n 1, 1, 0, 0, 0) := rfl
theorem f106_128 : amFetch 106 128 = some (.imul, 1, 0, 0, 0) := rfl
theorem f106_129 : amFetch 106 129 = some (.iload 4, 2, 0, 0, 0) := rfl
theorem f106_131 : amFetch 106 131 = some (.iadd, 1, 0, 0, 0) := rfl
theorem f106_132 : amFetch 106 132 = some (.dup2, 1, 0, 0, 0) := rfl
theorem f106_133 : amFetch 106 133 = some (.iaload, 1, 0, 0, 0) := rfl
theorem f106_134 : amFetch 106 134 = some (.aload_n 0, 1, 0, 0, 0) := rfl
theorem f106_135 : amFetch 106 135 = some (.getfield 7, 3, 4, 0, 0) := rfl
theorem f106_138 : amFetch 106 138 = some (.sipush 4096, 3, 0, 0, 0) := rfl
theorem f106_141 : amFetch 106 141 = some (.iload_n 2, 1, 0, 0, 0) := rfl
theorem f106_142 : amFetch 106 142 = some (.imul, 1, 0, 0, 0) := rfl
theorem f106_143 : amFetch 106 143 = some (.iload 4, 2, 0, 0, 0) := rfl
theorem f106_145 : amFetch 106 145 = some (.iadd, 1, 0, 0, 0) := rfl
theorem f106_146 : amFetch 106 146 = some (.iaload, 1, 0, 0, 0) := rfl
theorem f106_147 : amFetch 106 147 = some (.iadd, 1, 0, 0, 0) := rfl
theorem f106_148 : amFetch 106 148 = some (.iastore, 1, 0, 0, 0) := rfl
theorem f106_149 : amFetch 106 149 = some (.iinc 4 1, 3, 0, 0, 0) := rfl
theorem f106_152 : amFetch 106 152 = some (.goto (-47), 3, 0, 0, 0) := rfl
theorem f106_155 : amFetch 106 155 = some (.aload_n 0, 1, 0, 0, 0) := rfl
theorem f106_156 : amFetch 106 156 = some (.getfield 31, 3, 4, 7, 0) := rfl
theorem f106_159 : amFetch 106 159 = some (.ifCond .ne 7, 3, 0, 0, 0) := rfl
theorem f106_162 : amFetch 106 162 = some (.iload_n 3, 1, 0, 0, 0) := rfl
theorem f106_163 : amFetch 106 163 = some (.goto 4, 3, 0, 0, 0) := rfl
theorem f106_166 : amFetch 106 166 = some (.iconst 0, 1, 0, 0, 0) := rfl
theorem f106_167 : amFetch 106 167 = some (.ireturn, 1, 0, 0, 0) := rfl
theorem ow106 : amOwnL 106 = some (4, 5) := rfl
-- X4_intersect
theorem f107_0 : amFetch 107 0 = some (.aload_n 0, 1, 0, 0, 0) := rfl
theorem f107_1 : amFetch 107 1 = some (.iload_n 1, 1, 0, 0, 0) := rfl
theorem f107_2 : amFetch 107 2 = some (.invokestatic 69, 3, 1, 80, 1) := rfl
theorem f107_5 : amFetch 107 5 = some (.ifCond .eq 14, 3, 0, 0, 0) := rfl
theorem f107_8 : amFetch 107 8 = some (.iload_n 2, 1, 0, 0, 0) := rfl
theorem f107_9 : amFetch 107 9 = some (.invokestatic 69, 3, 1, 80, 1) := rfl
theorem f107_12 : amFetch 107 12 = some (.ifCond .eq 7, 3, 0, 0, 0) := rfl
theorem f107_15 : amFetch 107 15 = some (.iconst 1, 1, 0, 0, 0) := rfl
theorem f107_16 : amFetch 107 16 = some (.goto 4, 3, 0, 0, 0) := rfl
theorem f107_19 : amFetch 107 19 = some (.iconst 0, 1, 0, 0, 0) := rfl
theorem f107_20 : amFetch 107 20 = some (.iconst 1, 1, 0, 0, 0) := rfl
theorem f107_21 : amFetch 107 21 = some (.invokevirtual 72, 3, 0, 82, 2) := rfl
theorem f107_24 : amFetch 107 24 = some (.ifCond .ne 5, 3, 0, 0, 0) := rfl
theorem f107_27 : amFetch 107 27 = some (.iconst 0, 1, 0, 0, 0) := rfl
theorem f107_28 : amFetch 107 28 = some (.ireturn, 1, 0, 0, 0) := rfl
theorem f107_29 : amFetch 107 29 = some (.iconst 0, 1, 0, 0, 0) := rfl
theorem f107_30 : amFetch 107 30 = some (.istore_n 3, 1, 0, 0, 0) := rfl
theorem f107_31 : amFetch 107 31 = some (.iload_n 3, 1, 0, 0, 0) := rfl
theorem f107_32 : amFetch 107 32 = some (.sipush 4096, 3, 0, 0, 0) := rfl
theorem f107_35 : amFetch 107 35 = some (.if_icmp .ge 69, 3, 0, 0, 0) := rfl
theorem f107_38 : amFetch 107 38 = some (.aload_n 0, 1, 0, 0, 0) := rfl
theorem f107_39 : amFetch 107 39 = some (.getfield 7, 3, 4, 0, 0) := rfl
theorem f107_42 : amFetch 107 42 = some (.sipush 4096, 3, 0, 0, 0) := rfl
theorem f107_45 : amFetch 107 45 = some (.iload_n 2, 1, 0, 0, 0) := rfl
theorem f107_46 : amFetch 107 46 = some (.imul, 1, 0, 0, 0) := rfl
theorem f107_47 : amFetch 107 47 = some (.iload_n 3, 1, 0, 0, 0) := rfl
theorem f107_48 : amFetch 107 48 = some (.iadd, 1, 0, 0, 0) := rfl
theorem f107_49 : amFetch 107 49 = some (.iaload, 1, 0, 0, 0) := rfl
theorem f107_50 : amFetch 107 50 = some (.istore 4, 2, 0, 0, 0) := rfl
theorem f107_52 : amFetch 107 52 = some (.aload_n 0, 1, 0, 0, 0) := rfl
theorem f107_53 : amFetch 107 53 = some (.getfield 7, 3, 4, 0, 0) := rfl
theorem f107_56 : amFetch 107 56 = some (.sipush 4096, 3, 0, 0, 0) := rfl
theorem f107_59 : amFetch 107 59 = some (.iload_n 1, 1, 0, 0, 0) := rfl
theorem f107_60 : amFetch 107 60 = some (.imul, 1, 0, 0, 0) := rfl
theorem f107_61 : amFetch 107 61 = some (.iload_n 3, 1, 0, 0, 0) := rfl
theorem f107_62 : amFetch 107 62 = some (.iadd, 1, 0, 0, 0) := rfl
theorem f107_63 : amFetch 107 63 = some (.iload 4, 2, 0, 0, 0) := rfl
theorem f107_65 : amFetch 107 65 = some (.aload_n 0, 1, 0, 0, 0) := rfl
theorem f107_66 : amFetch 107 66 = some (.getfield 7, 3, 4, 0, 0) := rfl
theorem f107_69 : amFetch 107 69 = some (.sipush 4096, 3, 0, 0, 0) := rfl
theorem f107_72 : amFetch 107 72 = some (.iload_n 1, 1, 0, 0, 0) := rfl
theorem f107_73 : amFetch 107 73 = some (.imul, 1, 0, 0, 0) := rfl
theorem f107_74 : amFetch 107 74 = some (.iload_n 3, 1, 0, 0, 0) := rfl
theorem f107_75 : amFetch 107 75 = some (.iadd, 1, 0, 0, 0) := rfl
theorem f107_76 : amFetch 107 76 = some (.iaload, 1, 0, 0, 0) := rfl
theorem f107_77 : amFetch 107 77 = some (.if_icmp .ge 8, 3, 0, 0, 0) := rfl
theorem f107_80 : amFetch 107 80 = some (.iload 4, 2, 0, 0, 0) := rfl
theorem f107_82 : amFetch 107 82 = some (.goto 15, 3, 0, 0, 0) := rfl
theorem f107_85 : amFetch 107 85 = some (.aload_n 0, 1, 0, 0, 0) := rfl
theorem f107_86 : amFetch 107 86 = some (.getfield 7, 3, 4, 0, 0) := rfl
theorem f107_89 : amFetch 107 89 = some (.sipush 4096, 3, 0, 0, 0) := rfl
theorem f107_92 : amFetch 107 92 = some (.iload_n 1, 1, 0, 0, 0) := rfl
theorem f107_93 : amFetch 107 93 = some (.imul, 1, 0, 0, 0) := rfl
theorem f107_94 : amFetch 107 94 = some (.iload_n 3, 1, 0, 0, 0) := rfl
theorem f107_95 : amFetch 107 95 = some (.iadd, 1, 0, 0, 0) := rfl
theorem f107_96 : amFetch 107 96 = some (.iaload, 1, 0, 0, 0) := rfl
theorem f107_97 : amFetch 107 97 = some (.iastore, 1, 0, 0, 0) := rfl
theorem f107_98 : amFetch 107 98 = some (.iinc 3 1, 3, 0, 0, 0) := rfl
theorem f107_101 : amFetch 107 101 = some (.goto (-70), 3, 0, 0, 0) := rfl
theorem f107_104 : amFetch 107 104 = some (.aload_n 0, 1, 0, 0, 0) := rfl
theorem f107_105 : amFetch 107 105 = some (.iload_n 1, 1, 0, 0, 0) := rfl
theorem f107_106 : amFetch 107 106 = some (.invokevirtual 62, 3, 0, 85, 1) := rfl
theorem f107_109 : amFetch 107 109 = some (.ireturn, 1, 0, 0, 0) := rfl
theorem ow107 : amOwnL 107 = some (4, 5) := rfl
-- X4_isSame
theorem f108_0 : amFetch 108 0 = some (.aload_n 0, 1, 0, 0, 0) := rfl
theorem f108_1 : amFetch 108 1 = some (.iload_n 1, 1, 0, 0, 0) := rfl
theorem f108_2 : amFetch 108 2 = some (.invokestatic 69, 3, 1, 80, 1) := rfl
theorem f108_5 : amFetch 108 5 = some (.ifCond .eq 14, 3, 0, 0, 0) := rfl
theorem f108_8 : amFetch 108 8 = some (.iload_n 2, 1, 0, 0, 0) := rfl
theorem f108_9 : amFetch 108 9 = some (.invokestatic 69, 3, 1, 80, 1) := rfl
theorem f108_12 : amFetch 108 12 = some (.ifCond .eq 7, 3, 0, 0, 0) := rfl
theorem f108_15 : amFetch 108 15 = some (.iconst 1, 1, 0, 0, 0) := rfl
theorem f108_16 : amFetch 108 16 = some (.goto 4, 3, 0, 0, 0) := rfl
theorem f108_19 : amFetch 108 19 = some (.iconst 0, 1, 0, 0, 0) := rfl
theorem f108_20 : amFetch 108 20 = some (.iconst 1, 1, 0, 0, 0) := rfl
theorem f108_21 : amFetch 108 21 = some (.invokevirtual 72, 3, 0, 82, 2) := rfl
theorem f108_24 : amFetch 108 24 = some (.istore_n 3, 1, 0, 0, 0) := rfl
theorem f108_25 : amFetch 108 25 = some (.iconst 0, 1, 0, 0, 0) := rfl
theorem f108_26 : amFetch 108 26 = some (.istore 4, 2, 0, 0, 0) := rfl
theorem f108_28 : amFetch 108 28 = some (.iload 4, 2, 0, 0, 0) := rfl
theorem f108_30 : amFetch 108 30 = some (.sipush 4096, 3, 0, 0, 0) := rfl
theorem f108_33 : amFetch 108 33 = some (.if_icmp .ge 48, 3, 0, 0, 0) := rfl
theorem f108_36 : amFetch 108 36 = some (.iload_n 3, 1, 0, 0, 0) := rfl
theorem f108_37 : amFetch 108 37 = some (.ifCond .eq 44, 3, 0, 0, 0) := rfl
theorem f108_40 : amFetch 108 40 = some (.aload_n 0, 1, 0, 0, 0) := rfl
theorem f108_41 : amFetch 108 41 = some (.getfield 7, 3, 4, 0, 0) := rfl
theorem f108_44 : amFetch 108 44 = some (.sipush 4096, 3, 0, 0, 0) := rfl
theorem f108_47 : amFetch 108 47 = some (.iload_n 1, 1, 0, 0, 0) := rfl
theorem f108_48 : amFetch 108 48 = some (.imul, 1, 0, 0, 0) := rfl
theorem f108_49 : amFetch 108 49 = some (.iload 4, 2, 0, 0, 0) := rfl
theorem f108_51 : amFetch 108 51 = some (.iadd, 1, 0, 0, 0) := rfl
theorem f108_52 : amFetch 108 52 = some (.iaload, 1, 0, 0, 0) := rfl
theorem f108_53 : amFetch 108 53 = some (.aload_n 0, 1, 0, 0, 0) := rfl
theorem f108_54 : amFetch 108 54 = some (.getfield 7, 3, 4, 0, 0) := rfl
theorem f108_57 : amFetch 108 57 = some (.sipush 4096, 3, 0, 0, 0) := rfl
theorem f108_60 : amFetch 108 60 = some (.iload_n 2, 1, 0, 0, 0) := rfl
theorem f108_61 : amFetch 108 61 = some (.imul, 1, 0, 0, 0) := rfl
theorem f108_62 : amFetch 108 62 = some (.iload 4, 2, 0, 0, 0) := rfl
theorem f108_64 : amFetch 108 64 = some (.iadd, 1, 0, 0, 0) := rfl
theorem f108_65 : amFetch 108 65 = some (.iaload, 1, 0, 0, 0) := rfl
theorem f108_66 : amFetch 108 66 = some (.if_icmp .ne 7, 3, 0, 0, 0) := rfl
theorem f108_69 : amFetch 108 69 = some (.iconst 1, 1, 0, 0, 0) := rfl
theorem f108_70 : amFetch 108 70 = some (.goto 4, 3, 0, 0, 0) := rfl
theorem f108_73 : amFetch 108 73 = some (.iconst 0, 1, 0, 0, 0) := rfl
theorem f108_74 : amFetch 108 74 = some (.istore_n 3, 1, 0, 0, 0) := rfl
theorem f108_75 : amFetch 108 75 = some (.iinc 4 1, 3, 0, 0, 0) := rfl
theorem f108_78 : amFetch 108 78 = some (.goto (-50), 3, 0, 0, 0) := rfl
theorem f108_81 : amFetch 108 81 = some (.iload_n 3, 1, 0, 0, 0) := rfl
theorem f108_82 : amFetch 108 82 = some (.ireturn, 1, 0, 0, 0) := rfl
theorem ow108 : amOwnL 108 = some (4, 5) := rfl
-- X4_slots
theorem f109_0 : amFetch 109 0 = some (.aload_n 0, 1, 0, 0, 0) := rfl
theorem f109_1 : amFetch 109 1 = some (.iload_n 1, 1, 0, 0, 0) := rfl
theorem f109_2 : amFetch 109 2 = some (.invokestatic 69, 3, 1, 80, 1) := rfl
theorem f109_5 : amFetch 109 5 = some (.iconst 1, 1, 0, 0, 0) := rfl
theorem f109_6 : amFetch 109 6 = some (.invokevirtual 72, 3, 0, 82, 2) := rfl
theorem f109_9 : amFetch 109 9 = some (.ifCond .eq 11, 3, 0, 0, 0) := rfl
theorem f109_12 : amFetch 109 12 = some (.aload_n 0, 1, 0, 0, 0) := rfl
theorem f109_13 : amFetch 109 13 = some (.iload_n 1, 1, 0, 0, 0) := rfl
theorem f109_14 : amFetch 109 14 = some (.invokevirtual 44, 3, 0, 83, 1) := rfl
theorem f109_17 : amFetch 109 17 = some (.goto 4, 3, 0, 0, 0) := rfl
theorem f109_20 : amFetch 109 20 = some (.iconst 0, 1, 0, 0, 0) := rfl
theorem f109_21 : amFetch 109 21 = some (.ireturn, 1, 0, 0, 0) := rfl
theorem ow109 : amOwnL 109 = some (4, 2) := rfl
-- X4_entries
theorem f110_0 : amFetch 110 0 = some (.aload_n 0, 1, 0, 0, 0) := rfl
theorem f110_1 : amFetch 110 1 = some (.iload_n 1, 1, 0, 0, 0) := rfl
theorem f110_2 : amFetch 110 2 = some (.invokestatic 69, 3, 1, 80, 1) := rfl
theorem f110_5 : amFetch 110 5 = some (.iconst 1, 1, 0, 0, 0) := rfl
theorem f110_6 : amFetch 110 6 = some (.invokevirtual 72, 3, 0, 82, 2) := rfl
theorem f110_9 : amFetch 110 9 = some (.ifCond .eq 11, 3, 0, 0, 0) := rfl
theorem f110_12 : amFetch 110 12 = some (.aload_n 0, 1, 0, 0, 0) := rfl
theorem f110_13 : amFetch 110 13 = some (.iload_n 1, 1, 0, 0, 0) := rfl
theorem f110_14 : amFetch 110 14 = some (.invokevirtual 62, 3, 0, 85, 1) := rfl
theorem f110_17 : amFetch 110 17 = some (.goto 4, 3, 0, 0, 0) := rfl
theorem f110_20 : amFetch 110 20 = some (.iconst 0, 1, 0, 0, 0) := rfl
theorem f110_21 : amFetch 110 21 = some (.ireturn, 1, 0, 0, 0) := rfl
theorem ow110 : amOwnL 110 = some (4, 2) := rfl
-- X4_distinct
theorem f111_0 : amFetch 111 0 = some (.iconst 0, 1, 0, 0, 0) := rfl
theorem f111_1 : amFetch 111 1 = some (.istore_n 2, 1, 0, 0, 0) := rfl
theorem f111_2 : amFetch 111 2 = some (.aload_n 0, 1, 0, 0, 0) := rfl
theorem f111_3 : amFetch 111 3 = some (.iload_n 1, 1, 0, 0, 0) := rfl
theorem f111_4 : amFetch 111 4 = some (.invokestatic 69, 3, 1, 80, 1) := rfl
theorem f111_7 : amFetch 111 7 = some (.iconst 1, 1, 0, 0, 0) := rfl
theorem f111_8 : amFetch 111 8 = some (.invokevirtual 72, 3, 0, 82, 2) := rfl
theorem f111_11 : amFetch 111 11 = some (.istore_n 3, 1, 0, 0, 0) := rfl
theorem f111_12 : amFetch 111 12 = some (.iconst 0, 1, 0, 0, 0) := rfl
theorem f111_13 : amFetch 111 13 = some (.istore 4, 2, 0, 0, 0) := rfl
theorem f111_15 : amFetch 111 15 = some (.iload 4, 2, 0, 0, 0) := rfl
theorem f111_17 : amFetch 111 17 = some (.sipush 4096, 3, 0, 0, 0) := rfl
theorem f111_20 : amFetch 111 20 = some (.if_icmp .ge 37, 3, 0, 0, 0) := rfl
theorem f111_23 : amFetch 111 23 = some (.iload_n 3, 1, 0, 0, 0) := rfl
theorem f111_24 : amFetch 111 24 = some (.ifCond .eq 33, 3, 0, 0, 0) := rfl
theorem f111_27 : amFetch 111 27 = some (.iload_n 2, 1, 0, 0, 0) := rfl
theorem f111_28 : amFetch 111 28 = some (.aload_n 0, 1, 0, 0, 0) := rfl
theorem f111_29 : amFetch 111 29 = some (.getfield 7, 3, 4, 0, 0) := rfl
theorem f111_32 : amFetch 111 32 = some (.sipush 4096, 3, 0, 0, 0) := rfl
theorem f111_35 : amFetch 111 35 = some (.iload_n 1, 1, 0, 0, 0) := rfl
theorem f111_36 : amFetch 111 36 = some (.imul, 1, 0, 0, 0) := rfl
theorem f111_37 : amFetch 111 37 = some (.iload 4, 2, 0, 0, 0) := rfl
theorem f111_39 : amFetch 111 39 = some (.iadd, 1, 0, 0, 0) := rfl
theorem f111_40 : amFetch 111 40 = some (.iaload, 1, 0, 0, 0) := rfl
theorem f111_41 : amFetch 111 41 = some (.ifCond .le 7, 3, 0, 0, 0) := rfl
theorem f111_44 : amFetch 111 44 = some (.iconst 1, 1, 0, 0, 0) := rfl
theorem f111_45 : amFetch 111 45 = some (.goto 4, 3, 0, 0, 0) := rfl
theorem f111_48 : amFetch 111 48 = some (.iconst 0, 1, 0, 0, 0) := rfl
theorem f111_49 : amFetch 111 49 = some (.iadd, 1, 0, 0, 0) := rfl
theorem f111_50 : amFetch 111 50 = some (.istore_n 2, 1, 0, 0, 0) := rfl
theorem f111_51 : amFetch 111 51 = some (.iinc 4 1, 3, 0, 0, 0) := rfl
theorem f111_54 : amFetch 111 54 = some (.goto (-39), 3, 0, 0, 0) := rfl
theorem f111_57 : amFetch 111 57 = some (.iload_n 2, 1, 0, 0, 0) := rfl
theorem f111_58 : amFetch 111 58 = some (.ireturn, 1, 0, 0, 0) := rfl
theorem ow111 : amOwnL 111 = some (4, 5) := rfl
-- X4_total
theorem f112_0 : amFetch 112 0 = some (.iconst 0, 1, 0, 0, 0) := rfl
theorem f112_1 : amFetch 112 1 = some (.istore_n 2, 1, 0, 0, 0) := rfl
theorem f112_2 : amFetch 112 2 = some (.aload_n 0, 1, 0, 0, 0) := rfl
theorem f112_3 : amFetch 112 3 = some (.iload_n 1, 1, 0, 0, 0) := rfl
theorem f112_4 : amFetch 112 4 = some (.invokestatic 69, 3, 1, 80, 1) := rfl
theorem f112_7 : amFetch 112 7 = some (.iconst 1, 1, 0, 0, 0) := rfl
theorem f112_8 : amFetch 112 8 = some (.invokevirtual 72, 3, 0, 82, 2) := rfl
theorem f112_11 : amFetch 112 11 = some (.istore_n 3, 1, 0, 0, 0) := rfl
theorem f112_12 : amFetch 112 12 = some (.iconst 0, 1, 0, 0, 0) := rfl
theorem f112_13 : amFetch 112 13 = some (.istore 4, 2, 0, 0, 0) := rfl
theorem f112_15 : amFetch 112 15 = some (.iload 4, 2, 0, 0, 0) := rfl
theorem f112_17 : amFetch 112 17 = some (.sipush 4096, 3, 0, 0, 0) := rfl
theorem f112_20 : amFetch 112 20 = some (.if_icmp .ge 29, 3, 0, 0, 0) := rfl
theorem f112_23 : amFetch 112 23 = some (.iload_n 3, 1, 0, 0, 0) := rfl
theorem f112_24 : amFetch 112 24 = some (.ifCond .eq 25, 3, 0, 0, 0) := rfl
theorem f112_27 : amFetch 112 27 = some (.iload_n 2, 1, 0, 0, 0) := rfl
theorem f112_28 : amFetch 112 28 = some (.aload_n 0, 1, 0, 0, 0) := rfl
theorem f112_29 : amFetch 112 29 = some (.getfield 7, 3, 4, 0, 0) := rfl
theorem f112_32 : amFetch 112 32 = some (.sipush 4096, 3, 0, 0, 0) := rfl
theorem f112_35 : amFetch 112 35 = some (.iload_n 1, 1, 0, 0, 0) := rfl
theorem f112_36 : amFetch 112 36 = some (.imul, 1, 0, 0, 0) := rfl
theorem f112_37 : amFetch 112 37 = some (.iload 4, 2, 0, 0, 0) := rfl
theorem f112_39 : amFetch 112 39 = some (.iadd, 1, 0, 0, 0) := rfl
theorem f112_40 : amFetch 112 40 = some (.iaload, 1, 0, 0, 0) := rfl
theorem f112_41 : amFetch 112 41 = some (.iadd, 1, 0, 0, 0) := rfl
theorem f112_42 : amFetch 112 42 = some (.istore_n 2, 1, 0, 0, 0) := rfl
theorem f112_43 : amFetch 112 43 = some (.iinc 4 1, 3, 0, 0, 0) := rfl
theorem f112_46 : amFetch 112 46 = some (.goto (-31), 3, 0, 0, 0) := rfl
theorem f112_49 : amFetch 112 49 = some (.iload_n 2, 1, 0, 0, 0) := rfl
theorem f112_50 : amFetch 112 50 = some (.ireturn, 1, 0, 0, 0) := rfl
theorem ow112 : amOwnL 112 = some (4, 5) := rfl
-- X4_fingerprintAt
theorem f113_0 : amFetch 113 0 = some (.iload_n 2, 1, 0, 0, 0) := rfl
theorem f113_1 : amFetch 113 1 = some (.istore_n 3, 1, 0, 0, 0) := rfl
theorem f113_2 : amFetch 113 2 = some (.aload_n 0, 1, 0, 0, 0) := rfl
theorem f113_3 : amFetch 113 3 = some (.iload_n 1, 1, 0, 0, 0) := rfl
theorem f113_4 : amFetch 113 4 = some (.invokestatic 69, 3, 1, 80, 1) := rfl
theorem f113_7 : amFetch 113 7 = some (.iconst 1, 1, 0, 0, 0) := rfl
theorem f113_8 : amFetch 113 8 = some (.invokevirtual 72, 3, 0, 82, 2) := rfl
theorem f113_11 : amFetch 113 11 = some (.ifCond .eq 11, 3, 0, 0, 0) := rfl
theorem f113_14 : amFetch 113 14 = some (.iload_n 2, 1, 0, 0, 0) := rfl
theorem f113_15 : amFetch 113 15 = some (.ifCond .lt 7, 3, 0, 0, 0) := rfl
theorem f113_18 : amFetch 113 18 = some (.iconst 1, 1, 0, 0, 0) := rfl
theorem f113_19 : amFetch 113 19 = some (.goto 4, 3, 0, 0, 0) := rfl
theorem f113_22 : amFetch 113 22 = some (.iconst 0, 1, 0, 0, 0) := rfl
theorem f113_23 : amFetch 113 23 = some (.istore 4, 2, 0, 0, 0) := rfl
theorem f113_25 : amFetch 113 25 = some (.iconst 0, 1, 0, 0, 0) := rfl
theorem f113_26 : amFetch 113 26 = some (.istore 5, 2, 0, 0, 0) := rfl
theorem f113_28 : amFetch 113 28 = some (.iload 5, 2, 0, 0, 0) := rfl
theorem f113_30 : amFetch 113 30 = some (.sipush 4096, 3, 0, 0, 0) := rfl
theorem f113_33 : amFetch 113 33 = some (.if_icmp .ge 62, 3, 0, 0, 0) := rfl
theorem f113_36 : amFetch 113 36 = some (.iload 4, 2, 0, 0, 0) := rfl
theorem f113_38 : amFetch 113 38 = some (.ifCond .eq 57, 3, 0, 0, 0) := rfl
theorem f113_41 : amFetch 113 41 = some (.aload_n 0, 1, 0, 0, 0) := rfl
theorem f113_42 : amFetch 113 42 = some (.getfield 7, 3, 4, 0, 0) := rfl
theorem f113_45 : amFetch 113 45 = some (.sipush 4096, 3, 0, 0, 0) := rfl
theorem f113_48 : amFetch 113 48 = some (.iload_n 1, 1, 0, 0, 0) := rfl
theorem f113_49 : amFetch 113 49 = some (.imul, 1, 0, 0, 0) := rfl
theorem f113_50 : amFetch 113 50 = some (.iload 5, 2, 0, 0, 0) := rfl
theorem f113_52 : amFetch 113 52 = some (.iadd, 1, 0, 0, 0) := rfl
theorem f113_53 : amFetch 113 53 = some (.iaload, 1, 0, 0, 0) := rfl
theorem f113_54 : amFetch 113 54 = some (.ifCond .le 7, 3, 0, 0, 0) := rfl
theorem f113_57 : amFetch 113 57 = some (.iconst 1, 1, 0, 0, 0) := rfl
theorem f113_58 : amFetch 113 58 = some (.goto 4, 3, 0, 0, 0) := rfl
theorem f113_61 : amFetch 113 61 = some (.iconst 0, 1, 0, 0, 0) := rfl
theorem f113_62 : amFetch 113 62 = some (.istore 6, 2, 0, 0, 0) := rfl
theorem f113_64 : amFetch 113 64 = some (.iload 6, 2, 0, 0, 0) := rfl
theorem f113_66 : amFetch 113 66 = some (.ifCond .eq 10, 3, 0, 0, 0) := rfl
theorem f113_69 : amFetch 113 69 = some (.iload_n 3, 1, 0, 0, 0) := rfl
theorem f113_70 : amFetch 113 70 = some (.ifCond .ne 6, 3, 0, 0, 0) := rfl
theorem f113_73 : amFetch 113 73 = some (.iload 5, 2, 0, 0, 0) := rfl
theorem f113_75 : amFetch 113 75 = some (.ireturn, 1, 0, 0, 0) := rfl
theorem f113_76 : amFetch 113 76 = some (.iload_n 3, 1, 0, 0, 0) := rfl
theorem f113_77 : amFetch 113 77 = some (.iload 6, 2, 0, 0, 0) := rfl
theorem f113_79 : amFetch 113 79 = some (.ifCond .eq 7, 3, 0, 0, 0) := rfl
theorem f113_82 : amFetch 113 82 = some (.iconst 1, 1, 0, 0, 0) := rfl
theorem f113_83 : amFetch 113 83 = some (.goto 4, 3, 0, 0, 0) := rfl
theorem f113_86 : amFetch 113 86 = some (.iconst 0, 1, 0, 0, 0) := rfl
theorem f113_87 : amFetch 113 87 = some (.isub, 1, 0, 0, 0) := rfl
theorem f113_88 : amFetch 113 88 = some (.istore_n 3, 1, 0, 0, 0) := rfl
theorem f113_89 : amFetch 113 89 = some (.iinc 5 1, 3, 0, 0, 0) := rfl
theorem f113_92 : amFetch 113 92 = some (.goto (-64), 3, 0, 0, 0) := rfl
theorem f113_95 : amFetch 113 95 = some (.aload_n 0, 1, 0, 0, 0) := rfl
theorem f113_96 : amFetch 113 96 = some (.iconst 1, 1, 0, 0, 0) := rfl
theorem f113_97 : amFetch 113 97 = some (.putfield 31, 3, 4, 7, 0) := rfl
theorem f113_100 : amFetch 113 100 = some (.iconst 0, 1, 0, 0, 0) := rfl
theorem f113_101 : amFetch 113 101 = some (.ireturn, 1, 0, 0, 0) := rfl
theorem ow113 : amOwnL 113 = some (4, 7) := rfl
-- X4_isLaid
theorem f114_0 : amFetch 114 0 = some (.aload_n 0, 1, 0, 0, 0) := rfl
theorem f114_1 : amFetch 114 1 = some (.iload_n 1, 1, 0, 0, 0) := rfl
theorem f114_2 : amFetch 114 2 = some (.invokestatic 69, 3, 1, 80, 1) := rfl
theorem f114_5 : amFetch 114 5 = some (.ifCond .eq 22, 3, 0, 0, 0) := rfl
theorem f114_8 : amFetch 114 8 = some (.iload_n 2, 1, 0, 0, 0) := rfl
theorem f114_9 : amFetch 114 9 = some (.iconst 0, 1, 0, 0, 0) := rfl
theorem f114_10 : amFetch 114 10 = some (.aload_n 0, 1, 0, 0, 0) := rfl
theorem f114_11 : amFetch 114 11 = some (.iload_n 1, 1, 0, 0, 0) := rfl
theorem f114_12 : amFetch 114 12 = some (.invokevirtual 44, 3, 0, 83, 1) := rfl
theorem f114_15 : amFetch 114 15 = some (.iconst 1, 1, 0, 0, 0) := rfl
theorem f114_16 : amFetch 114 16 = some (.isub, 1, 0, 0, 0) := rfl
theorem f114_17 : amFetch 114 17 = some (.invokestatic 35, 3, 1, 79, 3) := rfl
theorem f114_20 : amFetch 114 20 = some (.ifCond .eq 7, 3, 0, 0, 0) := rfl
theorem f114_23 : amFetch 114 23 = some (.iconst 1, 1, 0, 0, 0) := rfl
theorem f114_24 : amFetch 114 24 = some (.goto 4, 3, 0, 0, 0) := rfl
theorem f114_27 : amFetch 114 27 = some (.iconst 0, 1, 0, 0, 0) := rfl
theorem f114_28 : amFetch 114 28 = some (.iconst 1, 1, 0, 0, 0) := rfl
theorem f114_29 : amFetch 114 29 = some (.invokevirtual 72, 3, 0, 82, 2) := rfl
theorem f114_32 : amFetch 114 32 = some (.ifCond .ne 5, 3, 0, 0, 0) := rfl
theorem f114_35 : amFetch 114 35 = some (.iconst 0, 1, 0, 0, 0) := rfl
theorem f114_36 : amFetch 114 36 = some (.ireturn, 1, 0, 0, 0) := rfl
theorem f114_37 : amFetch 114 37 = some (.aload_n 0, 1, 0, 0, 0) := rfl
theorem f114_38 : amFetch 114 38 = some (.iload_n 1, 1, 0, 0, 0) := rfl
theorem f114_39 : amFetch 114 39 = some (.invokevirtual 85, 3, 0, 89, 1) := rfl
theorem f114_42 : amFetch 114 42 = some (.iconst 1, 1, 0, 0, 0) := rfl
theorem f114_43 : amFetch 114 43 = some (.ireturn, 1, 0, 0, 0) := rfl
theorem ow114 : amOwnL 114 = some (4, 3) := rfl
-- X4_remainderAt
theorem f115_0 : amFetch 115 0 = some (.aload_n 0, 1, 0, 0, 0) := rfl
theorem f115_1 : amFetch 115 1 = some (.iload_n 1, 1, 0, 0, 0) := rfl
theorem f115_2 : amFetch 115 2 = some (.iload_n 2, 1, 0, 0, 0) := rfl
theorem f115_3 : amFetch 115 3 = some (.invokevirtual 88, 3, 0, 114, 2) := rfl
theorem f115_6 : amFetch 115 6 = some (.ifCond .ne 5, 3, 0, 0, 0) := rfl
theorem f115_9 : amFetch 115 9 = some (.iconst 0, 1, 0, 0, 0) := rfl
theorem f115_10 : amFetch 115 10 = some (.ireturn, 1, 0, 0, 0) := rfl
theorem f115_11 : amFetch 115 11 = some (.aload_n 0, 1, 0, 0, 0) := rfl
theorem f115_12 : amFetch 115 12 = some (.iload_n 2, 1, 0, 0, 0) := rfl
theorem f115_13 : amFetch 115 13 = some (.invokevirtual 51, 3, 0, 90, 1) := rfl
theorem f115_16 : amFetch 115 16 = some (.ifCond .eq 28, 3, 0, 0, 0) := rfl
theorem f115_19 : amFetch 115 19 = some (.aload_n 0, 1, 0, 0, 0) := rfl
theorem f115_20 : amFetch 115 20 = some (.getfield 16, 3, 4, 2, 0) := rfl
theorem f115_23 : amFetch 115 23 = some (.iload_n 2, 1, 0, 0, 0) := rfl
theorem f115_24 : amFetch 115 24 = some (.iaload, 1, 0, 0, 0) := rfl
theorem f115_25 : amFetch 115 25 = some (.iconst 1, 1, 0, 0, 0) := rfl
theorem f115_26 : amFetch 115 26 = some (.isub, 1, 0, 0, 0) := rfl
theorem f115_27 : amFetch 115 27 = some (.iconst 1, 1, 0, 0, 0) := rfl
theorem f115_28 : amFetch 115 28 = some (.bipush 12, 2, 0, 0, 0) := rfl
theorem f115_30 : amFetch 115 30 = some (.aload_n 0, 1, 0, 0, 0) := rfl
theorem f115_31 : amFetch 115 31 = some (.getfield 13, 3, 4, 1, 0) := rfl
theorem f115_34 : amFetch 115 34 = some (.iload_n 1, 1, 0, 0, 0) := rfl
theorem f115_35 : amFetch 115 35 = some (.iaload, 1, 0, 0, 0) := rfl
theorem f115_36 : amFetch 115 36 = some (.isub, 1, 0, 0, 0) := rfl
theorem f115_37 : amFetch 115 37 = some (.ishl, 1, 0, 0, 0) := rfl
theorem f115_38 : amFetch 115 38 = some (.iconst 1, 1, 0, 0, 0) := rfl
theorem f115_39 : amFetch 115 39 = some (.isub, 1, 0, 0, 0) := rfl
theorem f115_40 : amFetch 115 40 = some (.iand, 1, 0, 0, 0) := rfl
theorem f115_41 : amFetch 115 41 = some (.goto 4, 3, 0, 0, 0) := rfl
theorem f115_44 : amFetch 115 44 = some (.iconst (-1), 1, 0, 0, 0) := rfl
theorem f115_45 : amFetch 115 45 = some (.ireturn, 1, 0, 0, 0) := rfl
theorem ow115 : amOwnL 115 = some (4, 3) := rfl
-- X4_counterAt
theorem f116_0 : amFetch 116 0 = some (.aload_n 0, 1, 0, 0, 0) := rfl
theorem f116_1 : amFetch 116 1 = some (.iload_n 1, 1, 0, 0, 0) := rfl
theorem f116_2 : amFetch 116 2 = some (.iload_n 2, 1, 0, 0, 0) := rfl
theorem f116_3 : amFetch 116 3 = some (.invokevirtual 88, 3, 0, 114, 2) := rfl
theorem f116_6 : amFetch 116 6 = some (.ifCond .eq 12, 3, 0, 0, 0) := rfl
theorem f116_9 : amFetch 116 9 = some (.aload_n 0, 1, 0, 0, 0) := rfl
theorem f116_10 : amFetch 116 10 = some (.getfield 19, 3, 4, 3, 0) := rfl
theorem f116_13 : amFetch 116 13 = some (.iload_n 2, 1, 0, 0, 0) := rfl
theorem f116_14 : amFetch 116 14 = some (.iaload, 1, 0, 0, 0) := rfl
theorem f116_15 : amFetch 116 15 = some (.goto 4, 3, 0, 0, 0) := rfl
theorem f116_18 : amFetch 116 18 = some (.iconst 0, 1, 0, 0, 0) := rfl
theorem f116_19 : amFetch 116 19 = some (.ireturn, 1, 0, 0, 0) := rfl
theorem ow116 : amOwnL 116 = some (4, 3) := rfl
-- X4_quotientAt
theorem f117_0 : amFetch 117 0 = some (.aload_n 0, 1, 0, 0, 0) := rfl
theorem f117_1 : amFetch 117 1 = some (.iload_n 1, 1, 0, 0, 0) := rfl
theorem f117_2 : amFetch 117 2 = some (.iload_n 2, 1, 0, 0, 0) := rfl
theorem f117_3 : amFetch 117 3 = some (.invokevirtual 88, 3, 0, 114, 2) := rfl
theorem f117_6 : amFetch 117 6 = some (.ifCond .ne 5, 3, 0, 0, 0) := rfl
theorem f117_9 : amFetch 117 9 = some (.iconst 0, 1, 0, 0, 0) := rfl
theorem f117_10 : amFetch 117 10 = some (.ireturn, 1, 0, 0, 0) := rfl
theorem f117_11 : amFetch 117 11 = some (.aload_n 0, 1, 0, 0, 0) := rfl
theorem f117_12 : amFetch 117 12 = some (.iload_n 2, 1, 0, 0, 0) := rfl
theorem f117_13 : amFetch 117 13 = some (.invokevirtual 51, 3, 0, 90, 1) := rfl
theorem f117_16 : amFetch 117 16 = some (.ifCond .eq 12, 3, 0, 0, 0) := rfl
theorem f117_19 : amFetch 117 19 = some (.aload_n 0, 1, 0, 0, 0) := rfl
theorem f117_20 : amFetch 117 20 = some (.iload_n 1, 1, 0, 0, 0) := rfl
theorem f117_21 : amFetch 117 21 = some (.iload_n 2, 1, 0, 0, 0) := rfl
theorem f117_22 : amFetch 117 22 = some (.invokevirtual 55, 3, 0, 91, 2) := rfl
theorem f117_25 : amFetch 117 25 = some (.goto 4, 3, 0, 0, 0) := rfl
theorem f117_28 : amFetch 117 28 = some (.iconst (-1), 1, 0, 0, 0) := rfl
theorem f117_29 : amFetch 117 29 = some (.ireturn, 1, 0, 0, 0) := rfl
theorem ow117 : amOwnL 117 = some (4, 3) := rfl
-- X4_isOccupied
theorem f118_0 : amFetch 118 0 = some (.aload_n 0, 1, 0, 0, 0) := rfl
theorem f118_1 : amFetch 118 1 = some (.iload_n 1, 1, 0, 0, 0) := rfl
theorem f118_2 : amFetch 118 2 = some (.iload_n 2, 1, 0, 0, 0) := rfl
theorem f118_3 : amFetch 118 3 = some (.invokevirtual 88, 3, 0, 114, 2) := rfl
theorem f118_6 : amFetch 118 6 = some (.ifCond .eq 16, 3, 0, 0, 0) := rfl
theorem f118_9 : amFetch 118 9 = some (.aload_n 0, 1, 0, 0, 0) := rfl
theorem f118_10 : amFetch 118 10 = some (.getfield 22, 3, 4, 4, 0) := rfl
theorem f118_13 : amFetch 118 13 = some (.iload_n 2, 1, 0, 0, 0) := rfl
theorem f118_14 : amFetch 118 14 = some (.iaload, 1, 0, 0, 0) := rfl
theorem f118_15 : amFetch 118 15 = some (.ifCond .le 7, 3, 0, 0, 0) := rfl
theorem f118_18 : amFetch 118 18 = some (.iconst 1, 1, 0, 0, 0) := rfl
theorem f118_19 : amFetch 118 19 = some (.goto 4, 3, 0, 0, 0) := rfl
theorem f118_22 : amFetch 118 22 = some (.iconst 0, 1, 0, 0, 0) := rfl
theorem f118_23 : amFetch 118 23 = some (.ireturn, 1, 0, 0, 0) := rfl
theorem ow118 : amOwnL 118 = some (4, 3) := rfl
-- X4_isContinuation
theorem f119_0 : amFetch 119 0 = some (.aload_n 0, 1, 0, 0, 0) := rfl
theorem f119_1 : amFetch 119 1 = some (.iload_n 1, 1, 0, 0, 0) := rfl
theorem f119_2 : amFetch 119 2 = some (.iload_n 2, 1, 0, 0, 0) := rfl
theorem f119_3 : amFetch 119 3 = some (.invokevirtual 88, 3, 0, 114, 2) := rfl
theorem f119_6 : amFetch 119 6 = some (.ifCond .eq 36, 3, 0, 0, 0) := rfl
theorem f119_9 : amFetch 119 9 = some (.aload_n 0, 1, 0, 0, 0) := rfl
theorem f119_10 : amFetch 119 10 = some (.iload_n 2, 1, 0, 0, 0) := rfl
theorem f119_11 : amFetch 119 11 = some (.invokevirtual 51, 3, 0, 90, 1) := rfl
theorem f119_14 : amFetch 119 14 = some (.ifCond .eq 28, 3, 0, 0, 0) := rfl
theorem f119_17 : amFetch 119 17 = some (.aload_n 0, 1, 0, 0, 0) := rfl
theorem f119_18 : amFetch 119 18 = some (.getfield 25, 3, 4, 5, 0) := rfl
theorem f119_21 : amFetch 119 21 = some (.aload_n 0, 1, 0, 0, 0) := rfl
theorem f119_22 : amFetch 119 22 = some (.iload_n 1, 1, 0, 0, 0) := rfl
theorem f119_23 : amFetch 119 23 = some (.iload_n 2, 1, 0, 0, 0) := rfl
theorem f119_24 : amFetch 119 24 = some (.invokevirtual 55, 3, 0, 91, 2) := rfl
theorem f119_27 : amFetch 119 27 = some (.iaload, 1, 0, 0, 0) := rfl
theorem f119_28 : amFetch 119 28 = some (.aload_n 0, 1, 0, 0, 0) := rfl
theorem f119_29 : amFetch 119 29 = some (.iload_n 1, 1, 0, 0, 0) := rfl
theorem f119_30 : amFetch 119 30 = some (.invokevirtual 44, 3, 0, 83, 1) := rfl
theorem f119_33 : amFetch 119 33 = some (.irem, 1, 0, 0, 0) := rfl
theorem f119_34 : amFetch 119 34 = some (.iload_n 2, 1, 0, 0, 0) := rfl
theorem f119_35 : amFetch 119 35 = some (.if_icmp .eq 7, 3, 0, 0, 0) := rfl
theorem f119_38 : amFetch 119 38 = some (.iconst 1, 1, 0, 0, 0) := rfl
theorem f119_39 : amFetch 119 39 = some (.goto 4, 3, 0, 0, 0) := rfl
theorem f119_42 : amFetch 119 42 = some (.iconst 0, 1, 0, 0, 0) := rfl
theorem f119_43 : amFetch 119 43 = some (.ireturn, 1, 0, 0, 0) := rfl
theorem ow119 : amOwnL 119 = some (4, 3) := rfl
-- X4_isShifted
theorem f120_0 : amFetch 120 0 = some (.aload_n 0, 1, 0, 0, 0) := rfl
theorem f120_1 : amFetch 120 1 = some (.iload_n 1, 1, 0, 0, 0) := rfl
theorem f120_2 : amFetch 120 2 = some (.iload_n 2, 1, 0, 0, 0) := rfl
theorem f120_3 : amFetch 120 3 = some (.invokevirtual 88, 3, 0, 114, 2) := rfl
theorem f120_6 : amFetch 120 6 = some (.ifCond .eq 16, 3, 0, 0, 0) := rfl
theorem f120_9 : amFetch 120 9 = some (.aload_n 0, 1, 0, 0, 0) := rfl
theorem f120_10 : amFetch 120 10 = some (.iload_n 1, 1, 0, 0, 0) := rfl
theorem f120_11 : amFetch 120 11 = some (.iload_n 2, 1, 0, 0, 0) := rfl
theorem f120_12 : amFetch 120 12 = some (.invokevirtual 91, 3, 0, 92, 2) := rfl
theorem f120_15 : amFetch 120 15 = some (.ifCond .eq 7, 3, 0, 0, 0) := rfl
theorem f120_18 : amFetch 120 18 = some (.iconst 1, 1, 0, 0, 0) := rfl
theorem f120_19 : amFetch 120 19 = some (.goto 4, 3, 0, 0, 0) := rfl
theorem f120_22 : amFetch 120 22 = some (.iconst 0, 1, 0, 0, 0) := rfl
theorem f120_23 : amFetch 120 23 = some (.ireturn, 1, 0, 0, 0) := rfl
theorem ow120 : amOwnL 120 = some (4, 3) := rfl
-- X4_runStart
theorem f121_0 : amFetch 121 0 = some (.aload_n 0, 1, 0, 0, 0) := rfl
theorem f121_1 : amFetch 121 1 = some (.iload_n 1, 1, 0, 0, 0) := rfl
theorem f121_2 : amFetch 121 2 = some (.iload_n 2, 1, 0, 0, 0) := rfl
theorem f121_3 : amFetch 121 3 = some (.invokevirtual 88, 3, 0, 114, 2) := rfl
theorem f121_6 : amFetch 121 6 = some (.ifCond .ne 5, 3, 0, 0, 0) := rfl
theorem f121_9 : amFetch 121 9 = some (.iconst 0, 1, 0, 0, 0) := rfl
theorem f121_10 : amFetch 121 10 = some (.ireturn, 1, 0, 0, 0) := rfl
theorem f121_11 : amFetch 121 11 = some (.aload_n 0, 1, 0, 0, 0) := rfl
theorem f121_12 : amFetch 121 12 = some (.getfield 22, 3, 4, 4, 0) := rfl
theorem f121_15 : amFetch 121 15 = some (.iload_n 2, 1, 0, 0, 0) := rfl
theorem f121_16 : amFetch 121 16 = some (.iaload, 1, 0, 0, 0) := rfl
theorem f121_17 : amFetch 121 17 = some (.ifCond .le 18, 3, 0, 0, 0) := rfl
theorem f121_20 : amFetch 121 20 = some (.aload_n 0, 1, 0, 0, 0) := rfl
theorem f121_21 : amFetch 121 21 = some (.getfield 25, 3, 4, 5, 0) := rfl
theorem f121_24 : amFetch 121 24 = some (.iload_n 2, 1, 0, 0, 0) := rfl
theorem f121_25 : amFetch 121 25 = some (.iaload, 1, 0, 0, 0) := rfl
theorem f121_26 : amFetch 121 26 = some (.aload_n 0, 1, 0, 0, 0) := rfl
theorem f121_27 : amFetch 121 27 = some (.iload_n 1, 1, 0, 0, 0) := rfl
theorem f121_28 : amFetch 121 28 = some (.invokevirtual 44, 3, 0, 83, 1) := rfl
theorem f121_31 : amFetch 121 31 = some (.irem, 1, 0, 0, 0) := rfl
theorem f121_32 : amFetch 121 32 = some (.goto 4, 3, 0, 0, 0) := rfl
theorem f121_35 : amFetch 121 35 = some (.iconst (-1), 1, 0, 0, 0) := rfl
theorem f121_36 : amFetch 121 36 = some (.ireturn, 1, 0, 0, 0) := rfl
theorem ow121 : amOwnL 121 = some (4, 3) := rfl
-- X4_runLength
theorem f122_0 : amFetch 122 0 = some (.aload_n 0, 1, 0, 0, 0) := rfl
theorem f122_1 : amFetch 122 1 = some (.iload_n 1, 1, 0, 0, 0) := rfl
theorem f122_2 : amFetch 122 2 = some (.iload_n 2, 1, 0, 0, 0) := rfl
theorem f122_3 : amFetch 122 3 = some (.invokevirtual 88, 3, 0, 114, 2) := rfl
theorem f122_6 : amFetch 122 6 = some (.ifCond .eq 12, 3, 0, 0, 0) := rfl
theorem f122_9 : amFetch 122 9 = some (.aload_n 0, 1, 0, 0, 0) := rfl
theorem f122_10 : amFetch 122 10 = some (.getfield 22, 3, 4, 4, 0) := rfl
theorem f122_13 : amFetch 122 13 = some (.iload_n 2, 1, 0, 0, 0) := rfl
theorem f122_14 : amFetch 122 14 = some (.iaload, 1, 0, 0, 0) := rfl
theorem f122_15 : amFetch 122 15 = some (.goto 4, 3, 0, 0, 0) := rfl
theorem f122_18 : amFetch 122 18 = some (.iconst 0, 1, 0, 0, 0) := rfl
theorem f122_19 : amFetch 122 19 = some (.ireturn, 1, 0, 0, 0) := rfl
theorem ow122 : amOwnL 122 = some (4, 3) := rfl
-- X4_clusterStart
theorem f123_0 : amFetch 123 0 = some (.aload_n 0, 1, 0, 0, 0) := rfl
theorem f123_1 : amFetch 123 1 = some (.iload_n 1, 1, 0, 0, 0) := rfl
theorem f123_2 : amFetch 123 2 = some (.iload_n 2, 1, 0, 0, 0) := rfl
theorem f123_3 : amFetch 123 3 = some (.invokevirtual 88, 3, 0, 114, 2) := rfl
theorem f123_6 : amFetch 123 6 = some (.ifCond .ne 5, 3, 0, 0, 0) := rfl
theorem f123_9 : amFetch 123 9 = some (.iconst 0, 1, 0, 0, 0) := rfl
theorem f123_10 : amFetch 123 10 = some (.ireturn, 1, 0, 0, 0) := rfl
theorem f123_11 : amFetch 123 11 = some (.iload_n 2, 1, 0, 0, 0) := rfl
theorem f123_12 : amFetch 123 12 = some (.istore_n 3, 1, 0, 0, 0) := rfl
theorem f123_13 : amFetch 123 13 = some (.aload_n 0, 1, 0, 0, 0) := rfl
theorem f123_14 : amFetch 123 14 = some (.iload_n 1, 1, 0, 0, 0) := rfl
theorem f123_15 : amFetch 123 15 = some (.iload_n 3, 1, 0, 0, 0) := rfl
theorem f123_16 : amFetch 123 16 = some (.invokevirtual 91, 3, 0, 92, 2) := rfl
theorem f123_19 : amFetch 123 19 = some (.ifCond .eq 24, 3, 0, 0, 0) := rfl
theorem f123_22 : amFetch 123 22 = some (.iload_n 3, 1, 0, 0, 0) := rfl
theorem f123_23 : amFetch 123 23 = some (.ifCond .ne 13, 3, 0, 0, 0) := rfl
theorem f123_26 : amFetch 123 26 = some (.aload_n 0, 1, 0, 0, 0) := rfl
theorem f123_27 : amFetch 123 27 = some (.iload_n 1, 1, 0, 0, 0) := rfl
theorem f123_28 : amFetch 123 28 = some (.invokevirtual 44, 3, 0, 83, 1) := rfl
theorem f123_31 : amFetch 123 31 = some (.iconst 1, 1, 0, 0, 0) := rfl
theorem f123_32 : amFetch 123 32 = some (.isub, 1, 0, 0, 0) := rfl
theorem f123_33 : amFetch 123 33 = some (.goto 6, 3, 0, 0, 0) := rfl
theorem f123_36 : amFetch 123 36 = some (.iload_n 3, 1, 0, 0, 0) := rfl
theorem f123_37 : amFetch 123 37 = some (.iconst 1, 1, 0, 0, 0) := rfl
theorem f123_38 : amFetch 123 38 = some (.isub, 1, 0, 0, 0) := rfl
theorem f123_39 : amFetch 123 39 = some (.istore_n 3, 1, 0, 0, 0) := rfl
theorem f123_40 : amFetch 123 40 = some (.goto (-27), 3, 0, 0, 0) := rfl
theorem f123_43 : amFetch 123 43 = some (.aload_n 0, 1, 0, 0, 0) := rfl
theorem f123_44 : amFetch 123 44 = some (.iload_n 2, 1, 0, 0, 0) := rfl
theorem f123_45 : amFetch 123 45 = some (.invokevirtual 51, 3, 0, 90, 1) := rfl
theorem f123_48 : amFetch 123 48 = some (.ifCond .eq 7, 3, 0, 0, 0) := rfl
theorem f123_51 : amFetch 123 51 = some (.iload_n 3, 1, 0, 0, 0) := rfl
theorem f123_52 : amFetch 123 52 = some (.goto 4, 3, 0, 0, 0) := rfl
theorem f123_55 : amFetch 123 55 = some (.iconst (-1), 1, 0, 0, 0) := rfl
theorem f123_56 : amFetch 123 56 = some (.ireturn, 1, 0, 0, 0) := rfl
theorem ow123 : amOwnL 123 = some (4, 4) := rfl
-- X4_longestCluster
theorem f124_0 : amFetch 124 0 = some (.iconst 0, 1, 0, 0, 0) := rfl
theorem f124_1 : amFetch 124 1 = some (.istore_n 2, 1, 0, 0, 0) := rfl
theorem f124_2 : amFetch 124 2 = some (.aload_n 0, 1, 0, 0, 0) := rfl
theorem f124_3 : amFetch 124 3 = some (.iload_n 1, 1, 0, 0, 0) := rfl
theorem f124_4 : amFetch 124 4 = some (.iconst 0, 1, 0, 0, 0) := rfl
theorem f124_5 : amFetch 124 5 = some (.invokevirtual 88, 3, 0, 114, 2) := rfl
theorem f124_8 : amFetch 124 8 = some (.ifCond .eq 89, 3, 0, 0, 0) := rfl
theorem f124_11 : amFetch 124 11 = some (.aload_n 0, 1, 0, 0, 0) := rfl
theorem f124_12 : amFetch 124 12 = some (.iload_n 1, 1, 0, 0, 0) := rfl
theorem f124_13 : amFetch 124 13 = some (.invokevirtual 44, 3, 0, 83, 1) := rfl
theorem f124_16 : amFetch 124 16 = some (.istore_n 3, 1, 0, 0, 0) := rfl
theorem f124_17 : amFetch 124 17 = some (.iconst 0, 1, 0, 0, 0) := rfl
theorem f124_18 : amFetch 124 18 = some (.istore 4, 2, 0, 0, 0) := rfl
theorem f124_20 : amFetch 124 20 = some (.iload 4, 2, 0, 0, 0) := rfl
theorem f124_22 : amFetch 124 22 = some (.iload_n 3, 1, 0, 0, 0) := rfl
theorem f124_23 : amFetch 124 23 = some (.if_icmp .ge 74, 3, 0, 0, 0) := rfl
theorem f124_26 : amFetch 124 26 = some (.aload_n 0, 1, 0, 0, 0) := rfl
theorem f124_27 : amFetch 124 27 = some (.iload 4, 2, 0, 0, 0) := rfl
theorem f124_29 : amFetch 124 29 = some (.invokevirtual 51, 3, 0, 90, 1) := rfl
theorem f124_32 : amFetch 124 32 = some (.ifCond .eq 17, 3, 0, 0, 0) := rfl
theorem f124_35 : amFetch 124 35 = some (.aload_n 0, 1, 0, 0, 0) := rfl
theorem f124_36 : amFetch 124 36 = some (.iload_n 1, 1, 0, 0, 0) := rfl
theorem f124_37 : amFetch 124 37 = some (.iload 4, 2, 0, 0, 0) := rfl
theorem f124_39 : amFetch 124 39 = some (.invokevirtual 91, 3, 0, 92, 2) := rfl
theorem f124_42 : amFetch 124 42 = some (.ifCond .ne 7, 3, 0, 0, 0) := rfl
theorem f124_45 : amFetch 124 45 = some (.iconst 1, 1, 0, 0, 0) := rfl
theorem f124_46 : amFetch 124 46 = some (.goto 4, 3, 0, 0, 0) := rfl
theorem f124_49 : amFetch 124 49 = some (.iconst 0, 1, 0, 0, 0) := rfl
theorem f124_50 : amFetch 124 50 = some (.istore 5, 2, 0, 0, 0) := rfl
theorem f124_52 : amFetch 124 52 = some (.iload 5, 2, 0, 0, 0) := rfl
theorem f124_54 : amFetch 124 54 = some (.ifCond .le 24, 3, 0, 0, 0) := rfl
theorem f124_57 : amFetch 124 57 = some (.aload_n 0, 1, 0, 0, 0) := rfl
theorem f124_58 : amFetch 124 58 = some (.iload_n 1, 1, 0, 0, 0) := rfl
theorem f124_59 : amFetch 124 59 = some (.iload 4, 2, 0, 0, 0) := rfl
theorem f124_61 : amFetch 124 61 = some (.iload 5, 2, 0, 0, 0) := rfl
theorem f124_63 : amFetch 124 63 = some (.iadd, 1, 0, 0, 0) := rfl
theorem f124_64 : amFetch 124 64 = some (.iload_n 3, 1, 0, 0, 0) := rfl
theorem f124_65 : amFetch 124 65 = some (.irem, 1, 0, 0, 0) := rfl
theorem f124_66 : amFetch 124 66 = some (.invokevirtual 91, 3, 0, 92, 2) := rfl
theorem f124_69 : amFetch 124 69 = some (.ifCond .eq 9, 3, 0, 0, 0) := rfl
theorem f124_72 : amFetch 124 72 = some (.iinc 5 1, 3, 0, 0, 0) := rfl
theorem f124_75 : amFetch 124 75 = some (.goto (-23), 3, 0, 0, 0) := rfl
theorem f124_78 : amFetch 124 78 = some (.iload 5, 2, 0, 0, 0) := rfl
theorem f124_80 : amFetch 124 80 = some (.iload_n 2, 1, 0, 0, 0) := rfl
theorem f124_81 : amFetch 124 81 = some (.if_icmp .le 8, 3, 0, 0, 0) := rfl
theorem f124_84 : amFetch 124 84 = some (.iload 5, 2, 0, 0, 0) := rfl
theorem f124_86 : amFetch 124 86 = some (.goto 4, 3, 0, 0, 0) := rfl
theorem f124_89 : amFetch 124 89 = some (.iload_n 2, 1, 0, 0, 0) := rfl
theorem f124_90 : amFetch 124 90 = some (.istore_n 2, 1, 0, 0, 0) := rfl
theorem f124_91 : amFetch 124 91 = some (.iinc 4 1, 3, 0, 0, 0) := rfl
theorem f124_94 : amFetch 124 94 = some (.goto (-74), 3, 0, 0, 0) := rfl
theorem f124_97 : amFetch 124 97 = some (.iload_n 2, 1, 0, 0, 0) := rfl
theorem f124_98 : amFetch 124 98 = some (.ireturn, 1, 0, 0, 0) := rfl
theorem ow124 : amOwnL 124 = some (4, 6) := rfl
-- L_insert
theorem f125_0 : amFetch 125 0 = some (.aload_n 3, 1, 0, 0, 0) := rfl
theorem f125_1 : amFetch 125 1 = some (.iconst 0, 1, 0, 0, 0) := rfl
theorem f125_2 : amFetch 125 2 = some (.aload_n 0, 1, 0, 0, 0) := rfl
theorem f125_3 : amFetch 125 3 = some (.iload_n 1, 1, 0, 0, 0) := rfl
theorem f125_4 : amFetch 125 4 = some (.iload_n 2, 1, 0, 0, 0) := rfl
theorem f125_5 : amFetch 125 5 = some (.invokevirtual 7, 3, 0, 38, 2) := rfl
theorem f125_8 : amFetch 125 8 = some (.i2l, 1, 0, 0, 0) := rfl
theorem f125_9 : amFetch 125 9 = some (.lastore, 1, 0, 0, 0) := rfl
theorem f125_10 : amFetch 125 10 = some (.goto 11, 3, 0, 0, 0) := rfl
theorem f125_13 : amFetch 125 13 = some (.astore 4, 2, 0, 0, 0) := rfl
theorem f125_15 : amFetch 125 15 = some (.iconst 1, 1, 0, 0, 0) := rfl
theorem f125_16 : amFetch 125 16 = some (.ireturn, 1, 0, 0, 0) := rfl
theorem f125_17 : amFetch 125 17 = some (.astore 4, 2, 0, 0, 0) := rfl
theorem f125_19 : amFetch 125 19 = some (.iconst 2, 1, 0, 0, 0) := rfl
theorem f125_20 : amFetch 125 20 = some (.ireturn, 1, 0, 0, 0) := rfl
theorem f125_21 : amFetch 125 21 = some (.iconst 0, 1, 0, 0, 0) := rfl
theorem f125_22 : amFetch 125 22 = some (.ireturn, 1, 0, 0, 0) := rfl
theorem ow125 : amOwnL 125 = some (5, 5) := rfl
-- L_remove
theorem f126_0 : amFetch 126 0 = some (.aload_n 3, 1, 0, 0, 0) := rfl
theorem f126_1 : amFetch 126 1 = some (.iconst 0, 1, 0, 0, 0) := rfl
theorem f126_2 : amFetch 126 2 = some (.aload_n 0, 1, 0, 0, 0) := rfl
theorem f126_3 : amFetch 126 3 = some (.iload_n 1, 1, 0, 0, 0) := rfl
theorem f126_4 : amFetch 126 4 = some (.iload_n 2, 1, 0, 0, 0) := rfl
theorem f126_5 : amFetch 126 5 = some (.invokevirtual 17, 3, 0, 39, 2) := rfl
theorem f126_8 : amFetch 126 8 = some (.ifCond .eq 7, 3, 0, 0, 0) := rfl
theorem f126_11 : amFetch 126 11 = some (.lconst 1, 1, 0, 0, 0) := rfl
theorem f126_12 : amFetch 126 12 = some (.goto 4, 3, 0, 0, 0) := rfl
theorem f126_15 : amFetch 126 15 = some (.lconst 0, 1, 0, 0, 0) := rfl
theorem f126_16 : amFetch 126 16 = some (.lastore, 1, 0, 0, 0) := rfl
theorem f126_17 : amFetch 126 17 = some (.goto 7, 3, 0, 0, 0) := rfl
theorem f126_20 : amFetch 126 20 = some (.astore 4, 2, 0, 0, 0) := rfl
theorem f126_22 : amFetch 126 22 = some (.iconst 1, 1, 0, 0, 0) := rfl
theorem f126_23 : amFetch 126 23 = some (.ireturn, 1, 0, 0, 0) := rfl
theorem f126_24 : amFetch 126 24 = some (.iconst 0, 1, 0, 0, 0) := rfl
theorem f126_25 : amFetch 126 25 = some (.ireturn, 1, 0, 0, 0) := rfl
theorem ow126 : amOwnL 126 = some (5, 5) := rfl
-- L_count
theorem f127_0 : amFetch 127 0 = some (.aload_n 3, 1, 0, 0, 0) := rfl
theorem f127_1 : amFetch 127 1 = some (.iconst 0, 1, 0, 0, 0) := rfl
theorem f127_2 : amFetch 127 2 = some (.aload_n 0, 1, 0, 0, 0) := rfl
theorem f127_3 : amFetch 127 3 = some (.iload_n 1, 1, 0, 0, 0) := rfl
theorem f127_4 : amFetch 127 4 = some (.iload_n 2, 1, 0, 0, 0) := rfl
theorem f127_5 : amFetch 127 5 = some (.invokevirtual 21, 3, 0, 40, 2) := rfl
theorem f127_8 : amFetch 127 8 = some (.i2l, 1, 0, 0, 0) := rfl
theorem f127_9 : amFetch 127 9 = some (.lastore, 1, 0, 0, 0) := rfl
theorem f127_10 : amFetch 127 10 = some (.goto 7, 3, 0, 0, 0) := rfl
theorem f127_13 : amFetch 127 13 = some (.astore 4, 2, 0, 0, 0) := rfl
theorem f127_15 : amFetch 127 15 = some (.iconst 1, 1, 0, 0, 0) := rfl
theorem f127_16 : amFetch 127 16 = some (.ireturn, 1, 0, 0, 0) := rfl
theorem f127_17 : amFetch 127 17 = some (.iconst 0, 1, 0, 0, 0) := rfl
theorem f127_18 : amFetch 127 18 = some (.ireturn, 1, 0, 0, 0) := rfl
theorem ow127 : amOwnL 127 = some (5, 5) := rfl
-- L_add
theorem f128_0 : amFetch 128 0 = some (.aload 4, 2, 0, 0, 0) := rfl
theorem f128_2 : amFetch 128 2 = some (.iconst 0, 1, 0, 0, 0) := rfl
theorem f128_3 : amFetch 128 3 = some (.aload_n 0, 1, 0, 0, 0) := rfl
theorem f128_4 : amFetch 128 4 = some (.iload_n 1, 1, 0, 0, 0) := rfl
theorem f128_5 : amFetch 128 5 = some (.iload_n 2, 1, 0, 0, 0) := rfl
theorem f128_6 : amFetch 128 6 = some (.iload_n 3, 1, 0, 0, 0) := rfl
theorem f128_7 : amFetch 128 7 = some (.invokevirtual 24, 3, 0, 41, 3) := rfl
theorem f128_10 : amFetch 128 10 = some (.i2l, 1, 0, 0, 0) := rfl
theorem f128_11 : amFetch 128 11 = some (.lastore, 1, 0, 0, 0) := rfl
theorem f128_12 : amFetch 128 12 = some (.goto 15, 3, 0, 0, 0) := rfl
theorem f128_15 : amFetch 128 15 = some (.astore 5, 2, 0, 0, 0) := rfl
theorem f128_17 : amFetch 128 17 = some (.iconst 1, 1, 0, 0, 0) := rfl
theorem f128_18 : amFetch 128 18 = some (.ireturn, 1, 0, 0, 0) := rfl
theorem f128_19 : amFetch 128 19 = some (.astore 5, 2, 0, 0, 0) := rfl
theorem f128_21 : amFetch 128 21 = some (.iconst 2, 1, 0, 0, 0) := rfl
theorem f128_22 : amFetch 128 22 = some (.ireturn, 1, 0, 0, 0) := rfl
theorem f128_23 : amFetch 128 23 = some (.astore 5, 2, 0, 0, 0) := rfl
theorem f128_25 : amFetch 128 25 = some (.iconst 3, 1, 0, 0, 0) := rfl
theorem f128_26 : amFetch 128 26 = some (.ireturn, 1, 0, 0, 0) := rfl
theorem f128_27 : amFetch 128 27 = some (.iconst 0, 1, 0, 0, 0) := rfl
theorem f128_28 : amFetch 128 28 = some (.ireturn, 1, 0, 0, 0) := rfl
theorem ow128 : amOwnL 128 = some (5, 6) := rfl
-- L_take
theorem f129_0 : amFetch 129 0 = some (.aload 4, 2, 0, 0, 0) := rfl
theorem f129_2 : amFetch 129 2 = some (.iconst 0, 1, 0, 0, 0) := rfl
theorem f129_3 : amFetch 129 3 = some (.aload_n 0, 1, 0, 0, 0) := rfl
theorem f129_4 : amFetch 129 4 = some (.iload_n 1, 1, 0, 0, 0) := rfl
theorem f129_5 : amFetch 129 5 = some (.iload_n 2, 1, 0, 0, 0) := rfl
theorem f129_6 : amFetch 129 6 = some (.iload_n 3, 1, 0, 0, 0) := rfl
theorem f129_7 : amFetch 129 7 = some (.invokevirtual 30, 3, 0, 42, 3) := rfl
theorem f129_10 : amFetch 129 10 = some (.i2l, 1, 0, 0, 0) := rfl
theorem f129_11 : amFetch 129 11 = some (.lastore, 1, 0, 0, 0) := rfl
theorem f129_12 : amFetch 129 12 = some (.goto 11, 3, 0, 0, 0) := rfl
theorem f129_15 : amFetch 129 15 = some (.astore 5, 2, 0, 0, 0) := rfl
theorem f129_17 : amFetch 129 17 = some (.iconst 1, 1, 0, 0, 0) := rfl
theorem f129_18 : amFetch 129 18 = some (.ireturn, 1, 0, 0, 0) := rfl
theorem f129_19 : amFetch 129 19 = some (.astore 5, 2, 0, 0, 0) := rfl
theorem f129_21 : amFetch 129 21 = some (.iconst 2, 1, 0, 0, 0) := rfl
theorem f129_22 : amFetch 129 22 = some (.ireturn, 1, 0, 0, 0) := rfl
theorem f129_23 : amFetch 129 23 = some (.iconst 0, 1, 0, 0, 0) := rfl
theorem f129_24 : amFetch 129 24 = some (.ireturn, 1, 0, 0, 0) := rfl
theorem ow129 : amOwnL 129 = some (5, 6) := rfl
-- L_countOf
theorem f130_0 : amFetch 130 0 = some (.aload_n 3, 1, 0, 0, 0) := rfl
theorem f130_1 : amFetch 130 1 = some (.iconst 0, 1, 0, 0, 0) := rfl
theorem f130_2 : amFetch 130 2 = some (.aload_n 0, 1, 0, 0, 0) := rfl
theorem f130_3 : amFetch 130 3 = some (.iload_n 1, 1, 0, 0, 0) := rfl
theorem f130_4 : amFetch 130 4 = some (.iload_n 2, 1, 0, 0, 0) := rfl
theorem f130_5 : amFetch 130 5 = some (.invokevirtual 33, 3, 0, 43, 2) := rfl
theorem f130_8 : amFetch 130 8 = some (.i2l, 1, 0, 0, 0) := rfl
theorem f130_9 : amFetch 130 9 = some (.lastore, 1, 0, 0, 0) := rfl
theorem f130_10 : amFetch 130 10 = some (.goto 11, 3, 0, 0, 0) := rfl
theorem f130_13 : amFetch 130 13 = some (.astore 4, 2, 0, 0, 0) := rfl
theorem f130_15 : amFetch 130 15 = some (.iconst 1, 1, 0, 0, 0) := rfl
theorem f130_16 : amFetch 130 16 = some (.ireturn, 1, 0, 0, 0) := rfl
theorem f130_17 : amFetch 130 17 = some (.astore 4, 2, 0, 0, 0) := rfl
theorem f130_19 : amFetch 130 19 = some (.iconst 2, 1, 0, 0, 0) := rfl
theorem f130_20 : amFetch 130 20 = some (.ireturn, 1, 0, 0, 0) := rfl
theorem f130_21 : amFetch 130 21 = some (.iconst 0, 1, 0, 0, 0) := rfl
theorem f130_22 : amFetch 130 22 = some (.ireturn, 1, 0, 0, 0) := rfl
theorem ow130 : amOwnL 130 = some (5, 5) := rfl
-- L_countInLists
theorem f131_0 : amFetch 131 0 = some (.aload_n 3, 1, 0, 0, 0) := rfl
theorem f131_1 : amFetch 131 1 = some (.iconst 0, 1, 0, 0, 0) := rfl
theorem f131_2 : amFetch 131 2 = some (.aload_n 0, 1, 0, 0, 0) := rfl
theorem f131_3 : amFetch 131 3 = some (.iload_n 1, 1, 0, 0, 0) := rfl
theorem f131_4 : amFetch 131 4 = some (.iload_n 2, 1, 0, 0, 0) := rfl
theorem f131_5 : amFetch 131 5 = some (.invokevirtual 36, 3, 0, 44, 2) := rfl
theorem f131_8 : amFetch 131 8 = some (.i2l, 1, 0, 0, 0) := rfl
theorem f131_9 : amFetch 131 9 = some (.lastore, 1, 0, 0, 0) := rfl
theorem f131_10 : amFetch 131 10 = some (.goto 11, 3, 0, 0, 0) := rfl
theorem f131_13 : amFetch 131 13 = some (.astore 4, 2, 0, 0, 0) := rfl
theorem f131_15 : amFetch 131 15 = some (.iconst 1, 1, 0, 0, 0) := rfl
theorem f131_16 : amFetch 131 16 = some (.ireturn, 1, 0, 0, 0) := rfl
theorem f131_17 : amFetch 131 17 = some (.astore 4, 2, 0, 0, 0) := rfl
theorem f131_19 : amFetch 131 19 = some (.iconst 2, 1, 0, 0, 0) := rfl
theorem f131_20 : amFetch 131 20 = some (.ireturn, 1, 0, 0, 0) := rfl
theorem f131_21 : amFetch 131 21 = some (.iconst 0, 1, 0, 0, 0) := rfl
theorem f131_22 : amFetch 131 22 = some (.ireturn, 1, 0, 0, 0) := rfl
theorem ow131 : amOwnL 131 = some (5, 5) := rfl
-- L_lookedAt
theorem f132_0 : amFetch 132 0 = some (.aload_n 3, 1, 0, 0, 0) := rfl
theorem f132_1 : amFetch 132 1 = some (.iconst 0, 1, 0, 0, 0) := rfl
theorem f132_2 : amFetch 132 2 = some (.aload_n 0, 1, 0, 0, 0) := rfl
theorem f132_3 : amFetch 132 3 = some (.iload_n 1, 1, 0, 0, 0) := rfl
theorem f132_4 : amFetch 132 4 = some (.iload_n 2, 1, 0, 0, 0) := rfl
theorem f132_5 : amFetch 132 5 = some (.invokevirtual 39, 3, 0, 45, 2) := rfl
theorem f132_8 : amFetch 132 8 = some (.i2l, 1, 0, 0, 0) := rfl
theorem f132_9 : amFetch 132 9 = some (.lastore, 1, 0, 0, 0) := rfl
theorem f132_10 : amFetch 132 10 = some (.goto 11, 3, 0, 0, 0) := rfl
theorem f132_13 : amFetch 132 13 = some (.astore 4, 2, 0, 0, 0) := rfl
theorem f132_15 : amFetch 132 15 = some (.iconst 1, 1, 0, 0, 0) := rfl
theorem f132_16 : amFetch 132 16 = some (.ireturn, 1, 0, 0, 0) := rfl
theorem f132_17 : amFetch 132 17 = some (.astore 4, 2, 0, 0, 0) := rfl
theorem f132_19 : amFetch 132 19 = some (.iconst 2, 1, 0, 0, 0) := rfl
theorem f132_20 : amFetch 132 20 = some (.ireturn, 1, 0, 0, 0) := rfl
theorem f132_21 : amFetch 132 21 = some (.iconst 0, 1, 0, 0, 0) := rfl
theorem f132_22 : amFetch 132 22 = some (.ireturn, 1, 0, 0, 0) := rfl
theorem ow132 : amOwnL 132 = some (5, 5) := rfl
-- L_clear
theorem f133_0 : amFetch 133 0 = some (.aload_n 0, 1, 0, 0, 0) := rfl
theorem f133_1 : amFetch 133 1 = some (.iload_n 1, 1, 0, 0, 0) := rfl
theorem f133_2 : amFetch 133 2 = some (.invokevirtual 42, 3, 0, 46, 1) := rfl
theorem f133_5 : amFetch 133 5 = some (.goto 6, 3, 0, 0, 0) := rfl
theorem f133_8 : amFetch 133 8 = some (.astore_n 2, 1, 0, 0, 0) := rfl
theorem f133_9 : amFetch 133 9 = some (.iconst 1, 1, 0, 0, 0) := rfl
theorem f133_10 : amFetch 133 10 = some (.ireturn, 1, 0, 0, 0) := rfl
theorem f133_11 : amFetch 133 11 = some (.iconst 0, 1, 0, 0, 0) := rfl
theorem f133_12 : amFetch 133 12 = some (.ireturn, 1, 0, 0, 0) := rfl
theorem ow133 : amOwnL 133 = some (5, 3) := rfl
-- L_grow
theorem f134_0 : amFetch 134 0 = some (.aload_n 2, 1, 0, 0, 0) := rfl
theorem f134_1 : amFetch 134 1 = some (.iconst 0, 1, 0, 0, 0) := rfl
theorem f134_2 : amFetch 134 2 = some (.aload_n 0, 1, 0, 0, 0) := rfl
theorem f134_3 : amFetch 134 3 = some (.iload_n 1, 1, 0, 0, 0) := rfl
theorem f134_4 : amFetch 134 4 = some (.invokevirtual 46, 3, 0, 47, 1) := rfl
theorem f134_7 : amFetch 134 7 = some (.i2l, 1, 0, 0, 0) := rfl
theorem f134_8 : amFetch 134 8 = some (.lastore, 1, 0, 0, 0) := rfl
theorem f134_9 : amFetch 134 9 = some (.goto 9, 3, 0, 0, 0) := rfl
theorem f134_12 : amFetch 134 12 = some (.astore_n 3, 1, 0, 0, 0) := rfl
theorem f134_13 : amFetch 134 13 = some (.iconst 1, 1, 0, 0, 0) := rfl
theorem f134_14 : amFetch 134 14 = some (.ireturn, 1, 0, 0, 0) := rfl
theorem f134_15 : amFetch 134 15 = some (.astore_n 3, 1, 0, 0, 0) := rfl
theorem f134_16 : amFetch 134 16 = some (.iconst 2, 1, 0, 0, 0) := rfl
theorem f134_17 : amFetch 134 17 = some (.ireturn, 1, 0, 0, 0) := rfl
theorem f134_18 : amFetch 134 18 = some (.iconst 0, 1, 0, 0, 0) := rfl
theorem f134_19 : amFetch 134 19 = some (.ireturn, 1, 0, 0, 0) := rfl
theorem ow134 : amOwnL 134 = some (5, 4) := rfl
-- L_shrink
theorem f135_0 : amFetch 135 0 = some (.aload_n 2, 1, 0, 0, 0) := rfl
theorem f135_1 : amFetch 135 1 = some (.iconst 0, 1, 0, 0, 0) := rfl
theorem f135_2 : amFetch 135 2 = some (.aload_n 0, 1, 0, 0, 0) := rfl
theorem f135_3 : amFetch 135 3 = some (.iload_n 1, 1, 0, 0, 0) := rfl
theorem f135_4 : amFetch 135 4 = some (.invokevirtual 50, 3, 0, 48, 1) := rfl
theorem f135_7 : amFetch 135 7 = some (.i2l, 1, 0, 0, 0) := rfl
theorem f135_8 : amFetch 135 8 = some (.lastore, 1, 0, 0, 0) := rfl
theorem f135_9 : amFetch 135 9 = some (.goto 9, 3, 0, 0, 0) := rfl
theorem f135_12 : amFetch 135 12 = some (.astore_n 3, 1, 0, 0, 0) := rfl
theorem f135_13 : amFetch 135 13 = some (.iconst 1, 1, 0, 0, 0) := rfl
theorem f135_14 : amFetch 135 14 = some (.ireturn, 1, 0, 0, 0) := rfl
theorem f135_15 : amFetch 135 15 = some (.astore_n 3, 1, 0, 0, 0) := rfl
theorem f135_16 : amFetch 135 16 = some (.iconst 2, 1, 0, 0, 0) := rfl
theorem f135_17 : amFetch 135 17 = some (.ireturn, 1, 0, 0, 0) := rfl
theorem f135_18 : amFetch 135 18 = some (.iconst 0, 1, 0, 0, 0) := rfl
theorem f135_19 : amFetch 135 19 = some (.ireturn, 1, 0, 0, 0) := rfl
theorem ow135 : amOwnL 135 = some (5, 4) := rfl
-- L_merge
theorem f136_0 : amFetch 136 0 = some (.aload_n 3, 1, 0, 0, 0) := rfl
theorem f136_1 : amFetch 136 1 = some (.iconst 0, 1, 0, 0, 0) := rfl
theorem f136_2 : amFetch 136 2 = some (.aload_n 0, 1, 0, 0, 0) := rfl
theorem f136_3 : amFetch 136 3 = some (.iload_n 1, 1, 0, 0, 0) := rfl
theorem f136_4 : amFetch 136 4 = some (.iload_n 2, 1, 0, 0, 0) := rfl
theorem f136_5 : amFetch 136 5 = some (.invokevirtual 53, 3, 0, 49, 2) := rfl
theorem f136_8 : amFetch 136 8 = some (.i2l, 1, 0, 0, 0) := rfl
theorem f136_9 : amFetch 136 9 = some (.lastore, 1, 0, 0, 0) := rfl
theorem f136_10 : amFetch 136 10 = some (.goto 11, 3, 0, 0, 0) := rfl
theorem f136_13 : amFetch 136 13 = some (.astore 4, 2, 0, 0, 0) := rfl
theorem f136_15 : amFetch 136 15 = some (.iconst 1, 1, 0, 0, 0) := rfl
theorem f136_16 : amFetch 136 16 = some (.ireturn, 1, 0, 0, 0) := rfl
theorem f136_17 : amFetch 136 17 = some (.astore 4, 2, 0, 0, 0) := rfl
theorem f136_19 : amFetch 136 19 = some (.iconst 2, 1, 0, 0, 0) := rfl
theorem f136_20 : amFetch 136 20 = some (.ireturn, 1, 0, 0, 0) := rfl
theorem f136_21 : amFetch 136 21 = some (.iconst 0, 1, 0, 0, 0) := rfl
theorem f136_22 : amFetch 136 22 = some (.ireturn, 1, 0, 0, 0) := rfl
theorem ow136 : amOwnL 136 = some (5, 5) := rfl
-- L_intersect
theorem f137_0 : amFetch 137 0 = some (.aload_n 3, 1, 0, 0, 0) := rfl
theorem f137_1 : amFetch 137 1 = some (.iconst 0, 1, 0, 0, 0) := rfl
theorem f137_2 : amFetch 137 2 = some (.aload_n 0, 1, 0, 0, 0) := rfl
theorem f137_3 : amFetch 137 3 = some (.iload_n 1, 1, 0, 0, 0) := rfl
theorem f137_4 : amFetch 137 4 = some (.iload_n 2, 1, 0, 0, 0) := rfl
theorem f137_5 : amFetch 137 5 = some (.invokevirtual 56, 3, 0, 50, 2) := rfl
theorem f137_8 : amFetch 137 8 = some (.i2l, 1, 0, 0, 0) := rfl
theorem f137_9 : amFetch 137 9 = some (.lastore, 1, 0, 0, 0) := rfl
theorem f137_10 : amFetch 137 10 = some (.goto 7, 3, 0, 0, 0) := rfl
theorem f137_13 : amFetch 137 13 = some (.astore 4, 2, 0, 0, 0) := rfl
theorem f137_15 : amFetch 137 15 = some (.iconst 1, 1, 0, 0, 0) := rfl
theorem f137_16 : amFetch 137 16 = some (.ireturn, 1, 0, 0, 0) := rfl
theorem f137_17 : amFetch 137 17 = some (.iconst 0, 1, 0, 0, 0) := rfl
theorem f137_18 : amFetch 137 18 = some (.ireturn, 1, 0, 0, 0) := rfl
theorem ow137 : amOwnL 137 = some (5, 5) := rfl
-- L_isSame
theorem f138_0 : amFetch 138 0 = some (.aload_n 3, 1, 0, 0, 0) := rfl
theorem f138_1 : amFetch 138 1 = some (.iconst 0, 1, 0, 0, 0) := rfl
theorem f138_2 : amFetch 138 2 = some (.aload_n 0, 1, 0, 0, 0) := rfl
theorem f138_3 : amFetch 138 3 = some (.iload_n 1, 1, 0, 0, 0) := rfl
theorem f138_4 : amFetch 138 4 = some (.iload_n 2, 1, 0, 0, 0) := rfl
theorem f138_5 : amFetch 138 5 = some (.invokevirtual 59, 3, 0, 51, 2) := rfl
theorem f138_8 : amFetch 138 8 = some (.ifCond .eq 7, 3, 0, 0, 0) := rfl
theorem f138_11 : amFetch 138 11 = some (.lconst 1, 1, 0, 0, 0) := rfl
theorem f138_12 : amFetch 138 12 = some (.goto 4, 3, 0, 0, 0) := rfl
theorem f138_15 : amFetch 138 15 = some (.lconst 0, 1, 0, 0, 0) := rfl
theorem f138_16 : amFetch 138 16 = some (.lastore, 1, 0, 0, 0) := rfl
theorem f138_17 : amFetch 138 17 = some (.goto 7, 3, 0, 0, 0) := rfl
theorem f138_20 : amFetch 138 20 = some (.astore 4, 2, 0, 0, 0) := rfl
theorem f138_22 : amFetch 138 22 = some (.iconst 1, 1, 0, 0, 0) := rfl
theorem f138_23 : amFetch 138 23 = some (.ireturn, 1, 0, 0, 0) := rfl
theorem f138_24 : amFetch 138 24 = some (.iconst 0, 1, 0, 0, 0) := rfl
theorem f138_25 : amFetch 138 25 = some (.ireturn, 1, 0, 0, 0) := rfl
theorem ow138 : amOwnL 138 = some (5, 5) := rfl
-- L_slots
theorem f139_0 : amFetch 139 0 = some (.aload_n 2, 1, 0, 0, 0) := rfl
theorem f139_1 : amFetch 139 1 = some (.iconst 0, 1, 0, 0, 0) := rfl
theorem f139_2 : amFetch 139 2 = some (.aload_n 0, 1, 0, 0, 0) := rfl
theorem f139_3 : amFetch 139 3 = some (.iload_n 1, 1, 0, 0, 0) := rfl
theorem f139_4 : amFetch 139 4 = some (.invokevirtual 62, 3, 0, 52, 1) := rfl
theorem f139_7 : amFetch 139 7 = some (.i2l, 1, 0, 0, 0) := rfl
theorem f139_8 : amFetch 139 8 = some (.lastore, 1, 0, 0, 0) := rfl
theorem f139_9 : amFetch 139 9 = some (.goto 6, 3, 0, 0, 0) := rfl
theorem f139_12 : amFetch 139 12 = some (.astore_n 3, 1, 0, 0, 0) := rfl
theorem f139_13 : amFetch 139 13 = some (.iconst 1, 1, 0, 0, 0) := rfl
theorem f139_14 : amFetch 139 14 = some (.ireturn, 1, 0, 0, 0) := rfl
theorem f139_15 : amFetch 139 15 = some (.iconst 0, 1, 0, 0, 0) := rfl
theorem f139_16 : amFetch 139 16 = some (.ireturn, 1, 0, 0, 0) := rfl
theorem ow139 : amOwnL 139 = some (5, 4) := rfl
-- L_entries
theorem f140_0 : amFetch 140 0 = some (.aload_n 2, 1, 0, 0, 0) := rfl
theorem f140_1 : amFetch 140 1 = some (.iconst 0, 1, 0, 0, 0) := rfl
theorem f140_2 : amFetch 140 2 = some (.aload_n 0, 1, 0, 0, 0) := rfl
theorem f140_3 : amFetch 140 3 = some (.iload_n 1, 1, 0, 0, 0) := rfl
theorem f140_4 : amFetch 140 4 = some (.invokevirtual 65, 3, 0, 53, 1) := rfl
theorem f140_7 : amFetch 140 7 = some (.i2l, 1, 0, 0, 0) := rfl
theorem f140_8 : amFetch 140 8 = some (.lastore, 1, 0, 0, 0) := rfl
theorem f140_9 : amFetch 140 9 = some (.goto 6, 3, 0, 0, 0) := rfl
theorem f140_12 : amFetch 140 12 = some (.astore_n 3, 1, 0, 0, 0) := rfl
theorem f140_13 : amFetch 140 13 = some (.iconst 1, 1, 0, 0, 0) := rfl
theorem f140_14 : amFetch 140 14 = some (.ireturn, 1, 0, 0, 0) := rfl
theorem f140_15 : amFetch 140 15 = some (.iconst 0, 1, 0, 0, 0) := rfl
theorem f140_16 : amFetch 140 16 = some (.ireturn, 1, 0, 0, 0) := rfl
theorem ow140 : amOwnL 140 = some (5, 4) := rfl
-- L_distinct
theorem f141_0 : amFetch 141 0 = some (.aload_n 2, 1, 0, 0, 0) := rfl
theorem f141_1 : amFetch 141 1 = some (.iconst 0, 1, 0, 0, 0) := rfl
theorem f141_2 : amFetch 141 2 = some (.aload_n 0, 1, 0, 0, 0) := rfl
theorem f141_3 : amFetch 141 3 = some (.iload_n 1, 1, 0, 0, 0) := rfl
theorem f141_4 : amFetch 141 4 = some (.invokevirtual 68, 3, 0, 54, 1) := rfl
theorem f141_7 : amFetch 141 7 = some (.i2l, 1, 0, 0, 0) := rfl
theorem f141_8 : amFetch 141 8 = some (.lastore, 1, 0, 0, 0) := rfl
theorem f141_9 : amFetch 141 9 = some (.goto 6, 3, 0, 0, 0) := rfl
theorem f141_12 : amFetch 141 12 = some (.astore_n 3, 1, 0, 0, 0) := rfl
theorem f141_13 : amFetch 141 13 = some (.iconst 1, 1, 0, 0, 0) := rfl
theorem f141_14 : amFetch 141 14 = some (.ireturn, 1, 0, 0, 0) := rfl
theorem f141_15 : amFetch 141 15 = some (.iconst 0, 1, 0, 0, 0) := rfl
theorem f141_16 : amFetch 141 16 = some (.ireturn, 1, 0, 0, 0) := rfl
theorem ow141 : amOwnL 141 = some (5, 4) := rfl
-- L_total
theorem f142_0 : amFetch 142 0 = some (.aload_n 2, 1, 0, 0, 0) := rfl
theorem f142_1 : amFetch 142 1 = some (.iconst 0, 1, 0, 0, 0) := rfl
theorem f142_2 : amFetch 142 2 = some (.aload_n 0, 1, 0, 0, 0) := rfl
theorem f142_3 : amFetch 142 3 = some (.iload_n 1, 1, 0, 0, 0) := rfl
theorem f142_4 : amFetch 142 4 = some (.invokevirtual 71, 3, 0, 55, 1) := rfl
theorem f142_7 : amFetch 142 7 = some (.i2l, 1, 0, 0, 0) := rfl
theorem f142_8 : amFetch 142 8 = some (.lastore, 1, 0, 0, 0) := rfl
theorem f142_9 : amFetch 142 9 = some (.goto 6, 3, 0, 0, 0) := rfl
theorem f142_12 : amFetch 142 12 = some (.astore_n 3, 1, 0, 0, 0) := rfl
theorem f142_13 : amFetch 142 13 = some (.iconst 1, 1, 0, 0, 0) := rfl
theorem f142_14 : amFetch 142 14 = some (.ireturn, 1, 0, 0, 0) := rfl
theorem f142_15 : amFetch 142 15 = some (.iconst 0, 1, 0, 0, 0) := rfl
theorem f142_16 : amFetch 142 16 = some (.ireturn, 1, 0, 0, 0) := rfl
theorem ow142 : amOwnL 142 = some (5, 4) := rfl
-- L_fingerprintAt
theorem f143_0 : amFetch 143 0 = some (.aload_n 3, 1, 0, 0, 0) := rfl
theorem f143_1 : amFetch 143 1 = some (.iconst 0, 1, 0, 0, 0) := rfl
theorem f143_2 : amFetch 143 2 = some (.aload_n 0, 1, 0, 0, 0) := rfl
theorem f143_3 : amFetch 143 3 = some (.iload_n 1, 1, 0, 0, 0) := rfl
theorem f143_4 : amFetch 143 4 = some (.iload_n 2, 1, 0, 0, 0) := rfl
theorem f143_5 : amFetch 143 5 = some (.invokevirtual 74, 3, 0, 56, 2) := rfl
theorem f143_8 : amFetch 143 8 = some (.i2l, 1, 0, 0, 0) := rfl
theorem f143_9 : amFetch 143 9 = some (.lastore, 1, 0, 0, 0) := rfl
theorem f143_10 : amFetch 143 10 = some (.goto 7, 3, 0, 0, 0) := rfl
theorem f143_13 : amFetch 143 13 = some (.astore 4, 2, 0, 0, 0) := rfl
theorem f143_15 : amFetch 143 15 = some (.iconst 1, 1, 0, 0, 0) := rfl
theorem f143_16 : amFetch 143 16 = some (.ireturn, 1, 0, 0, 0) := rfl
theorem f143_17 : amFetch 143 17 = some (.iconst 0, 1, 0, 0, 0) := rfl
theorem f143_18 : amFetch 143 18 = some (.ireturn, 1, 0, 0, 0) := rfl
theorem ow143 : amOwnL 143 = some (5, 5) := rfl
-- L_remainderAt
theorem f144_0 : amFetch 144 0 = some (.aload_n 3, 1, 0, 0, 0) := rfl
theorem f144_1 : amFetch 144 1 = some (.iconst 0, 1, 0, 0, 0) := rfl
theorem f144_2 : amFetch 144 2 = some (.aload_n 0, 1, 0, 0, 0) := rfl
theorem f144_3 : amFetch 144 3 = some (.iload_n 1, 1, 0, 0, 0) := rfl
theorem f144_4 : amFetch 144 4 = some (.iload_n 2, 1, 0, 0, 0) := rfl
theorem f144_5 : amFetch 144 5 = some (.invokevirtual 77, 3, 0, 57, 2) := rfl
theorem f144_8 : amFetch 144 8 = some (.i2l, 1, 0, 0, 0) := rfl
theorem f144_9 : amFetch 144 9 = some (.lastore, 1, 0, 0, 0) := rfl
theorem f144_10 : amFetch 144 10 = some (.goto 7, 3, 0, 0, 0) := rfl
theorem f144_13 : amFetch 144 13 = some (.astore 4, 2, 0, 0, 0) := rfl
theorem f144_15 : amFetch 144 15 = some (.iconst 1, 1, 0, 0, 0) := rfl
theorem f144_16 : amFetch 144 16 = some (.ireturn, 1, 0, 0, 0) := rfl
theorem f144_17 : amFetch 144 17 = some (.iconst 0, 1, 0, 0, 0) := rfl
theorem f144_18 : amFetch 144 18 = some (.ireturn, 1, 0, 0, 0) := rfl
theorem ow144 : amOwnL 144 = some (5, 5) := rfl
-- L_counterAt
theorem f145_0 : amFetch 145 0 = some (.aload_n 3, 1, 0, 0, 0) := rfl
theorem f145_1 : amFetch 145 1 = some (.iconst 0, 1, 0, 0, 0) := rfl
theorem f145_2 : amFetch 145 2 = some (.aload_n 0, 1, 0, 0, 0) := rfl
theorem f145_3 : amFetch 145 3 = some (.iload_n 1, 1, 0, 0, 0) := rfl
theorem f145_4 : amFetch 145 4 = some (.iload_n 2, 1, 0, 0, 0) := rfl
theorem f145_5 : amFetch 145 5 = some (.invokevirtual 80, 3, 0, 58, 2) := rfl
theorem f145_8 : amFetch 145 8 = some (.i2l, 1, 0, 0, 0) := rfl
theorem f145_9 : amFetch 145 9 = some (.lastore, 1, 0, 0, 0) := rfl
theorem f145_10 : amFetch 145 10 = some (.goto 7, 3, 0, 0, 0) := rfl
theorem f145_13 : amFetch 145 13 = some (.astore 4, 2, 0, 0, 0) := rfl
theorem f145_15 : amFetch 145 15 = some (.iconst 1, 1, 0, 0, 0) := rfl
theorem f145_16 : amFetch 145 16 = some (.ireturn, 1, 0, 0, 0) := rfl
theorem f145_17 : amFetch 145 17 = some (.iconst 0, 1, 0, 0, 0) := rfl
theorem f145_18 : amFetch 145 18 = some (.ireturn, 1, 0, 0, 0) := rfl
theorem ow145 : amOwnL 145 = some (5, 5) := rfl
-- L_quotientAt
theorem f146_0 : amFetch 146 0 = some (.aload_n 3, 1, 0, 0, 0) := rfl
theorem f146_1 : amFetch 146 1 = some (.iconst 0, 1, 0, 0, 0) := rfl
theorem f146_2 : amFetch 146 2 = some (.aload_n 0, 1, 0, 0, 0) := rfl
theorem f146_3 : amFetch 146 3 = some (.iload_n 1, 1, 0, 0, 0) := rfl
theorem f146_4 : amFetch 146 4 = some (.iload_n 2, 1, 0, 0, 0) := rfl
theorem f146_5 : amFetch 146 5 = some (.invokevirtual 83, 3, 0, 59, 2) := rfl
theorem f146_8 : amFetch 146 8 = some (.i2l, 1, 0, 0, 0) := rfl
theorem f146_9 : amFetch 146 9 = some (.lastore, 1, 0, 0, 0) := rfl
theorem f146_10 : amFetch 146 10 = some (.goto 7, 3, 0, 0, 0) := rfl
theorem f146_13 : amFetch 146 13 = some (.astore 4, 2, 0, 0, 0) := rfl
theorem f146_15 : amFetch 146 15 = some (.iconst 1, 1, 0, 0, 0) := rfl
theorem f146_16 : amFetch 146 16 = some (.ireturn, 1, 0, 0, 0) := rfl
theorem f146_17 : amFetch 146 17 = some (.iconst 0, 1, 0, 0, 0) := rfl
theorem f146_18 : amFetch 146 18 = some (.ireturn, 1, 0, 0, 0) := rfl
theorem ow146 : amOwnL 146 = some (5, 5) := rfl
-- L_isOccupied
theorem f147_0 : amFetch 147 0 = some (.aload_n 3, 1, 0, 0, 0) := rfl
theorem f147_1 : amFetch 147 1 = some (.iconst 0, 1, 0, 0, 0) := rfl
theorem f147_2 : amFetch 147 2 = some (.aload_n 0, 1, 0, 0, 0) := rfl
theorem f147_3 : amFetch 147 3 = some (.iload_n 1, 1, 0, 0, 0) := rfl
theorem f147_4 : amFetch 147 4 = some (.iload_n 2, 1, 0, 0, 0) := rfl
theorem f147_5 : amFetch 147 5 = some (.invokevirtual 86, 3, 0, 60, 2) := rfl
theorem f147_8 : amFetch 147 8 = some (.ifCond .eq 7, 3, 0, 0, 0) := rfl
theorem f147_11 : amFetch 147 11 = some (.lconst 1, 1, 0, 0, 0) := rfl
theorem f147_12 : amFetch 147 12 = some (.goto 4, 3, 0, 0, 0) := rfl
theorem f147_15 : amFetch 147 15 = some (.lconst 0, 1, 0, 0, 0) := rfl
theorem f147_16 : amFetch 147 16 = some (.lastore, 1, 0, 0, 0) := rfl
theorem f147_17 : amFetch 147 17 = some (.goto 7, 3, 0, 0, 0) := rfl
theorem f147_20 : amFetch 147 20 = some (.astore 4, 2, 0, 0, 0) := rfl
theorem f147_22 : amFetch 147 22 = some (.iconst 1, 1, 0, 0, 0) := rfl
theorem f147_23 : amFetch 147 23 = some (.ireturn, 1, 0, 0, 0) := rfl
theorem f147_24 : amFetch 147 24 = some (.iconst 0, 1, 0, 0, 0) := rfl
theorem f147_25 : amFetch 147 25 = some (.ireturn, 1, 0, 0, 0) := rfl
theorem ow147 : amOwnL 147 = some (5, 5) := rfl
-- L_isContinuation
theorem f148_0 : amFetch 148 0 = some (.aload_n 3, 1, 0, 0, 0) := rfl
theorem f148_1 : amFetch 148 1 = some (.iconst 0, 1, 0, 0, 0) := rfl
theorem f148_2 : amFetch 148 2 = some (.aload_n 0, 1, 0, 0, 0) := rfl
theorem f148_3 : amFetch 148 3 = some (.iload_n 1, 1, 0, 0, 0) := rfl
theorem f148_4 : amFetch 148 4 = some (.iload_n 2, 1, 0, 0, 0) := rfl
theorem f148_5 : amFetch 148 5 = some (.invokevirtual 89, 3, 0, 61, 2) := rfl
theorem f148_8 : amFetch 148 8 = some (.ifCond .eq 7, 3, 0, 0, 0) := rfl
theorem f148_11 : amFetch 148 11 = some (.lconst 1, 1, 0, 0, 0) := rfl
theorem f148_12 : amFetch 148 12 = some (.goto 4, 3, 0, 0, 0) := rfl
theorem f148_15 : amFetch 148 15 = some (.lconst 0, 1, 0, 0, 0) := rfl
theorem f148_16 : amFetch 148 16 = some (.lastore, 1, 0, 0, 0) := rfl
theorem f148_17 : amFetch 148 17 = some (.goto 7, 3, 0, 0, 0) := rfl
theorem f148_20 : amFetch 148 20 = some (.astore 4, 2, 0, 0, 0) := rfl
theorem f148_22 : amFetch 148 22 = some (.iconst 1, 1, 0, 0, 0) := rfl
theorem f148_23 : amFetch 148 23 = some (.ireturn, 1, 0, 0, 0) := rfl
theorem f148_24 : amFetch 148 24 = some (.iconst 0, 1, 0, 0, 0) := rfl
theorem f148_25 : amFetch 148 25 = some (.ireturn, 1, 0, 0, 0) := rfl
theorem ow148 : amOwnL 148 = some (5, 5) := rfl
-- L_isShifted
theorem f149_0 : amFetch 149 0 = some (.aload_n 3, 1, 0, 0, 0) := rfl
theorem f149_1 : amFetch 149 1 = some (.iconst 0, 1, 0, 0, 0) := rfl
theorem f149_2 : amFetch 149 2 = some (.aload_n 0, 1, 0, 0, 0) := rfl
theorem f149_3 : amFetch 149 3 = some (.iload_n 1, 1, 0, 0, 0) := rfl
theorem f149_4 : amFetch 149 4 = some (.iload_n 2, 1, 0, 0, 0) := rfl
theorem f149_5 : amFetch 149 5 = some (.invokevirtual 92, 3, 0, 62, 2) := rfl
theorem f149_8 : amFetch 149 8 = some (.ifCond .eq 7, 3, 0, 0, 0) := rfl
theorem f149_11 : amFetch 149 11 = some (.lconst 1, 1, 0, 0, 0) := rfl
theorem f149_12 : amFetch 149 12 = some (.goto 4, 3, 0, 0, 0) := rfl
theorem f149_15 : amFetch 149 15 = some (.lconst 0, 1, 0, 0, 0) := rfl
theorem f149_16 : amFetch 149 16 = some (.lastore, 1, 0, 0, 0) := rfl
theorem f149_17 : amFetch 149 17 = some (.goto 7, 3, 0, 0, 0) := rfl
theorem f149_20 : amFetch 149 20 = some (.astore 4, 2, 0, 0, 0) := rfl
theorem f149_22 : amFetch 149 22 = some (.iconst 1, 1, 0, 0, 0) := rfl
theorem f149_23 : amFetch 149 23 = some (.ireturn, 1, 0, 0, 0) := rfl
theorem f149_24 : amFetch 149 24 = some (.iconst 0, 1, 0, 0, 0) := rfl
theorem f149_25 : amFetch 149 25 = some (.ireturn, 1, 0, 0, 0) := rfl
theorem ow149 : amOwnL 149 = some (5, 5) := rfl
-- L_runStart
theorem f150_0 : amFetch 150 0 = some (.aload_n 3, 1, 0, 0, 0) := rfl
theorem f150_1 : amFetch 150 1 = some (.iconst 0, 1, 0, 0, 0) := rfl
theorem f150_2 : amFetch 150 2 = some (.aload_n 0, 1, 0, 0, 0) := rfl
theorem f150_3 : amFetch 150 3 = some (.iload_n 1, 1, 0, 0, 0) := rfl
theorem f150_4 : amFetch 150 4 = some (.iload_n 2, 1, 0, 0, 0) := rfl
theorem f150_5 : amFetch 150 5 = some (.invokevirtual 95, 3, 0, 63, 2) := rfl
theorem f150_8 : amFetch 150 8 = some (.i2l, 1, 0, 0, 0) := rfl
theorem f150_9 : amFetch 150 9 = some (.lastore, 1, 0, 0, 0) := rfl
theorem f150_10 : amFetch 150 10 = some (.goto 7, 3, 0, 0, 0) := rfl
theorem f150_13 : amFetch 150 13 = some (.astore 4, 2, 0, 0, 0) := rfl
theorem f150_15 : amFetch 150 15 = some (.iconst 1, 1, 0, 0, 0) := rfl
theorem f150_16 : amFetch 150 16 = some (.ireturn, 1, 0, 0, 0) := rfl
theorem f150_17 : amFetch 150 17 = some (.iconst 0, 1, 0, 0, 0) := rfl
theorem f150_18 : amFetch 150 18 = some (.ireturn, 1, 0, 0, 0) := rfl
theorem ow150 : amOwnL 150 = some (5, 5) := rfl
-- L_runLength
theorem f151_0 : amFetch 151 0 = some (.aload_n 3, 1, 0, 0, 0) := rfl
theorem f151_1 : amFetch 151 1 = some (.iconst 0, 1, 0, 0, 0) := rfl
theorem f151_2 : amFetch 151 2 = some (.aload_n 0, 1, 0, 0, 0) := rfl
theorem f151_3 : amFetch 151 3 = some (.iload_n 1, 1, 0, 0, 0) := rfl
theorem f151_4 : amFetch 151 4 = some (.iload_n 2, 1, 0, 0, 0) := rfl
theorem f151_5 : amFetch 151 5 = some (.invokevirtual 98, 3, 0, 64, 2) := rfl
theorem f151_8 : amFetch 151 8 = some (.i2l, 1, 0, 0, 0) := rfl
theorem f151_9 : amFetch 151 9 = some (.lastore, 1, 0, 0, 0) := rfl
theorem f151_10 : amFetch 151 10 = some (.goto 7, 3, 0, 0, 0) := rfl
theorem f151_13 : amFetch 151 13 = some (.astore 4, 2, 0, 0, 0) := rfl
theorem f151_15 : amFetch 151 15 = some (.iconst 1, 1, 0, 0, 0) := rfl
theorem f151_16 : amFetch 151 16 = some (.ireturn, 1, 0, 0, 0) := rfl
theorem f151_17 : amFetch 151 17 = some (.iconst 0, 1, 0, 0, 0) := rfl
theorem f151_18 : amFetch 151 18 = some (.ireturn, 1, 0, 0, 0) := rfl
theorem ow151 : amOwnL 151 = some (5, 5) := rfl
-- L_clusterStart
theorem f152_0 : amFetch 152 0 = some (.aload_n 3, 1, 0, 0, 0) := rfl
theorem f152_1 : amFetch 152 1 = some (.iconst 0, 1, 0, 0, 0) := rfl
theorem f152_2 : amFetch 152 2 = some (.aload_n 0, 1, 0, 0, 0) := rfl
theorem f152_3 : amFetch 152 3 = some (.iload_n 1, 1, 0, 0, 0) := rfl
theorem f152_4 : amFetch 152 4 = some (.iload_n 2, 1, 0, 0, 0) := rfl
theorem f152_5 : amFetch 152 5 = some (.invokevirtual 101, 3, 0, 65, 2) := rfl
theorem f152_8 : amFetch 152 8 = some (.i2l, 1, 0, 0, 0) := rfl
theorem f152_9 : amFetch 152 9 = some (.lastore, 1, 0, 0, 0) := rfl
theorem f152_10 : amFetch 152 10 = some (.goto 7, 3, 0, 0, 0) := rfl
theorem f152_13 : amFetch 152 13 = some (.astore 4, 2, 0, 0, 0) := rfl
theorem f152_15 : amFetch 152 15 = some (.iconst 1, 1, 0, 0, 0) := rfl
theorem f152_16 : amFetch 152 16 = some (.ireturn, 1, 0, 0, 0) := rfl
theorem f152_17 : amFetch 152 17 = some (.iconst 0, 1, 0, 0, 0) := rfl
theorem f152_18 : amFetch 152 18 = some (.ireturn, 1, 0, 0, 0) := rfl
theorem ow152 : amOwnL 152 = some (5, 5) := rfl
-- L_longestCluster
theorem f153_0 : amFetch 153 0 = some (.aload_n 2, 1, 0, 0, 0) := rfl
theorem f153_1 : amFetch 153 1 = some (.iconst 0, 1, 0, 0, 0) := rfl
theorem f153_2 : amFetch 153 2 = some (.aload_n 0, 1, 0, 0, 0) := rfl
theorem f153_3 : amFetch 153 3 = some (.iload_n 1, 1, 0, 0, 0) := rfl
theorem f153_4 : amFetch 153 4 = some (.invokevirtual 104, 3, 0, 66, 1) := rfl
theorem f153_7 : amFetch 153 7 = some (.i2l, 1, 0, 0, 0) := rfl
theorem f153_8 : amFetch 153 8 = some (.lastore, 1, 0, 0, 0) := rfl
theorem f153_9 : amFetch 153 9 = some (.goto 6, 3, 0, 0, 0) := rfl
theorem f153_12 : amFetch 153 12 = some (.astore_n 3, 1, 0, 0, 0) := rfl
theorem f153_13 : amFetch 153 13 = some (.iconst 1, 1, 0, 0, 0) := rfl
theorem f153_14 : amFetch 153 14 = some (.ireturn, 1, 0, 0, 0) := rfl
theorem f153_15 : amFetch 153 15 = some (.iconst 0, 1, 0, 0, 0) := rfl
theorem f153_16 : amFetch 153 16 = some (.ireturn, 1, 0, 0, 0) := rfl
theorem ow153 : amOwnL 153 = some (5, 4) := rfl
-- X0_appendPart
theorem f155_0 : amFetch 155 0 = some (.iload_n 2, 1, 0, 0, 0) := rfl
theorem f155_1 : amFetch 155 1 = some (.istore 4, 2, 0, 0, 0) := rfl
theorem f155_3 : amFetch 155 3 = some (.iload 4, 2, 0, 0, 0) := rfl
theorem f155_5 : amFetch 155 5 = some (.iload_n 3, 1, 0, 0, 0) := rfl
theorem f155_6 : amFetch 155 6 = some (.if_icmp .ge 27, 3, 0, 0, 0) := rfl
theorem f155_9 : amFetch 155 9 = some (.aload_n 0, 1, 0, 0, 0) := rfl
theorem f155_10 : amFetch 155 10 = some (.aload_n 1, 1, 0, 0, 0) := rfl
theorem f155_11 : amFetch 155 11 = some (.getfield 9, 3, 0, 0, 0) := rfl
theorem f155_14 : amFetch 155 14 = some (.iload 4, 2, 0, 0, 0) := rfl
theorem f155_16 : amFetch 155 16 = some (.iaload, 1, 0, 0, 0) := rfl
theorem f155_17 : amFetch 155 17 = some (.aload_n 1, 1, 0, 0, 0) := rfl
theorem f155_18 : amFetch 155 18 = some (.getfield 15, 3, 0, 1, 0) := rfl
theorem f155_21 : amFetch 155 21 = some (.iload 4, 2, 0, 0, 0) := rfl
theorem f155_23 : amFetch 155 23 = some (.iaload, 1, 0, 0, 0) := rfl
theorem f155_24 : amFetch 155 24 = some (.invokevirtual 33, 3, 0, 2, 2) := rfl
theorem f155_27 : amFetch 155 27 = some (.iinc 4 1, 3, 0, 0, 0) := rfl
theorem f155_30 : amFetch 155 30 = some (.goto (-27), 3, 0, 0, 0) := rfl
theorem f155_33 : amFetch 155 33 = some (.return_, 1, 0, 0, 0) := rfl
theorem ow155 : amOwnL 155 = some (0, 5) := rfl
