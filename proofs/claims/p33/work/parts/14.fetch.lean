/-! fetch rows, by wip/whole/gen14.py -/
-- X0_init
theorem f0_0 : amFetch 0 0 = some (.aload_n 0, 1, 0, 0, 0) := rfl
theorem f0_1 : amFetch 0 1 = some (.invokespecial 3, 3, 6, 0, 0) := rfl
theorem f0_4 : amFetch 0 4 = some (.aload_n 0, 1, 0, 0, 0) := rfl
theorem f0_5 : amFetch 0 5 = some (.sipush 512, 3, 0, 0, 0) := rfl
theorem f0_8 : amFetch 0 8 = some (.newarray .int, 2, 0, 0, 0) := rfl
theorem f0_10 : amFetch 0 10 = some (.putfield 9, 3, 0, 0, 0) := rfl
theorem f0_13 : amFetch 0 13 = some (.aload_n 0, 1, 0, 0, 0) := rfl
theorem f0_14 : amFetch 0 14 = some (.sipush 512, 3, 0, 0, 0) := rfl
theorem f0_17 : amFetch 0 17 = some (.newarray .int, 2, 0, 0, 0) := rfl
theorem f0_19 : amFetch 0 19 = some (.putfield 15, 3, 0, 1, 0) := rfl
theorem f0_22 : amFetch 0 22 = some (.return_, 1, 0, 0, 0) := rfl
theorem ow0 : amOwnL 0 = some (0, 1) := rfl
-- X0_drop
theorem f1_0 : amFetch 1 0 = some (.aload_n 0, 1, 0, 0, 0) := rfl
theorem f1_1 : amFetch 1 1 = some (.iconst 0, 1, 0, 0, 0) := rfl
theorem f1_2 : amFetch 1 2 = some (.putfield 18, 3, 0, 2, 0) := rfl
theorem f1_5 : amFetch 1 5 = some (.return_, 1, 0, 0, 0) := rfl
theorem ow1 : amOwnL 1 = some (0, 1) := rfl
-- X0_append
theorem f2_0 : amFetch 2 0 = some (.aload_n 0, 1, 0, 0, 0) := rfl
theorem f2_1 : amFetch 2 1 = some (.getfield 18, 3, 0, 2, 0) := rfl
theorem f2_4 : amFetch 2 4 = some (.iconst 1, 1, 0, 0, 0) := rfl
theorem f2_5 : amFetch 2 5 = some (.isub, 1, 0, 0, 0) := rfl
theorem f2_6 : amFetch 2 6 = some (.istore_n 3, 1, 0, 0, 0) := rfl
theorem f2_7 : amFetch 2 7 = some (.iload_n 3, 1, 0, 0, 0) := rfl
theorem f2_8 : amFetch 2 8 = some (.ifCond .lt 26, 3, 0, 0, 0) := rfl
theorem f2_11 : amFetch 2 11 = some (.aload_n 0, 1, 0, 0, 0) := rfl
theorem f2_12 : amFetch 2 12 = some (.getfield 9, 3, 0, 0, 0) := rfl
theorem f2_15 : amFetch 2 15 = some (.iload_n 3, 1, 0, 0, 0) := rfl
theorem f2_16 : amFetch 2 16 = some (.iaload, 1, 0, 0, 0) := rfl
theorem f2_17 : amFetch 2 17 = some (.iload_n 1, 1, 0, 0, 0) := rfl
theorem f2_18 : amFetch 2 18 = some (.if_icmp .ne 16, 3, 0, 0, 0) := rfl
theorem f2_21 : amFetch 2 21 = some (.aload_n 0, 1, 0, 0, 0) := rfl
theorem f2_22 : amFetch 2 22 = some (.getfield 15, 3, 0, 1, 0) := rfl
theorem f2_25 : amFetch 2 25 = some (.iload_n 3, 1, 0, 0, 0) := rfl
theorem f2_26 : amFetch 2 26 = some (.dup2, 1, 0, 0, 0) := rfl
theorem f2_27 : amFetch 2 27 = some (.iaload, 1, 0, 0, 0) := rfl
theorem f2_28 : amFetch 2 28 = some (.iload_n 2, 1, 0, 0, 0) := rfl
theorem f2_29 : amFetch 2 29 = some (.iadd, 1, 0, 0, 0) := rfl
theorem f2_30 : amFetch 2 30 = some (.iastore, 1, 0, 0, 0) := rfl
theorem f2_31 : amFetch 2 31 = some (.goto 49, 3, 0, 0, 0) := rfl
theorem f2_34 : amFetch 2 34 = some (.iload_n 2, 1, 0, 0, 0) := rfl
theorem f2_35 : amFetch 2 35 = some (.ifCond .le 45, 3, 0, 0, 0) := rfl
theorem f2_38 : amFetch 2 38 = some (.aload_n 0, 1, 0, 0, 0) := rfl
theorem f2_39 : amFetch 2 39 = some (.getfield 18, 3, 0, 2, 0) := rfl
theorem f2_42 : amFetch 2 42 = some (.aload_n 0, 1, 0, 0, 0) := rfl
theorem f2_43 : amFetch 2 43 = some (.getfield 9, 3, 0, 0, 0) := rfl
theorem f2_46 : amFetch 2 46 = some (.arraylength, 1, 0, 0, 0) := rfl
theorem f2_47 : amFetch 2 47 = some (.if_icmp .ge 33, 3, 0, 0, 0) := rfl
theorem f2_50 : amFetch 2 50 = some (.aload_n 0, 1, 0, 0, 0) := rfl
theorem f2_51 : amFetch 2 51 = some (.getfield 9, 3, 0, 0, 0) := rfl
theorem f2_54 : amFetch 2 54 = some (.aload_n 0, 1, 0, 0, 0) := rfl
theorem f2_55 : amFetch 2 55 = some (.getfield 18, 3, 0, 2, 0) := rfl
theorem f2_58 : amFetch 2 58 = some (.iload_n 1, 1, 0, 0, 0) := rfl
theorem f2_59 : amFetch 2 59 = some (.iastore, 1, 0, 0, 0) := rfl
theorem f2_60 : amFetch 2 60 = some (.aload_n 0, 1, 0, 0, 0) := rfl
theorem f2_61 : amFetch 2 61 = some (.getfield 15, 3, 0, 1, 0) := rfl
theorem f2_64 : amFetch 2 64 = some (.aload_n 0, 1, 0, 0, 0) := rfl
theorem f2_65 : amFetch 2 65 = some (.getfield 18, 3, 0, 2, 0) := rfl
theorem f2_68 : amFetch 2 68 = some (.iload_n 2, 1, 0, 0, 0) := rfl
theorem f2_69 : amFetch 2 69 = some (.iastore, 1, 0, 0, 0) := rfl
theorem f2_70 : amFetch 2 70 = some (.aload_n 0, 1, 0, 0, 0) := rfl
theorem f2_71 : amFetch 2 71 = some (.dup, 1, 0, 0, 0) := rfl
theorem f2_72 : amFetch 2 72 = some (.getfield 18, 3, 0, 2, 0) := rfl
theorem f2_75 : amFetch 2 75 = some (.iconst 1, 1, 0, 0, 0) := rfl
theorem f2_76 : amFetch 2 76 = some (.iadd, 1, 0, 0, 0) := rfl
theorem f2_77 : amFetch 2 77 = some (.putfield 18, 3, 0, 2, 0) := rfl
theorem f2_80 : amFetch 2 80 = some (.return_, 1, 0, 0, 0) := rfl
theorem ow2 : amOwnL 2 = some (0, 4) := rfl
-- X0_becomeSum
theorem f3_0 : amFetch 3 0 = some (.aload_n 0, 1, 0, 0, 0) := rfl
theorem f3_1 : amFetch 3 1 = some (.invokevirtual 22, 3, 0, 1, 0) := rfl
theorem f3_4 : amFetch 3 4 = some (.iconst 0, 1, 0, 0, 0) := rfl
theorem f3_5 : amFetch 3 5 = some (.istore_n 3, 1, 0, 0, 0) := rfl
theorem f3_6 : amFetch 3 6 = some (.iconst 0, 1, 0, 0, 0) := rfl
theorem f3_7 : amFetch 3 7 = some (.istore 4, 2, 0, 0, 0) := rfl
theorem f3_9 : amFetch 3 9 = some (.iload 4, 2, 0, 0, 0) := rfl
theorem f3_11 : amFetch 3 11 = some (.aload_n 1, 1, 0, 0, 0) := rfl
theorem f3_12 : amFetch 3 12 = some (.getfield 18, 3, 0, 2, 0) := rfl
theorem f3_15 : amFetch 3 15 = some (.if_icmp .ge 52, 3, 0, 0, 0) := rfl
theorem f3_18 : amFetch 3 18 = some (.aload_n 2, 1, 0, 0, 0) := rfl
theorem f3_19 : amFetch 3 19 = some (.aload_n 1, 1, 0, 0, 0) := rfl
theorem f3_20 : amFetch 3 20 = some (.getfield 9, 3, 0, 0, 0) := rfl
theorem f3_23 : amFetch 3 23 = some (.iload 4, 2, 0, 0, 0) := rfl
theorem f3_25 : amFetch 3 25 = some (.iaload, 1, 0, 0, 0) := rfl
theorem f3_26 : amFetch 3 26 = some (.iload_n 3, 1, 0, 0, 0) := rfl
theorem f3_27 : amFetch 3 27 = some (.invokevirtual 25, 3, 0, 6, 2) := rfl
theorem f3_30 : amFetch 3 30 = some (.istore 5, 2, 0, 0, 0) := rfl
theorem f3_32 : amFetch 3 32 = some (.aload_n 0, 1, 0, 0, 0) := rfl
theorem f3_33 : amFetch 3 33 = some (.aload_n 2, 1, 0, 0, 0) := rfl
theorem f3_34 : amFetch 3 34 = some (.iload_n 3, 1, 0, 0, 0) := rfl
theorem f3_35 : amFetch 3 35 = some (.iload 5, 2, 0, 0, 0) := rfl
theorem f3_37 : amFetch 3 37 = some (.invokevirtual 29, 3, 0, 99, 3) := rfl
theorem f3_40 : amFetch 3 40 = some (.aload_n 0, 1, 0, 0, 0) := rfl
theorem f3_41 : amFetch 3 41 = some (.aload_n 1, 1, 0, 0, 0) := rfl
theorem f3_42 : amFetch 3 42 = some (.getfield 9, 3, 0, 0, 0) := rfl
theorem f3_45 : amFetch 3 45 = some (.iload 4, 2, 0, 0, 0) := rfl
theorem f3_47 : amFetch 3 47 = some (.iaload, 1, 0, 0, 0) := rfl
theorem f3_48 : amFetch 3 48 = some (.aload_n 1, 1, 0, 0, 0) := rfl
theorem f3_49 : amFetch 3 49 = some (.getfield 15, 3, 0, 1, 0) := rfl
theorem f3_52 : amFetch 3 52 = some (.iload 4, 2, 0, 0, 0) := rfl
theorem f3_54 : amFetch 3 54 = some (.iaload, 1, 0, 0, 0) := rfl
theorem f3_55 : amFetch 3 55 = some (.invokevirtual 33, 3, 0, 2, 2) := rfl
theorem f3_58 : amFetch 3 58 = some (.iload 5, 2, 0, 0, 0) := rfl
theorem f3_60 : amFetch 3 60 = some (.istore_n 3, 1, 0, 0, 0) := rfl
theorem f3_61 : amFetch 3 61 = some (.iinc 4 1, 3, 0, 0, 0) := rfl
theorem f3_64 : amFetch 3 64 = some (.goto (-55), 3, 0, 0, 0) := rfl
theorem f3_67 : amFetch 3 67 = some (.aload_n 0, 1, 0, 0, 0) := rfl
theorem f3_68 : amFetch 3 68 = some (.aload_n 2, 1, 0, 0, 0) := rfl
theorem f3_69 : amFetch 3 69 = some (.iload_n 3, 1, 0, 0, 0) := rfl
theorem f3_70 : amFetch 3 70 = some (.aload_n 2, 1, 0, 0, 0) := rfl
theorem f3_71 : amFetch 3 71 = some (.getfield 18, 3, 0, 2, 0) := rfl
theorem f3_74 : amFetch 3 74 = some (.invokevirtual 29, 3, 0, 99, 3) := rfl
theorem f3_77 : amFetch 3 77 = some (.return_, 1, 0, 0, 0) := rfl
theorem ow3 : amOwnL 3 = some (0, 6) := rfl
-- X0_becomeLesser
theorem f4_0 : amFetch 4 0 = some (.aload_n 0, 1, 0, 0, 0) := rfl
theorem f4_1 : amFetch 4 1 = some (.invokevirtual 22, 3, 0, 1, 0) := rfl
theorem f4_4 : amFetch 4 4 = some (.iconst 0, 1, 0, 0, 0) := rfl
theorem f4_5 : amFetch 4 5 = some (.istore_n 3, 1, 0, 0, 0) := rfl
theorem f4_6 : amFetch 4 6 = some (.iconst 0, 1, 0, 0, 0) := rfl
theorem f4_7 : amFetch 4 7 = some (.istore 4, 2, 0, 0, 0) := rfl
theorem f4_9 : amFetch 4 9 = some (.iload 4, 2, 0, 0, 0) := rfl
theorem f4_11 : amFetch 4 11 = some (.aload_n 1, 1, 0, 0, 0) := rfl
theorem f4_12 : amFetch 4 12 = some (.getfield 18, 3, 0, 2, 0) := rfl
theorem f4_15 : amFetch 4 15 = some (.if_icmp .ge 67, 3, 0, 0, 0) := rfl
theorem f4_18 : amFetch 4 18 = some (.aload_n 1, 1, 0, 0, 0) := rfl
theorem f4_19 : amFetch 4 19 = some (.getfield 9, 3, 0, 0, 0) := rfl
theorem f4_22 : amFetch 4 22 = some (.iload 4, 2, 0, 0, 0) := rfl
theorem f4_24 : amFetch 4 24 = some (.iaload, 1, 0, 0, 0) := rfl
theorem f4_25 : amFetch 4 25 = some (.istore 5, 2, 0, 0, 0) := rfl
theorem f4_27 : amFetch 4 27 = some (.aload_n 2, 1, 0, 0, 0) := rfl
theorem f4_28 : amFetch 4 28 = some (.iload 5, 2, 0, 0, 0) := rfl
theorem f4_30 : amFetch 4 30 = some (.iload_n 3, 1, 0, 0, 0) := rfl
theorem f4_31 : amFetch 4 31 = some (.invokevirtual 25, 3, 0, 6, 2) := rfl
theorem f4_34 : amFetch 4 34 = some (.istore_n 3, 1, 0, 0, 0) := rfl
theorem f4_35 : amFetch 4 35 = some (.iload_n 3, 1, 0, 0, 0) := rfl
theorem f4_36 : amFetch 4 36 = some (.aload_n 2, 1, 0, 0, 0) := rfl
theorem f4_37 : amFetch 4 37 = some (.getfield 18, 3, 0, 2, 0) := rfl
theorem f4_40 : amFetch 4 40 = some (.if_icmp .ge 36, 3, 0, 0, 0) := rfl
theorem f4_43 : amFetch 4 43 = some (.aload_n 2, 1, 0, 0, 0) := rfl
theorem f4_44 : amFetch 4 44 = some (.getfield 9, 3, 0, 0, 0) := rfl
theorem f4_47 : amFetch 4 47 = some (.iload_n 3, 1, 0, 0, 0) := rfl
theorem f4_48 : amFetch 4 48 = some (.iaload, 1, 0, 0, 0) := rfl
theorem f4_49 : amFetch 4 49 = some (.iload 5, 2, 0, 0, 0) := rfl
theorem f4_51 : amFetch 4 51 = some (.if_icmp .ne 25, 3, 0, 0, 0) := rfl
theorem f4_54 : amFetch 4 54 = some (.aload_n 0, 1, 0, 0, 0) := rfl
theorem f4_55 : amFetch 4 55 = some (.iload 5, 2, 0, 0, 0) := rfl
theorem f4_57 : amFetch 4 57 = some (.aload_n 1, 1, 0, 0, 0) := rfl
theorem f4_58 : amFetch 4 58 = some (.getfield 15, 3, 0, 1, 0) := rfl
theorem f4_61 : amFetch 4 61 = some (.iload 4, 2, 0, 0, 0) := rfl
theorem f4_63 : amFetch 4 63 = some (.iaload, 1, 0, 0, 0) := rfl
theorem f4_64 : amFetch 4 64 = some (.aload_n 2, 1, 0, 0, 0) := rfl
theorem f4_65 : amFetch 4 65 = some (.getfield 15, 3, 0, 1, 0) := rfl
theorem f4_68 : amFetch 4 68 = some (.iload_n 3, 1, 0, 0, 0) := rfl
theorem f4_69 : amFetch 4 69 = some (.iaload, 1, 0, 0, 0) := rfl
theorem f4_70 : amFetch 4 70 = some (.invokestatic 37, 3, 5, 0, 2) := rfl
theorem f4_73 : amFetch 4 73 = some (.invokevirtual 33, 3, 0, 2, 2) := rfl
theorem f4_76 : amFetch 4 76 = some (.iinc 4 1, 3, 0, 0, 0) := rfl
theorem f4_79 : amFetch 4 79 = some (.goto (-70), 3, 0, 0, 0) := rfl
theorem f4_82 : amFetch 4 82 = some (.return_, 1, 0, 0, 0) := rfl
theorem ow4 : amOwnL 4 = some (0, 6) := rfl
-- X0_becomeRest
theorem f5_0 : amFetch 5 0 = some (.aload_n 0, 1, 0, 0, 0) := rfl
theorem f5_1 : amFetch 5 1 = some (.invokevirtual 22, 3, 0, 1, 0) := rfl
theorem f5_4 : amFetch 5 4 = some (.iconst 0, 1, 0, 0, 0) := rfl
theorem f5_5 : amFetch 5 5 = some (.istore 4, 2, 0, 0, 0) := rfl
theorem f5_7 : amFetch 5 7 = some (.iload 4, 2, 0, 0, 0) := rfl
theorem f5_9 : amFetch 5 9 = some (.aload_n 1, 1, 0, 0, 0) := rfl
theorem f5_10 : amFetch 5 10 = some (.getfield 18, 3, 0, 2, 0) := rfl
theorem f5_13 : amFetch 5 13 = some (.if_icmp .ge 48, 3, 0, 0, 0) := rfl
theorem f5_16 : amFetch 5 16 = some (.aload_n 1, 1, 0, 0, 0) := rfl
theorem f5_17 : amFetch 5 17 = some (.getfield 9, 3, 0, 0, 0) := rfl
theorem f5_20 : amFetch 5 20 = some (.iload 4, 2, 0, 0, 0) := rfl
theorem f5_22 : amFetch 5 22 = some (.iaload, 1, 0, 0, 0) := rfl
theorem f5_23 : amFetch 5 23 = some (.iload_n 2, 1, 0, 0, 0) := rfl
theorem f5_24 : amFetch 5 24 = some (.if_icmp .ne 7, 3, 0, 0, 0) := rfl
theorem f5_27 : amFetch 5 27 = some (.iload_n 3, 1, 0, 0, 0) := rfl
theorem f5_28 : amFetch 5 28 = some (.goto 4, 3, 0, 0, 0) := rfl
theorem f5_31 : amFetch 5 31 = some (.iconst 0, 1, 0, 0, 0) := rfl
theorem f5_32 : amFetch 5 32 = some (.istore 5, 2, 0, 0, 0) := rfl
theorem f5_34 : amFetch 5 34 = some (.aload_n 0, 1, 0, 0, 0) := rfl
theorem f5_35 : amFetch 5 35 = some (.aload_n 1, 1, 0, 0, 0) := rfl
theorem f5_36 : amFetch 5 36 = some (.getfield 9, 3, 0, 0, 0) := rfl
theorem f5_39 : amFetch 5 39 = some (.iload 4, 2, 0, 0, 0) := rfl
theorem f5_41 : amFetch 5 41 = some (.iaload, 1, 0, 0, 0) := rfl
theorem f5_42 : amFetch 5 42 = some (.aload_n 1, 1, 0, 0, 0) := rfl
theorem f5_43 : amFetch 5 43 = some (.getfield 15, 3, 0, 1, 0) := rfl
theorem f5_46 : amFetch 5 46 = some (.iload 4, 2, 0, 0, 0) := rfl
theorem f5_48 : amFetch 5 48 = some (.iaload, 1, 0, 0, 0) := rfl
theorem f5_49 : amFetch 5 49 = some (.iload 5, 2, 0, 0, 0) := rfl
theorem f5_51 : amFetch 5 51 = some (.isub, 1, 0, 0, 0) := rfl
theorem f5_52 : amFetch 5 52 = some (.invokevirtual 33, 3, 0, 2, 2) := rfl
theorem f5_55 : amFetch 5 55 = some (.iinc 4 1, 3, 0, 0, 0) := rfl
theorem f5_58 : amFetch 5 58 = some (.goto (-51), 3, 0, 0, 0) := rfl
theorem f5_61 : amFetch 5 61 = some (.return_, 1, 0, 0, 0) := rfl
theorem ow5 : amOwnL 5 = some (0, 6) := rfl
-- X0_placeNotBelow
theorem f6_0 : amFetch 6 0 = some (.iload_n 2, 1, 0, 0, 0) := rfl
theorem f6_1 : amFetch 6 1 = some (.istore_n 3, 1, 0, 0, 0) := rfl
theorem f6_2 : amFetch 6 2 = some (.iload_n 3, 1, 0, 0, 0) := rfl
theorem f6_3 : amFetch 6 3 = some (.aload_n 0, 1, 0, 0, 0) := rfl
theorem f6_4 : amFetch 6 4 = some (.getfield 18, 3, 0, 2, 0) := rfl
theorem f6_7 : amFetch 6 7 = some (.if_icmp .ge 19, 3, 0, 0, 0) := rfl
theorem f6_10 : amFetch 6 10 = some (.aload_n 0, 1, 0, 0, 0) := rfl
theorem f6_11 : amFetch 6 11 = some (.getfield 9, 3, 0, 0, 0) := rfl
theorem f6_14 : amFetch 6 14 = some (.iload_n 3, 1, 0, 0, 0) := rfl
theorem f6_15 : amFetch 6 15 = some (.iaload, 1, 0, 0, 0) := rfl
theorem f6_16 : amFetch 6 16 = some (.iload_n 1, 1, 0, 0, 0) := rfl
theorem f6_17 : amFetch 6 17 = some (.if_icmp .ge 9, 3, 0, 0, 0) := rfl
theorem f6_20 : amFetch 6 20 = some (.iinc 3 1, 3, 0, 0, 0) := rfl
theorem f6_23 : amFetch 6 23 = some (.goto (-21), 3, 0, 0, 0) := rfl
theorem f6_26 : amFetch 6 26 = some (.iload_n 3, 1, 0, 0, 0) := rfl
theorem f6_27 : amFetch 6 27 = some (.ireturn, 1, 0, 0, 0) := rfl
theorem ow6 : amOwnL 6 = some (0, 4) := rfl
-- X0_hasSameAs
theorem f7_0 : amFetch 7 0 = some (.aload_n 0, 1, 0, 0, 0) := rfl
theorem f7_1 : amFetch 7 1 = some (.getfield 18, 3, 0, 2, 0) := rfl
theorem f7_4 : amFetch 7 4 = some (.aload_n 1, 1, 0, 0, 0) := rfl
theorem f7_5 : amFetch 7 5 = some (.getfield 18, 3, 0, 2, 0) := rfl
theorem f7_8 : amFetch 7 8 = some (.if_icmp .eq 5, 3, 0, 0, 0) := rfl
theorem f7_11 : amFetch 7 11 = some (.iconst 0, 1, 0, 0, 0) := rfl
theorem f7_12 : amFetch 7 12 = some (.ireturn, 1, 0, 0, 0) := rfl
theorem f7_13 : amFetch 7 13 = some (.iconst 0, 1, 0, 0, 0) := rfl
theorem f7_14 : amFetch 7 14 = some (.istore_n 2, 1, 0, 0, 0) := rfl
theorem f7_15 : amFetch 7 15 = some (.iload_n 2, 1, 0, 0, 0) := rfl
theorem f7_16 : amFetch 7 16 = some (.aload_n 0, 1, 0, 0, 0) := rfl
theorem f7_17 : amFetch 7 17 = some (.getfield 18, 3, 0, 2, 0) := rfl
theorem f7_20 : amFetch 7 20 = some (.if_icmp .ge 41, 3, 0, 0, 0) := rfl
theorem f7_23 : amFetch 7 23 = some (.aload_n 0, 1, 0, 0, 0) := rfl
theorem f7_24 : amFetch 7 24 = some (.getfield 9, 3, 0, 0, 0) := rfl
theorem f7_27 : amFetch 7 27 = some (.iload_n 2, 1, 0, 0, 0) := rfl
theorem f7_28 : amFetch 7 28 = some (.iaload, 1, 0, 0, 0) := rfl
theorem f7_29 : amFetch 7 29 = some (.aload_n 1, 1, 0, 0, 0) := rfl
theorem f7_30 : amFetch 7 30 = some (.getfield 9, 3, 0, 0, 0) := rfl
theorem f7_33 : amFetch 7 33 = some (.iload_n 2, 1, 0, 0, 0) := rfl
theorem f7_34 : amFetch 7 34 = some (.iaload, 1, 0, 0, 0) := rfl
theorem f7_35 : amFetch 7 35 = some (.if_icmp .ne 18, 3, 0, 0, 0) := rfl
theorem f7_38 : amFetch 7 38 = some (.aload_n 0, 1, 0, 0, 0) := rfl
theorem f7_39 : amFetch 7 39 = some (.getfield 15, 3, 0, 1, 0) := rfl
theorem f7_42 : amFetch 7 42 = some (.iload_n 2, 1, 0, 0, 0) := rfl
theorem f7_43 : amFetch 7 43 = some (.iaload, 1, 0, 0, 0) := rfl
theorem f7_44 : amFetch 7 44 = some (.aload_n 1, 1, 0, 0, 0) := rfl
theorem f7_45 : amFetch 7 45 = some (.getfield 15, 3, 0, 1, 0) := rfl
theorem f7_48 : amFetch 7 48 = some (.iload_n 2, 1, 0, 0, 0) := rfl
theorem f7_49 : amFetch 7 49 = some (.iaload, 1, 0, 0, 0) := rfl
theorem f7_50 : amFetch 7 50 = some (.if_icmp .eq 5, 3, 0, 0, 0) := rfl
theorem f7_53 : amFetch 7 53 = some (.iconst 0, 1, 0, 0, 0) := rfl
theorem f7_54 : amFetch 7 54 = some (.ireturn, 1, 0, 0, 0) := rfl
theorem f7_55 : amFetch 7 55 = some (.iinc 2 1, 3, 0, 0, 0) := rfl
theorem f7_58 : amFetch 7 58 = some (.goto (-43), 3, 0, 0, 0) := rfl
theorem f7_61 : amFetch 7 61 = some (.iconst 1, 1, 0, 0, 0) := rfl
theorem f7_62 : amFetch 7 62 = some (.ireturn, 1, 0, 0, 0) := rfl
theorem ow7 : amOwnL 7 = some (0, 3) := rfl
-- X0_neededSlots
theorem f8_0 : amFetch 8 0 = some (.iconst 0, 1, 0, 0, 0) := rfl
theorem f8_1 : amFetch 8 1 = some (.istore_n 1, 1, 0, 0, 0) := rfl
theorem f8_2 : amFetch 8 2 = some (.iconst 0, 1, 0, 0, 0) := rfl
theorem f8_3 : amFetch 8 3 = some (.istore_n 2, 1, 0, 0, 0) := rfl
theorem f8_4 : amFetch 8 4 = some (.iload_n 2, 1, 0, 0, 0) := rfl
theorem f8_5 : amFetch 8 5 = some (.aload_n 0, 1, 0, 0, 0) := rfl
theorem f8_6 : amFetch 8 6 = some (.getfield 18, 3, 0, 2, 0) := rfl
theorem f8_9 : amFetch 8 9 = some (.if_icmp .ge 21, 3, 0, 0, 0) := rfl
theorem f8_12 : amFetch 8 12 = some (.iload_n 1, 1, 0, 0, 0) := rfl
theorem f8_13 : amFetch 8 13 = some (.aload_n 0, 1, 0, 0, 0) := rfl
theorem f8_14 : amFetch 8 14 = some (.getfield 15, 3, 0, 1, 0) := rfl
theorem f8_17 : amFetch 8 17 = some (.iload_n 2, 1, 0, 0, 0) := rfl
theorem f8_18 : amFetch 8 18 = some (.iaload, 1, 0, 0, 0) := rfl
theorem f8_19 : amFetch 8 19 = some (.invokestatic 42, 3, 2, 73, 1) := rfl
theorem f8_22 : amFetch 8 22 = some (.iadd, 1, 0, 0, 0) := rfl
theorem f8_23 : amFetch 8 23 = some (.istore_n 1, 1, 0, 0, 0) := rfl
theorem f8_24 : amFetch 8 24 = some (.iinc 2 1, 3, 0, 0, 0) := rfl
theorem f8_27 : amFetch 8 27 = some (.goto (-23), 3, 0, 0, 0) := rfl
theorem f8_30 : amFetch 8 30 = some (.iload_n 1, 1, 0, 0, 0) := rfl
theorem f8_31 : amFetch 8 31 = some (.ireturn, 1, 0, 0, 0) := rfl
theorem ow8 : amOwnL 8 = some (0, 3) := rfl
-- X1_init
theorem f9_0 : amFetch 9 0 = some (.aload_n 0, 1, 0, 0, 0) := rfl
theorem f9_1 : amFetch 9 1 = some (.invokespecial 3, 3, 6, 0, 0) := rfl
theorem f9_4 : amFetch 9 4 = some (.aload_n 0, 1, 0, 0, 0) := rfl
theorem f9_5 : amFetch 9 5 = some (.sipush 256, 3, 0, 0, 0) := rfl
theorem f9_8 : amFetch 9 8 = some (.newarray .int, 2, 0, 0, 0) := rfl
theorem f9_10 : amFetch 9 10 = some (.putfield 9, 3, 1, 0, 0) := rfl
theorem f9_13 : amFetch 9 13 = some (.aload_n 0, 1, 0, 0, 0) := rfl
theorem f9_14 : amFetch 9 14 = some (.sipush 256, 3, 0, 0, 0) := rfl
theorem f9_17 : amFetch 9 17 = some (.newarray .int, 2, 0, 0, 0) := rfl
theorem f9_19 : amFetch 9 19 = some (.putfield 15, 3, 1, 1, 0) := rfl
theorem f9_22 : amFetch 9 22 = some (.return_, 1, 0, 0, 0) := rfl
theorem ow9 : amOwnL 9 = some (1, 1) := rfl
-- X1_makeFrom
theorem f10_0 : amFetch 10 0 = some (.iconst 0, 1, 0, 0, 0) := rfl
theorem f10_1 : amFetch 10 1 = some (.istore_n 2, 1, 0, 0, 0) := rfl
theorem f10_2 : amFetch 10 2 = some (.iload_n 2, 1, 0, 0, 0) := rfl
theorem f10_3 : amFetch 10 3 = some (.sipush 256, 3, 0, 0, 0) := rfl
theorem f10_6 : amFetch 10 6 = some (.if_icmp .ge 16, 3, 0, 0, 0) := rfl
theorem f10_9 : amFetch 10 9 = some (.aload_n 0, 1, 0, 0, 0) := rfl
theorem f10_10 : amFetch 10 10 = some (.getfield 9, 3, 1, 0, 0) := rfl
theorem f10_13 : amFetch 10 13 = some (.iload_n 2, 1, 0, 0, 0) := rfl
theorem f10_14 : amFetch 10 14 = some (.iconst (-1), 1, 0, 0, 0) := rfl
theorem f10_15 : amFetch 10 15 = some (.iastore, 1, 0, 0, 0) := rfl
theorem f10_16 : amFetch 10 16 = some (.iinc 2 1, 3, 0, 0, 0) := rfl
theorem f10_19 : amFetch 10 19 = some (.goto (-17), 3, 0, 0, 0) := rfl
theorem f10_22 : amFetch 10 22 = some (.aload_n 1, 1, 0, 0, 0) := rfl
theorem f10_23 : amFetch 10 23 = some (.invokevirtual 18, 3, 0, 22, 0) := rfl
theorem f10_26 : amFetch 10 26 = some (.istore_n 2, 1, 0, 0, 0) := rfl
theorem f10_27 : amFetch 10 27 = some (.iload_n 2, 1, 0, 0, 0) := rfl
theorem f10_28 : amFetch 10 28 = some (.istore_n 3, 1, 0, 0, 0) := rfl
theorem f10_29 : amFetch 10 29 = some (.iconst 1, 1, 0, 0, 0) := rfl
theorem f10_30 : amFetch 10 30 = some (.istore 4, 2, 0, 0, 0) := rfl
theorem f10_32 : amFetch 10 32 = some (.iload 4, 2, 0, 0, 0) := rfl
theorem f10_34 : amFetch 10 34 = some (.aload_n 1, 1, 0, 0, 0) := rfl
theorem f10_35 : amFetch 10 35 = some (.invokevirtual 24, 3, 0, 14, 0) := rfl
theorem f10_38 : amFetch 10 38 = some (.if_icmp .ge 57, 3, 0, 0, 0) := rfl
theorem f10_41 : amFetch 10 41 = some (.aload_n 1, 1, 0, 0, 0) := rfl
theorem f10_42 : amFetch 10 42 = some (.iload_n 2, 1, 0, 0, 0) := rfl
theorem f10_43 : amFetch 10 43 = some (.iload 4, 2, 0, 0, 0) := rfl
theorem f10_45 : amFetch 10 45 = some (.iadd, 1, 0, 0, 0) := rfl
theorem f10_46 : amFetch 10 46 = some (.invokevirtual 27, 3, 0, 16, 1) := rfl
theorem f10_49 : amFetch 10 49 = some (.istore 5, 2, 0, 0, 0) := rfl
theorem f10_51 : amFetch 10 51 = some (.aload_n 1, 1, 0, 0, 0) := rfl
theorem f10_52 : amFetch 10 52 = some (.iload 5, 2, 0, 0, 0) := rfl
theorem f10_54 : amFetch 10 54 = some (.invokevirtual 31, 3, 0, 15, 1) := rfl
theorem f10_57 : amFetch 10 57 = some (.ifCond .ne 32, 3, 0, 0, 0) := rfl
theorem f10_60 : amFetch 10 60 = some (.aload_n 1, 1, 0, 0, 0) := rfl
theorem f10_61 : amFetch 10 61 = some (.iload 5, 2, 0, 0, 0) := rfl
theorem f10_63 : amFetch 10 63 = some (.iload_n 3, 1, 0, 0, 0) := rfl
theorem f10_64 : amFetch 10 64 = some (.invokestatic 35, 3, 1, 11, 3) := rfl
theorem f10_67 : amFetch 10 67 = some (.istore_n 3, 1, 0, 0, 0) := rfl
theorem f10_68 : amFetch 10 68 = some (.aload_n 0, 1, 0, 0, 0) := rfl
theorem f10_69 : amFetch 10 69 = some (.getfield 15, 3, 1, 1, 0) := rfl
theorem f10_72 : amFetch 10 72 = some (.iload 5, 2, 0, 0, 0) := rfl
theorem f10_74 : amFetch 10 74 = some (.aload_n 0, 1, 0, 0, 0) := rfl
theorem f10_75 : amFetch 10 75 = some (.getfield 9, 3, 1, 0, 0) := rfl
theorem f10_78 : amFetch 10 78 = some (.iload_n 3, 1, 0, 0, 0) := rfl
theorem f10_79 : amFetch 10 79 = some (.iaload, 1, 0, 0, 0) := rfl
theorem f10_80 : amFetch 10 80 = some (.iastore, 1, 0, 0, 0) := rfl
theorem f10_81 : amFetch 10 81 = some (.aload_n 0, 1, 0, 0, 0) := rfl
theorem f10_82 : amFetch 10 82 = some (.getfield 9, 3, 1, 0, 0) := rfl
theorem f10_85 : amFetch 10 85 = some (.iload_n 3, 1, 0, 0, 0) := rfl
theorem f10_86 : amFetch 10 86 = some (.iload 5, 2, 0, 0, 0) := rfl
theorem f10_88 : amFetch 10 88 = some (.iastore, 1, 0, 0, 0) := rfl
theorem f10_89 : amFetch 10 89 = some (.iinc 4 1, 3, 0, 0, 0) := rfl
theorem f10_92 : amFetch 10 92 = some (.goto (-60), 3, 0, 0, 0) := rfl
theorem f10_95 : amFetch 10 95 = some (.return_, 1, 0, 0, 0) := rfl
theorem ow10 : amOwnL 10 = some (1, 6) := rfl
-- X1_quotientHere
theorem f11_0 : amFetch 11 0 = some (.aload_n 0, 1, 0, 0, 0) := rfl
theorem f11_1 : amFetch 11 1 = some (.getfield 39, 3, 2, 4, 0) := rfl
theorem f11_4 : amFetch 11 4 = some (.iload_n 1, 1, 0, 0, 0) := rfl
theorem f11_5 : amFetch 11 5 = some (.baload, 1, 0, 0, 0) := rfl
theorem f11_6 : amFetch 11 6 = some (.ifCond .ne 5, 3, 0, 0, 0) := rfl
theorem f11_9 : amFetch 11 9 = some (.iload_n 1, 1, 0, 0, 0) := rfl
theorem f11_10 : amFetch 11 10 = some (.ireturn, 1, 0, 0, 0) := rfl
theorem f11_11 : amFetch 11 11 = some (.aload_n 0, 1, 0, 0, 0) := rfl
theorem f11_12 : amFetch 11 12 = some (.getfield 43, 3, 2, 3, 0) := rfl
theorem f11_15 : amFetch 11 15 = some (.iload_n 1, 1, 0, 0, 0) := rfl
theorem f11_16 : amFetch 11 16 = some (.baload, 1, 0, 0, 0) := rfl
theorem f11_17 : amFetch 11 17 = some (.ifCond .eq 7, 3, 0, 0, 0) := rfl
theorem f11_20 : amFetch 11 20 = some (.iload_n 2, 1, 0, 0, 0) := rfl
theorem f11_21 : amFetch 11 21 = some (.goto 8, 3, 0, 0, 0) := rfl
theorem f11_24 : amFetch 11 24 = some (.aload_n 0, 1, 0, 0, 0) := rfl
theorem f11_25 : amFetch 11 25 = some (.iload_n 2, 1, 0, 0, 0) := rfl
theorem f11_26 : amFetch 11 26 = some (.invokevirtual 46, 3, 0, 23, 1) := rfl
theorem f11_29 : amFetch 11 29 = some (.ireturn, 1, 0, 0, 0) := rfl
theorem ow11 : amOwnL 11 = some (1, 3) := rfl
-- X1_sumFor
theorem f12_0 : amFetch 12 0 = some (.aload_n 1, 1, 0, 0, 0) := rfl
theorem f12_1 : amFetch 12 1 = some (.iload_n 2, 1, 0, 0, 0) := rfl
theorem f12_2 : amFetch 12 2 = some (.invokevirtual 49, 3, 0, 18, 1) := rfl
theorem f12_5 : amFetch 12 5 = some (.istore_n 3, 1, 0, 0, 0) := rfl
theorem f12_6 : amFetch 12 6 = some (.aload_n 0, 1, 0, 0, 0) := rfl
theorem f12_7 : amFetch 12 7 = some (.getfield 9, 3, 1, 0, 0) := rfl
theorem f12_10 : amFetch 12 10 = some (.aload_n 1, 1, 0, 0, 0) := rfl
theorem f12_11 : amFetch 12 11 = some (.iload_n 2, 1, 0, 0, 0) := rfl
theorem f12_12 : amFetch 12 12 = some (.invokevirtual 52, 3, 0, 17, 1) := rfl
theorem f12_15 : amFetch 12 15 = some (.iaload, 1, 0, 0, 0) := rfl
theorem f12_16 : amFetch 12 16 = some (.istore 4, 2, 0, 0, 0) := rfl
theorem f12_18 : amFetch 12 18 = some (.iconst 0, 1, 0, 0, 0) := rfl
theorem f12_19 : amFetch 12 19 = some (.istore 5, 2, 0, 0, 0) := rfl
theorem f12_21 : amFetch 12 21 = some (.iconst 0, 1, 0, 0, 0) := rfl
theorem f12_22 : amFetch 12 22 = some (.istore 6, 2, 0, 0, 0) := rfl
theorem f12_24 : amFetch 12 24 = some (.iload 6, 2, 0, 0, 0) := rfl
theorem f12_26 : amFetch 12 26 = some (.sipush 256, 3, 0, 0, 0) := rfl
theorem f12_29 : amFetch 12 29 = some (.if_icmp .ge 51, 3, 0, 0, 0) := rfl
theorem f12_32 : amFetch 12 32 = some (.iload 4, 2, 0, 0, 0) := rfl
theorem f12_34 : amFetch 12 34 = some (.iconst (-1), 1, 0, 0, 0) := rfl
theorem f12_35 : amFetch 12 35 = some (.if_icmp .eq 45, 3, 0, 0, 0) := rfl
theorem f12_38 : amFetch 12 38 = some (.iload 5, 2, 0, 0, 0) := rfl
theorem f12_40 : amFetch 12 40 = some (.aload_n 1, 1, 0, 0, 0) := rfl
theorem f12_41 : amFetch 12 41 = some (.getfield 55, 3, 2, 0, 0) := rfl
theorem f12_44 : amFetch 12 44 = some (.iload 4, 2, 0, 0, 0) := rfl
theorem f12_46 : amFetch 12 46 = some (.iaload, 1, 0, 0, 0) := rfl
theorem f12_47 : amFetch 12 47 = some (.iload_n 3, 1, 0, 0, 0) := rfl
theorem f12_48 : amFetch 12 48 = some (.if_icmp .ne 13, 3, 0, 0, 0) := rfl
theorem f12_51 : amFetch 12 51 = some (.aload_n 1, 1, 0, 0, 0) := rfl
theorem f12_52 : amFetch 12 52 = some (.getfield 58, 3, 2, 1, 0) := rfl
theorem f12_55 : amFetch 12 55 = some (.iload 4, 2, 0, 0, 0) := rfl
theorem f12_57 : amFetch 12 57 = some (.iaload, 1, 0, 0, 0) := rfl
theorem f12_58 : amFetch 12 58 = some (.goto 4, 3, 0, 0, 0) := rfl
theorem f12_61 : amFetch 12 61 = some (.iconst 0, 1, 0, 0, 0) := rfl
theorem f12_62 : amFetch 12 62 = some (.iadd, 1, 0, 0, 0) := rfl
theorem f12_63 : amFetch 12 63 = some (.istore 5, 2, 0, 0, 0) := rfl
theorem f12_65 : amFetch 12 65 = some (.aload_n 0, 1, 0, 0, 0) := rfl
theorem f12_66 : amFetch 12 66 = some (.getfield 15, 3, 1, 1, 0) := rfl
theorem f12_69 : amFetch 12 69 = some (.iload 4, 2, 0, 0, 0) := rfl
theorem f12_71 : amFetch 12 71 = some (.iaload, 1, 0, 0, 0) := rfl
theorem f12_72 : amFetch 12 72 = some (.istore 4, 2, 0, 0, 0) := rfl
theorem f12_74 : amFetch 12 74 = some (.iinc 6 1, 3, 0, 0, 0) := rfl
theorem f12_77 : amFetch 12 77 = some (.goto (-53), 3, 0, 0, 0) := rfl
theorem f12_80 : amFetch 12 80 = some (.iload 5, 2, 0, 0, 0) := rfl
theorem f12_82 : amFetch 12 82 = some (.ireturn, 1, 0, 0, 0) := rfl
theorem ow12 : amOwnL 12 = some (1, 7) := rfl
-- X2_init
theorem f13_0 : amFetch 13 0 = some (.aload_n 0, 1, 0, 0, 0) := rfl
theorem f13_1 : amFetch 13 1 = some (.invokespecial 3, 3, 6, 0, 0) := rfl
theorem f13_4 : amFetch 13 4 = some (.aload_n 0, 1, 0, 0, 0) := rfl
theorem f13_5 : amFetch 13 5 = some (.sipush 256, 3, 0, 0, 0) := rfl
theorem f13_8 : amFetch 13 8 = some (.newarray .int, 2, 0, 0, 0) := rfl
theorem f13_10 : amFetch 13 10 = some (.putfield 9, 3, 2, 0, 0) := rfl
theorem f13_13 : amFetch 13 13 = some (.aload_n 0, 1, 0, 0, 0) := rfl
theorem f13_14 : amFetch 13 14 = some (.sipush 256, 3, 0, 0, 0) := rfl
theorem f13_17 : amFetch 13 17 = some (.newarray .int, 2, 0, 0, 0) := rfl
theorem f13_19 : amFetch 13 19 = some (.putfield 15, 3, 2, 1, 0) := rfl
theorem f13_22 : amFetch 13 22 = some (.aload_n 0, 1, 0, 0, 0) := rfl
theorem f13_23 : amFetch 13 23 = some (.sipush 256, 3, 0, 0, 0) := rfl
theorem f13_26 : amFetch 13 26 = some (.newarray .boolean, 2, 0, 0, 0) := rfl
theorem f13_28 : amFetch 13 28 = some (.putfield 18, 3, 2, 2, 0) := rfl
theorem f13_31 : amFetch 13 31 = some (.aload_n 0, 1, 0, 0, 0) := rfl
theorem f13_32 : amFetch 13 32 = some (.sipush 256, 3, 0, 0, 0) := rfl
theorem f13_35 : amFetch 13 35 = some (.newarray .boolean, 2, 0, 0, 0) := rfl
theorem f13_37 : amFetch 13 37 = some (.putfield 22, 3, 2, 3, 0) := rfl
theorem f13_40 : amFetch 13 40 = some (.aload_n 0, 1, 0, 0, 0) := rfl
theorem f13_41 : amFetch 13 41 = some (.sipush 256, 3, 0, 0, 0) := rfl
theorem f13_44 : amFetch 13 44 = some (.newarray .boolean, 2, 0, 0, 0) := rfl
theorem f13_46 : amFetch 13 46 = some (.putfield 25, 3, 2, 4, 0) := rfl
theorem f13_49 : amFetch 13 49 = some (.aload_n 0, 1, 0, 0, 0) := rfl
theorem f13_50 : amFetch 13 50 = some (.iconst 3, 1, 0, 0, 0) := rfl
theorem f13_51 : amFetch 13 51 = some (.putfield 28, 3, 2, 5, 0) := rfl
theorem f13_54 : amFetch 13 54 = some (.return_, 1, 0, 0, 0) := rfl
theorem ow13 : amOwnL 13 = some (2, 1) := rfl
-- X2_allSlots
theorem f14_0 : amFetch 14 0 = some (.iconst 1, 1, 0, 0, 0) := rfl
theorem f14_1 : amFetch 14 1 = some (.aload_n 0, 1, 0, 0, 0) := rfl
theorem f14_2 : amFetch 14 2 = some (.getfield 28, 3, 2, 5, 0) := rfl
theorem f14_5 : amFetch 14 5 = some (.ishl, 1, 0, 0, 0) := rfl
theorem f14_6 : amFetch 14 6 = some (.ireturn, 1, 0, 0, 0) := rfl
theorem ow14 : amOwnL 14 = some (2, 1) := rfl
-- X2_isEmpty
theorem f15_0 : amFetch 15 0 = some (.aload_n 0, 1, 0, 0, 0) := rfl
theorem f15_1 : amFetch 15 1 = some (.getfield 15, 3, 2, 1, 0) := rfl
theorem f15_4 : amFetch 15 4 = some (.iload_n 1, 1, 0, 0, 0) := rfl
theorem f15_5 : amFetch 15 5 = some (.iaload, 1, 0, 0, 0) := rfl
theorem f15_6 : amFetch 15 6 = some (.ifCond .ne 7, 3, 0, 0, 0) := rfl
theorem f15_9 : amFetch 15 9 = some (.iconst 1, 1, 0, 0, 0) := rfl
theorem f15_10 : amFetch 15 10 = some (.goto 4, 3, 0, 0, 0) := rfl
theorem f15_13 : amFetch 15 13 = some (.iconst 0, 1, 0, 0, 0) := rfl
theorem f15_14 : amFetch 15 14 = some (.ireturn, 1, 0, 0, 0) := rfl
theorem ow15 : amOwnL 15 = some (2, 2) := rfl
-- X2_wrap
theorem f16_0 : amFetch 16 0 = some (.iload_n 1, 1, 0, 0, 0) := rfl
theorem f16_1 : amFetch 16 1 = some (.aload_n 0, 1, 0, 0, 0) := rfl
theorem f16_2 : amFetch 16 2 = some (.invokevirtual 32, 3, 0, 14, 0) := rfl
theorem f16_5 : amFetch 16 5 = some (.iconst 1, 1, 0, 0, 0) := rfl
theorem f16_6 : amFetch 16 6 = some (.isub, 1, 0, 0, 0) := rfl
theorem f16_7 : amFetch 16 7 = some (.iand, 1, 0, 0, 0) := rfl
theorem f16_8 : amFetch 16 8 = some (.ireturn, 1, 0, 0, 0) := rfl
theorem ow16 : amOwnL 16 = some (2, 2) := rfl
-- X2_quotientOf
theorem f17_0 : amFetch 17 0 = some (.iload_n 1, 1, 0, 0, 0) := rfl
theorem f17_1 : amFetch 17 1 = some (.bipush 12, 2, 0, 0, 0) := rfl
theorem f17_3 : amFetch 17 3 = some (.aload_n 0, 1, 0, 0, 0) := rfl
theorem f17_4 : amFetch 17 4 = some (.getfield 28, 3, 2, 5, 0) := rfl
theorem f17_7 : amFetch 17 7 = some (.isub, 1, 0, 0, 0) := rfl
theorem f17_8 : amFetch 17 8 = some (.ishr, 1, 0, 0, 0) := rfl
theorem f17_9 : amFetch 17 9 = some (.ireturn, 1, 0, 0, 0) := rfl
theorem ow17 : amOwnL 17 = some (2, 2) := rfl
-- X2_remainderOf
theorem f18_0 : amFetch 18 0 = some (.iload_n 1, 1, 0, 0, 0) := rfl
theorem f18_1 : amFetch 18 1 = some (.iconst 1, 1, 0, 0, 0) := rfl
theorem f18_2 : amFetch 18 2 = some (.bipush 12, 2, 0, 0, 0) := rfl
theorem f18_4 : amFetch 18 4 = some (.aload_n 0, 1, 0, 0, 0) := rfl
theorem f18_5 : amFetch 18 5 = some (.getfield 28, 3, 2, 5, 0) := rfl
theorem f18_8 : amFetch 18 8 = some (.isub, 1, 0, 0, 0) := rfl
theorem f18_9 : amFetch 18 9 = some (.ishl, 1, 0, 0, 0) := rfl
theorem f18_10 : amFetch 18 10 = some (.iconst 1, 1, 0, 0, 0) := rfl
theorem f18_11 : amFetch 18 11 = some (.isub, 1, 0, 0, 0) := rfl
theorem f18_12 : amFetch 18 12 = some (.iand, 1, 0, 0, 0) := rfl
theorem f18_13 : amFetch 18 13 = some (.ireturn, 1, 0, 0, 0) := rfl
theorem ow18 : amOwnL 18 = some (2, 2) := rfl
-- X2_fingerprintOf
theorem f19_0 : amFetch 19 0 = some (.iload_n 1, 1, 0, 0, 0) := rfl
theorem f19_1 : amFetch 19 1 = some (.bipush 12, 2, 0, 0, 0) := rfl
theorem f19_3 : amFetch 19 3 = some (.aload_n 0, 1, 0, 0, 0) := rfl
theorem f19_4 : amFetch 19 4 = some (.getfield 28, 3, 2, 5, 0) := rfl
theorem f19_7 : amFetch 19 7 = some (.isub, 1, 0, 0, 0) := rfl
theorem f19_8 : amFetch 19 8 = some (.ishl, 1, 0, 0, 0) := rfl
theorem f19_9 : amFetch 19 9 = some (.iload_n 2, 1, 0, 0, 0) := rfl
theorem f19_10 : amFetch 19 10 = some (.ior, 1, 0, 0, 0) := rfl
theorem f19_11 : amFetch 19 11 = some (.ireturn, 1, 0, 0, 0) := rfl
theorem ow19 : amOwnL 19 = some (2, 3) := rfl
-- X2_usedSlots
theorem f20_0 : amFetch 20 0 = some (.iconst 0, 1, 0, 0, 0) := rfl
theorem f20_1 : amFetch 20 1 = some (.istore_n 1, 1, 0, 0, 0) := rfl
theorem f20_2 : amFetch 20 2 = some (.iconst 0, 1, 0, 0, 0) := rfl
theorem f20_3 : amFetch 20 3 = some (.istore_n 2, 1, 0, 0, 0) := rfl
theorem f20_4 : amFetch 20 4 = some (.iload_n 2, 1, 0, 0, 0) := rfl
theorem f20_5 : amFetch 20 5 = some (.aload_n 0, 1, 0, 0, 0) := rfl
theorem f20_6 : amFetch 20 6 = some (.invokevirtual 32, 3, 0, 14, 0) := rfl
theorem f20_9 : amFetch 20 9 = some (.if_icmp .ge 25, 3, 0, 0, 0) := rfl
theorem f20_12 : amFetch 20 12 = some (.iload_n 1, 1, 0, 0, 0) := rfl
theorem f20_13 : amFetch 20 13 = some (.aload_n 0, 1, 0, 0, 0) := rfl
theorem f20_14 : amFetch 20 14 = some (.iload_n 2, 1, 0, 0, 0) := rfl
theorem f20_15 : amFetch 20 15 = some (.invokevirtual 36, 3, 0, 15, 1) := rfl
theorem f20_18 : amFetch 20 18 = some (.ifCond .eq 7, 3, 0, 0, 0) := rfl
theorem f20_21 : amFetch 20 21 = some (.iconst 0, 1, 0, 0, 0) := rfl
theorem f20_22 : amFetch 20 22 = some (.goto 4, 3, 0, 0, 0) := rfl
theorem f20_25 : amFetch 20 25 = some (.iconst 1, 1, 0, 0, 0) := rfl
theorem f20_26 : amFetch 20 26 = some (.iadd, 1, 0, 0, 0) := rfl
theorem f20_27 : amFetch 20 27 = some (.istore_n 1, 1, 0, 0, 0) := rfl
theorem f20_28 : amFetch 20 28 = some (.iinc 2 1, 3, 0, 0, 0) := rfl
theorem f20_31 : amFetch 20 31 = some (.goto (-27), 3, 0, 0, 0) := rfl
theorem f20_34 : amFetch 20 34 = some (.iload_n 1, 1, 0, 0, 0) := rfl
theorem f20_35 : amFetch 20 35 = some (.ireturn, 1, 0, 0, 0) := rfl
theorem ow20 : amOwnL 20 = some (2, 3) := rfl
-- X2_sumOfCounters
theorem f21_0 : amFetch 21 0 = some (.iconst 0, 1, 0, 0, 0) := rfl
theorem f21_1 : amFetch 21 1 = some (.istore_n 1, 1, 0, 0, 0) := rfl
theorem f21_2 : amFetch 21 2 = some (.iconst 0, 1, 0, 0, 0) := rfl
theorem f21_3 : amFetch 21 3 = some (.istore_n 2, 1, 0, 0, 0) := rfl
theorem f21_4 : amFetch 21 4 = some (.iload_n 2, 1, 0, 0, 0) := rfl
theorem f21_5 : amFetch 21 5 = some (.aload_n 0, 1, 0, 0, 0) := rfl
theorem f21_6 : amFetch 21 6 = some (.invokevirtual 32, 3, 0, 14, 0) := rfl
theorem f21_9 : amFetch 21 9 = some (.if_icmp .ge 18, 3, 0, 0, 0) := rfl
theorem f21_12 : amFetch 21 12 = some (.iload_n 1, 1, 0, 0, 0) := rfl
theorem f21_13 : amFetch 21 13 = some (.aload_n 0, 1, 0, 0, 0) := rfl
theorem f21_14 : amFetch 21 14 = some (.getfield 15, 3, 2, 1, 0) := rfl
theorem f21_17 : amFetch 21 17 = some (.iload_n 2, 1, 0, 0, 0) := rfl
theorem f21_18 : amFetch 21 18 = some (.iaload, 1, 0, 0, 0) := rfl
theorem f21_19 : amFetch 21 19 = some (.iadd, 1, 0, 0, 0) := rfl
theorem f21_20 : amFetch 21 20 = some (.istore_n 1, 1, 0, 0, 0) := rfl
theorem f21_21 : amFetch 21 21 = some (.iinc 2 1, 3, 0, 0, 0) := rfl
theorem f21_24 : amFetch 21 24 = some (.goto (-20), 3, 0, 0, 0) := rfl
theorem f21_27 : amFetch 21 27 = some (.iload_n 1, 1, 0, 0, 0) := rfl
theorem f21_28 : amFetch 21 28 = some (.ireturn, 1, 0, 0, 0) := rfl
theorem ow21 : amOwnL 21 = some (2, 3) := rfl
-- X2_someEmptySlot
theorem f22_0 : amFetch 22 0 = some (.iconst 0, 1, 0, 0, 0) := rfl
theorem f22_1 : amFetch 22 1 = some (.istore_n 1, 1, 0, 0, 0) := rfl
theorem f22_2 : amFetch 22 2 = some (.iload_n 1, 1, 0, 0, 0) := rfl
theorem f22_3 : amFetch 22 3 = some (.aload_n 0, 1, 0, 0, 0) := rfl
theorem f22_4 : amFetch 22 4 = some (.invokevirtual 32, 3, 0, 14, 0) := rfl
theorem f22_7 : amFetch 22 7 = some (.iconst 1, 1, 0, 0, 0) := rfl
theorem f22_8 : amFetch 22 8 = some (.isub, 1, 0, 0, 0) := rfl
theorem f22_9 : amFetch 22 9 = some (.if_icmp .ge 17, 3, 0, 0, 0) := rfl
theorem f22_12 : amFetch 22 12 = some (.aload_n 0, 1, 0, 0, 0) := rfl
theorem f22_13 : amFetch 22 13 = some (.iload_n 1, 1, 0, 0, 0) := rfl
theorem f22_14 : amFetch 22 14 = some (.invokevirtual 36, 3, 0, 15, 1) := rfl
theorem f22_17 : amFetch 22 17 = some (.ifCond .ne 9, 3, 0, 0, 0) := rfl
theorem f22_20 : amFetch 22 20 = some (.iinc 1 1, 3, 0, 0, 0) := rfl
theorem f22_23 : amFetch 22 23 = some (.goto (-21), 3, 0, 0, 0) := rfl
theorem f22_26 : amFetch 22 26 = some (.iload_n 1, 1, 0, 0, 0) := rfl
theorem f22_27 : amFetch 22 27 = some (.ireturn, 1, 0, 0, 0) := rfl
theorem ow22 : amOwnL 22 = some (2, 2) := rfl
-- X2_occupiedAfter
theorem f23_0 : amFetch 23 0 = some (.iconst 1, 1, 0, 0, 0) := rfl
theorem f23_1 : amFetch 23 1 = some (.istore_n 2, 1, 0, 0, 0) := rfl
theorem f23_2 : amFetch 23 2 = some (.iload_n 2, 1, 0, 0, 0) := rfl
theorem f23_3 : amFetch 23 3 = some (.aload_n 0, 1, 0, 0, 0) := rfl
theorem f23_4 : amFetch 23 4 = some (.invokevirtual 32, 3, 0, 14, 0) := rfl
theorem f23_7 : amFetch 23 7 = some (.if_icmp .ge 28, 3, 0, 0, 0) := rfl
theorem f23_10 : amFetch 23 10 = some (.aload_n 0, 1, 0, 0, 0) := rfl
theorem f23_11 : amFetch 23 11 = some (.iload_n 1, 1, 0, 0, 0) := rfl
theorem f23_12 : amFetch 23 12 = some (.iload_n 2, 1, 0, 0, 0) := rfl
theorem f23_13 : amFetch 23 13 = some (.iadd, 1, 0, 0, 0) := rfl
theorem f23_14 : amFetch 23 14 = some (.invokevirtual 40, 3, 0, 16, 1) := rfl
theorem f23_17 : amFetch 23 17 = some (.istore_n 3, 1, 0, 0, 0) := rfl
theorem f23_18 : amFetch 23 18 = some (.aload_n 0, 1, 0, 0, 0) := rfl
theorem f23_19 : amFetch 23 19 = some (.getfield 18, 3, 2, 2, 0) := rfl
theorem f23_22 : amFetch 23 22 = some (.iload_n 3, 1, 0, 0, 0) := rfl
theorem f23_23 : amFetch 23 23 = some (.baload, 1, 0, 0, 0) := rfl
theorem f23_24 : amFetch 23 24 = some (.ifCond .eq 5, 3, 0, 0, 0) := rfl
theorem f23_27 : amFetch 23 27 = some (.iload_n 3, 1, 0, 0, 0) := rfl
theorem f23_28 : amFetch 23 28 = some (.ireturn, 1, 0, 0, 0) := rfl
theorem f23_29 : amFetch 23 29 = some (.iinc 2 1, 3, 0, 0, 0) := rfl
theorem f23_32 : amFetch 23 32 = some (.goto (-30), 3, 0, 0, 0) := rfl
theorem f23_35 : amFetch 23 35 = some (.iload_n 1, 1, 0, 0, 0) := rfl
theorem f23_36 : amFetch 23 36 = some (.ireturn, 1, 0, 0, 0) := rfl
theorem ow23 : amOwnL 23 = some (2, 4) := rfl
-- X2_firstOfCluster
theorem f24_0 : amFetch 24 0 = some (.iload_n 1, 1, 0, 0, 0) := rfl
theorem f24_1 : amFetch 24 1 = some (.istore_n 2, 1, 0, 0, 0) := rfl
theorem f24_2 : amFetch 24 2 = some (.iconst 0, 1, 0, 0, 0) := rfl
theorem f24_3 : amFetch 24 3 = some (.istore_n 3, 1, 0, 0, 0) := rfl
theorem f24_4 : amFetch 24 4 = some (.iload_n 3, 1, 0, 0, 0) := rfl
theorem f24_5 : amFetch 24 5 = some (.aload_n 0, 1, 0, 0, 0) := rfl
theorem f24_6 : amFetch 24 6 = some (.invokevirtual 32, 3, 0, 14, 0) := rfl
theorem f24_9 : amFetch 24 9 = some (.if_icmp .ge 26, 3, 0, 0, 0) := rfl
theorem f24_12 : amFetch 24 12 = some (.aload_n 0, 1, 0, 0, 0) := rfl
theorem f24_13 : amFetch 24 13 = some (.getfield 25, 3, 2, 4, 0) := rfl
theorem f24_16 : amFetch 24 16 = some (.iload_n 2, 1, 0, 0, 0) := rfl
theorem f24_17 : amFetch 24 17 = some (.baload, 1, 0, 0, 0) := rfl
theorem f24_18 : amFetch 24 18 = some (.ifCond .eq 17, 3, 0, 0, 0) := rfl
theorem f24_21 : amFetch 24 21 = some (.aload_n 0, 1, 0, 0, 0) := rfl
theorem f24_22 : amFetch 24 22 = some (.iload_n 2, 1, 0, 0, 0) := rfl
theorem f24_23 : amFetch 24 23 = some (.iconst 1, 1, 0, 0, 0) := rfl
theorem f24_24 : amFetch 24 24 = some (.isub, 1, 0, 0, 0) := rfl
theorem f24_25 : amFetch 24 25 = some (.invokevirtual 40, 3, 0, 16, 1) := rfl
theorem f24_28 : amFetch 24 28 = some (.istore_n 2, 1, 0, 0, 0) := rfl
theorem f24_29 : amFetch 24 29 = some (.iinc 3 1, 3, 0, 0, 0) := rfl
theorem f24_32 : amFetch 24 32 = some (.goto (-28), 3, 0, 0, 0) := rfl
theorem f24_35 : amFetch 24 35 = some (.iload_n 2, 1, 0, 0, 0) := rfl
theorem f24_36 : amFetch 24 36 = some (.ireturn, 1, 0, 0, 0) := rfl
theorem ow24 : amOwnL 24 = some (2, 4) := rfl
-- X2_firstOfRun
theorem f25_0 : amFetch 25 0 = some (.aload_n 0, 1, 0, 0, 0) := rfl
theorem f25_1 : amFetch 25 1 = some (.getfield 18, 3, 2, 2, 0) := rfl
theorem f25_4 : amFetch 25 4 = some (.iload_n 1, 1, 0, 0, 0) := rfl
theorem f25_5 : amFetch 25 5 = some (.baload, 1, 0, 0, 0) := rfl
theorem f25_6 : amFetch 25 6 = some (.ifCond .ne 5, 3, 0, 0, 0) := rfl
theorem f25_9 : amFetch 25 9 = some (.iconst (-1), 1, 0, 0, 0) := rfl
theorem f25_10 : amFetch 25 10 = some (.ireturn, 1, 0, 0, 0) := rfl
theorem f25_11 : amFetch 25 11 = some (.aload_n 0, 1, 0, 0, 0) := rfl
theorem f25_12 : amFetch 25 12 = some (.iload_n 1, 1, 0, 0, 0) := rfl
theorem f25_13 : amFetch 25 13 = some (.invokevirtual 44, 3, 0, 24, 1) := rfl
theorem f25_16 : amFetch 25 16 = some (.istore_n 2, 1, 0, 0, 0) := rfl
theorem f25_17 : amFetch 25 17 = some (.iload_n 2, 1, 0, 0, 0) := rfl
theorem f25_18 : amFetch 25 18 = some (.istore_n 3, 1, 0, 0, 0) := rfl
theorem f25_19 : amFetch 25 19 = some (.iconst 0, 1, 0, 0, 0) := rfl
theorem f25_20 : amFetch 25 20 = some (.istore 4, 2, 0, 0, 0) := rfl
theorem f25_22 : amFetch 25 22 = some (.iload 4, 2, 0, 0, 0) := rfl
theorem f25_24 : amFetch 25 24 = some (.aload_n 0, 1, 0, 0, 0) := rfl
theorem f25_25 : amFetch 25 25 = some (.invokevirtual 32, 3, 0, 14, 0) := rfl
theorem f25_28 : amFetch 25 28 = some (.if_icmp .ge 32, 3, 0, 0, 0) := rfl
theorem f25_31 : amFetch 25 31 = some (.iload_n 3, 1, 0, 0, 0) := rfl
theorem f25_32 : amFetch 25 32 = some (.iload_n 1, 1, 0, 0, 0) := rfl
theorem f25_33 : amFetch 25 33 = some (.if_icmp .eq 27, 3, 0, 0, 0) := rfl
theorem f25_36 : amFetch 25 36 = some (.aload_n 0, 1, 0, 0, 0) := rfl
theorem f25_37 : amFetch 25 37 = some (.iload_n 2, 1, 0, 0, 0) := rfl
theorem f25_38 : amFetch 25 38 = some (.aload_n 0, 1, 0, 0, 0) := rfl
theorem f25_39 : amFetch 25 39 = some (.iload_n 2, 1, 0, 0, 0) := rfl
theorem f25_40 : amFetch 25 40 = some (.invokevirtual 47, 3, 0, 26, 1) := rfl
theorem f25_43 : amFetch 25 43 = some (.iadd, 1, 0, 0, 0) := rfl
theorem f25_44 : amFetch 25 44 = some (.invokevirtual 40, 3, 0, 16, 1) := rfl
theorem f25_47 : amFetch 25 47 = some (.istore_n 2, 1, 0, 0, 0) := rfl
theorem f25_48 : amFetch 25 48 = some (.aload_n 0, 1, 0, 0, 0) := rfl
theorem f25_49 : amFetch 25 49 = some (.iload_n 3, 1, 0, 0, 0) := rfl
theorem f25_50 : amFetch 25 50 = some (.invokevirtual 50, 3, 0, 23, 1) := rfl
theorem f25_53 : amFetch 25 53 = some (.istore_n 3, 1, 0, 0, 0) := rfl
theorem f25_54 : amFetch 25 54 = some (.iinc 4 1, 3, 0, 0, 0) := rfl
theorem f25_57 : amFetch 25 57 = some (.goto (-35), 3, 0, 0, 0) := rfl
theorem f25_60 : amFetch 25 60 = some (.iload_n 2, 1, 0, 0, 0) := rfl
theorem f25_61 : amFetch 25 61 = some (.ireturn, 1, 0, 0, 0) := rfl
theorem ow25 : amOwnL 25 = some (2, 5) := rfl
-- X2_lengthOfRun
theorem f26_0 : amFetch 26 0 = some (.iconst 1, 1, 0, 0, 0) := rfl
theorem f26_1 : amFetch 26 1 = some (.istore_n 2, 1, 0, 0, 0) := rfl
theorem f26_2 : amFetch 26 2 = some (.iload_n 2, 1, 0, 0, 0) := rfl
theorem f26_3 : amFetch 26 3 = some (.aload_n 0, 1, 0, 0, 0) := rfl
theorem f26_4 : amFetch 26 4 = some (.invokevirtual 32, 3, 0, 14, 0) := rfl
theorem f26_7 : amFetch 26 7 = some (.if_icmp .ge 24, 3, 0, 0, 0) := rfl
theorem f26_10 : amFetch 26 10 = some (.aload_n 0, 1, 0, 0, 0) := rfl
theorem f26_11 : amFetch 26 11 = some (.getfield 22, 3, 2, 3, 0) := rfl
theorem f26_14 : amFetch 26 14 = some (.aload_n 0, 1, 0, 0, 0) := rfl
theorem f26_15 : amFetch 26 15 = some (.iload_n 1, 1, 0, 0, 0) := rfl
theorem f26_16 : amFetch 26 16 = some (.iload_n 2, 1, 0, 0, 0) := rfl
theorem f26_17 : amFetch 26 17 = some (.iadd, 1, 0, 0, 0) := rfl
theorem f26_18 : amFetch 26 18 = some (.invokevirtual 40, 3, 0, 16, 1) := rfl
theorem f26_21 : amFetch 26 21 = some (.baload, 1, 0, 0, 0) := rfl
theorem f26_22 : amFetch 26 22 = some (.ifCond .eq 9, 3, 0, 0, 0) := rfl
theorem f26_25 : amFetch 26 25 = some (.iinc 2 1, 3, 0, 0, 0) := rfl
theorem f26_28 : amFetch 26 28 = some (.goto (-26), 3, 0, 0, 0) := rfl
theorem f26_31 : amFetch 26 31 = some (.iload_n 2, 1, 0, 0, 0) := rfl
theorem f26_32 : amFetch 26 32 = some (.ireturn, 1, 0, 0, 0) := rfl
theorem ow26 : amOwnL 26 = some (2, 3) := rfl
-- X2_quotientOfEntry
theorem f27_0 : amFetch 27 0 = some (.aload_n 0, 1, 0, 0, 0) := rfl
theorem f27_1 : amFetch 27 1 = some (.iload_n 1, 1, 0, 0, 0) := rfl
theorem f27_2 : amFetch 27 2 = some (.invokevirtual 44, 3, 0, 24, 1) := rfl
theorem f27_5 : amFetch 27 5 = some (.istore_n 2, 1, 0, 0, 0) := rfl
theorem f27_6 : amFetch 27 6 = some (.iload_n 2, 1, 0, 0, 0) := rfl
theorem f27_7 : amFetch 27 7 = some (.istore_n 3, 1, 0, 0, 0) := rfl
theorem f27_8 : amFetch 27 8 = some (.iconst 0, 1, 0, 0, 0) := rfl
theorem f27_9 : amFetch 27 9 = some (.istore 4, 2, 0, 0, 0) := rfl
theorem f27_11 : amFetch 27 11 = some (.iload 4, 2, 0, 0, 0) := rfl
theorem f27_13 : amFetch 27 13 = some (.aload_n 0, 1, 0, 0, 0) := rfl
theorem f27_14 : amFetch 27 14 = some (.invokevirtual 32, 3, 0, 14, 0) := rfl
theorem f27_17 : amFetch 27 17 = some (.if_icmp .ge 37, 3, 0, 0, 0) := rfl
theorem f27_20 : amFetch 27 20 = some (.iload_n 2, 1, 0, 0, 0) := rfl
theorem f27_21 : amFetch 27 21 = some (.iload_n 1, 1, 0, 0, 0) := rfl
theorem f27_22 : amFetch 27 22 = some (.if_icmp .eq 32, 3, 0, 0, 0) := rfl
theorem f27_25 : amFetch 27 25 = some (.aload_n 0, 1, 0, 0, 0) := rfl
theorem f27_26 : amFetch 27 26 = some (.iload_n 2, 1, 0, 0, 0) := rfl
theorem f27_27 : amFetch 27 27 = some (.iconst 1, 1, 0, 0, 0) := rfl
theorem f27_28 : amFetch 27 28 = some (.iadd, 1, 0, 0, 0) := rfl
theorem f27_29 : amFetch 27 29 = some (.invokevirtual 40, 3, 0, 16, 1) := rfl
theorem f27_32 : amFetch 27 32 = some (.istore_n 2, 1, 0, 0, 0) := rfl
theorem f27_33 : amFetch 27 33 = some (.aload_n 0, 1, 0, 0, 0) := rfl
theorem f27_34 : amFetch 27 34 = some (.getfield 22, 3, 2, 3, 0) := rfl
theorem f27_37 : amFetch 27 37 = some (.iload_n 2, 1, 0, 0, 0) := rfl
theorem f27_38 : amFetch 27 38 = some (.baload, 1, 0, 0, 0) := rfl
theorem f27_39 : amFetch 27 39 = some (.ifCond .ne 9, 3, 0, 0, 0) := rfl
theorem f27_42 : amFetch 27 42 = some (.aload_n 0, 1, 0, 0, 0) := rfl
theorem f27_43 : amFetch 27 43 = some (.iload_n 3, 1, 0, 0, 0) := rfl
theorem f27_44 : amFetch 27 44 = some (.invokevirtual 50, 3, 0, 23, 1) := rfl
theorem f27_47 : amFetch 27 47 = some (.istore_n 3, 1, 0, 0, 0) := rfl
theorem f27_48 : amFetch 27 48 = some (.iinc 4 1, 3, 0, 0, 0) := rfl
theorem f27_51 : amFetch 27 51 = some (.goto (-40), 3, 0, 0, 0) := rfl
theorem f27_54 : amFetch 27 54 = some (.iload_n 3, 1, 0, 0, 0) := rfl
theorem f27_55 : amFetch 27 55 = some (.ireturn, 1, 0, 0, 0) := rfl
theorem ow27 : amOwnL 27 = some (2, 5) := rfl
-- X2_countInRun
theorem f28_0 : amFetch 28 0 = some (.aload_n 0, 1, 0, 0, 0) := rfl
theorem f28_1 : amFetch 28 1 = some (.aload_n 0, 1, 0, 0, 0) := rfl
theorem f28_2 : amFetch 28 2 = some (.iload_n 1, 1, 0, 0, 0) := rfl
theorem f28_3 : amFetch 28 3 = some (.invokevirtual 53, 3, 0, 17, 1) := rfl
theorem f28_6 : amFetch 28 6 = some (.invokevirtual 56, 3, 0, 25, 1) := rfl
theorem f28_9 : amFetch 28 9 = some (.istore_n 2, 1, 0, 0, 0) := rfl
theorem f28_10 : amFetch 28 10 = some (.iload_n 2, 1, 0, 0, 0) := rfl
theorem f28_11 : amFetch 28 11 = some (.iconst (-1), 1, 0, 0, 0) := rfl
theorem f28_12 : amFetch 28 12 = some (.if_icmp .ne 5, 3, 0, 0, 0) := rfl
theorem f28_15 : amFetch 28 15 = some (.iconst 0, 1, 0, 0, 0) := rfl
theorem f28_16 : amFetch 28 16 = some (.ireturn, 1, 0, 0, 0) := rfl
theorem f28_17 : amFetch 28 17 = some (.aload_n 0, 1, 0, 0, 0) := rfl
theorem f28_18 : amFetch 28 18 = some (.iload_n 1, 1, 0, 0, 0) := rfl
theorem f28_19 : amFetch 28 19 = some (.invokevirtual 59, 3, 0, 18, 1) := rfl
theorem f28_22 : amFetch 28 22 = some (.istore_n 3, 1, 0, 0, 0) := rfl
theorem f28_23 : amFetch 28 23 = some (.aload_n 0, 1, 0, 0, 0) := rfl
theorem f28_24 : amFetch 28 24 = some (.iload_n 2, 1, 0, 0, 0) := rfl
theorem f28_25 : amFetch 28 25 = some (.invokevirtual 47, 3, 0, 26, 1) := rfl
theorem f28_28 : amFetch 28 28 = some (.istore 4, 2, 0, 0, 0) := rfl
theorem f28_30 : amFetch 28 30 = some (.iconst 0, 1, 0, 0, 0) := rfl
theorem f28_31 : amFetch 28 31 = some (.istore 5, 2, 0, 0, 0) := rfl
theorem f28_33 : amFetch 28 33 = some (.iconst 0, 1, 0, 0, 0) := rfl
theorem f28_34 : amFetch 28 34 = some (.istore 6, 2, 0, 0, 0) := rfl
theorem f28_36 : amFetch 28 36 = some (.iload 6, 2, 0, 0, 0) := rfl
theorem f28_38 : amFetch 28 38 = some (.iload 4, 2, 0, 0, 0) := rfl
theorem f28_40 : amFetch 28 40 = some (.if_icmp .ge 46, 3, 0, 0, 0) := rfl
theorem f28_43 : amFetch 28 43 = some (.aload_n 0, 1, 0, 0, 0) := rfl
theorem f28_44 : amFetch 28 44 = some (.iload_n 2, 1, 0, 0, 0) := rfl
theorem f28_45 : amFetch 28 45 = some (.iload 6, 2, 0, 0, 0) := rfl
theorem f28_47 : amFetch 28 47 = some (.iadd, 1, 0, 0, 0) := rfl
theorem f28_48 : amFetch 28 48 = some (.invokevirtual 40, 3, 0, 16, 1) := rfl
theorem f28_51 : amFetch 28 51 = some (.istore 7, 2, 0, 0, 0) := rfl
theorem f28_53 : amFetch 28 53 = some (.iload 5, 2, 0, 0, 0) := rfl
theorem f28_55 : amFetch 28 55 = some (.aload_n 0, 1, 0, 0, 0) := rfl
theorem f28_56 : amFetch 28 56 = some (.getfield 9, 3, 2, 0, 0) := rfl
theorem f28_59 : amFetch 28 59 = some (.iload 7, 2, 0, 0, 0) := rfl
theorem f28_61 : amFetch 28 61 = some (.iaload, 1, 0, 0, 0) := rfl
theorem f28_62 : amFetch 28 62 = some (.iload_n 3, 1, 0, 0, 0) := rfl
theorem f28_63 : amFetch 28 63 = some (.if_icmp .ne 13, 3, 0, 0, 0) := rfl
theorem f28_66 : amFetch 28 66 = some (.aload_n 0, 1, 0, 0, 0) := rfl
theorem f28_67 : amFetch 28 67 = some (.getfield 15, 3, 2, 1, 0) := rfl
theorem f28_70 : amFetch 28 70 = some (.iload 7, 2, 0, 0, 0) := rfl
theorem f28_72 : amFetch 28 72 = some (.iaload, 1, 0, 0, 0) := rfl
theorem f28_73 : amFetch 28 73 = some (.goto 4, 3, 0, 0, 0) := rfl
theorem f28_76 : amFetch 28 76 = some (.iconst 0, 1, 0, 0, 0) := rfl
theorem f28_77 : amFetch 28 77 = some (.iadd, 1, 0, 0, 0) := rfl
theorem f28_78 : amFetch 28 78 = some (.istore 5, 2, 0, 0, 0) := rfl
theorem f28_80 : amFetch 28 80 = some (.iinc 6 1, 3, 0, 0, 0) := rfl
theorem f28_83 : amFetch 28 83 = some (.goto (-47), 3, 0, 0, 0) := rfl
theorem f28_86 : amFetch 28 86 = some (.iload 5, 2, 0, 0, 0) := rfl
theorem f28_88 : amFetch 28 88 = some (.ireturn, 1, 0, 0, 0) := rfl
theorem ow28 : amOwnL 28 = some (2, 8) := rfl
-- X2_looksFor
theorem f29_0 : amFetch 29 0 = some (.aload_n 0, 1, 0, 0, 0) := rfl
theorem f29_1 : amFetch 29 1 = some (.aload_n 0, 1, 0, 0, 0) := rfl
theorem f29_2 : amFetch 29 2 = some (.iload_n 1, 1, 0, 0, 0) := rfl
theorem f29_3 : amFetch 29 3 = some (.invokevirtual 53, 3, 0, 17, 1) := rfl
theorem f29_6 : amFetch 29 6 = some (.invokevirtual 56, 3, 0, 25, 1) := rfl
theorem f29_9 : amFetch 29 9 = some (.istore_n 2, 1, 0, 0, 0) := rfl
theorem f29_10 : amFetch 29 10 = some (.iload_n 2, 1, 0, 0, 0) := rfl
theorem f29_11 : amFetch 29 11 = some (.iconst (-1), 1, 0, 0, 0) := rfl
theorem f29_12 : amFetch 29 12 = some (.if_icmp .ne 5, 3, 0, 0, 0) := rfl
theorem f29_15 : amFetch 29 15 = some (.iconst 0, 1, 0, 0, 0) := rfl
theorem f29_16 : amFetch 29 16 = some (.ireturn, 1, 0, 0, 0) := rfl
theorem f29_17 : amFetch 29 17 = some (.aload_n 0, 1, 0, 0, 0) := rfl
theorem f29_18 : amFetch 29 18 = some (.iload_n 1, 1, 0, 0, 0) := rfl
theorem f29_19 : amFetch 29 19 = some (.invokevirtual 59, 3, 0, 18, 1) := rfl
theorem f29_22 : amFetch 29 22 = some (.istore_n 3, 1, 0, 0, 0) := rfl
theorem f29_23 : amFetch 29 23 = some (.aload_n 0, 1, 0, 0, 0) := rfl
theorem f29_24 : amFetch 29 24 = some (.iload_n 2, 1, 0, 0, 0) := rfl
theorem f29_25 : amFetch 29 25 = some (.invokevirtual 47, 3, 0, 26, 1) := rfl
theorem f29_28 : amFetch 29 28 = some (.istore 4, 2, 0, 0, 0) := rfl
theorem f29_30 : amFetch 29 30 = some (.iconst 0, 1, 0, 0, 0) := rfl
theorem f29_31 : amFetch 29 31 = some (.istore 5, 2, 0, 0, 0) := rfl
theorem f29_33 : amFetch 29 33 = some (.iload 5, 2, 0, 0, 0) := rfl
theorem f29_35 : amFetch 29 35 = some (.iload 4, 2, 0, 0, 0) := rfl
theorem f29_37 : amFetch 29 37 = some (.if_icmp .ge 31, 3, 0, 0, 0) := rfl
theorem f29_40 : amFetch 29 40 = some (.aload_n 0, 1, 0, 0, 0) := rfl
theorem f29_41 : amFetch 29 41 = some (.getfield 9, 3, 2, 0, 0) := rfl
theorem f29_44 : amFetch 29 44 = some (.aload_n 0, 1, 0, 0, 0) := rfl
theorem f29_45 : amFetch 29 45 = some (.iload_n 2, 1, 0, 0, 0) := rfl
theorem f29_46 : amFetch 29 46 = some (.iload 5, 2, 0, 0, 0) := rfl
theorem f29_48 : amFetch 29 48 = some (.iadd, 1, 0, 0, 0) := rfl
theorem f29_49 : amFetch 29 49 = some (.invokevirtual 40, 3, 0, 16, 1) := rfl
theorem f29_52 : amFetch 29 52 = some (.iaload, 1, 0, 0, 0) := rfl
theorem f29_53 : amFetch 29 53 = some (.iload_n 3, 1, 0, 0, 0) := rfl
theorem f29_54 : amFetch 29 54 = some (.if_icmp .lt 8, 3, 0, 0, 0) := rfl
theorem f29_57 : amFetch 29 57 = some (.iload 5, 2, 0, 0, 0) := rfl
theorem f29_59 : amFetch 29 59 = some (.iconst 1, 1, 0, 0, 0) := rfl
theorem f29_60 : amFetch 29 60 = some (.iadd, 1, 0, 0, 0) := rfl
theorem f29_61 : amFetch 29 61 = some (.ireturn, 1, 0, 0, 0) := rfl
theorem f29_62 : amFetch 29 62 = some (.iinc 5 1, 3, 0, 0, 0) := rfl
theorem f29_65 : amFetch 29 65 = some (.goto (-32), 3, 0, 0, 0) := rfl
theorem f29_68 : amFetch 29 68 = some (.iload 4, 2, 0, 0, 0) := rfl
theorem f29_70 : amFetch 29 70 = some (.ireturn, 1, 0, 0, 0) := rfl
theorem ow29 : amOwnL 29 = some (2, 6) := rfl
-- X2_lengthOfLongestCluster
theorem f30_0 : amFetch 30 0 = some (.aload_n 0, 1, 0, 0, 0) := rfl
theorem f30_1 : amFetch 30 1 = some (.invokevirtual 62, 3, 0, 22, 0) := rfl
theorem f30_4 : amFetch 30 4 = some (.istore_n 1, 1, 0, 0, 0) := rfl
theorem f30_5 : amFetch 30 5 = some (.iconst 0, 1, 0, 0, 0) := rfl
theorem f30_6 : amFetch 30 6 = some (.istore_n 2, 1, 0, 0, 0) := rfl
theorem f30_7 : amFetch 30 7 = some (.iconst 0, 1, 0, 0, 0) := rfl
theorem f30_8 : amFetch 30 8 = some (.istore_n 3, 1, 0, 0, 0) := rfl
theorem f30_9 : amFetch 30 9 = some (.iconst 0, 1, 0, 0, 0) := rfl
theorem f30_10 : amFetch 30 10 = some (.istore 4, 2, 0, 0, 0) := rfl
theorem f30_12 : amFetch 30 12 = some (.iload 4, 2, 0, 0, 0) := rfl
theorem f30_14 : amFetch 30 14 = some (.aload_n 0, 1, 0, 0, 0) := rfl
theorem f30_15 : amFetch 30 15 = some (.invokevirtual 32, 3, 0, 14, 0) := rfl
theorem f30_18 : amFetch 30 18 = some (.if_icmp .ge 52, 3, 0, 0, 0) := rfl
theorem f30_21 : amFetch 30 21 = some (.aload_n 0, 1, 0, 0, 0) := rfl
theorem f30_22 : amFetch 30 22 = some (.iload_n 1, 1, 0, 0, 0) := rfl
theorem f30_23 : amFetch 30 23 = some (.iload 4, 2, 0, 0, 0) := rfl
theorem f30_25 : amFetch 30 25 = some (.iadd, 1, 0, 0, 0) := rfl
theorem f30_26 : amFetch 30 26 = some (.invokevirtual 40, 3, 0, 16, 1) := rfl
theorem f30_29 : amFetch 30 29 = some (.istore 5, 2, 0, 0, 0) := rfl
theorem f30_31 : amFetch 30 31 = some (.aload_n 0, 1, 0, 0, 0) := rfl
theorem f30_32 : amFetch 30 32 = some (.iload 5, 2, 0, 0, 0) := rfl
theorem f30_34 : amFetch 30 34 = some (.invokevirtual 36, 3, 0, 15, 1) := rfl
theorem f30_37 : amFetch 30 37 = some (.ifCond .ne 27, 3, 0, 0, 0) := rfl
theorem f30_40 : amFetch 30 40 = some (.aload_n 0, 1, 0, 0, 0) := rfl
theorem f30_41 : amFetch 30 41 = some (.getfield 25, 3, 2, 4, 0) := rfl
theorem f30_44 : amFetch 30 44 = some (.iload 5, 2, 0, 0, 0) := rfl
theorem f30_46 : amFetch 30 46 = some (.baload, 1, 0, 0, 0) := rfl
theorem f30_47 : amFetch 30 47 = some (.ifCond .eq 9, 3, 0, 0, 0) := rfl
theorem f30_50 : amFetch 30 50 = some (.iload_n 3, 1, 0, 0, 0) := rfl
theorem f30_51 : amFetch 30 51 = some (.iconst 1, 1, 0, 0, 0) := rfl
theorem f30_52 : amFetch 30 52 = some (.iadd, 1, 0, 0, 0) := rfl
theorem f30_53 : amFetch 30 53 = some (.goto 4, 3, 0, 0, 0) := rfl
theorem f30_56 : amFetch 30 56 = some (.iconst 1, 1, 0, 0, 0) := rfl
theorem f30_57 : amFetch 30 57 = some (.istore_n 3, 1, 0, 0, 0) := rfl
theorem f30_58 : amFetch 30 58 = some (.iload_n 2, 1, 0, 0, 0) := rfl
theorem f30_59 : amFetch 30 59 = some (.iload_n 3, 1, 0, 0, 0) := rfl
theorem f30_60 : amFetch 30 60 = some (.invokestatic 65, 3, 4, 0, 2) := rfl
theorem f30_63 : amFetch 30 63 = some (.istore_n 2, 1, 0, 0, 0) := rfl
theorem f30_64 : amFetch 30 64 = some (.iinc 4 1, 3, 0, 0, 0) := rfl
theorem f30_67 : amFetch 30 67 = some (.goto (-55), 3, 0, 0, 0) := rfl
theorem f30_70 : amFetch 30 70 = some (.iload_n 2, 1, 0, 0, 0) := rfl
theorem f30_71 : amFetch 30 71 = some (.ireturn, 1, 0, 0, 0) := rfl
theorem ow30 : amOwnL 30 = some (2, 6) := rfl
-- X2_readInto
theorem f31_0 : amFetch 31 0 = some (.aload_n 1, 1, 0, 0, 0) := rfl
theorem f31_1 : amFetch 31 1 = some (.invokevirtual 71, 3, 0, 1, 0) := rfl
theorem f31_4 : amFetch 31 4 = some (.aload_n 0, 1, 0, 0, 0) := rfl
theorem f31_5 : amFetch 31 5 = some (.invokevirtual 32, 3, 0, 14, 0) := rfl
theorem f31_8 : amFetch 31 8 = some (.iconst 1, 1, 0, 0, 0) := rfl
theorem f31_9 : amFetch 31 9 = some (.isub, 1, 0, 0, 0) := rfl
theorem f31_10 : amFetch 31 10 = some (.istore_n 2, 1, 0, 0, 0) := rfl
theorem f31_11 : amFetch 31 11 = some (.aload_n 0, 1, 0, 0, 0) := rfl
theorem f31_12 : amFetch 31 12 = some (.aload_n 0, 1, 0, 0, 0) := rfl
theorem f31_13 : amFetch 31 13 = some (.iload_n 2, 1, 0, 0, 0) := rfl
theorem f31_14 : amFetch 31 14 = some (.invokevirtual 50, 3, 0, 23, 1) := rfl
theorem f31_17 : amFetch 31 17 = some (.invokevirtual 56, 3, 0, 25, 1) := rfl
theorem f31_20 : amFetch 31 20 = some (.istore_n 3, 1, 0, 0, 0) := rfl
theorem f31_21 : amFetch 31 21 = some (.iload_n 3, 1, 0, 0, 0) := rfl
theorem f31_22 : amFetch 31 22 = some (.iconst (-1), 1, 0, 0, 0) := rfl
theorem f31_23 : amFetch 31 23 = some (.if_icmp .ne 4, 3, 0, 0, 0) := rfl
theorem f31_26 : amFetch 31 26 = some (.return_, 1, 0, 0, 0) := rfl
theorem f31_27 : amFetch 31 27 = some (.iconst 0, 1, 0, 0, 0) := rfl
theorem f31_28 : amFetch 31 28 = some (.istore 4, 2, 0, 0, 0) := rfl
theorem f31_30 : amFetch 31 30 = some (.iload 4, 2, 0, 0, 0) := rfl
theorem f31_32 : amFetch 31 32 = some (.aload_n 0, 1, 0, 0, 0) := rfl
theorem f31_33 : amFetch 31 33 = some (.invokevirtual 32, 3, 0, 14, 0) := rfl
theorem f31_36 : amFetch 31 36 = some (.if_icmp .ge 71, 3, 0, 0, 0) := rfl
theorem f31_39 : amFetch 31 39 = some (.aload_n 0, 1, 0, 0, 0) := rfl
theorem f31_40 : amFetch 31 40 = some (.iload_n 3, 1, 0, 0, 0) := rfl
theorem f31_41 : amFetch 31 41 = some (.iload 4, 2, 0, 0, 0) := rfl
theorem f31_43 : amFetch 31 43 = some (.iadd, 1, 0, 0, 0) := rfl
theorem f31_44 : amFetch 31 44 = some (.invokevirtual 40, 3, 0, 16, 1) := rfl
theorem f31_47 : amFetch 31 47 = some (.istore 5, 2, 0, 0, 0) := rfl
theorem f31_49 : amFetch 31 49 = some (.aload_n 0, 1, 0, 0, 0) := rfl
theorem f31_50 : amFetch 31 50 = some (.iload 5, 2, 0, 0, 0) := rfl
theorem f31_52 : amFetch 31 52 = some (.invokevirtual 36, 3, 0, 15, 1) := rfl
theorem f31_55 : amFetch 31 55 = some (.ifCond .ne 46, 3, 0, 0, 0) := rfl
theorem f31_58 : amFetch 31 58 = some (.aload_n 0, 1, 0, 0, 0) := rfl
theorem f31_59 : amFetch 31 59 = some (.getfield 22, 3, 2, 3, 0) := rfl
theorem f31_62 : amFetch 31 62 = some (.iload 5, 2, 0, 0, 0) := rfl
theorem f31_64 : amFetch 31 64 = some (.baload, 1, 0, 0, 0) := rfl
theorem f31_65 : amFetch 31 65 = some (.ifCond .eq 7, 3, 0, 0, 0) := rfl
theorem f31_68 : amFetch 31 68 = some (.iload_n 2, 1, 0, 0, 0) := rfl
theorem f31_69 : amFetch 31 69 = some (.goto 8, 3, 0, 0, 0) := rfl
theorem f31_72 : amFetch 31 72 = some (.aload_n 0, 1, 0, 0, 0) := rfl
theorem f31_73 : amFetch 31 73 = some (.iload_n 2, 1, 0, 0, 0) := rfl
theorem f31_74 : amFetch 31 74 = some (.invokevirtual 50, 3, 0, 23, 1) := rfl
theorem f31_77 : amFetch 31 77 = some (.istore_n 2, 1, 0, 0, 0) := rfl
theorem f31_78 : amFetch 31 78 = some (.aload_n 1, 1, 0, 0, 0) := rfl
theorem f31_79 : amFetch 31 79 = some (.aload_n 0, 1, 0, 0, 0) := rfl
theorem f31_80 : amFetch 31 80 = some (.iload_n 2, 1, 0, 0, 0) := rfl
theorem f31_81 : amFetch 31 81 = some (.aload_n 0, 1, 0, 0, 0) := rfl
theorem f31_82 : amFetch 31 82 = some (.getfield 9, 3, 2, 0, 0) := rfl
theorem f31_85 : amFetch 31 85 = some (.iload 5, 2, 0, 0, 0) := rfl
theorem f31_87 : amFetch 31 87 = some (.iaload, 1, 0, 0, 0) := rfl
theorem f31_88 : amFetch 31 88 = some (.invokevirtual 76, 3, 0, 19, 2) := rfl
theorem f31_91 : amFetch 31 91 = some (.aload_n 0, 1, 0, 0, 0) := rfl
theorem f31_92 : amFetch 31 92 = some (.getfield 15, 3, 2, 1, 0) := rfl
theorem f31_95 : amFetch 31 95 = some (.iload 5, 2, 0, 0, 0) := rfl
theorem f31_97 : amFetch 31 97 = some (.iaload, 1, 0, 0, 0) := rfl
theorem f31_98 : amFetch 31 98 = some (.invokevirtual 79, 3, 0, 2, 2) := rfl
theorem f31_101 : amFetch 31 101 = some (.iinc 4 1, 3, 0, 0, 0) := rfl
theorem f31_104 : amFetch 31 104 = some (.goto (-74), 3, 0, 0, 0) := rfl
theorem f31_107 : amFetch 31 107 = some (.return_, 1, 0, 0, 0) := rfl
theorem ow31 : amOwnL 31 = some (2, 6) := rfl
-- X2_wipe
theorem f32_0 : amFetch 32 0 = some (.iconst 0, 1, 0, 0, 0) := rfl
theorem f32_1 : amFetch 32 1 = some (.istore_n 1, 1, 0, 0, 0) := rfl
theorem f32_2 : amFetch 32 2 = some (.iload_n 1, 1, 0, 0, 0) := rfl
theorem f32_3 : amFetch 32 3 = some (.sipush 256, 3, 0, 0, 0) := rfl
theorem f32_6 : amFetch 32 6 = some (.if_icmp .ge 44, 3, 0, 0, 0) := rfl
theorem f32_9 : amFetch 32 9 = some (.aload_n 0, 1, 0, 0, 0) := rfl
theorem f32_10 : amFetch 32 10 = some (.getfield 9, 3, 2, 0, 0) := rfl
theorem f32_13 : amFetch 32 13 = some (.iload_n 1, 1, 0, 0, 0) := rfl
theorem f32_14 : amFetch 32 14 = some (.iconst 0, 1, 0, 0, 0) := rfl
theorem f32_15 : amFetch 32 15 = some (.iastore, 1, 0, 0, 0) := rfl
theorem f32_16 : amFetch 32 16 = some (.aload_n 0, 1, 0, 0, 0) := rfl
theorem f32_17 : amFetch 32 17 = some (.getfield 15, 3, 2, 1, 0) := rfl
theorem f32_20 : amFetch 32 20 = some (.iload_n 1, 1, 0, 0, 0) := rfl
theorem f32_21 : amFetch 32 21 = some (.iconst 0, 1, 0, 0, 0) := rfl
theorem f32_22 : amFetch 32 22 = some (.iastore, 1, 0, 0, 0) := rfl
theorem f32_23 : amFetch 32 23 = some (.aload_n 0, 1, 0, 0, 0) := rfl
theorem f32_24 : amFetch 32 24 = some (.getfield 18, 3, 2, 2, 0) := rfl
theorem f32_27 : amFetch 32 27 = some (.iload_n 1, 1, 0, 0, 0) := rfl
theorem f32_28 : amFetch 32 28 = some (.iconst 0, 1, 0, 0, 0) := rfl
theorem f32_29 : amFetch 32 29 = some (.bastore, 1, 0, 0, 0) := rfl
theorem f32_30 : amFetch 32 30 = some (.aload_n 0, 1, 0, 0, 0) := rfl
theorem f32_31 : amFetch 32 31 = some (.getfield 22, 3, 2, 3, 0) := rfl
theorem f32_34 : amFetch 32 34 = some (.iload_n 1, 1, 0, 0, 0) := rfl
theorem f32_35 : amFetch 32 35 = some (.iconst 0, 1, 0, 0, 0) := rfl
theorem f32_36 : amFetch 32 36 = some (.bastore, 1, 0, 0, 0) := rfl
theorem f32_37 : amFetch 32 37 = some (.aload_n 0, 1, 0, 0, 0) := rfl
theorem f32_38 : amFetch 32 38 = some (.getfield 25, 3, 2, 4, 0) := rfl
theorem f32_41 : amFetch 32 41 = some (.iload_n 1, 1, 0, 0, 0) := rfl
theorem f32_42 : amFetch 32 42 = some (.iconst 0, 1, 0, 0, 0) := rfl
theorem f32_43 : amFetch 32 43 = some (.bastore, 1, 0, 0, 0) := rfl
theorem f32_44 : amFetch 32 44 = some (.iinc 1 1, 3, 0, 0, 0) := rfl
theorem f32_47 : amFetch 32 47 = some (.goto (-45), 3, 0, 0, 0) := rfl
theorem f32_50 : amFetch 32 50 = some (.return_, 1, 0, 0, 0) := rfl
theorem ow32 : amOwnL 32 = some (2, 2) := rfl
-- X2_fill
theorem f33_0 : amFetch 33 0 = some (.aload_n 0, 1, 0, 0, 0) := rfl
theorem f33_1 : amFetch 33 1 = some (.invokevirtual 83, 3, 0, 32, 0) := rfl
theorem f33_4 : amFetch 33 4 = some (.aload_n 0, 1, 0, 0, 0) := rfl
theorem f33_5 : amFetch 33 5 = some (.iload_n 1, 1, 0, 0, 0) := rfl
theorem f33_6 : amFetch 33 6 = some (.putfield 28, 3, 2, 5, 0) := rfl
theorem f33_9 : amFetch 33 9 = some (.iconst 0, 1, 0, 0, 0) := rfl
theorem f33_10 : amFetch 33 10 = some (.aload_n 0, 1, 0, 0, 0) := rfl
theorem f33_11 : amFetch 33 11 = some (.aload_n 2, 1, 0, 0, 0) := rfl
theorem f33_12 : amFetch 33 12 = some (.invokevirtual 86, 3, 0, 34, 1) := rfl
theorem f33_15 : amFetch 33 15 = some (.aload_n 0, 1, 0, 0, 0) := rfl
theorem f33_16 : amFetch 33 16 = some (.invokevirtual 32, 3, 0, 14, 0) := rfl
theorem f33_19 : amFetch 33 19 = some (.isub, 1, 0, 0, 0) := rfl
theorem f33_20 : amFetch 33 20 = some (.invokestatic 65, 3, 4, 0, 2) := rfl
theorem f33_23 : amFetch 33 23 = some (.istore_n 3, 1, 0, 0, 0) := rfl
theorem f33_24 : amFetch 33 24 = some (.iconst 0, 1, 0, 0, 0) := rfl
theorem f33_25 : amFetch 33 25 = some (.istore 4, 2, 0, 0, 0) := rfl
theorem f33_27 : amFetch 33 27 = some (.iload 4, 2, 0, 0, 0) := rfl
theorem f33_29 : amFetch 33 29 = some (.aload_n 2, 1, 0, 0, 0) := rfl
theorem f33_30 : amFetch 33 30 = some (.getfield 90, 3, 0, 2, 0) := rfl
theorem f33_33 : amFetch 33 33 = some (.if_icmp .ge 57, 3, 0, 0, 0) := rfl
theorem f33_36 : amFetch 33 36 = some (.iload_n 3, 1, 0, 0, 0) := rfl
theorem f33_37 : amFetch 33 37 = some (.aload_n 0, 1, 0, 0, 0) := rfl
theorem f33_38 : amFetch 33 38 = some (.aload_n 2, 1, 0, 0, 0) := rfl
theorem f33_39 : amFetch 33 39 = some (.getfield 93, 3, 0, 0, 0) := rfl
theorem f33_42 : amFetch 33 42 = some (.iload 4, 2, 0, 0, 0) := rfl
theorem f33_44 : amFetch 33 44 = some (.iaload, 1, 0, 0, 0) := rfl
theorem f33_45 : amFetch 33 45 = some (.invokevirtual 53, 3, 0, 17, 1) := rfl
theorem f33_48 : amFetch 33 48 = some (.invokestatic 65, 3, 4, 0, 2) := rfl
theorem f33_51 : amFetch 33 51 = some (.istore_n 3, 1, 0, 0, 0) := rfl
theorem f33_52 : amFetch 33 52 = some (.aload_n 0, 1, 0, 0, 0) := rfl
theorem f33_53 : amFetch 33 53 = some (.iload_n 3, 1, 0, 0, 0) := rfl
theorem f33_54 : amFetch 33 54 = some (.aload_n 2, 1, 0, 0, 0) := rfl
theorem f33_55 : amFetch 33 55 = some (.getfield 93, 3, 0, 0, 0) := rfl
theorem f33_58 : amFetch 33 58 = some (.iload 4, 2, 0, 0, 0) := rfl
theorem f33_60 : amFetch 33 60 = some (.iaload, 1, 0, 0, 0) := rfl
theorem f33_61 : amFetch 33 61 = some (.aload_n 2, 1, 0, 0, 0) := rfl
theorem f33_62 : amFetch 33 62 = some (.getfield 96, 3, 0, 1, 0) := rfl
theorem f33_65 : amFetch 33 65 = some (.iload 4, 2, 0, 0, 0) := rfl
theorem f33_67 : amFetch 33 67 = some (.iaload, 1, 0, 0, 0) := rfl
theorem f33_68 : amFetch 33 68 = some (.invokevirtual 99, 3, 0, 35, 3) := rfl
theorem f33_71 : amFetch 33 71 = some (.iload_n 3, 1, 0, 0, 0) := rfl
theorem f33_72 : amFetch 33 72 = some (.aload_n 2, 1, 0, 0, 0) := rfl
theorem f33_73 : amFetch 33 73 = some (.getfield 96, 3, 0, 1, 0) := rfl
theorem f33_76 : amFetch 33 76 = some (.iload 4, 2, 0, 0, 0) := rfl
theorem f33_78 : amFetch 33 78 = some (.iaload, 1, 0, 0, 0) := rfl
theorem f33_79 : amFetch 33 79 = some (.invokestatic 103, 3, 2, 73, 1) := rfl
theorem f33_82 : amFetch 33 82 = some (.iadd, 1, 0, 0, 0) := rfl
theorem f33_83 : amFetch 33 83 = some (.istore_n 3, 1, 0, 0, 0) := rfl
theorem f33_84 : amFetch 33 84 = some (.iinc 4 1, 3, 0, 0, 0) := rfl
theorem f33_87 : amFetch 33 87 = some (.goto (-60), 3, 0, 0, 0) := rfl
theorem f33_90 : amFetch 33 90 = some (.return_, 1, 0, 0, 0) := rfl
theorem ow33 : amOwnL 33 = some (2, 5) := rfl
-- X2_endInLine
theorem f34_0 : amFetch 34 0 = some (.iconst 0, 1, 0, 0, 0) := rfl
theorem f34_1 : amFetch 34 1 = some (.istore_n 2, 1, 0, 0, 0) := rfl
theorem f34_2 : amFetch 34 2 = some (.iconst 0, 1, 0, 0, 0) := rfl
theorem f34_3 : amFetch 34 3 = some (.istore_n 3, 1, 0, 0, 0) := rfl
theorem f34_4 : amFetch 34 4 = some (.iload_n 3, 1, 0, 0, 0) := rfl
theorem f34_5 : amFetch 34 5 = some (.aload_n 1, 1, 0, 0, 0) := rfl
theorem f34_6 : amFetch 34 6 = some (.getfield 90, 3, 0, 2, 0) := rfl
theorem f34_9 : amFetch 34 9 = some (.if_icmp .ge 34, 3, 0, 0, 0) := rfl
theorem f34_12 : amFetch 34 12 = some (.iload_n 2, 1, 0, 0, 0) := rfl
theorem f34_13 : amFetch 34 13 = some (.aload_n 0, 1, 0, 0, 0) := rfl
theorem f34_14 : amFetch 34 14 = some (.aload_n 1, 1, 0, 0, 0) := rfl
theorem f34_15 : amFetch 34 15 = some (.getfield 93, 3, 0, 0, 0) := rfl
theorem f34_18 : amFetch 34 18 = some (.iload_n 3, 1, 0, 0, 0) := rfl
theorem f34_19 : amFetch 34 19 = some (.iaload, 1, 0, 0, 0) := rfl
theorem f34_20 : amFetch 34 20 = some (.invokevirtual 53, 3, 0, 17, 1) := rfl
theorem f34_23 : amFetch 34 23 = some (.invokestatic 65, 3, 4, 0, 2) := rfl
theorem f34_26 : amFetch 34 26 = some (.aload_n 1, 1, 0, 0, 0) := rfl
theorem f34_27 : amFetch 34 27 = some (.getfield 96, 3, 0, 1, 0) := rfl
theorem f34_30 : amFetch 34 30 = some (.iload_n 3, 1, 0, 0, 0) := rfl
theorem f34_31 : amFetch 34 31 = some (.iaload, 1, 0, 0, 0) := rfl
theorem f34_32 : amFetch 34 32 = some (.invokestatic 103, 3, 2, 73, 1) := rfl
theorem f34_35 : amFetch 34 35 = some (.iadd, 1, 0, 0, 0) := rfl
theorem f34_36 : amFetch 34 36 = some (.istore_n 2, 1, 0, 0, 0) := rfl
theorem f34_37 : amFetch 34 37 = some (.iinc 3 1, 3, 0, 0, 0) := rfl
theorem f34_40 : amFetch 34 40 = some (.goto (-36), 3, 0, 0, 0) := rfl
theorem f34_43 : amFetch 34 43 = some (.iload_n 2, 1, 0, 0, 0) := rfl
theorem f34_44 : amFetch 34 44 = some (.ireturn, 1, 0, 0, 0) := rfl
theorem ow34 : amOwnL 34 = some (2, 4) := rfl
-- X2_writeEntries
theorem f35_0 : amFetch 35 0 = some (.aload_n 0, 1, 0, 0, 0) := rfl
theorem f35_1 : amFetch 35 1 = some (.iload_n 2, 1, 0, 0, 0) := rfl
theorem f35_2 : amFetch 35 2 = some (.invokevirtual 53, 3, 0, 17, 1) := rfl
theorem f35_5 : amFetch 35 5 = some (.istore 4, 2, 0, 0, 0) := rfl
theorem f35_7 : amFetch 35 7 = some (.iload_n 1, 1, 0, 0, 0) := rfl
theorem f35_8 : amFetch 35 8 = some (.istore 5, 2, 0, 0, 0) := rfl
theorem f35_10 : amFetch 35 10 = some (.iload_n 3, 1, 0, 0, 0) := rfl
theorem f35_11 : amFetch 35 11 = some (.istore 6, 2, 0, 0, 0) := rfl
theorem f35_13 : amFetch 35 13 = some (.iload 6, 2, 0, 0, 0) := rfl
theorem f35_15 : amFetch 35 15 = some (.ifCond .le 87, 3, 0, 0, 0) := rfl
theorem f35_18 : amFetch 35 18 = some (.aload_n 0, 1, 0, 0, 0) := rfl
theorem f35_19 : amFetch 35 19 = some (.iload 5, 2, 0, 0, 0) := rfl
theorem f35_21 : amFetch 35 21 = some (.invokevirtual 40, 3, 0, 16, 1) := rfl
theorem f35_24 : amFetch 35 24 = some (.istore 7, 2, 0, 0, 0) := rfl
theorem f35_26 : amFetch 35 26 = some (.aload_n 0, 1, 0, 0, 0) := rfl
theorem f35_27 : amFetch 35 27 = some (.getfield 9, 3, 2, 0, 0) := rfl
theorem f35_30 : amFetch 35 30 = some (.iload 7, 2, 0, 0, 0) := rfl
theorem f35_32 : amFetch 35 32 = some (.aload_n 0, 1, 0, 0, 0) := rfl
theorem f35_33 : amFetch 35 33 = some (.iload_n 2, 1, 0, 0, 0) := rfl
theorem f35_34 : amFetch 35 34 = some (.invokevirtual 59, 3, 0, 18, 1) := rfl
theorem f35_37 : amFetch 35 37 = some (.iastore, 1, 0, 0, 0) := rfl
theorem f35_38 : amFetch 35 38 = some (.aload_n 0, 1, 0, 0, 0) := rfl
theorem f35_39 : amFetch 35 39 = some (.getfield 15, 3, 2, 1, 0) := rfl
theorem f35_42 : amFetch 35 42 = some (.iload 7, 2, 0, 0, 0) := rfl
theorem f35_44 : amFetch 35 44 = some (.iload 6, 2, 0, 0, 0) := rfl
theorem f35_46 : amFetch 35 46 = some (.bipush 7, 2, 0, 0, 0) := rfl
theorem f35_48 : amFetch 35 48 = some (.invokestatic 106, 3, 5, 0, 2) := rfl
theorem f35_51 : amFetch 35 51 = some (.iastore, 1, 0, 0, 0) := rfl
theorem f35_52 : amFetch 35 52 = some (.aload_n 0, 1, 0, 0, 0) := rfl
theorem f35_53 : amFetch 35 53 = some (.getfield 22, 3, 2, 3, 0) := rfl
theorem f35_56 : amFetch 35 56 = some (.iload 7, 2, 0, 0, 0) := rfl
theorem f35_58 : amFetch 35 58 = some (.aload_n 0, 1, 0, 0, 0) := rfl
theorem f35_59 : amFetch 35 59 = some (.getfield 18, 3, 2, 2, 0) := rfl
theorem f35_62 : amFetch 35 62 = some (.iload 4, 2, 0, 0, 0) := rfl
theorem f35_64 : amFetch 35 64 = some (.baload, 1, 0, 0, 0) := rfl
theorem f35_65 : amFetch 35 65 = some (.bastore, 1, 0, 0, 0) := rfl
theorem f35_66 : amFetch 35 66 = some (.aload_n 0, 1, 0, 0, 0) := rfl
theorem f35_67 : amFetch 35 67 = some (.getfield 25, 3, 2, 4, 0) := rfl
theorem f35_70 : amFetch 35 70 = some (.iload 7, 2, 0, 0, 0) := rfl
theorem f35_72 : amFetch 35 72 = some (.iload 7, 2, 0, 0, 0) := rfl
theorem f35_74 : amFetch 35 74 = some (.iload 4, 2, 0, 0, 0) := rfl
theorem f35_76 : amFetch 35 76 = some (.if_icmp .eq 7, 3, 0, 0, 0) := rfl
theorem f35_79 : amFetch 35 79 = some (.iconst 1, 1, 0, 0, 0) := rfl
theorem f35_80 : amFetch 35 80 = some (.goto 4, 3, 0, 0, 0) := rfl
theorem f35_83 : amFetch 35 83 = some (.iconst 0, 1, 0, 0, 0) := rfl
theorem f35_84 : amFetch 35 84 = some (.bastore, 1, 0, 0, 0) := rfl
theorem f35_85 : amFetch 35 85 = some (.aload_n 0, 1, 0, 0, 0) := rfl
theorem f35_86 : amFetch 35 86 = some (.getfield 18, 3, 2, 2, 0) := rfl
theorem f35_89 : amFetch 35 89 = some (.iload 4, 2, 0, 0, 0) := rfl
theorem f35_91 : amFetch 35 91 = some (.iconst 1, 1, 0, 0, 0) := rfl
theorem f35_92 : amFetch 35 92 = some (.bastore, 1, 0, 0, 0) := rfl
theorem f35_93 : amFetch 35 93 = some (.iinc 5 1, 3, 0, 0, 0) := rfl
theorem f35_96 : amFetch 35 96 = some (.iinc 6 (-7), 3, 0, 0, 0) := rfl
theorem f35_99 : amFetch 35 99 = some (.goto (-86), 3, 0, 0, 0) := rfl
theorem f35_102 : amFetch 35 102 = some (.return_, 1, 0, 0, 0) := rfl
theorem ow35 : amOwnL 35 = some (2, 8) := rfl
-- X3_init
theorem f36_0 : amFetch 36 0 = some (.aload_n 0, 1, 0, 0, 0) := rfl
theorem f36_1 : amFetch 36 1 = some (.invokespecial 3, 3, 6, 0, 0) := rfl
theorem f36_4 : amFetch 36 4 = some (.aload_n 0, 1, 0, 0, 0) := rfl
theorem f36_5 : amFetch 36 5 = some (.iconst 4, 1, 0, 0, 0) := rfl
theorem f36_6 : amFetch 36 6 = some (.anewarray 9, 3, 0, 2, 0) := rfl
theorem f36_9 : amFetch 36 9 = some (.putfield 11, 3, 3, 0, 0) := rfl
theorem f36_12 : amFetch 36 12 = some (.iconst 0, 1, 0, 0, 0) := rfl
theorem f36_13 : amFetch 36 13 = some (.istore_n 1, 1, 0, 0, 0) := rfl
theorem f36_14 : amFetch 36 14 = some (.iload_n 1, 1, 0, 0, 0) := rfl
theorem f36_15 : amFetch 36 15 = some (.aload_n 0, 1, 0, 0, 0) := rfl
theorem f36_16 : amFetch 36 16 = some (.getfield 11, 3, 3, 0, 0) := rfl
theorem f36_19 : amFetch 36 19 = some (.arraylength, 1, 0, 0, 0) := rfl
theorem f36_20 : amFetch 36 20 = some (.if_icmp .ge 22, 3, 0, 0, 0) := rfl
theorem f36_23 : amFetch 36 23 = some (.aload_n 0, 1, 0, 0, 0) := rfl
theorem f36_24 : amFetch 36 24 = some (.getfield 11, 3, 3, 0, 0) := rfl
theorem f36_27 : amFetch 36 27 = some (.iload_n 1, 1, 0, 0, 0) := rfl
theorem f36_28 : amFetch 36 28 = some (.new 9, 3, 0, 2, 0) := rfl
theorem f36_31 : amFetch 36 31 = some (.dup, 1, 0, 0, 0) := rfl
theorem f36_32 : amFetch 36 32 = some (.invokespecial 15, 3, 3, 13, 0) := rfl
theorem f36_35 : amFetch 36 35 = some (.aastore, 1, 0, 0, 0) := rfl
theorem f36_36 : amFetch 36 36 = some (.iinc 1 1, 3, 0, 0, 0) := rfl
theorem f36_39 : amFetch 36 39 = some (.goto (-25), 3, 0, 0, 0) := rfl
theorem f36_42 : amFetch 36 42 = some (.aload_n 0, 1, 0, 0, 0) := rfl
theorem f36_43 : amFetch 36 43 = some (.new 16, 3, 0, 0, 0) := rfl
theorem f36_46 : amFetch 36 46 = some (.dup, 1, 0, 0, 0) := rfl
theorem f36_47 : amFetch 36 47 = some (.invokespecial 18, 3, 3, 0, 0) := rfl
theorem f36_50 : amFetch 36 50 = some (.putfield 19, 3, 3, 1, 0) := rfl
theorem f36_53 : amFetch 36 53 = some (.aload_n 0, 1, 0, 0, 0) := rfl
theorem f36_54 : amFetch 36 54 = some (.new 16, 3, 0, 0, 0) := rfl
theorem f36_57 : amFetch 36 57 = some (.dup, 1, 0, 0, 0) := rfl
theorem f36_58 : amFetch 36 58 = some (.invokespecial 18, 3, 3, 0, 0) := rfl
theorem f36_61 : amFetch 36 61 = some (.putfield 23, 3, 3, 2, 0) := rfl
theorem f36_64 : amFetch 36 64 = some (.aload_n 0, 1, 0, 0, 0) := rfl
theorem f36_65 : amFetch 36 65 = some (.new 16, 3, 0, 0, 0) := rfl
theorem f36_68 : amFetch 36 68 = some (.dup, 1, 0, 0, 0) := rfl
theorem f36_69 : amFetch 36 69 = some (.invokespecial 18, 3, 3, 0, 0) := rfl
theorem f36_72 : amFetch 36 72 = some (.putfield 26, 3, 3, 3, 0) := rfl
theorem f36_75 : amFetch 36 75 = some (.aload_n 0, 1, 0, 0, 0) := rfl
theorem f36_76 : amFetch 36 76 = some (.new 29, 3, 0, 1, 0) := rfl
theorem f36_79 : amFetch 36 79 = some (.dup, 1, 0, 0, 0) := rfl
theorem f36_80 : amFetch 36 80 = some (.invokespecial 31, 3, 3, 9, 0) := rfl
theorem f36_83 : amFetch 36 83 = some (.putfield 32, 3, 3, 4, 0) := rfl
theorem f36_86 : amFetch 36 86 = some (.return_, 1, 0, 0, 0) := rfl
theorem ow36 : amOwnL 36 = some (3, 2) := rfl
-- X3_fingerprint
theorem f37_0 : amFetch 37 0 = some (.iload_n 1, 1, 0, 0, 0) := rfl
theorem f37_1 : amFetch 37 1 = some (.ldc 36, 2, 7, 0, (-1640531527)) := rfl
theorem f37_3 : amFetch 37 3 = some (.imul, 1, 0, 0, 0) := rfl
theorem f37_4 : amFetch 37 4 = some (.bipush 20, 2, 0, 0, 0) := rfl
theorem f37_6 : amFetch 37 6 = some (.iushr, 1, 0, 0, 0) := rfl
theorem f37_7 : amFetch 37 7 = some (.ireturn, 1, 0, 0, 0) := rfl
theorem ow37 : amOwnL 37 = some (3, 2) := rfl
-- X3_insert
theorem f38_0 : amFetch 38 0 = some (.aload_n 0, 1, 0, 0, 0) := rfl
theorem f38_1 : amFetch 38 1 = some (.iload_n 1, 1, 0, 0, 0) := rfl
theorem f38_2 : amFetch 38 2 = some (.invokevirtual 37, 3, 0, 67, 1) := rfl
theorem f38_5 : amFetch 38 5 = some (.astore_n 3, 1, 0, 0, 0) := rfl
theorem f38_6 : amFetch 38 6 = some (.aload_n 0, 1, 0, 0, 0) := rfl
theorem f38_7 : amFetch 38 7 = some (.aload_n 3, 1, 0, 0, 0) := rfl
theorem f38_8 : amFetch 38 8 = some (.aload_n 0, 1, 0, 0, 0) := rfl
theorem f38_9 : amFetch 38 9 = some (.iload_n 2, 1, 0, 0, 0) := rfl
theorem f38_10 : amFetch 38 10 = some (.invokevirtual 41, 3, 0, 37, 1) := rfl
theorem f38_13 : amFetch 38 13 = some (.iconst 1, 1, 0, 0, 0) := rfl
theorem f38_14 : amFetch 38 14 = some (.invokevirtual 45, 3, 0, 74, 3) := rfl
theorem f38_17 : amFetch 38 17 = some (.ireturn, 1, 0, 0, 0) := rfl
theorem ow38 : amOwnL 38 = some (3, 4) := rfl
-- X3_remove
theorem f39_0 : amFetch 39 0 = some (.aload_n 0, 1, 0, 0, 0) := rfl
theorem f39_1 : amFetch 39 1 = some (.iload_n 1, 1, 0, 0, 0) := rfl
theorem f39_2 : amFetch 39 2 = some (.invokevirtual 37, 3, 0, 67, 1) := rfl
theorem f39_5 : amFetch 39 5 = some (.astore_n 3, 1, 0, 0, 0) := rfl
theorem f39_6 : amFetch 39 6 = some (.aload_n 0, 1, 0, 0, 0) := rfl
theorem f39_7 : amFetch 39 7 = some (.aload_n 3, 1, 0, 0, 0) := rfl
theorem f39_8 : amFetch 39 8 = some (.aload_n 0, 1, 0, 0, 0) := rfl
theorem f39_9 : amFetch 39 9 = some (.iload_n 2, 1, 0, 0, 0) := rfl
theorem f39_10 : amFetch 39 10 = some (.invokevirtual 41, 3, 0, 37, 1) := rfl
theorem f39_13 : amFetch 39 13 = some (.iconst 1, 1, 0, 0, 0) := rfl
theorem f39_14 : amFetch 39 14 = some (.invokevirtual 49, 3, 0, 75, 3) := rfl
theorem f39_17 : amFetch 39 17 = some (.iconst 1, 1, 0, 0, 0) := rfl
theorem f39_18 : amFetch 39 18 = some (.if_icmp .ne 7, 3, 0, 0, 0) := rfl
theorem f39_21 : amFetch 39 21 = some (.iconst 1, 1, 0, 0, 0) := rfl
theorem f39_22 : amFetch 39 22 = some (.goto 4, 3, 0, 0, 0) := rfl
theorem f39_25 : amFetch 39 25 = some (.iconst 0, 1, 0, 0, 0) := rfl
theorem f39_26 : amFetch 39 26 = some (.ireturn, 1, 0, 0, 0) := rfl
theorem ow39 : amOwnL 39 = some (3, 4) := rfl
-- X3_count
theorem f40_0 : amFetch 40 0 = some (.aload_n 0, 1, 0, 0, 0) := rfl
theorem f40_1 : amFetch 40 1 = some (.iload_n 1, 1, 0, 0, 0) := rfl
theorem f40_2 : amFetch 40 2 = some (.invokevirtual 37, 3, 0, 67, 1) := rfl
theorem f40_5 : amFetch 40 5 = some (.astore_n 3, 1, 0, 0, 0) := rfl
theorem f40_6 : amFetch 40 6 = some (.aload_n 3, 1, 0, 0, 0) := rfl
theorem f40_7 : amFetch 40 7 = some (.aload_n 0, 1, 0, 0, 0) := rfl
theorem f40_8 : amFetch 40 8 = some (.iload_n 2, 1, 0, 0, 0) := rfl
theorem f40_9 : amFetch 40 9 = some (.invokevirtual 41, 3, 0, 37, 1) := rfl
theorem f40_12 : amFetch 40 12 = some (.invokevirtual 52, 3, 0, 28, 1) := rfl
theorem f40_15 : amFetch 40 15 = some (.ireturn, 1, 0, 0, 0) := rfl
theorem ow40 : amOwnL 40 = some (3, 4) := rfl
-- X3_add
theorem f41_0 : amFetch 41 0 = some (.aload_n 0, 1, 0, 0, 0) := rfl
theorem f41_1 : amFetch 41 1 = some (.iload_n 1, 1, 0, 0, 0) := rfl
theorem f41_2 : amFetch 41 2 = some (.invokevirtual 37, 3, 0, 67, 1) := rfl
theorem f41_5 : amFetch 41 5 = some (.astore 4, 2, 0, 0, 0) := rfl
theorem f41_7 : amFetch 41 7 = some (.iload_n 2, 1, 0, 0, 0) := rfl
theorem f41_8 : amFetch 41 8 = some (.invokestatic 55, 3, 1, 69, 1) := rfl
theorem f41_11 : amFetch 41 11 = some (.iload_n 3, 1, 0, 0, 0) := rfl
theorem f41_12 : amFetch 41 12 = some (.invokestatic 59, 3, 1, 70, 1) := rfl
theorem f41_15 : amFetch 41 15 = some (.aload_n 0, 1, 0, 0, 0) := rfl
theorem f41_16 : amFetch 41 16 = some (.aload 4, 2, 0, 0, 0) := rfl
theorem f41_18 : amFetch 41 18 = some (.iload_n 2, 1, 0, 0, 0) := rfl
theorem f41_19 : amFetch 41 19 = some (.iload_n 3, 1, 0, 0, 0) := rfl
theorem f41_20 : amFetch 41 20 = some (.invokevirtual 45, 3, 0, 74, 3) := rfl
theorem f41_23 : amFetch 41 23 = some (.ireturn, 1, 0, 0, 0) := rfl
theorem ow41 : amOwnL 41 = some (3, 5) := rfl
-- X3_take
theorem f42_0 : amFetch 42 0 = some (.aload_n 0, 1, 0, 0, 0) := rfl
theorem f42_1 : amFetch 42 1 = some (.iload_n 1, 1, 0, 0, 0) := rfl
theorem f42_2 : amFetch 42 2 = some (.invokevirtual 37, 3, 0, 67, 1) := rfl
theorem f42_5 : amFetch 42 5 = some (.astore 4, 2, 0, 0, 0) := rfl
theorem f42_7 : amFetch 42 7 = some (.iload_n 2, 1, 0, 0, 0) := rfl
theorem f42_8 : amFetch 42 8 = some (.invokestatic 55, 3, 1, 69, 1) := rfl
theorem f42_11 : amFetch 42 11 = some (.iload_n 3, 1, 0, 0, 0) := rfl
theorem f42_12 : amFetch 42 12 = some (.invokestatic 59, 3, 1, 70, 1) := rfl
theorem f42_15 : amFetch 42 15 = some (.aload_n 0, 1, 0, 0, 0) := rfl
theorem f42_16 : amFetch 42 16 = some (.aload 4, 2, 0, 0, 0) := rfl
theorem f42_18 : amFetch 42 18 = some (.iload_n 2, 1, 0, 0, 0) := rfl
theorem f42_19 : amFetch 42 19 = some (.iload_n 3, 1, 0, 0, 0) := rfl
theorem f42_20 : amFetch 42 20 = some (.invokevirtual 49, 3, 0, 75, 3) := rfl
theorem f42_23 : amFetch 42 23 = some (.ireturn, 1, 0, 0, 0) := rfl
theorem ow42 : amOwnL 42 = some (3, 5) := rfl
-- X3_countOf
theorem f43_0 : amFetch 43 0 = some (.aload_n 0, 1, 0, 0, 0) := rfl
theorem f43_1 : amFetch 43 1 = some (.iload_n 1, 1, 0, 0, 0) := rfl
theorem f43_2 : amFetch 43 2 = some (.invokevirtual 37, 3, 0, 67, 1) := rfl
theorem f43_5 : amFetch 43 5 = some (.astore_n 3, 1, 0, 0, 0) := rfl
theorem f43_6 : amFetch 43 6 = some (.iload_n 2, 1, 0, 0, 0) := rfl
theorem f43_7 : amFetch 43 7 = some (.invokestatic 55, 3, 1, 69, 1) := rfl
theorem f43_10 : amFetch 43 10 = some (.aload_n 3, 1, 0, 0, 0) := rfl
theorem f43_11 : amFetch 43 11 = some (.iload_n 2, 1, 0, 0, 0) := rfl
theorem f43_12 : amFetch 43 12 = some (.invokevirtual 52, 3, 0, 28, 1) := rfl
theorem f43_15 : amFetch 43 15 = some (.ireturn, 1, 0, 0, 0) := rfl
theorem ow43 : amOwnL 43 = some (3, 4) := rfl
-- X3_countInLists
theorem f44_0 : amFetch 44 0 = some (.aload_n 0, 1, 0, 0, 0) := rfl
theorem f44_1 : amFetch 44 1 = some (.iload_n 1, 1, 0, 0, 0) := rfl
theorem f44_2 : amFetch 44 2 = some (.invokevirtual 37, 3, 0, 67, 1) := rfl
theorem f44_5 : amFetch 44 5 = some (.astore_n 3, 1, 0, 0, 0) := rfl
theorem f44_6 : amFetch 44 6 = some (.iload_n 2, 1, 0, 0, 0) := rfl
theorem f44_7 : amFetch 44 7 = some (.invokestatic 55, 3, 1, 69, 1) := rfl
theorem f44_10 : amFetch 44 10 = some (.aload_n 0, 1, 0, 0, 0) := rfl
theorem f44_11 : amFetch 44 11 = some (.getfield 32, 3, 3, 4, 0) := rfl
theorem f44_14 : amFetch 44 14 = some (.aload_n 3, 1, 0, 0, 0) := rfl
theorem f44_15 : amFetch 44 15 = some (.invokevirtual 62, 3, 0, 10, 1) := rfl
theorem f44_18 : amFetch 44 18 = some (.aload_n 0, 1, 0, 0, 0) := rfl
theorem f44_19 : amFetch 44 19 = some (.getfield 32, 3, 3, 4, 0) := rfl
theorem f44_22 : amFetch 44 22 = some (.aload_n 3, 1, 0, 0, 0) := rfl
theorem f44_23 : amFetch 44 23 = some (.iload_n 2, 1, 0, 0, 0) := rfl
theorem f44_24 : amFetch 44 24 = some (.invokevirtual 66, 3, 0, 12, 2) := rfl
theorem f44_27 : amFetch 44 27 = some (.ireturn, 1, 0, 0, 0) := rfl
theorem ow44 : amOwnL 44 = some (3, 4) := rfl
-- X3_lookedAt
theorem f45_0 : amFetch 45 0 = some (.aload_n 0, 1, 0, 0, 0) := rfl
theorem f45_1 : amFetch 45 1 = some (.iload_n 1, 1, 0, 0, 0) := rfl
theorem f45_2 : amFetch 45 2 = some (.invokevirtual 37, 3, 0, 67, 1) := rfl
theorem f45_5 : amFetch 45 5 = some (.astore_n 3, 1, 0, 0, 0) := rfl
theorem f45_6 : amFetch 45 6 = some (.iload_n 2, 1, 0, 0, 0) := rfl
theorem f45_7 : amFetch 45 7 = some (.invokestatic 55, 3, 1, 69, 1) := rfl
theorem f45_10 : amFetch 45 10 = some (.aload_n 3, 1, 0, 0, 0) := rfl
theorem f45_11 : amFetch 45 11 = some (.iload_n 2, 1, 0, 0, 0) := rfl
theorem f45_12 : amFetch 45 12 = some (.invokevirtual 70, 3, 0, 29, 1) := rfl
theorem f45_15 : amFetch 45 15 = some (.ireturn, 1, 0, 0, 0) := rfl
theorem ow45 : amOwnL 45 = some (3, 4) := rfl
-- X3_clear
theorem f46_0 : amFetch 46 0 = some (.aload_n 0, 1, 0, 0, 0) := rfl
theorem f46_1 : amFetch 46 1 = some (.iload_n 1, 1, 0, 0, 0) := rfl
theorem f46_2 : amFetch 46 2 = some (.invokevirtual 37, 3, 0, 67, 1) := rfl
theorem f46_5 : amFetch 46 5 = some (.invokevirtual 73, 3, 0, 32, 0) := rfl
theorem f46_8 : amFetch 46 8 = some (.return_, 1, 0, 0, 0) := rfl
theorem ow46 : amOwnL 46 = some (3, 2) := rfl
-- X3_grow
theorem f47_0 : amFetch 47 0 = some (.aload_n 0, 1, 0, 0, 0) := rfl
theorem f47_1 : amFetch 47 1 = some (.iload_n 1, 1, 0, 0, 0) := rfl
theorem f47_2 : amFetch 47 2 = some (.invokevirtual 37, 3, 0, 67, 1) := rfl
theorem f47_5 : amFetch 47 5 = some (.astore_n 2, 1, 0, 0, 0) := rfl
theorem f47_6 : amFetch 47 6 = some (.aload_n 2, 1, 0, 0, 0) := rfl
theorem f47_7 : amFetch 47 7 = some (.getfield 76, 3, 2, 5, 0) := rfl
theorem f47_10 : amFetch 47 10 = some (.bipush 8, 2, 0, 0, 0) := rfl
theorem f47_12 : amFetch 47 12 = some (.if_icmp .lt 13, 3, 0, 0, 0) := rfl
theorem f47_15 : amFetch 47 15 = some (.new 80, 3, 1, 2, 82084) := rfl
theorem f47_18 : amFetch 47 18 = some (.dup, 1, 0, 0, 0) := rfl
theorem f47_19 : amFetch 47 19 = some (.ldc 82, 2, 0, 0, 0) := rfl
theorem f47_21 : amFetch 47 21 = some (.invokespecial 84, 3, 9, 0, 1) := rfl
theorem f47_24 : amFetch 47 24 = some (.athrow, 1, 0, 0, 0) := rfl
theorem f47_25 : amFetch 47 25 = some (.aload_n 0, 1, 0, 0, 0) := rfl
theorem f47_26 : amFetch 47 26 = some (.aload_n 2, 1, 0, 0, 0) := rfl
theorem f47_27 : amFetch 47 27 = some (.aload_n 2, 1, 0, 0, 0) := rfl
theorem f47_28 : amFetch 47 28 = some (.getfield 76, 3, 2, 5, 0) := rfl
theorem f47_31 : amFetch 47 31 = some (.iconst 1, 1, 0, 0, 0) := rfl
theorem f47_32 : amFetch 47 32 = some (.iadd, 1, 0, 0, 0) := rfl
theorem f47_33 : amFetch 47 33 = some (.invokevirtual 87, 3, 0, 76, 2) := rfl
theorem f47_36 : amFetch 47 36 = some (.ireturn, 1, 0, 0, 0) := rfl
theorem ow47 : amOwnL 47 = some (3, 3) := rfl
-- X3_shrink
theorem f48_0 : amFetch 48 0 = some (.aload_n 0, 1, 0, 0, 0) := rfl
theorem f48_1 : amFetch 48 1 = some (.iload_n 1, 1, 0, 0, 0) := rfl
theorem f48_2 : amFetch 48 2 = some (.invokevirtual 37, 3, 0, 67, 1) := rfl
theorem f48_5 : amFetch 48 5 = some (.astore_n 2, 1, 0, 0, 0) := rfl
theorem f48_6 : amFetch 48 6 = some (.aload_n 2, 1, 0, 0, 0) := rfl
theorem f48_7 : amFetch 48 7 = some (.getfield 76, 3, 2, 5, 0) := rfl
theorem f48_10 : amFetch 48 10 = some (.iconst 3, 1, 0, 0, 0) := rfl
theorem f48_11 : amFetch 48 11 = some (.if_icmp .gt 13, 3, 0, 0, 0) := rfl
theorem f48_14 : amFetch 48 14 = some (.new 80, 3, 1, 2, 90084) := rfl
theorem f48_17 : amFetch 48 17 = some (.dup, 1, 0, 0, 0) := rfl
theorem f48_18 : amFetch 48 18 = some (.ldc 90, 2, 0, 0, 0) := rfl
theorem f48_20 : amFetch 48 20 = some (.invokespecial 84, 3, 9, 0, 1) := rfl
theorem f48_23 : amFetch 48 23 = some (.athrow, 1, 0, 0, 0) := rfl
theorem f48_24 : amFetch 48 24 = some (.aload_n 0, 1, 0, 0, 0) := rfl
theorem f48_25 : amFetch 48 25 = some (.aload_n 2, 1, 0, 0, 0) := rfl
theorem f48_26 : amFetch 48 26 = some (.aload_n 2, 1, 0, 0, 0) := rfl
theorem f48_27 : amFetch 48 27 = some (.getfield 76, 3, 2, 5, 0) := rfl
theorem f48_30 : amFetch 48 30 = some (.iconst 1, 1, 0, 0, 0) := rfl
theorem f48_31 : amFetch 48 31 = some (.isub, 1, 0, 0, 0) := rfl
theorem f48_32 : amFetch 48 32 = some (.invokevirtual 87, 3, 0, 76, 2) := rfl
theorem f48_35 : amFetch 48 35 = some (.ireturn, 1, 0, 0, 0) := rfl
theorem ow48 : amOwnL 48 = some (3, 3) := rfl
-- X3_merge
theorem f49_0 : amFetch 49 0 = some (.aload_n 0, 1, 0, 0, 0) := rfl
theorem f49_1 : amFetch 49 1 = some (.iload_n 1, 1, 0, 0, 0) := rfl
theorem f49_2 : amFetch 49 2 = some (.invokevirtual 37, 3, 0, 67, 1) := rfl
theorem f49_5 : amFetch 49 5 = some (.astore_n 3, 1, 0, 0, 0) := rfl
theorem f49_6 : amFetch 49 6 = some (.aload_n 0, 1, 0, 0, 0) := rfl
theorem f49_7 : amFetch 49 7 = some (.iload_n 2, 1, 0, 0, 0) := rfl
theorem f49_8 : amFetch 49 8 = some (.invokevirtual 37, 3, 0, 67, 1) := rfl
theorem f49_11 : amFetch 49 11 = some (.astore 4, 2, 0, 0, 0) := rfl
theorem f49_13 : amFetch 49 13 = some (.aload_n 3, 1, 0, 0, 0) := rfl
theorem f49_14 : amFetch 49 14 = some (.aload_n 0, 1, 0, 0, 0) := rfl
theorem f49_15 : amFetch 49 15 = some (.getfield 19, 3, 3, 1, 0) := rfl
theorem f49_18 : amFetch 49 18 = some (.invokevirtual 92, 3, 0, 31, 1) := rfl
theorem f49_21 : amFetch 49 21 = some (.aload 4, 2, 0, 0, 0) := rfl
theorem f49_23 : amFetch 49 23 = some (.aload_n 0, 1, 0, 0, 0) := rfl
theorem f49_24 : amFetch 49 24 = some (.getfield 23, 3, 3, 2, 0) := rfl
theorem f49_27 : amFetch 49 27 = some (.invokevirtual 92, 3, 0, 31, 1) := rfl
theorem f49_30 : amFetch 49 30 = some (.aload_n 0, 1, 0, 0, 0) := rfl
theorem f49_31 : amFetch 49 31 = some (.getfield 26, 3, 3, 3, 0) := rfl
theorem f49_34 : amFetch 49 34 = some (.aload_n 0, 1, 0, 0, 0) := rfl
theorem f49_35 : amFetch 49 35 = some (.getfield 19, 3, 3, 1, 0) := rfl
theorem f49_38 : amFetch 49 38 = some (.aload_n 0, 1, 0, 0, 0) := rfl
theorem f49_39 : amFetch 49 39 = some (.getfield 23, 3, 3, 2, 0) := rfl
theorem f49_42 : amFetch 49 42 = some (.invokevirtual 96, 3, 0, 3, 2) := rfl
theorem f49_45 : amFetch 49 45 = some (.aload_n 0, 1, 0, 0, 0) := rfl
theorem f49_46 : amFetch 49 46 = some (.getfield 26, 3, 3, 3, 0) := rfl
theorem f49_49 : amFetch 49 49 = some (.aload_n 3, 1, 0, 0, 0) := rfl
theorem f49_50 : amFetch 49 50 = some (.getfield 76, 3, 2, 5, 0) := rfl
theorem f49_53 : amFetch 49 53 = some (.invokestatic 100, 3, 1, 71, 2) := rfl
theorem f49_56 : amFetch 49 56 = some (.aload_n 3, 1, 0, 0, 0) := rfl
theorem f49_57 : amFetch 49 57 = some (.aload_n 3, 1, 0, 0, 0) := rfl
theorem f49_58 : amFetch 49 58 = some (.getfield 76, 3, 2, 5, 0) := rfl
theorem f49_61 : amFetch 49 61 = some (.aload_n 0, 1, 0, 0, 0) := rfl
theorem f49_62 : amFetch 49 62 = some (.getfield 26, 3, 3, 3, 0) := rfl
theorem f49_65 : amFetch 49 65 = some (.invokevirtual 104, 3, 0, 33, 2) := rfl
theorem f49_68 : amFetch 49 68 = some (.aload_n 3, 1, 0, 0, 0) := rfl
theorem f49_69 : amFetch 49 69 = some (.invokevirtual 108, 3, 0, 20, 0) := rfl
theorem f49_72 : amFetch 49 72 = some (.ireturn, 1, 0, 0, 0) := rfl
theorem ow49 : amOwnL 49 = some (3, 5) := rfl
-- X3_intersect
theorem f50_0 : amFetch 50 0 = some (.aload_n 0, 1, 0, 0, 0) := rfl
theorem f50_1 : amFetch 50 1 = some (.iload_n 1, 1, 0, 0, 0) := rfl
theorem f50_2 : amFetch 50 2 = some (.invokevirtual 37, 3, 0, 67, 1) := rfl
theorem f50_5 : amFetch 50 5 = some (.astore_n 3, 1, 0, 0, 0) := rfl
theorem f50_6 : amFetch 50 6 = some (.aload_n 0, 1, 0, 0, 0) := rfl
theorem f50_7 : amFetch 50 7 = some (.iload_n 2, 1, 0, 0, 0) := rfl
theorem f50_8 : amFetch 50 8 = some (.invokevirtual 37, 3, 0, 67, 1) := rfl
theorem f50_11 : amFetch 50 11 = some (.astore 4, 2, 0, 0, 0) := rfl
theorem f50_13 : amFetch 50 13 = some (.aload_n 3, 1, 0, 0, 0) := rfl
theorem f50_14 : amFetch 50 14 = some (.aload_n 0, 1, 0, 0, 0) := rfl
theorem f50_15 : amFetch 50 15 = some (.getfield 19, 3, 3, 1, 0) := rfl
theorem f50_18 : amFetch 50 18 = some (.invokevirtual 92, 3, 0, 31, 1) := rfl
theorem f50_21 : amFetch 50 21 = some (.aload 4, 2, 0, 0, 0) := rfl
theorem f50_23 : amFetch 50 23 = some (.aload_n 0, 1, 0, 0, 0) := rfl
theorem f50_24 : amFetch 50 24 = some (.getfield 23, 3, 3, 2, 0) := rfl
theorem f50_27 : amFetch 50 27 = some (.invokevirtual 92, 3, 0, 31, 1) := rfl
theorem f50_30 : amFetch 50 30 = some (.aload_n 0, 1, 0, 0, 0) := rfl
theorem f50_31 : amFetch 50 31 = some (.getfield 26, 3, 3, 3, 0) := rfl
theorem f50_34 : amFetch 50 34 = some (.aload_n 0, 1, 0, 0, 0) := rfl
theorem f50_35 : amFetch 50 35 = some (.getfield 19, 3, 3, 1, 0) := rfl
theorem f50_38 : amFetch 50 38 = some (.aload_n 0, 1, 0, 0, 0) := rfl
theorem f50_39 : amFetch 50 39 = some (.getfield 23, 3, 3, 2, 0) := rfl
theorem f50_42 : amFetch 50 42 = some (.invokevirtual 112, 3, 0, 4, 2) := rfl
theorem f50_45 : amFetch 50 45 = some (.aload_n 3, 1, 0, 0, 0) := rfl
theorem f50_46 : amFetch 50 46 = some (.aload_n 3, 1, 0, 0, 0) := rfl
theorem f50_47 : amFetch 50 47 = some (.getfield 76, 3, 2, 5, 0) := rfl
theorem f50_50 : amFetch 50 50 = some (.aload_n 0, 1, 0, 0, 0) := rfl
theorem f50_51 : amFetch 50 51 = some (.getfield 26, 3, 3, 3, 0) := rfl
theorem f50_54 : amFetch 50 54 = some (.invokevirtual 104, 3, 0, 33, 2) := rfl
theorem f50_57 : amFetch 50 57 = some (.aload_n 3, 1, 0, 0, 0) := rfl
theorem f50_58 : amFetch 50 58 = some (.invokevirtual 108, 3, 0, 20, 0) := rfl
theorem f50_61 : amFetch 50 61 = some (.ireturn, 1, 0, 0, 0) := rfl
theorem ow50 : amOwnL 50 = some (3, 5) := rfl
-- X3_isSame
theorem f51_0 : amFetch 51 0 = some (.aload_n 0, 1, 0, 0, 0) := rfl
theorem f51_1 : amFetch 51 1 = some (.iload_n 1, 1, 0, 0, 0) := rfl
theorem f51_2 : amFetch 51 2 = some (.invokevirtual 37, 3, 0, 67, 1) := rfl
theorem f51_5 : amFetch 51 5 = some (.astore_n 3, 1, 0, 0, 0) := rfl
theorem f51_6 : amFetch 51 6 = some (.aload_n 0, 1, 0, 0, 0) := rfl
theorem f51_7 : amFetch 51 7 = some (.iload_n 2, 1, 0, 0, 0) := rfl
theorem f51_8 : amFetch 51 8 = some (.invokevirtual 37, 3, 0, 67, 1) := rfl
theorem f51_11 : amFetch 51 11 = some (.astore 4, 2, 0, 0, 0) := rfl
theorem f51_13 : amFetch 51 13 = some (.aload_n 3, 1, 0, 0, 0) := rfl
theorem f51_14 : amFetch 51 14 = some (.aload_n 0, 1, 0, 0, 0) := rfl
theorem f51_15 : amFetch 51 15 = some (.getfield 19, 3, 3, 1, 0) := rfl
theorem f51_18 : amFetch 51 18 = some (.invokevirtual 92, 3, 0, 31, 1) := rfl
theorem f51_21 : amFetch 51 21 = some (.aload 4, 2, 0, 0, 0) := rfl
theorem f51_23 : amFetch 51 23 = some (.aload_n 0, 1, 0, 0, 0) := rfl
theorem f51_24 : amFetch 51 24 = some (.getfield 23, 3, 3, 2, 0) := rfl
theorem f51_27 : amFetch 51 27 = some (.invokevirtual 92, 3, 0, 31, 1) := rfl
theorem f51_30 : amFetch 51 30 = some (.aload_n 0, 1, 0, 0, 0) := rfl
theorem f51_31 : amFetch 51 31 = some (.getfield 19, 3, 3, 1, 0) := rfl
theorem f51_34 : amFetch 51 34 = some (.aload_n 0, 1, 0, 0, 0) := rfl
theorem f51_35 : amFetch 51 35 = some (.getfield 23, 3, 3, 2, 0) := rfl
theorem f51_38 : amFetch 51 38 = some (.invokevirtual 115, 3, 0, 7, 1) := rfl
theorem f51_41 : amFetch 51 41 = some (.ireturn, 1, 0, 0, 0) := rfl
theorem ow51 : amOwnL 51 = some (3, 5) := rfl
-- X3_slots
theorem f52_0 : amFetch 52 0 = some (.aload_n 0, 1, 0, 0, 0) := rfl
theorem f52_1 : amFetch 52 1 = some (.iload_n 1, 1, 0, 0, 0) := rfl
theorem f52_2 : amFetch 52 2 = some (.invokevirtual 37, 3, 0, 67, 1) := rfl
theorem f52_5 : amFetch 52 5 = some (.invokevirtual 119, 3, 0, 14, 0) := rfl
theorem f52_8 : amFetch 52 8 = some (.ireturn, 1, 0, 0, 0) := rfl
theorem ow52 : amOwnL 52 = some (3, 2) := rfl
-- X3_entries
theorem f53_0 : amFetch 53 0 = some (.aload_n 0, 1, 0, 0, 0) := rfl
theorem f53_1 : amFetch 53 1 = some (.iload_n 1, 1, 0, 0, 0) := rfl
theorem f53_2 : amFetch 53 2 = some (.invokevirtual 37, 3, 0, 67, 1) := rfl
theorem f53_5 : amFetch 53 5 = some (.invokevirtual 108, 3, 0, 20, 0) := rfl
theorem f53_8 : amFetch 53 8 = some (.ireturn, 1, 0, 0, 0) := rfl
theorem ow53 : amOwnL 53 = some (3, 2) := rfl
-- X3_distinct
theorem f54_0 : amFetch 54 0 = some (.aload_n 0, 1, 0, 0, 0) := rfl
theorem f54_1 : amFetch 54 1 = some (.iload_n 1, 1, 0, 0, 0) := rfl
theorem f54_2 : amFetch 54 2 = some (.invokevirtual 37, 3, 0, 67, 1) := rfl
theorem f54_5 : amFetch 54 5 = some (.aload_n 0, 1, 0, 0, 0) := rfl
theorem f54_6 : amFetch 54 6 = some (.getfield 19, 3, 3, 1, 0) := rfl
theorem f54_9 : amFetch 54 9 = some (.invokevirtual 92, 3, 0, 31, 1) := rfl
theorem f54_12 : amFetch 54 12 = some (.aload_n 0, 1, 0, 0, 0) := rfl
theorem f54_13 : amFetch 54 13 = some (.getfield 19, 3, 3, 1, 0) := rfl
theorem f54_16 : amFetch 54 16 = some (.getfield 122, 3, 0, 2, 0) := rfl
theorem f54_19 : amFetch 54 19 = some (.ireturn, 1, 0, 0, 0) := rfl
theorem ow54 : amOwnL 54 = some (3, 2) := rfl
-- X3_total
theorem f55_0 : amFetch 55 0 = some (.aload_n 0, 1, 0, 0, 0) := rfl
theorem f55_1 : amFetch 55 1 = some (.iload_n 1, 1, 0, 0, 0) := rfl
theorem f55_2 : amFetch 55 2 = some (.invokevirtual 37, 3, 0, 67, 1) := rfl
theorem f55_5 : amFetch 55 5 = some (.invokevirtual 125, 3, 0, 21, 0) := rfl
theorem f55_8 : amFetch 55 8 = some (.ireturn, 1, 0, 0, 0) := rfl
theorem ow55 : amOwnL 55 = some (3, 2) := rfl
-- X3_fingerprintAt
theorem f56_0 : amFetch 56 0 = some (.aload_n 0, 1, 0, 0, 0) := rfl
theorem f56_1 : amFetch 56 1 = some (.iload_n 1, 1, 0, 0, 0) := rfl
theorem f56_2 : amFetch 56 2 = some (.invokevirtual 37, 3, 0, 67, 1) := rfl
theorem f56_5 : amFetch 56 5 = some (.aload_n 0, 1, 0, 0, 0) := rfl
theorem f56_6 : amFetch 56 6 = some (.getfield 19, 3, 3, 1, 0) := rfl
theorem f56_9 : amFetch 56 9 = some (.invokevirtual 92, 3, 0, 31, 1) := rfl
theorem f56_12 : amFetch 56 12 = some (.iload_n 2, 1, 0, 0, 0) := rfl
theorem f56_13 : amFetch 56 13 = some (.ifCond .lt 14, 3, 0, 0, 0) := rfl
theorem f56_16 : amFetch 56 16 = some (.iload_n 2, 1, 0, 0, 0) := rfl
theorem f56_17 : amFetch 56 17 = some (.aload_n 0, 1, 0, 0, 0) := rfl
theorem f56_18 : amFetch 56 18 = some (.getfield 19, 3, 3, 1, 0) := rfl
theorem f56_21 : amFetch 56 21 = some (.getfield 122, 3, 0, 2, 0) := rfl
theorem f56_24 : amFetch 56 24 = some (.if_icmp .lt 13, 3, 0, 0, 0) := rfl
theorem f56_27 : amFetch 56 27 = some (.new 128, 3, 1, 1, 130132) := rfl
theorem f56_30 : amFetch 56 30 = some (.dup, 1, 0, 0, 0) := rfl
theorem f56_31 : amFetch 56 31 = some (.ldc 130, 2, 0, 0, 0) := rfl
theorem f56_33 : amFetch 56 33 = some (.invokespecial 132, 3, 9, 0, 1) := rfl
theorem f56_36 : amFetch 56 36 = some (.athrow, 1, 0, 0, 0) := rfl
theorem f56_37 : amFetch 56 37 = some (.aload_n 0, 1, 0, 0, 0) := rfl
theorem f56_38 : amFetch 56 38 = some (.getfield 19, 3, 3, 1, 0) := rfl
theorem f56_41 : amFetch 56 41 = some (.getfield 133, 3, 0, 0, 0) := rfl
theorem f56_44 : amFetch 56 44 = some (.iload_n 2, 1, 0, 0, 0) := rfl
theorem f56_45 : amFetch 56 45 = some (.iaload, 1, 0, 0, 0) := rfl
theorem f56_46 : amFetch 56 46 = some (.ireturn, 1, 0, 0, 0) := rfl
theorem ow56 : amOwnL 56 = some (3, 3) := rfl
-- X3_remainderAt
theorem f57_0 : amFetch 57 0 = some (.aload_n 0, 1, 0, 0, 0) := rfl
theorem f57_1 : amFetch 57 1 = some (.iload_n 1, 1, 0, 0, 0) := rfl
theorem f57_2 : amFetch 57 2 = some (.invokevirtual 37, 3, 0, 67, 1) := rfl
theorem f57_5 : amFetch 57 5 = some (.astore_n 3, 1, 0, 0, 0) := rfl
theorem f57_6 : amFetch 57 6 = some (.aload_n 3, 1, 0, 0, 0) := rfl
theorem f57_7 : amFetch 57 7 = some (.iload_n 2, 1, 0, 0, 0) := rfl
theorem f57_8 : amFetch 57 8 = some (.invokestatic 137, 3, 1, 68, 2) := rfl
theorem f57_11 : amFetch 57 11 = some (.aload_n 3, 1, 0, 0, 0) := rfl
theorem f57_12 : amFetch 57 12 = some (.iload_n 2, 1, 0, 0, 0) := rfl
theorem f57_13 : amFetch 57 13 = some (.invokevirtual 141, 3, 0, 15, 1) := rfl
theorem f57_16 : amFetch 57 16 = some (.ifCond .eq 7, 3, 0, 0, 0) := rfl
theorem f57_19 : amFetch 57 19 = some (.iconst (-1), 1, 0, 0, 0) := rfl
theorem f57_20 : amFetch 57 20 = some (.goto 9, 3, 0, 0, 0) := rfl
theorem f57_23 : amFetch 57 23 = some (.aload_n 3, 1, 0, 0, 0) := rfl
theorem f57_24 : amFetch 57 24 = some (.getfield 145, 3, 2, 0, 0) := rfl
theorem f57_27 : amFetch 57 27 = some (.iload_n 2, 1, 0, 0, 0) := rfl
theorem f57_28 : amFetch 57 28 = some (.iaload, 1, 0, 0, 0) := rfl
theorem f57_29 : amFetch 57 29 = some (.ireturn, 1, 0, 0, 0) := rfl
theorem ow57 : amOwnL 57 = some (3, 4) := rfl
-- X3_counterAt
theorem f58_0 : amFetch 58 0 = some (.aload_n 0, 1, 0, 0, 0) := rfl
theorem f58_1 : amFetch 58 1 = some (.iload_n 1, 1, 0, 0, 0) := rfl
theorem f58_2 : amFetch 58 2 = some (.invokevirtual 37, 3, 0, 67, 1) := rfl
theorem f58_5 : amFetch 58 5 = some (.astore_n 3, 1, 0, 0, 0) := rfl
theorem f58_6 : amFetch 58 6 = some (.aload_n 3, 1, 0, 0, 0) := rfl
theorem f58_7 : amFetch 58 7 = some (.iload_n 2, 1, 0, 0, 0) := rfl
theorem f58_8 : amFetch 58 8 = some (.invokestatic 137, 3, 1, 68, 2) := rfl
theorem f58_11 : amFetch 58 11 = some (.aload_n 3, 1, 0, 0, 0) := rfl
theorem f58_12 : amFetch 58 12 = some (.getfield 148, 3, 2, 1, 0) := rfl
theorem f58_15 : amFetch 58 15 = some (.iload_n 2, 1, 0, 0, 0) := rfl
theorem f58_16 : amFetch 58 16 = some (.iaload, 1, 0, 0, 0) := rfl
theorem f58_17 : amFetch 58 17 = some (.ireturn, 1, 0, 0, 0) := rfl
theorem ow58 : amOwnL 58 = some (3, 4) := rfl
-- X3_quotientAt
theorem f59_0 : amFetch 59 0 = some (.aload_n 0, 1, 0, 0, 0) := rfl
theorem f59_1 : amFetch 59 1 = some (.iload_n 1, 1, 0, 0, 0) := rfl
theorem f59_2 : amFetch 59 2 = some (.invokevirtual 37, 3, 0, 67, 1) := rfl
theorem f59_5 : amFetch 59 5 = some (.astore_n 3, 1, 0, 0, 0) := rfl
theorem f59_6 : amFetch 59 6 = some (.aload_n 3, 1, 0, 0, 0) := rfl
theorem f59_7 : amFetch 59 7 = some (.iload_n 2, 1, 0, 0, 0) := rfl
theorem f59_8 : amFetch 59 8 = some (.invokestatic 137, 3, 1, 68, 2) := rfl
theorem f59_11 : amFetch 59 11 = some (.aload_n 3, 1, 0, 0, 0) := rfl
theorem f59_12 : amFetch 59 12 = some (.iload_n 2, 1, 0, 0, 0) := rfl
theorem f59_13 : amFetch 59 13 = some (.invokevirtual 141, 3, 0, 15, 1) := rfl
theorem f59_16 : amFetch 59 16 = some (.ifCond .eq 7, 3, 0, 0, 0) := rfl
theorem f59_19 : amFetch 59 19 = some (.iconst (-1), 1, 0, 0, 0) := rfl
theorem f59_20 : amFetch 59 20 = some (.goto 8, 3, 0, 0, 0) := rfl
theorem f59_23 : amFetch 59 23 = some (.aload_n 3, 1, 0, 0, 0) := rfl
theorem f59_24 : amFetch 59 24 = some (.iload_n 2, 1, 0, 0, 0) := rfl
theorem f59_25 : amFetch 59 25 = some (.invokevirtual 151, 3, 0, 27, 1) := rfl
theorem f59_28 : amFetch 59 28 = some (.ireturn, 1, 0, 0, 0) := rfl
theorem ow59 : amOwnL 59 = some (3, 4) := rfl
-- X3_isOccupied
theorem f60_0 : amFetch 60 0 = some (.aload_n 0, 1, 0, 0, 0) := rfl
theorem f60_1 : amFetch 60 1 = some (.iload_n 1, 1, 0, 0, 0) := rfl
theorem f60_2 : amFetch 60 2 = some (.invokevirtual 37, 3, 0, 67, 1) := rfl
theorem f60_5 : amFetch 60 5 = some (.astore_n 3, 1, 0, 0, 0) := rfl
theorem f60_6 : amFetch 60 6 = some (.aload_n 3, 1, 0, 0, 0) := rfl
theorem f60_7 : amFetch 60 7 = some (.iload_n 2, 1, 0, 0, 0) := rfl
theorem f60_8 : amFetch 60 8 = some (.invokestatic 137, 3, 1, 68, 2) := rfl
theorem f60_11 : amFetch 60 11 = some (.aload_n 3, 1, 0, 0, 0) := rfl
theorem f60_12 : amFetch 60 12 = some (.getfield 154, 3, 2, 2, 0) := rfl
theorem f60_15 : amFetch 60 15 = some (.iload_n 2, 1, 0, 0, 0) := rfl
theorem f60_16 : amFetch 60 16 = some (.baload, 1, 0, 0, 0) := rfl
theorem f60_17 : amFetch 60 17 = some (.ireturn, 1, 0, 0, 0) := rfl
theorem ow60 : amOwnL 60 = some (3, 4) := rfl
-- X3_isContinuation
theorem f61_0 : amFetch 61 0 = some (.aload_n 0, 1, 0, 0, 0) := rfl
theorem f61_1 : amFetch 61 1 = some (.iload_n 1, 1, 0, 0, 0) := rfl
theorem f61_2 : amFetch 61 2 = some (.invokevirtual 37, 3, 0, 67, 1) := rfl
theorem f61_5 : amFetch 61 5 = some (.astore_n 3, 1, 0, 0, 0) := rfl
theorem f61_6 : amFetch 61 6 = some (.aload_n 3, 1, 0, 0, 0) := rfl
theorem f61_7 : amFetch 61 7 = some (.iload_n 2, 1, 0, 0, 0) := rfl
theorem f61_8 : amFetch 61 8 = some (.invokestatic 137, 3, 1, 68, 2) := rfl
theorem f61_11 : amFetch 61 11 = some (.aload_n 3, 1, 0, 0, 0) := rfl
theorem f61_12 : amFetch 61 12 = some (.getfield 158, 3, 2, 3, 0) := rfl
theorem f61_15 : amFetch 61 15 = some (.iload_n 2, 1, 0, 0, 0) := rfl
theorem f61_16 : amFetch 61 16 = some (.baload, 1, 0, 0, 0) := rfl
theorem f61_17 : amFetch 61 17 = some (.ireturn, 1, 0, 0, 0) := rfl
theorem ow61 : amOwnL 61 = some (3, 4) := rfl
-- X3_isShifted
theorem f62_0 : amFetch 62 0 = some (.aload_n 0, 1, 0, 0, 0) := rfl
theorem f62_1 : amFetch 62 1 = some (.iload_n 1, 1, 0, 0, 0) := rfl
theorem f62_2 : amFetch 62 2 = some (.invokevirtual 37, 3, 0, 67, 1) := rfl
theorem f62_5 : amFetch 62 5 = some (.astore_n 3, 1, 0, 0, 0) := rfl
theorem f62_6 : amFetch 62 6 = some (.aload_n 3, 1, 0, 0, 0) := rfl
theorem f62_7 : amFetch 62 7 = some (.iload_n 2, 1, 0, 0, 0) := rfl
theorem f62_8 : amFetch 62 8 = some (.invokestatic 137, 3, 1, 68, 2) := rfl
theorem f62_11 : amFetch 62 11 = some (.aload_n 3, 1, 0, 0, 0) := rfl
theorem f62_12 : amFetch 62 12 = some (.getfield 161, 3, 2, 4, 0) := rfl
theorem f62_15 : amFetch 62 15 = some (.iload_n 2, 1, 0, 0, 0) := rfl
theorem f62_16 : amFetch 62 16 = some (.baload, 1, 0, 0, 0) := rfl
theorem f62_17 : amFetch 62 17 = some (.ireturn, 1, 0, 0, 0) := rfl
theorem ow62 : amOwnL 62 = some (3, 4) := rfl
-- X3_runStart
theorem f63_0 : amFetch 63 0 = some (.aload_n 0, 1, 0, 0, 0) := rfl
theorem f63_1 : amFetch 63 1 = some (.iload_n 1, 1, 0, 0, 0) := rfl
theorem f63_2 : amFetch 63 2 = some (.invokevirtual 37, 3, 0, 67, 1) := rfl
theorem f63_5 : amFetch 63 5 = some (.astore_n 3, 1, 0, 0, 0) := rfl
theorem f63_6 : amFetch 63 6 = some (.aload_n 3, 1, 0, 0, 0) := rfl
theorem f63_7 : amFetch 63 7 = some (.iload_n 2, 1, 0, 0, 0) := rfl
theorem f63_8 : amFetch 63 8 = some (.invokestatic 137, 3, 1, 68, 2) := rfl
theorem f63_11 : amFetch 63 11 = some (.aload_n 3, 1, 0, 0, 0) := rfl
theorem f63_12 : amFetch 63 12 = some (.iload_n 2, 1, 0, 0, 0) := rfl
theorem f63_13 : amFetch 63 13 = some (.invokevirtual 164, 3, 0, 25, 1) := rfl
theorem f63_16 : amFetch 63 16 = some (.ireturn, 1, 0, 0, 0) := rfl
theorem ow63 : amOwnL 63 = some (3, 4) := rfl
-- X3_runLength
theorem f64_0 : amFetch 64 0 = some (.aload_n 0, 1, 0, 0, 0) := rfl
theorem f64_1 : amFetch 64 1 = some (.iload_n 1, 1, 0, 0, 0) := rfl
theorem f64_2 : amFetch 64 2 = some (.invokevirtual 37, 3, 0, 67, 1) := rfl
theorem f64_5 : amFetch 64 5 = some (.astore_n 3, 1, 0, 0, 0) := rfl
theorem f64_6 : amFetch 64 6 = some (.aload_n 3, 1, 0, 0, 0) := rfl
theorem f64_7 : amFetch 64 7 = some (.iload_n 2, 1, 0, 0, 0) := rfl
theorem f64_8 : amFetch 64 8 = some (.invokestatic 137, 3, 1, 68, 2) := rfl
theorem f64_11 : amFetch 64 11 = some (.aload_n 3, 1, 0, 0, 0) := rfl
theorem f64_12 : amFetch 64 12 = some (.iload_n 2, 1, 0, 0, 0) := rfl
theorem f64_13 : amFetch 64 13 = some (.invokevirtual 164, 3, 0, 25, 1) := rfl
theorem f64_16 : amFetch 64 16 = some (.istore 4, 2, 0, 0, 0) := rfl
theorem f64_18 : amFetch 64 18 = some (.iload 4, 2, 0, 0, 0) := rfl
theorem f64_20 : amFetch 64 20 = some (.iconst (-1), 1, 0, 0, 0) := rfl
theorem f64_21 : amFetch 64 21 = some (.if_icmp .ne 7, 3, 0, 0, 0) := rfl
theorem f64_24 : amFetch 64 24 = some (.iconst 0, 1, 0, 0, 0) := rfl
theorem f64_25 : amFetch 64 25 = some (.goto 9, 3, 0, 0, 0) := rfl
theorem f64_28 : amFetch 64 28 = some (.aload_n 3, 1, 0, 0, 0) := rfl
theorem f64_29 : amFetch 64 29 = some (.iload 4, 2, 0, 0, 0) := rfl
theorem f64_31 : amFetch 64 31 = some (.invokevirtual 167, 3, 0, 26, 1) := rfl
theorem f64_34 : amFetch 64 34 = some (.ireturn, 1, 0, 0, 0) := rfl
theorem ow64 : amOwnL 64 = some (3, 5) := rfl
-- X3_clusterStart
theorem f65_0 : amFetch 65 0 = some (.aload_n 0, 1, 0, 0, 0) := rfl
theorem f65_1 : amFetch 65 1 = some (.iload_n 1, 1, 0, 0, 0) := rfl
theorem f65_2 : amFetch 65 2 = some (.invokevirtual 37, 3, 0, 67, 1) := rfl
theorem f65_5 : amFetch 65 5 = some (.astore_n 3, 1, 0, 0, 0) := rfl
theorem f65_6 : amFetch 65 6 = some (.aload_n 3, 1, 0, 0, 0) := rfl
theorem f65_7 : amFetch 65 7 = some (.iload_n 2, 1, 0, 0, 0) := rfl
theorem f65_8 : amFetch 65 8 = some (.invokestatic 137, 3, 1, 68, 2) := rfl
theorem f65_11 : amFetch 65 11 = some (.aload_n 3, 1, 0, 0, 0) := rfl
theorem f65_12 : amFetch 65 12 = some (.iload_n 2, 1, 0, 0, 0) := rfl
theorem f65_13 : amFetch 65 13 = some (.invokevirtual 141, 3, 0, 15, 1) := rfl
theorem f65_16 : amFetch 65 16 = some (.ifCond .eq 7, 3, 0, 0, 0) := rfl
theorem f65_19 : amFetch 65 19 = some (.iconst (-1), 1, 0, 0, 0) := rfl
theorem f65_20 : amFetch 65 20 = some (.goto 8, 3, 0, 0, 0) := rfl
theorem f65_23 : amFetch 65 23 = some (.aload_n 3, 1, 0, 0, 0) := rfl
theorem f65_24 : amFetch 65 24 = some (.iload_n 2, 1, 0, 0, 0) := rfl
theorem f65_25 : amFetch 65 25 = some (.invokevirtual 170, 3, 0, 24, 1) := rfl
theorem f65_28 : amFetch 65 28 = some (.ireturn, 1, 0, 0, 0) := rfl
theorem ow65 : amOwnL 65 = some (3, 4) := rfl
-- X3_longestCluster
theorem f66_0 : amFetch 66 0 = some (.aload_n 0, 1, 0, 0, 0) := rfl
theorem f66_1 : amFetch 66 1 = some (.iload_n 1, 1, 0, 0, 0) := rfl
theorem f66_2 : amFetch 66 2 = some (.invokevirtual 37, 3, 0, 67, 1) := rfl
theorem f66_5 : amFetch 66 5 = some (.invokevirtual 173, 3, 0, 30, 0) := rfl
theorem f66_8 : amFetch 66 8 = some (.ireturn, 1, 0, 0, 0) := rfl
theorem ow66 : amOwnL 66 = some (3, 2) := rfl
-- X3_tableOf
theorem f67_0 : amFetch 67 0 = some (.iload_n 1, 1, 0, 0, 0) := rfl
theorem f67_1 : amFetch 67 1 = some (.ifCond .lt 12, 3, 0, 0, 0) := rfl
theorem f67_4 : amFetch 67 4 = some (.iload_n 1, 1, 0, 0, 0) := rfl
theorem f67_5 : amFetch 67 5 = some (.aload_n 0, 1, 0, 0, 0) := rfl
theorem f67_6 : amFetch 67 6 = some (.getfield 11, 3, 3, 0, 0) := rfl
theorem f67_9 : amFetch 67 9 = some (.arraylength, 1, 0, 0, 0) := rfl
theorem f67_10 : amFetch 67 10 = some (.if_icmp .lt 13, 3, 0, 0, 0) := rfl
theorem f67_13 : amFetch 67 13 = some (.new 128, 3, 1, 1, 176132) := rfl
theorem f67_16 : amFetch 67 16 = some (.dup, 1, 0, 0, 0) := rfl
theorem f67_17 : amFetch 67 17 = some (.ldc 176, 2, 0, 0, 0) := rfl
theorem f67_19 : amFetch 67 19 = some (.invokespecial 132, 3, 9, 0, 1) := rfl
theorem f67_22 : amFetch 67 22 = some (.athrow, 1, 0, 0, 0) := rfl
theorem f67_23 : amFetch 67 23 = some (.aload_n 0, 1, 0, 0, 0) := rfl
theorem f67_24 : amFetch 67 24 = some (.getfield 11, 3, 3, 0, 0) := rfl
theorem f67_27 : amFetch 67 27 = some (.iload_n 1, 1, 0, 0, 0) := rfl
theorem f67_28 : amFetch 67 28 = some (.aaload, 1, 0, 0, 0) := rfl
theorem f67_29 : amFetch 67 29 = some (.areturn, 1, 0, 0, 0) := rfl
theorem ow67 : amOwnL 67 = some (3, 2) := rfl
-- X3_checkSlot
theorem f68_0 : amFetch 68 0 = some (.iload_n 1, 1, 0, 0, 0) := rfl
theorem f68_1 : amFetch 68 1 = some (.ifCond .lt 11, 3, 0, 0, 0) := rfl
theorem f68_4 : amFetch 68 4 = some (.iload_n 1, 1, 0, 0, 0) := rfl
theorem f68_5 : amFetch 68 5 = some (.aload_n 0, 1, 0, 0, 0) := rfl
theorem f68_6 : amFetch 68 6 = some (.invokevirtual 119, 3, 0, 14, 0) := rfl
theorem f68_9 : amFetch 68 9 = some (.if_icmp .lt 13, 3, 0, 0, 0) := rfl
theorem f68_12 : amFetch 68 12 = some (.new 128, 3, 1, 1, 178132) := rfl
theorem f68_15 : amFetch 68 15 = some (.dup, 1, 0, 0, 0) := rfl
theorem f68_16 : amFetch 68 16 = some (.ldc 178, 2, 0, 0, 0) := rfl
theorem f68_18 : amFetch 68 18 = some (.invokespecial 132, 3, 9, 0, 1) := rfl
theorem f68_21 : amFetch 68 21 = some (.athrow, 1, 0, 0, 0) := rfl
theorem f68_22 : amFetch 68 22 = some (.return_, 1, 0, 0, 0) := rfl
theorem ow68 : amOwnL 68 = some (3, 2) := rfl
-- X3_checkFingerprint
theorem f69_0 : amFetch 69 0 = some (.iload_n 0, 1, 0, 0, 0) := rfl
theorem f69_1 : amFetch 69 1 = some (.ifCond .lt 10, 3, 0, 0, 0) := rfl
theorem f69_4 : amFetch 69 4 = some (.iload_n 0, 1, 0, 0, 0) := rfl
theorem f69_5 : amFetch 69 5 = some (.sipush 4096, 3, 0, 0, 0) := rfl
theorem f69_8 : amFetch 69 8 = some (.if_icmp .lt 13, 3, 0, 0, 0) := rfl
theorem f69_11 : amFetch 69 11 = some (.new 180, 3, 1, 3, 182184) := rfl
theorem f69_14 : amFetch 69 14 = some (.dup, 1, 0, 0, 0) := rfl
theorem f69_15 : amFetch 69 15 = some (.ldc 182, 2, 0, 0, 0) := rfl
theorem f69_17 : amFetch 69 17 = some (.invokespecial 184, 3, 9, 0, 1) := rfl
theorem f69_20 : amFetch 69 20 = some (.athrow, 1, 0, 0, 0) := rfl
theorem f69_21 : amFetch 69 21 = some (.return_, 1, 0, 0, 0) := rfl
theorem ow69 : amOwnL 69 = some (3, 1) := rfl
-- X3_checkTimes
theorem f70_0 : amFetch 70 0 = some (.iload_n 0, 1, 0, 0, 0) := rfl
theorem f70_1 : amFetch 70 1 = some (.iconst 1, 1, 0, 0, 0) := rfl
theorem f70_2 : amFetch 70 2 = some (.if_icmp .lt 9, 3, 0, 0, 0) := rfl
theorem f70_5 : amFetch 70 5 = some (.iload_n 0, 1, 0, 0, 0) := rfl
theorem f70_6 : amFetch 70 6 = some (.bipush 100, 2, 0, 0, 0) := rfl
theorem f70_8 : amFetch 70 8 = some (.if_icmp .le 13, 3, 0, 0, 0) := rfl
theorem f70_11 : amFetch 70 11 = some (.new 180, 3, 1, 3, 185184) := rfl
theorem f70_14 : amFetch 70 14 = some (.dup, 1, 0, 0, 0) := rfl
theorem f70_15 : amFetch 70 15 = some (.ldc 185, 2, 0, 0, 0) := rfl
theorem f70_17 : amFetch 70 17 = some (.invokespecial 184, 3, 9, 0, 1) := rfl
theorem f70_20 : amFetch 70 20 = some (.athrow, 1, 0, 0, 0) := rfl
theorem f70_21 : amFetch 70 21 = some (.return_, 1, 0, 0, 0) := rfl
theorem ow70 : amOwnL 70 = some (3, 1) := rfl
-- X3_checkFits
theorem f71_0 : amFetch 71 0 = some (.aload_n 0, 1, 0, 0, 0) := rfl
theorem f71_1 : amFetch 71 1 = some (.invokevirtual 187, 3, 0, 8, 0) := rfl
theorem f71_4 : amFetch 71 4 = some (.iload_n 1, 1, 0, 0, 0) := rfl
theorem f71_5 : amFetch 71 5 = some (.invokestatic 190, 3, 1, 72, 1) := rfl
theorem f71_8 : amFetch 71 8 = some (.if_icmp .le 13, 3, 0, 0, 0) := rfl
theorem f71_11 : amFetch 71 11 = some (.new 80, 3, 1, 2, 193084) := rfl
theorem f71_14 : amFetch 71 14 = some (.dup, 1, 0, 0, 0) := rfl
theorem f71_15 : amFetch 71 15 = some (.ldc 193, 2, 0, 0, 0) := rfl
theorem f71_17 : amFetch 71 17 = some (.invokespecial 84, 3, 9, 0, 1) := rfl
theorem f71_20 : amFetch 71 20 = some (.athrow, 1, 0, 0, 0) := rfl
theorem f71_21 : amFetch 71 21 = some (.return_, 1, 0, 0, 0) := rfl
theorem ow71 : amOwnL 71 = some (3, 2) := rfl
-- X3_mostEntries
theorem f72_0 : amFetch 72 0 = some (.bipush 7, 2, 0, 0, 0) := rfl
theorem f72_2 : amFetch 72 2 = some (.iload_n 0, 1, 0, 0, 0) := rfl
theorem f72_3 : amFetch 72 3 = some (.ishl, 1, 0, 0, 0) := rfl
theorem f72_4 : amFetch 72 4 = some (.iconst 3, 1, 0, 0, 0) := rfl
theorem f72_5 : amFetch 72 5 = some (.ishr, 1, 0, 0, 0) := rfl
theorem f72_6 : amFetch 72 6 = some (.ireturn, 1, 0, 0, 0) := rfl
theorem ow72 : amOwnL 72 = some (3, 1) := rfl
-- X3_entriesFor
theorem f73_0 : amFetch 73 0 = some (.iload_n 0, 1, 0, 0, 0) := rfl
theorem f73_1 : amFetch 73 1 = some (.bipush 7, 2, 0, 0, 0) := rfl
theorem f73_3 : amFetch 73 3 = some (.iadd, 1, 0, 0, 0) := rfl
theorem f73_4 : amFetch 73 4 = some (.iconst 1, 1, 0, 0, 0) := rfl
theorem f73_5 : amFetch 73 5 = some (.isub, 1, 0, 0, 0) := rfl
theorem f73_6 : amFetch 73 6 = some (.bipush 7, 2, 0, 0, 0) := rfl
theorem f73_8 : amFetch 73 8 = some (.idiv, 1, 0, 0, 0) := rfl
theorem f73_9 : amFetch 73 9 = some (.ireturn, 1, 0, 0, 0) := rfl
theorem ow73 : amOwnL 73 = some (3, 1) := rfl
-- X3_putIn
theorem f74_0 : amFetch 74 0 = some (.aload_n 1, 1, 0, 0, 0) := rfl
theorem f74_1 : amFetch 74 1 = some (.aload_n 0, 1, 0, 0, 0) := rfl
theorem f74_2 : amFetch 74 2 = some (.getfield 19, 3, 3, 1, 0) := rfl
theorem f74_5 : amFetch 74 5 = some (.invokevirtual 92, 3, 0, 31, 1) := rfl
theorem f74_8 : amFetch 74 8 = some (.aload_n 0, 1, 0, 0, 0) := rfl
theorem f74_9 : amFetch 74 9 = some (.getfield 23, 3, 3, 2, 0) := rfl
theorem f74_12 : amFetch 74 12 = some (.invokevirtual 195, 3, 0, 1, 0) := rfl
theorem f74_15 : amFetch 74 15 = some (.aload_n 0, 1, 0, 0, 0) := rfl
theorem f74_16 : amFetch 74 16 = some (.getfield 23, 3, 3, 2, 0) := rfl
theorem f74_19 : amFetch 74 19 = some (.iload_n 2, 1, 0, 0, 0) := rfl
theorem f74_20 : amFetch 74 20 = some (.iload_n 3, 1, 0, 0, 0) := rfl
theorem f74_21 : amFetch 74 21 = some (.invokevirtual 198, 3, 0, 2, 2) := rfl
theorem f74_24 : amFetch 74 24 = some (.aload_n 0, 1, 0, 0, 0) := rfl
theorem f74_25 : amFetch 74 25 = some (.getfield 26, 3, 3, 3, 0) := rfl
theorem f74_28 : amFetch 74 28 = some (.aload_n 0, 1, 0, 0, 0) := rfl
theorem f74_29 : amFetch 74 29 = some (.getfield 19, 3, 3, 1, 0) := rfl
theorem f74_32 : amFetch 74 32 = some (.aload_n 0, 1, 0, 0, 0) := rfl
theorem f74_33 : amFetch 74 33 = some (.getfield 23, 3, 3, 2, 0) := rfl
theorem f74_36 : amFetch 74 36 = some (.invokevirtual 96, 3, 0, 3, 2) := rfl
theorem f74_39 : amFetch 74 39 = some (.aload_n 0, 1, 0, 0, 0) := rfl
theorem f74_40 : amFetch 74 40 = some (.getfield 26, 3, 3, 3, 0) := rfl
theorem f74_43 : amFetch 74 43 = some (.aload_n 1, 1, 0, 0, 0) := rfl
theorem f74_44 : amFetch 74 44 = some (.getfield 76, 3, 2, 5, 0) := rfl
theorem f74_47 : amFetch 74 47 = some (.invokestatic 100, 3, 1, 71, 2) := rfl
theorem f74_50 : amFetch 74 50 = some (.aload_n 1, 1, 0, 0, 0) := rfl
theorem f74_51 : amFetch 74 51 = some (.aload_n 1, 1, 0, 0, 0) := rfl
theorem f74_52 : amFetch 74 52 = some (.getfield 76, 3, 2, 5, 0) := rfl
theorem f74_55 : amFetch 74 55 = some (.aload_n 0, 1, 0, 0, 0) := rfl
theorem f74_56 : amFetch 74 56 = some (.getfield 26, 3, 3, 3, 0) := rfl
theorem f74_59 : amFetch 74 59 = some (.invokevirtual 104, 3, 0, 33, 2) := rfl
theorem f74_62 : amFetch 74 62 = some (.aload_n 1, 1, 0, 0, 0) := rfl
theorem f74_63 : amFetch 74 63 = some (.iload_n 2, 1, 0, 0, 0) := rfl
theorem f74_64 : amFetch 74 64 = some (.invokevirtual 52, 3, 0, 28, 1) := rfl
theorem f74_67 : amFetch 74 67 = some (.ireturn, 1, 0, 0, 0) := rfl
theorem ow74 : amOwnL 74 = some (3, 4) := rfl
-- X3_takeOut
theorem f75_0 : amFetch 75 0 = some (.iload_n 3, 1, 0, 0, 0) := rfl
theorem f75_1 : amFetch 75 1 = some (.aload_n 1, 1, 0, 0, 0) := rfl
theorem f75_2 : amFetch 75 2 = some (.iload_n 2, 1, 0, 0, 0) := rfl
theorem f75_3 : amFetch 75 3 = some (.invokevirtual 52, 3, 0, 28, 1) := rfl
theorem f75_6 : amFetch 75 6 = some (.invokestatic 202, 3, 5, 0, 2) := rfl
theorem f75_9 : amFetch 75 9 = some (.istore 4, 2, 0, 0, 0) := rfl
theorem f75_11 : amFetch 75 11 = some (.iload 4, 2, 0, 0, 0) := rfl
theorem f75_13 : amFetch 75 13 = some (.ifCond .le 37, 3, 0, 0, 0) := rfl
theorem f75_16 : amFetch 75 16 = some (.aload_n 1, 1, 0, 0, 0) := rfl
theorem f75_17 : amFetch 75 17 = some (.aload_n 0, 1, 0, 0, 0) := rfl
theorem f75_18 : amFetch 75 18 = some (.getfield 19, 3, 3, 1, 0) := rfl
theorem f75_21 : amFetch 75 21 = some (.invokevirtual 92, 3, 0, 31, 1) := rfl
theorem f75_24 : amFetch 75 24 = some (.aload_n 0, 1, 0, 0, 0) := rfl
theorem f75_25 : amFetch 75 25 = some (.getfield 26, 3, 3, 3, 0) := rfl
theorem f75_28 : amFetch 75 28 = some (.aload_n 0, 1, 0, 0, 0) := rfl
theorem f75_29 : amFetch 75 29 = some (.getfield 19, 3, 3, 1, 0) := rfl
theorem f75_32 : amFetch 75 32 = some (.iload_n 2, 1, 0, 0, 0) := rfl
theorem f75_33 : amFetch 75 33 = some (.iload 4, 2, 0, 0, 0) := rfl
theorem f75_35 : amFetch 75 35 = some (.invokevirtual 208, 3, 0, 5, 3) := rfl
theorem f75_38 : amFetch 75 38 = some (.aload_n 1, 1, 0, 0, 0) := rfl
theorem f75_39 : amFetch 75 39 = some (.aload_n 1, 1, 0, 0, 0) := rfl
theorem f75_40 : amFetch 75 40 = some (.getfield 76, 3, 2, 5, 0) := rfl
theorem f75_43 : amFetch 75 43 = some (.aload_n 0, 1, 0, 0, 0) := rfl
theorem f75_44 : amFetch 75 44 = some (.getfield 26, 3, 3, 3, 0) := rfl
theorem f75_47 : amFetch 75 47 = some (.invokevirtual 104, 3, 0, 33, 2) := rfl
theorem f75_50 : amFetch 75 50 = some (.iload 4, 2, 0, 0, 0) := rfl
theorem f75_52 : amFetch 75 52 = some (.ireturn, 1, 0, 0, 0) := rfl
theorem ow75 : amOwnL 75 = some (3, 5) := rfl
-- X3_resize
theorem f76_0 : amFetch 76 0 = some (.aload_n 1, 1, 0, 0, 0) := rfl
theorem f76_1 : amFetch 76 1 = some (.aload_n 0, 1, 0, 0, 0) := rfl
theorem f76_2 : amFetch 76 2 = some (.getfield 19, 3, 3, 1, 0) := rfl
theorem f76_5 : amFetch 76 5 = some (.invokevirtual 92, 3, 0, 31, 1) := rfl
theorem f76_8 : amFetch 76 8 = some (.aload_n 0, 1, 0, 0, 0) := rfl
theorem f76_9 : amFetch 76 9 = some (.getfield 19, 3, 3, 1, 0) := rfl
theorem f76_12 : amFetch 76 12 = some (.iload_n 2, 1, 0, 0, 0) := rfl
theorem f76_13 : amFetch 76 13 = some (.invokestatic 100, 3, 1, 71, 2) := rfl
theorem f76_16 : amFetch 76 16 = some (.aload_n 1, 1, 0, 0, 0) := rfl
theorem f76_17 : amFetch 76 17 = some (.iload_n 2, 1, 0, 0, 0) := rfl
theorem f76_18 : amFetch 76 18 = some (.aload_n 0, 1, 0, 0, 0) := rfl
theorem f76_19 : amFetch 76 19 = some (.getfield 19, 3, 3, 1, 0) := rfl
theorem f76_22 : amFetch 76 22 = some (.invokevirtual 104, 3, 0, 33, 2) := rfl
theorem f76_25 : amFetch 76 25 = some (.aload_n 1, 1, 0, 0, 0) := rfl
theorem f76_26 : amFetch 76 26 = some (.invokevirtual 119, 3, 0, 14, 0) := rfl
theorem f76_29 : amFetch 76 29 = some (.ireturn, 1, 0, 0, 0) := rfl
theorem ow76 : amOwnL 76 = some (3, 3) := rfl
-- L_from
theorem f77_0 : amFetch 77 0 = some (.aload_n 0, 1, 0, 0, 0) := rfl
theorem f77_1 : amFetch 77 1 = some (.arraylength, 1, 0, 0, 0) := rfl
theorem f77_2 : amFetch 77 2 = some (.ifCond .ne 13, 3, 0, 0, 0) := rfl
theorem f77_5 : amFetch 77 5 = some (.bipush 59, 2, 0, 0, 0) := rfl
theorem f77_7 : amFetch 77 7 = some (.iload_n 1, 1, 0, 0, 0) := rfl
theorem f77_8 : amFetch 77 8 = some (.imul, 1, 0, 0, 0) := rfl
theorem f77_9 : amFetch 77 9 = some (.bipush 13, 2, 0, 0, 0) := rfl
theorem f77_11 : amFetch 77 11 = some (.iadd, 1, 0, 0, 0) := rfl
theorem f77_12 : amFetch 77 12 = some (.goto 14, 3, 0, 0, 0) := rfl
theorem f77_15 : amFetch 77 15 = some (.aload_n 0, 1, 0, 0, 0) := rfl
theorem f77_16 : amFetch 77 16 = some (.iload_n 1, 1, 0, 0, 0) := rfl
theorem f77_17 : amFetch 77 17 = some (.aload_n 0, 1, 0, 0, 0) := rfl
theorem f77_18 : amFetch 77 18 = some (.arraylength, 1, 0, 0, 0) := rfl
theorem f77_19 : amFetch 77 19 = some (.irem, 1, 0, 0, 0) := rfl
theorem f77_20 : amFetch 77 20 = some (.iaload, 1, 0, 0, 0) := rfl
theorem f77_21 : amFetch 77 21 = some (.ldc 7, 2, 7, 0, 60493) := rfl
theorem f77_23 : amFetch 77 23 = some (.iload_n 1, 1, 0, 0, 0) := rfl
theorem f77_24 : amFetch 77 24 = some (.imul, 1, 0, 0, 0) := rfl
theorem f77_25 : amFetch 77 25 = some (.ixor, 1, 0, 0, 0) := rfl
theorem f77_26 : amFetch 77 26 = some (.istore_n 3, 1, 0, 0, 0) := rfl
theorem f77_27 : amFetch 77 27 = some (.iload_n 3, 1, 0, 0, 0) := rfl
theorem f77_28 : amFetch 77 28 = some (.ldc 8, 2, 7, 0, 2147483647) := rfl
theorem f77_30 : amFetch 77 30 = some (.iand, 1, 0, 0, 0) := rfl
theorem f77_31 : amFetch 77 31 = some (.iload_n 2, 1, 0, 0, 0) := rfl
theorem f77_32 : amFetch 77 32 = some (.irem, 1, 0, 0, 0) := rfl
theorem f77_33 : amFetch 77 33 = some (.ireturn, 1, 0, 0, 0) := rfl
theorem ow77 : amOwnL 77 = some (5, 4) := rfl
-- L_entries
theorem f78_0 : amFetch 78 0 = some (.iload_n 0, 1, 0, 0, 0) := rfl
theorem f78_1 : amFetch 78 1 = some (.bipush 7, 2, 0, 0, 0) := rfl
theorem f78_3 : amFetch 78 3 = some (.idiv, 1, 0, 0, 0) := rfl
theorem f78_4 : amFetch 78 4 = some (.iload_n 0, 1, 0, 0, 0) := rfl
theorem f78_5 : amFetch 78 5 = some (.bipush 7, 2, 0, 0, 0) := rfl
theorem f78_7 : amFetch 78 7 = some (.irem, 1, 0, 0, 0) := rfl
theorem f78_8 : amFetch 78 8 = some (.ifCond .le 7, 3, 0, 0, 0) := rfl
theorem f78_11 : amFetch 78 11 = some (.iconst 1, 1, 0, 0, 0) := rfl
theorem f78_12 : amFetch 78 12 = some (.goto 4, 3, 0, 0, 0) := rfl
theorem f78_15 : amFetch 78 15 = some (.iconst 0, 1, 0, 0, 0) := rfl
theorem f78_16 : amFetch 78 16 = some (.iadd, 1, 0, 0, 0) := rfl
theorem f78_17 : amFetch 78 17 = some (.ireturn, 1, 0, 0, 0) := rfl
theorem ow78 : amOwnL 78 = some (5, 1) := rfl
-- L_all
theorem f79_0 : amFetch 79 0 = some (.iconst 0, 1, 0, 0, 0) := rfl
theorem f79_1 : amFetch 79 1 = some (.istore_n 2, 1, 0, 0, 0) := rfl
theorem f79_2 : amFetch 79 2 = some (.iconst 0, 1, 0, 0, 0) := rfl
theorem f79_3 : amFetch 79 3 = some (.istore_n 3, 1, 0, 0, 0) := rfl
theorem f79_4 : amFetch 79 4 = some (.iload_n 3, 1, 0, 0, 0) := rfl
theorem f79_5 : amFetch 79 5 = some (.bipush 15, 2, 0, 0, 0) := rfl
theorem f79_7 : amFetch 79 7 = some (.if_icmp .ge 23, 3, 0, 0, 0) := rfl
theorem f79_10 : amFetch 79 10 = some (.iload_n 2, 1, 0, 0, 0) := rfl
theorem f79_11 : amFetch 79 11 = some (.aload_n 0, 1, 0, 0, 0) := rfl
theorem f79_12 : amFetch 79 12 = some (.bipush 16, 2, 0, 0, 0) := rfl
theorem f79_14 : amFetch 79 14 = some (.iload_n 1, 1, 0, 0, 0) := rfl
theorem f79_15 : amFetch 79 15 = some (.imul, 1, 0, 0, 0) := rfl
theorem f79_16 : amFetch 79 16 = some (.iload_n 3, 1, 0, 0, 0) := rfl
theorem f79_17 : amFetch 79 17 = some (.iadd, 1, 0, 0, 0) := rfl
theorem f79_18 : amFetch 79 18 = some (.iaload, 1, 0, 0, 0) := rfl
theorem f79_19 : amFetch 79 19 = some (.invokestatic 9, 3, 1, 78, 1) := rfl
theorem f79_22 : amFetch 79 22 = some (.iadd, 1, 0, 0, 0) := rfl
theorem f79_23 : amFetch 79 23 = some (.istore_n 2, 1, 0, 0, 0) := rfl
theorem f79_24 : amFetch 79 24 = some (.iinc 3 1, 3, 0, 0, 0) := rfl
theorem f79_27 : amFetch 79 27 = some (.goto (-23), 3, 0, 0, 0) := rfl
theorem f79_30 : amFetch 79 30 = some (.iload_n 2, 1, 0, 0, 0) := rfl
theorem f79_31 : amFetch 79 31 = some (.ireturn, 1, 0, 0, 0) := rfl
theorem ow79 : amOwnL 79 = some (5, 4) := rfl
-- L_quotient
theorem f80_0 : amFetch 80 0 = some (.aload_n 0, 1, 0, 0, 0) := rfl
theorem f80_1 : amFetch 80 1 = some (.iload_n 1, 1, 0, 0, 0) := rfl
theorem f80_2 : amFetch 80 2 = some (.iaload, 1, 0, 0, 0) := rfl
theorem f80_3 : amFetch 80 3 = some (.bipush 12, 2, 0, 0, 0) := rfl
theorem f80_5 : amFetch 80 5 = some (.iload_n 2, 1, 0, 0, 0) := rfl
theorem f80_6 : amFetch 80 6 = some (.isub, 1, 0, 0, 0) := rfl
theorem f80_7 : amFetch 80 7 = some (.ishr, 1, 0, 0, 0) := rfl
theorem f80_8 : amFetch 80 8 = some (.ireturn, 1, 0, 0, 0) := rfl
theorem ow80 : amOwnL 80 = some (5, 3) := rfl
-- L_run
theorem f81_0 : amFetch 81 0 = some (.iconst 0, 1, 0, 0, 0) := rfl
theorem f81_1 : amFetch 81 1 = some (.istore 5, 2, 0, 0, 0) := rfl
theorem f81_3 : amFetch 81 3 = some (.iconst 0, 1, 0, 0, 0) := rfl
theorem f81_4 : amFetch 81 4 = some (.istore 6, 2, 0, 0, 0) := rfl
theorem f81_6 : amFetch 81 6 = some (.iload 6, 2, 0, 0, 0) := rfl
theorem f81_8 : amFetch 81 8 = some (.bipush 15, 2, 0, 0, 0) := rfl
theorem f81_10 : amFetch 81 10 = some (.if_icmp .ge 42, 3, 0, 0, 0) := rfl
theorem f81_13 : amFetch 81 13 = some (.iload 5, 2, 0, 0, 0) := rfl
theorem f81_15 : amFetch 81 15 = some (.aload_n 0, 1, 0, 0, 0) := rfl
theorem f81_16 : amFetch 81 16 = some (.iload 6, 2, 0, 0, 0) := rfl
theorem f81_18 : amFetch 81 18 = some (.iload_n 3, 1, 0, 0, 0) := rfl
theorem f81_19 : amFetch 81 19 = some (.invokestatic 15, 3, 1, 80, 3) := rfl
theorem f81_22 : amFetch 81 22 = some (.iload 4, 2, 0, 0, 0) := rfl
theorem f81_24 : amFetch 81 24 = some (.if_icmp .ne 18, 3, 0, 0, 0) := rfl
theorem f81_27 : amFetch 81 27 = some (.aload_n 1, 1, 0, 0, 0) := rfl
theorem f81_28 : amFetch 81 28 = some (.bipush 16, 2, 0, 0, 0) := rfl
theorem f81_30 : amFetch 81 30 = some (.iload_n 2, 1, 0, 0, 0) := rfl
theorem f81_31 : amFetch 81 31 = some (.imul, 1, 0, 0, 0) := rfl
theorem f81_32 : amFetch 81 32 = some (.iload 6, 2, 0, 0, 0) := rfl
theorem f81_34 : amFetch 81 34 = some (.iadd, 1, 0, 0, 0) := rfl
theorem f81_35 : amFetch 81 35 = some (.iaload, 1, 0, 0, 0) := rfl
theorem f81_36 : amFetch 81 36 = some (.invokestatic 9, 3, 1, 78, 1) := rfl
theorem f81_39 : amFetch 81 39 = some (.goto 4, 3, 0, 0, 0) := rfl
theorem f81_42 : amFetch 81 42 = some (.iconst 0, 1, 0, 0, 0) := rfl
theorem f81_43 : amFetch 81 43 = some (.iadd, 1, 0, 0, 0) := rfl
theorem f81_44 : amFetch 81 44 = some (.istore 5, 2, 0, 0, 0) := rfl
theorem f81_46 : amFetch 81 46 = some (.iinc 6 1, 3, 0, 0, 0) := rfl
theorem f81_49 : amFetch 81 49 = some (.goto (-43), 3, 0, 0, 0) := rfl
theorem f81_52 : amFetch 81 52 = some (.iload 5, 2, 0, 0, 0) := rfl
theorem f81_54 : amFetch 81 54 = some (.ireturn, 1, 0, 0, 0) := rfl
theorem ow81 : amOwnL 81 = some (5, 7) := rfl
-- L_lay
theorem f82_0 : amFetch 82 0 = some (.iconst 1, 1, 0, 0, 0) := rfl
theorem f82_1 : amFetch 82 1 = some (.iload_n 3, 1, 0, 0, 0) := rfl
theorem f82_2 : amFetch 82 2 = some (.ishl, 1, 0, 0, 0) := rfl
theorem f82_3 : amFetch 82 3 = some (.istore 6, 2, 0, 0, 0) := rfl
theorem f82_5 : amFetch 82 5 = some (.iload 4, 2, 0, 0, 0) := rfl
theorem f82_7 : amFetch 82 7 = some (.iconst 1, 1, 0, 0, 0) := rfl
theorem f82_8 : amFetch 82 8 = some (.iadd, 1, 0, 0, 0) := rfl
theorem f82_9 : amFetch 82 9 = some (.istore 7, 2, 0, 0, 0) := rfl
theorem f82_11 : amFetch 82 11 = some (.aload_n 0, 1, 0, 0, 0) := rfl
theorem f82_12 : amFetch 82 12 = some (.aload_n 1, 1, 0, 0, 0) := rfl
theorem f82_13 : amFetch 82 13 = some (.iload_n 2, 1, 0, 0, 0) := rfl
theorem f82_14 : amFetch 82 14 = some (.iload_n 3, 1, 0, 0, 0) := rfl
theorem f82_15 : amFetch 82 15 = some (.iload 4, 2, 0, 0, 0) := rfl
theorem f82_17 : amFetch 82 17 = some (.invokestatic 19, 3, 1, 81, 5) := rfl
theorem f82_20 : amFetch 82 20 = some (.ifCond .ne 7, 3, 0, 0, 0) := rfl
theorem f82_23 : amFetch 82 23 = some (.iconst 1, 1, 0, 0, 0) := rfl
theorem f82_24 : amFetch 82 24 = some (.goto 4, 3, 0, 0, 0) := rfl
theorem f82_27 : amFetch 82 27 = some (.iconst 0, 1, 0, 0, 0) := rfl
theorem f82_28 : amFetch 82 28 = some (.istore 8, 2, 0, 0, 0) := rfl
theorem f82_30 : amFetch 82 30 = some (.iconst 0, 1, 0, 0, 0) := rfl
theorem f82_31 : amFetch 82 31 = some (.istore 9, 2, 0, 0, 0) := rfl
theorem f82_33 : amFetch 82 33 = some (.iload 9, 2, 0, 0, 0) := rfl
theorem f82_35 : amFetch 82 35 = some (.iload 6, 2, 0, 0, 0) := rfl
theorem f82_37 : amFetch 82 37 = some (.if_icmp .ge 15, 3, 0, 0, 0) := rfl
theorem f82_40 : amFetch 82 40 = some (.aload 5, 2, 0, 0, 0) := rfl
theorem f82_42 : amFetch 82 42 = some (.iload 9, 2, 0, 0, 0) := rfl
theorem f82_44 : amFetch 82 44 = some (.iconst 0, 1, 0, 0, 0) := rfl
theorem f82_45 : amFetch 82 45 = some (.iastore, 1, 0, 0, 0) := rfl
theorem f82_46 : amFetch 82 46 = some (.iinc 9 1, 3, 0, 0, 0) := rfl
theorem f82_49 : amFetch 82 49 = some (.goto (-16), 3, 0, 0, 0) := rfl
theorem f82_52 : amFetch 82 52 = some (.iload 4, 2, 0, 0, 0) := rfl
theorem f82_54 : amFetch 82 54 = some (.iconst 1, 1, 0, 0, 0) := rfl
theorem f82_55 : amFetch 82 55 = some (.iadd, 1, 0, 0, 0) := rfl
theorem f82_56 : amFetch 82 56 = some (.istore 9, 2, 0, 0, 0) := rfl
theorem f82_58 : amFetch 82 58 = some (.iload 9, 2, 0, 0, 0) := rfl
theorem f82_60 : amFetch 82 60 = some (.iload 4, 2, 0, 0, 0) := rfl
theorem f82_62 : amFetch 82 62 = some (.iload 6, 2, 0, 0, 0) := rfl
theorem f82_64 : amFetch 82 64 = some (.iadd, 1, 0, 0, 0) := rfl
theorem f82_65 : amFetch 82 65 = some (.if_icmp .ge 170, 3, 0, 0, 0) := rfl
theorem f82_68 : amFetch 82 68 = some (.iload 8, 2, 0, 0, 0) := rfl
theorem f82_70 : amFetch 82 70 = some (.ifCond .eq 165, 3, 0, 0, 0) := rfl
theorem f82_73 : amFetch 82 73 = some (.aload_n 0, 1, 0, 0, 0) := rfl
theorem f82_74 : amFetch 82 74 = some (.aload_n 1, 1, 0, 0, 0) := rfl
theorem f82_75 : amFetch 82 75 = some (.iload_n 2, 1, 0, 0, 0) := rfl
theorem f82_76 : amFetch 82 76 = some (.iload_n 3, 1, 0, 0, 0) := rfl
theorem f82_77 : amFetch 82 77 = some (.iload 9, 2, 0, 0, 0) := rfl
theorem f82_79 : amFetch 82 79 = some (.iload 6, 2, 0, 0, 0) := rfl
theorem f82_81 : amFetch 82 81 = some (.irem, 1, 0, 0, 0) := rfl
theorem f82_82 : amFetch 82 82 = some (.invokestatic 19, 3, 1, 81, 5) := rfl
theorem f82_85 : amFetch 82 85 = some (.ifCond .le 144, 3, 0, 0, 0) := rfl
theorem f82_88 : amFetch 82 88 = some (.iload 7, 2, 0, 0, 0) := rfl
theorem f82_90 : amFetch 82 90 = some (.iload 9, 2, 0, 0, 0) := rfl
theorem f82_92 : amFetch 82 92 = some (.if_icmp .ge 8, 3, 0, 0, 0) := rfl
theorem f82_95 : amFetch 82 95 = some (.iload 9, 2, 0, 0, 0) := rfl
theorem f82_97 : amFetch 82 97 = some (.goto 5, 3, 0, 0, 0) := rfl
theorem f82_100 : amFetch 82 100 = some (.iload 7, 2, 0, 0, 0) := rfl
theorem f82_102 : amFetch 82 102 = some (.istore 7, 2, 0, 0, 0) := rfl
theorem f82_104 : amFetch 82 104 = some (.iload 7, 2, 0, 0, 0) := rfl
theorem f82_106 : amFetch 82 106 = some (.aload_n 0, 1, 0, 0, 0) := rfl
theorem f82_107 : amFetch 82 107 = some (.aload_n 1, 1, 0, 0, 0) := rfl
theorem f82_108 : amFetch 82 108 = some (.iload_n 2, 1, 0, 0, 0) := rfl
theorem f82_109 : amFetch 82 109 = some (.iload_n 3, 1, 0, 0, 0) := rfl
theorem f82_110 : amFetch 82 110 = some (.iload 9, 2, 0, 0, 0) := rfl
theorem f82_112 : amFetch 82 112 = some (.iload 6, 2, 0, 0, 0) := rfl
theorem f82_114 : amFetch 82 114 = some (.irem, 1, 0, 0, 0) := rfl
theorem f82_115 : amFetch 82 115 = some (.invokestatic 19, 3, 1, 81, 5) := rfl
theorem f82_118 : amFetch 82 118 = some (.iadd, 1, 0, 0, 0) := rfl
theorem f82_119 : amFetch 82 119 = some (.iload 4, 2, 0, 0, 0) := rfl
theorem f82_121 : amFetch 82 121 = some (.iload 6, 2, 0, 0, 0) := rfl
theorem f82_123 : amFetch 82 123 = some (.iadd, 1, 0, 0, 0) := rfl
theorem f82_124 : amFetch 82 124 = some (.if_icmp .gt 7, 3, 0, 0, 0) := rfl
theorem f82_127 : amFetch 82 127 = some (.iconst 1, 1, 0, 0, 0) := rfl
theorem f82_128 : amFetch 82 128 = some (.goto 4, 3, 0, 0, 0) := rfl
theorem f82_131 : amFetch 82 131 = some (.iconst 0, 1, 0, 0, 0) := rfl
theorem f82_132 : amFetch 82 132 = some (.istore 8, 2, 0, 0, 0) := rfl
theorem f82_134 : amFetch 82 134 = some (.iconst 0, 1, 0, 0, 0) := rfl
theorem f82_135 : amFetch 82 135 = some (.istore 10, 2, 0, 0, 0) := rfl
theorem f82_137 : amFetch 82 137 = some (.iload 10, 2, 0, 0, 0) := rfl
theorem f82_139 : amFetch 82 139 = some (.bipush 15, 2, 0, 0, 0) := rfl
theorem f82_141 : amFetch 82 141 = some (.if_icmp .ge 88, 3, 0, 0, 0) := rfl
theorem f82_144 : amFetch 82 144 = some (.iload 8, 2, 0, 0, 0) := rfl
theorem f82_146 : amFetch 82 146 = some (.ifCond .eq 83, 3, 0, 0, 0) := rfl
theorem f82_149 : amFetch 82 149 = some (.aload_n 0, 1, 0, 0, 0) := rfl
theorem f82_150 : amFetch 82 150 = some (.iload 10, 2, 0, 0, 0) := rfl
theorem f82_152 : amFetch 82 152 = some (.iload_n 3, 1, 0, 0, 0) := rfl
theorem f82_153 : amFetch 82 153 = some (.invokestatic 15, 3, 1, 80, 3) := rfl
theorem f82_156 : amFetch 82 156 = some (.iload 9, 2, 0, 0, 0) := rfl
theorem f82_158 : amFetch 82 158 = some (.iload 6, 2, 0, 0, 0) := rfl
theorem f82_160 : amFetch 82 160 = some (.irem, 1, 0, 0, 0) := rfl
theorem f82_161 : amFetch 82 161 = some (.if_icmp .ne 15, 3, 0, 0, 0) := rfl
theorem f82_164 : amFetch 82 164 = some (.aload_n 1, 1, 0, 0, 0) := rfl
theorem f82_165 : amFetch 82 165 = some (.bipush 16, 2, 0, 0, 0) := rfl
theorem f82_167 : amFetch 82 167 = some (.iload_n 2, 1, 0, 0, 0) := rfl
theorem f82_168 : amFetch 82 168 = some (.imul, 1, 0, 0, 0) := rfl
theorem f82_169 : amFetch 82 169 = some (.iload 10, 2, 0, 0, 0) := rfl
theorem f82_171 : amFetch 82 171 = some (.iadd, 1, 0, 0, 0) := rfl
theorem f82_172 : amFetch 82 172 = some (.iaload, 1, 0, 0, 0) := rfl
theorem f82_173 : amFetch 82 173 = some (.goto 4, 3, 0, 0, 0) := rfl
theorem f82_176 : amFetch 82 176 = some (.iconst 0, 1, 0, 0, 0) := rfl
theorem f82_177 : amFetch 82 177 = some (.istore 11, 2, 0, 0, 0) := rfl
theorem f82_179 : amFetch 82 179 = some (.iload 11, 2, 0, 0, 0) := rfl
theorem f82_181 : amFetch 82 181 = some (.ifCond .le 42, 3, 0, 0, 0) := rfl
theorem f82_184 : amFetch 82 184 = some (.aload 5, 2, 0, 0, 0) := rfl
theorem f82_186 : amFetch 82 186 = some (.iload 7, 2, 0, 0, 0) := rfl
theorem f82_188 : amFetch 82 188 = some (.iload 6, 2, 0, 0, 0) := rfl
theorem f82_190 : amFetch 82 190 = some (.irem, 1, 0, 0, 0) := rfl
theorem f82_191 : amFetch 82 191 = some (.bipush 8, 2, 0, 0, 0) := rfl
theorem f82_193 : amFetch 82 193 = some (.iload 10, 2, 0, 0, 0) := rfl
theorem f82_195 : amFetch 82 195 = some (.iconst 1, 1, 0, 0, 0) := rfl
theorem f82_196 : amFetch 82 196 = some (.iadd, 1, 0, 0, 0) := rfl
theorem f82_197 : amFetch 82 197 = some (.imul, 1, 0, 0, 0) := rfl
theorem f82_198 : amFetch 82 198 = some (.iload 11, 2, 0, 0, 0) := rfl
theorem f82_200 : amFetch 82 200 = some (.bipush 7, 2, 0, 0, 0) := rfl
theorem f82_202 : amFetch 82 202 = some (.if_icmp .ge 8, 3, 0, 0, 0) := rfl
theorem f82_205 : amFetch 82 205 = some (.iload 11, 2, 0, 0, 0) := rfl
theorem f82_207 : amFetch 82 207 = some (.goto 5, 3, 0, 0, 0) := rfl
theorem f82_210 : amFetch 82 210 = some (.bipush 7, 2, 0, 0, 0) := rfl
theorem f82_212 : amFetch 82 212 = some (.iadd, 1, 0, 0, 0) := rfl
theorem f82_213 : amFetch 82 213 = some (.iastore, 1, 0, 0, 0) := rfl
theorem f82_214 : amFetch 82 214 = some (.iinc 7 1, 3, 0, 0, 0) := rfl
theorem f82_217 : amFetch 82 217 = some (.iinc 11 (-7), 3, 0, 0, 0) := rfl
theorem f82_220 : amFetch 82 220 = some (.goto (-41), 3, 0, 0, 0) := rfl
theorem f82_223 : amFetch 82 223 = some (.iinc 10 1, 3, 0, 0, 0) := rfl
theorem f82_226 : amFetch 82 226 = some (.goto (-89), 3, 0, 0, 0) := rfl
theorem f82_229 : amFetch 82 229 = some (.iinc 9 1, 3, 0, 0, 0) := rfl
theorem f82_232 : amFetch 82 232 = some (.goto (-174), 3, 0, 0, 0) := rfl
theorem f82_235 : amFetch 82 235 = some (.iload 8, 2, 0, 0, 0) := rfl
theorem f82_237 : amFetch 82 237 = some (.ireturn, 1, 0, 0, 0) := rfl
theorem ow82 : amOwnL 82 = some (5, 12) := rfl
-- L_isSlot
theorem f83_0 : amFetch 83 0 = some (.iconst 1, 1, 0, 0, 0) := rfl
theorem f83_1 : amFetch 83 1 = some (.iload 4, 2, 0, 0, 0) := rfl
theorem f83_3 : amFetch 83 3 = some (.ishl, 1, 0, 0, 0) := rfl
theorem f83_4 : amFetch 83 4 = some (.istore 6, 2, 0, 0, 0) := rfl
theorem f83_6 : amFetch 83 6 = some (.aload_n 2, 1, 0, 0, 0) := rfl
theorem f83_7 : amFetch 83 7 = some (.iload 5, 2, 0, 0, 0) := rfl
theorem f83_9 : amFetch 83 9 = some (.iaload, 1, 0, 0, 0) := rfl
theorem f83_10 : amFetch 83 10 = some (.bipush 8, 2, 0, 0, 0) := rfl
theorem f83_12 : amFetch 83 12 = some (.idiv, 1, 0, 0, 0) := rfl
theorem f83_13 : amFetch 83 13 = some (.iconst 1, 1, 0, 0, 0) := rfl
theorem f83_14 : amFetch 83 14 = some (.isub, 1, 0, 0, 0) := rfl
theorem f83_15 : amFetch 83 15 = some (.istore 7, 2, 0, 0, 0) := rfl
theorem f83_17 : amFetch 83 17 = some (.aload_n 2, 1, 0, 0, 0) := rfl
theorem f83_18 : amFetch 83 18 = some (.iload 5, 2, 0, 0, 0) := rfl
theorem f83_20 : amFetch 83 20 = some (.iload 6, 2, 0, 0, 0) := rfl
theorem f83_22 : amFetch 83 22 = some (.iadd, 1, 0, 0, 0) := rfl
theorem f83_23 : amFetch 83 23 = some (.iconst 1, 1, 0, 0, 0) := rfl
theorem f83_24 : amFetch 83 24 = some (.isub, 1, 0, 0, 0) := rfl
theorem f83_25 : amFetch 83 25 = some (.iload 6, 2, 0, 0, 0) := rfl
theorem f83_27 : amFetch 83 27 = some (.irem, 1, 0, 0, 0) := rfl
theorem f83_28 : amFetch 83 28 = some (.iaload, 1, 0, 0, 0) := rfl
theorem f83_29 : amFetch 83 29 = some (.bipush 8, 2, 0, 0, 0) := rfl
theorem f83_31 : amFetch 83 31 = some (.idiv, 1, 0, 0, 0) := rfl
theorem f83_32 : amFetch 83 32 = some (.iconst 1, 1, 0, 0, 0) := rfl
theorem f83_33 : amFetch 83 33 = some (.isub, 1, 0, 0, 0) := rfl
theorem f83_34 : amFetch 83 34 = some (.istore 8, 2, 0, 0, 0) := rfl
theorem f83_36 : amFetch 83 36 = some (.iload 7, 2, 0, 0, 0) := rfl
theorem f83_38 : amFetch 83 38 = some (.ifCond .ge 72, 3, 0, 0, 0) := rfl
theorem f83_41 : amFetch 83 41 = some (.aload_n 0, 1, 0, 0, 0) := rfl
theorem f83_42 : amFetch 83 42 = some (.iload_n 3, 1, 0, 0, 0) := rfl
theorem f83_43 : amFetch 83 43 = some (.iload 5, 2, 0, 0, 0) := rfl
theorem f83_45 : amFetch 83 45 = some (.invokevirtual 23, 3, 0, 57, 2) := rfl
theorem f83_48 : amFetch 83 48 = some (.iconst (-1), 1, 0, 0, 0) := rfl
theorem f83_49 : amFetch 83 49 = some (.if_icmp .ne 59, 3, 0, 0, 0) := rfl
theorem f83_52 : amFetch 83 52 = some (.aload_n 0, 1, 0, 0, 0) := rfl
theorem f83_53 : amFetch 83 53 = some (.iload_n 3, 1, 0, 0, 0) := rfl
theorem f83_54 : amFetch 83 54 = some (.iload 5, 2, 0, 0, 0) := rfl
theorem f83_56 : amFetch 83 56 = some (.invokevirtual 29, 3, 0, 58, 2) := rfl
theorem f83_59 : amFetch 83 59 = some (.ifCond .ne 49, 3, 0, 0, 0) := rfl
theorem f83_62 : amFetch 83 62 = some (.aload_n 0, 1, 0, 0, 0) := rfl
theorem f83_63 : amFetch 83 63 = some (.iload_n 3, 1, 0, 0, 0) := rfl
theorem f83_64 : amFetch 83 64 = some (.iload 5, 2, 0, 0, 0) := rfl
theorem f83_66 : amFetch 83 66 = some (.invokevirtual 32, 3, 0, 59, 2) := rfl
theorem f83_69 : amFetch 83 69 = some (.iconst (-1), 1, 0, 0, 0) := rfl
theorem f83_70 : amFetch 83 70 = some (.if_icmp .ne 38, 3, 0, 0, 0) := rfl
theorem f83_73 : amFetch 83 73 = some (.aload_n 0, 1, 0, 0, 0) := rfl
theorem f83_74 : amFetch 83 74 = some (.iload_n 3, 1, 0, 0, 0) := rfl
theorem f83_75 : amFetch 83 75 = some (.iload 5, 2, 0, 0, 0) := rfl
theorem f83_77 : amFetch 83 77 = some (.invokevirtual 35, 3, 0, 61, 2) := rfl
theorem f83_80 : amFetch 83 80 = some (.ifCond .ne 28, 3, 0, 0, 0) := rfl
theorem f83_83 : amFetch 83 83 = some (.aload_n 0, 1, 0, 0, 0) := rfl
theorem f83_84 : amFetch 83 84 = some (.iload_n 3, 1, 0, 0, 0) := rfl
theorem f83_85 : amFetch 83 85 = some (.iload 5, 2, 0, 0, 0) := rfl
theorem f83_87 : amFetch 83 87 = some (.invokevirtual 39, 3, 0, 62, 2) := rfl
theorem f83_90 : amFetch 83 90 = some (.ifCond .ne 18, 3, 0, 0, 0) := rfl
theorem f83_93 : amFetch 83 93 = some (.aload_n 0, 1, 0, 0, 0) := rfl
theorem f83_94 : amFetch 83 94 = some (.iload_n 3, 1, 0, 0, 0) := rfl
theorem f83_95 : amFetch 83 95 = some (.iload 5, 2, 0, 0, 0) := rfl
theorem f83_97 : amFetch 83 97 = some (.invokevirtual 42, 3, 0, 65, 2) := rfl
theorem f83_100 : amFetch 83 100 = some (.iconst (-1), 1, 0, 0, 0) := rfl
theorem f83_101 : amFetch 83 101 = some (.if_icmp .ne 7, 3, 0, 0, 0) := rfl
theorem f83_104 : amFetch 83 104 = some (.iconst 1, 1, 0, 0, 0) := rfl
theorem f83_105 : amFetch 83 105 = some (.goto 4, 3, 0, 0, 0) := rfl
theorem f83_108 : amFetch 83 108 = some (.iconst 0, 1, 0, 0, 0) := rfl
theorem f83_109 : amFetch 83 109 = some (.ireturn, 1, 0, 0, 0) := rfl
theorem f83_110 : amFetch 83 110 = some (.aload_n 1, 1, 0, 0, 0) := rfl
theorem f83_111 : amFetch 83 111 = some (.iload 7, 2, 0, 0, 0) := rfl
theorem f83_113 : amFetch 83 113 = some (.iload 4, 2, 0, 0, 0) := rfl
theorem f83_115 : amFetch 83 115 = some (.invokestatic 15, 3, 1, 80, 3) := rfl
theorem f83_118 : amFetch 83 118 = some (.istore 9, 2, 0, 0, 0) := rfl
theorem f83_120 : amFetch 83 120 = some (.iload 8, 2, 0, 0, 0) := rfl
theorem f83_122 : amFetch 83 122 = some (.ifCond .lt 20, 3, 0, 0, 0) := rfl
theorem f83_125 : amFetch 83 125 = some (.aload_n 1, 1, 0, 0, 0) := rfl
theorem f83_126 : amFetch 83 126 = some (.iload 8, 2, 0, 0, 0) := rfl
theorem f83_128 : amFetch 83 128 = some (.iload 4, 2, 0, 0, 0) := rfl
theorem f83_130 : amFetch 83 130 = some (.invokestatic 15, 3, 1, 80, 3) := rfl
theorem f83_133 : amFetch 83 133 = some (.iload 9, 2, 0, 0, 0) := rfl
theorem f83_135 : amFetch 83 135 = some (.if_icmp .ne 7, 3, 0, 0, 0) := rfl
theorem f83_138 : amFetch 83 138 = some (.iconst 1, 1, 0, 0, 0) := rfl
theorem f83_139 : amFetch 83 139 = some (.goto 4, 3, 0, 0, 0) := rfl
theorem f83_142 : amFetch 83 142 = some (.iconst 0, 1, 0, 0, 0) := rfl
theorem f83_143 : amFetch 83 143 = some (.istore 10, 2, 0, 0, 0) := rfl
theorem f83_145 : amFetch 83 145 = some (.iload 5, 2, 0, 0, 0) := rfl
theorem f83_147 : amFetch 83 147 = some (.istore 11, 2, 0, 0, 0) := rfl
theorem f83_149 : amFetch 83 149 = some (.aload_n 1, 1, 0, 0, 0) := rfl
theorem f83_150 : amFetch 83 150 = some (.aload_n 2, 1, 0, 0, 0) := rfl
theorem f83_151 : amFetch 83 151 = some (.iload 11, 2, 0, 0, 0) := rfl
theorem f83_153 : amFetch 83 153 = some (.iaload, 1, 0, 0, 0) := rfl
theorem f83_154 : amFetch 83 154 = some (.bipush 8, 2, 0, 0, 0) := rfl
theorem f83_156 : amFetch 83 156 = some (.idiv, 1, 0, 0, 0) := rfl
theorem f83_157 : amFetch 83 157 = some (.iconst 1, 1, 0, 0, 0) := rfl
theorem f83_158 : amFetch 83 158 = some (.isub, 1, 0, 0, 0) := rfl
theorem f83_159 : amFetch 83 159 = some (.iload 4, 2, 0, 0, 0) := rfl
theorem f83_161 : amFetch 83 161 = some (.invokestatic 15, 3, 1, 80, 3) := rfl
theorem f83_164 : amFetch 83 164 = some (.iload 11, 2, 0, 0, 0) := rfl
theorem f83_166 : amFetch 83 166 = some (.if_icmp .eq 18, 3, 0, 0, 0) := rfl
theorem f83_169 : amFetch 83 169 = some (.iload 11, 2, 0, 0, 0) := rfl
theorem f83_171 : amFetch 83 171 = some (.iload 6, 2, 0, 0, 0) := rfl
theorem f83_173 : amFetch 83 173 = some (.iadd, 1, 0, 0, 0) := rfl
theorem f83_174 : amFetch 83 174 = some (.iconst 1, 1, 0, 0, 0) := rfl
theorem f83_175 : amFetch 83 175 = some (.isub, 1, 0, 0, 0) := rfl
theorem f83_176 : amFetch 83 176 = some (.iload 6, 2, 0, 0, 0) := rfl
theorem f83_178 : amFetch 83 178 = some (.irem, 1, 0, 0, 0) := rfl
theorem f83_179 : amFetch 83 179 = some (.istore 11, 2, 0, 0, 0) := rfl
theorem f83_181 : amFetch 83 181 = some (.goto (-32), 3, 0, 0, 0) := rfl
theorem f83_184 : amFetch 83 184 = some (.aload_n 0, 1, 0, 0, 0) := rfl
theorem f83_185 : amFetch 83 185 = some (.iload_n 3, 1, 0, 0, 0) := rfl
theorem f83_186 : amFetch 83 186 = some (.iload 5, 2, 0, 0, 0) := rfl
theorem f83_188 : amFetch 83 188 = some (.invokevirtual 23, 3, 0, 57, 2) := rfl
theorem f83_191 : amFetch 83 191 = some (.aload_n 1, 1, 0, 0, 0) := rfl
theorem f83_192 : amFetch 83 192 = some (.iload 7, 2, 0, 0, 0) := rfl
theorem f83_194 : amFetch 83 194 = some (.iaload, 1, 0, 0, 0) := rfl
theorem f83_195 : amFetch 83 195 = some (.iconst 1, 1, 0, 0, 0) := rfl
theorem f83_196 : amFetch 83 196 = some (.bipush 12, 2, 0, 0, 0) := rfl
theorem f83_198 : amFetch 83 198 = some (.iload 4, 2, 0, 0, 0) := rfl
theorem f83_200 : amFetch 83 200 = some (.isub, 1, 0, 0, 0) := rfl
theorem f83_201 : amFetch 83 201 = some (.ishl, 1, 0, 0, 0) := rfl
theorem f83_202 : amFetch 83 202 = some (.irem, 1, 0, 0, 0) := rfl
theorem f83_203 : amFetch 83 203 = some (.if_icmp .ne 70, 3, 0, 0, 0) := rfl
theorem f83_206 : amFetch 83 206 = some (.aload_n 0, 1, 0, 0, 0) := rfl
theorem f83_207 : amFetch 83 207 = some (.iload_n 3, 1, 0, 0, 0) := rfl
theorem f83_208 : amFetch 83 208 = some (.iload 5, 2, 0, 0, 0) := rfl
theorem f83_210 : amFetch 83 210 = some (.invokevirtual 29, 3, 0, 58, 2) := rfl
theorem f83_213 : amFetch 83 213 = some (.aload_n 2, 1, 0, 0, 0) := rfl
theorem f83_214 : amFetch 83 214 = some (.iload 5, 2, 0, 0, 0) := rfl
theorem f83_216 : amFetch 83 216 = some (.iaload, 1, 0, 0, 0) := rfl
theorem f83_217 : amFetch 83 217 = some (.bipush 8, 2, 0, 0, 0) := rfl
theorem f83_219 : amFetch 83 219 = some (.irem, 1, 0, 0, 0) := rfl
theorem f83_220 : amFetch 83 220 = some (.if_icmp .ne 53, 3, 0, 0, 0) := rfl
theorem f83_223 : amFetch 83 223 = some (.aload_n 0, 1, 0, 0, 0) := rfl
theorem f83_224 : amFetch 83 224 = some (.iload_n 3, 1, 0, 0, 0) := rfl
theorem f83_225 : amFetch 83 225 = some (.iload 5, 2, 0, 0, 0) := rfl
theorem f83_227 : amFetch 83 227 = some (.invokevirtual 32, 3, 0, 59, 2) := rfl
theorem f83_230 : amFetch 83 230 = some (.iload 9, 2, 0, 0, 0) := rfl
theorem f83_232 : amFetch 83 232 = some (.if_icmp .ne 41, 3, 0, 0, 0) := rfl
theorem f83_235 : amFetch 83 235 = some (.aload_n 0, 1, 0, 0, 0) := rfl
theorem f83_236 : amFetch 83 236 = some (.iload_n 3, 1, 0, 0, 0) := rfl
theorem f83_237 : amFetch 83 237 = some (.iload 5, 2, 0, 0, 0) := rfl
theorem f83_239 : amFetch 83 239 = some (.invokevirtual 35, 3, 0, 61, 2) := rfl
theorem f83_242 : amFetch 83 242 = some (.iload 10, 2, 0, 0, 0) := rfl
theorem f83_244 : amFetch 83 244 = some (.if_icmp .ne 29, 3, 0, 0, 0) := rfl
theorem f83_247 : amFetch 83 247 = some (.aload_n 0, 1, 0, 0, 0) := rfl
theorem f83_248 : amFetch 83 248 = some (.iload_n 3, 1, 0, 0, 0) := rfl
theorem f83_249 : amFetch 83 249 = some (.iload 5, 2, 0, 0, 0) := rfl
theorem f83_251 : amFetch 83 251 = some (.invokevirtual 39, 3, 0, 62, 2) := rfl
theorem f83_254 : amFetch 83 254 = some (.iload 9, 2, 0, 0, 0) := rfl
theorem f83_256 : amFetch 83 256 = some (.iload 5, 2, 0, 0, 0) := rfl
theorem f83_258 : amFetch 83 258 = some (.if_icmp .eq 7, 3, 0, 0, 0) := rfl
theorem f83_261 : amFetch 83 261 = some (.iconst 1, 1, 0, 0, 0) := rfl
theorem f83_262 : amFetch 83 262 = some (.goto 4, 3, 0, 0, 0) := rfl
theorem f83_265 : amFetch 83 265 = some (.iconst 0, 1, 0, 0, 0) := rfl
theorem f83_266 : amFetch 83 266 = some (.if_icmp .ne 7, 3, 0, 0, 0) := rfl
theorem f83_269 : amFetch 83 269 = some (.iconst 1, 1, 0, 0, 0) := rfl
theorem f83_270 : amFetch 83 270 = some (.goto 4, 3, 0, 0, 0) := rfl
theorem f83_273 : amFetch 83 273 = some (.iconst 0, 1, 0, 0, 0) := rfl
theorem f83_274 : amFetch 83 274 = some (.istore 12, 2, 0, 0, 0) := rfl
theorem f83_276 : amFetch 83 276 = some (.iload 12, 2, 0, 0, 0) := rfl
theorem f83_278 : amFetch 83 278 = some (.ifCond .eq 36, 3, 0, 0, 0) := rfl
theorem f83_281 : amFetch 83 281 = some (.aload_n 0, 1, 0, 0, 0) := rfl
theorem f83_282 : amFetch 83 282 = some (.iload_n 3, 1, 0, 0, 0) := rfl
theorem f83_283 : amFetch 83 283 = some (.iload 5, 2, 0, 0, 0) := rfl
theorem f83_285 : amFetch 83 285 = some (.invokevirtual 42, 3, 0, 65, 2) := rfl
theorem f83_288 : amFetch 83 288 = some (.iload 11, 2, 0, 0, 0) := rfl
theorem f83_290 : amFetch 83 290 = some (.if_icmp .ne 24, 3, 0, 0, 0) := rfl
theorem f83_293 : amFetch 83 293 = some (.iload 10, 2, 0, 0, 0) := rfl
theorem f83_295 : amFetch 83 295 = some (.ifCond .ne 15, 3, 0, 0, 0) := rfl
theorem f83_298 : amFetch 83 298 = some (.aload_n 0, 1, 0, 0, 0) := rfl
theorem f83_299 : amFetch 83 299 = some (.iload_n 3, 1, 0, 0, 0) := rfl
theorem f83_300 : amFetch 83 300 = some (.iload 9, 2, 0, 0, 0) := rfl
theorem f83_302 : amFetch 83 302 = some (.invokevirtual 45, 3, 0, 63, 2) := rfl
theorem f83_305 : amFetch 83 305 = some (.iload 5, 2, 0, 0, 0) := rfl
theorem f83_307 : amFetch 83 307 = some (.if_icmp .ne 7, 3, 0, 0, 0) := rfl
theorem f83_310 : amFetch 83 310 = some (.iconst 1, 1, 0, 0, 0) := rfl
theorem f83_311 : amFetch 83 311 = some (.goto 4, 3, 0, 0, 0) := rfl
theorem f83_314 : amFetch 83 314 = some (.iconst 0, 1, 0, 0, 0) := rfl
theorem f83_315 : amFetch 83 315 = some (.ireturn, 1, 0, 0, 0) := rfl
theorem ow83 : amOwnL 83 = some (5, 13) := rfl
-- L_areSlots
theorem f84_0 : amFetch 84 0 = some (.iconst 1, 1, 0, 0, 0) := rfl
theorem f84_1 : amFetch 84 1 = some (.iload 4, 2, 0, 0, 0) := rfl
theorem f84_3 : amFetch 84 3 = some (.ishl, 1, 0, 0, 0) := rfl
theorem f84_4 : amFetch 84 4 = some (.istore 5, 2, 0, 0, 0) := rfl
theorem f84_6 : amFetch 84 6 = some (.bipush 32, 2, 0, 0, 0) := rfl
theorem f84_8 : amFetch 84 8 = some (.newarray .int, 2, 0, 0, 0) := rfl
theorem f84_10 : amFetch 84 10 = some (.astore 6, 2, 0, 0, 0) := rfl
theorem f84_12 : amFetch 84 12 = some (.iconst 0, 1, 0, 0, 0) := rfl
theorem f84_13 : amFetch 84 13 = some (.istore 7, 2, 0, 0, 0) := rfl
theorem f84_15 : amFetch 84 15 = some (.aload_n 1, 1, 0, 0, 0) := rfl
theorem f84_16 : amFetch 84 16 = some (.aload_n 2, 1, 0, 0, 0) := rfl
theorem f84_17 : amFetch 84 17 = some (.iload_n 3, 1, 0, 0, 0) := rfl
theorem f84_18 : amFetch 84 18 = some (.iload 4, 2, 0, 0, 0) := rfl
theorem f84_20 : amFetch 84 20 = some (.iload 7, 2, 0, 0, 0) := rfl
theorem f84_22 : amFetch 84 22 = some (.aload 6, 2, 0, 0, 0) := rfl
theorem f84_24 : amFetch 84 24 = some (.invokestatic 48, 3, 1, 82, 6) := rfl
theorem f84_27 : amFetch 84 27 = some (.ifCond .ne 9, 3, 0, 0, 0) := rfl
theorem f84_30 : amFetch 84 30 = some (.iinc 7 1, 3, 0, 0, 0) := rfl
theorem f84_33 : amFetch 84 33 = some (.goto (-18), 3, 0, 0, 0) := rfl
theorem f84_36 : amFetch 84 36 = some (.iconst 0, 1, 0, 0, 0) := rfl
theorem f84_37 : amFetch 84 37 = some (.istore 8, 2, 0, 0, 0) := rfl
theorem f84_39 : amFetch 84 39 = some (.iconst 0, 1, 0, 0, 0) := rfl
theorem f84_40 : amFetch 84 40 = some (.istore 9, 2, 0, 0, 0) := rfl
theorem f84_42 : amFetch 84 42 = some (.iconst 1, 1, 0, 0, 0) := rfl
theorem f84_43 : amFetch 84 43 = some (.istore 10, 2, 0, 0, 0) := rfl
theorem f84_45 : amFetch 84 45 = some (.iconst 0, 1, 0, 0, 0) := rfl
theorem f84_46 : amFetch 84 46 = some (.istore 11, 2, 0, 0, 0) := rfl
theorem f84_48 : amFetch 84 48 = some (.iload 11, 2, 0, 0, 0) := rfl
theorem f84_50 : amFetch 84 50 = some (.iload 5, 2, 0, 0, 0) := rfl
theorem f84_52 : amFetch 84 52 = some (.if_icmp .ge 185, 3, 0, 0, 0) := rfl
theorem f84_55 : amFetch 84 55 = some (.iload 10, 2, 0, 0, 0) := rfl
theorem f84_57 : amFetch 84 57 = some (.ifCond .eq 180, 3, 0, 0, 0) := rfl
theorem f84_60 : amFetch 84 60 = some (.iload 7, 2, 0, 0, 0) := rfl
theorem f84_62 : amFetch 84 62 = some (.iload 11, 2, 0, 0, 0) := rfl
theorem f84_64 : amFetch 84 64 = some (.iadd, 1, 0, 0, 0) := rfl
theorem f84_65 : amFetch 84 65 = some (.iload 5, 2, 0, 0, 0) := rfl
theorem f84_67 : amFetch 84 67 = some (.irem, 1, 0, 0, 0) := rfl
theorem f84_68 : amFetch 84 68 = some (.istore 12, 2, 0, 0, 0) := rfl
theorem f84_70 : amFetch 84 70 = some (.aload 6, 2, 0, 0, 0) := rfl
theorem f84_72 : amFetch 84 72 = some (.iload 12, 2, 0, 0, 0) := rfl
theorem f84_74 : amFetch 84 74 = some (.iaload, 1, 0, 0, 0) := rfl
theorem f84_75 : amFetch 84 75 = some (.ifCond .le 28, 3, 0, 0, 0) := rfl
theorem f84_78 : amFetch 84 78 = some (.aload_n 1, 1, 0, 0, 0) := rfl
theorem f84_79 : amFetch 84 79 = some (.aload 6, 2, 0, 0, 0) := rfl
theorem f84_81 : amFetch 84 81 = some (.iload 12, 2, 0, 0, 0) := rfl
theorem f84_83 : amFetch 84 83 = some (.iaload, 1, 0, 0, 0) := rfl
theorem f84_84 : amFetch 84 84 = some (.bipush 8, 2, 0, 0, 0) := rfl
theorem f84_86 : amFetch 84 86 = some (.idiv, 1, 0, 0, 0) := rfl
theorem f84_87 : amFetch 84 87 = some (.iconst 1, 1, 0, 0, 0) := rfl
theorem f84_88 : amFetch 84 88 = some (.isub, 1, 0, 0, 0) := rfl
theorem f84_89 : amFetch 84 89 = some (.iload 4, 2, 0, 0, 0) := rfl
theorem f84_91 : amFetch 84 91 = some (.invokestatic 15, 3, 1, 80, 3) := rfl
theorem f84_94 : amFetch 84 94 = some (.iload 12, 2, 0, 0, 0) := rfl
theorem f84_96 : amFetch 84 96 = some (.if_icmp .ne 7, 3, 0, 0, 0) := rfl
theorem f84_99 : amFetch 84 99 = some (.iconst 1, 1, 0, 0, 0) := rfl
theorem f84_100 : amFetch 84 100 = some (.goto 4, 3, 0, 0, 0) := rfl
theorem f84_103 : amFetch 84 103 = some (.iconst 0, 1, 0, 0, 0) := rfl
theorem f84_104 : amFetch 84 104 = some (.istore 13, 2, 0, 0, 0) := rfl
theorem f84_106 : amFetch 84 106 = some (.aload 6, 2, 0, 0, 0) := rfl
theorem f84_108 : amFetch 84 108 = some (.iload 12, 2, 0, 0, 0) := rfl
theorem f84_110 : amFetch 84 110 = some (.iaload, 1, 0, 0, 0) := rfl
theorem f84_111 : amFetch 84 111 = some (.ifCond .ne 7, 3, 0, 0, 0) := rfl
theorem f84_114 : amFetch 84 114 = some (.iconst 0, 1, 0, 0, 0) := rfl
theorem f84_115 : amFetch 84 115 = some (.goto 16, 3, 0, 0, 0) := rfl
theorem f84_118 : amFetch 84 118 = some (.iload 13, 2, 0, 0, 0) := rfl
theorem f84_120 : amFetch 84 120 = some (.ifCond .eq 7, 3, 0, 0, 0) := rfl
theorem f84_123 : amFetch 84 123 = some (.iconst 1, 1, 0, 0, 0) := rfl
theorem f84_124 : amFetch 84 124 = some (.goto 7, 3, 0, 0, 0) := rfl
theorem f84_127 : amFetch 84 127 = some (.iload 9, 2, 0, 0, 0) := rfl
theorem f84_129 : amFetch 84 129 = some (.iconst 1, 1, 0, 0, 0) := rfl
theorem f84_130 : amFetch 84 130 = some (.iadd, 1, 0, 0, 0) := rfl
theorem f84_131 : amFetch 84 131 = some (.istore 9, 2, 0, 0, 0) := rfl
theorem f84_133 : amFetch 84 133 = some (.iload 9, 2, 0, 0, 0) := rfl
theorem f84_135 : amFetch 84 135 = some (.iload 8, 2, 0, 0, 0) := rfl
theorem f84_137 : amFetch 84 137 = some (.if_icmp .le 8, 3, 0, 0, 0) := rfl
theorem f84_140 : amFetch 84 140 = some (.iload 9, 2, 0, 0, 0) := rfl
theorem f84_142 : amFetch 84 142 = some (.goto 5, 3, 0, 0, 0) := rfl
theorem f84_145 : amFetch 84 145 = some (.iload 8, 2, 0, 0, 0) := rfl
theorem f84_147 : amFetch 84 147 = some (.istore 8, 2, 0, 0, 0) := rfl
theorem f84_149 : amFetch 84 149 = some (.aload_n 1, 1, 0, 0, 0) := rfl
theorem f84_150 : amFetch 84 150 = some (.aload_n 2, 1, 0, 0, 0) := rfl
theorem f84_151 : amFetch 84 151 = some (.iload_n 3, 1, 0, 0, 0) := rfl
theorem f84_152 : amFetch 84 152 = some (.iload 4, 2, 0, 0, 0) := rfl
theorem f84_154 : amFetch 84 154 = some (.iload 12, 2, 0, 0, 0) := rfl
theorem f84_156 : amFetch 84 156 = some (.invokestatic 19, 3, 1, 81, 5) := rfl
theorem f84_159 : amFetch 84 159 = some (.istore 14, 2, 0, 0, 0) := rfl
theorem f84_161 : amFetch 84 161 = some (.aload_n 0, 1, 0, 0, 0) := rfl
theorem f84_162 : amFetch 84 162 = some (.aload_n 1, 1, 0, 0, 0) := rfl
theorem f84_163 : amFetch 84 163 = some (.aload 6, 2, 0, 0, 0) := rfl
theorem f84_165 : amFetch 84 165 = some (.iload_n 3, 1, 0, 0, 0) := rfl
theorem f84_166 : amFetch 84 166 = some (.iload 4, 2, 0, 0, 0) := rfl
theorem f84_168 : amFetch 84 168 = some (.iload 12, 2, 0, 0, 0) := rfl
theorem f84_170 : amFetch 84 170 = some (.invokestatic 52, 3, 1, 83, 6) := rfl
theorem f84_173 : amFetch 84 173 = some (.ifCond .eq 55, 3, 0, 0, 0) := rfl
theorem f84_176 : amFetch 84 176 = some (.aload_n 0, 1, 0, 0, 0) := rfl
theorem f84_177 : amFetch 84 177 = some (.iload_n 3, 1, 0, 0, 0) := rfl
theorem f84_178 : amFetch 84 178 = some (.iload 12, 2, 0, 0, 0) := rfl
theorem f84_180 : amFetch 84 180 = some (.invokevirtual 56, 3, 0, 64, 2) := rfl
theorem f84_183 : amFetch 84 183 = some (.iload 14, 2, 0, 0, 0) := rfl
theorem f84_185 : amFetch 84 185 = some (.if_icmp .ne 43, 3, 0, 0, 0) := rfl
theorem f84_188 : amFetch 84 188 = some (.aload_n 0, 1, 0, 0, 0) := rfl
theorem f84_189 : amFetch 84 189 = some (.iload_n 3, 1, 0, 0, 0) := rfl
theorem f84_190 : amFetch 84 190 = some (.iload 12, 2, 0, 0, 0) := rfl
theorem f84_192 : amFetch 84 192 = some (.invokevirtual 59, 3, 0, 60, 2) := rfl
theorem f84_195 : amFetch 84 195 = some (.iload 14, 2, 0, 0, 0) := rfl
theorem f84_197 : amFetch 84 197 = some (.ifCond .le 7, 3, 0, 0, 0) := rfl
theorem f84_200 : amFetch 84 200 = some (.iconst 1, 1, 0, 0, 0) := rfl
theorem f84_201 : amFetch 84 201 = some (.goto 4, 3, 0, 0, 0) := rfl
theorem f84_204 : amFetch 84 204 = some (.iconst 0, 1, 0, 0, 0) := rfl
theorem f84_205 : amFetch 84 205 = some (.if_icmp .ne 23, 3, 0, 0, 0) := rfl
theorem f84_208 : amFetch 84 208 = some (.iload 14, 2, 0, 0, 0) := rfl
theorem f84_210 : amFetch 84 210 = some (.ifCond .gt 14, 3, 0, 0, 0) := rfl
theorem f84_213 : amFetch 84 213 = some (.aload_n 0, 1, 0, 0, 0) := rfl
theorem f84_214 : amFetch 84 214 = some (.iload_n 3, 1, 0, 0, 0) := rfl
theorem f84_215 : amFetch 84 215 = some (.iload 12, 2, 0, 0, 0) := rfl
theorem f84_217 : amFetch 84 217 = some (.invokevirtual 45, 3, 0, 63, 2) := rfl
theorem f84_220 : amFetch 84 220 = some (.iconst (-1), 1, 0, 0, 0) := rfl
theorem f84_221 : amFetch 84 221 = some (.if_icmp .ne 7, 3, 0, 0, 0) := rfl
theorem f84_224 : amFetch 84 224 = some (.iconst 1, 1, 0, 0, 0) := rfl
theorem f84_225 : amFetch 84 225 = some (.goto 4, 3, 0, 0, 0) := rfl
theorem f84_228 : amFetch 84 228 = some (.iconst 0, 1, 0, 0, 0) := rfl
theorem f84_229 : amFetch 84 229 = some (.istore 10, 2, 0, 0, 0) := rfl
theorem f84_231 : amFetch 84 231 = some (.iinc 11 1, 3, 0, 0, 0) := rfl
theorem f84_234 : amFetch 84 234 = some (.goto (-186), 3, 0, 0, 0) := rfl
theorem f84_237 : amFetch 84 237 = some (.iload 10, 2, 0, 0, 0) := rfl
theorem f84_239 : amFetch 84 239 = some (.ifCond .eq 17, 3, 0, 0, 0) := rfl
theorem f84_242 : amFetch 84 242 = some (.aload_n 0, 1, 0, 0, 0) := rfl
theorem f84_243 : amFetch 84 243 = some (.iload_n 3, 1, 0, 0, 0) := rfl
theorem f84_244 : amFetch 84 244 = some (.invokevirtual 62, 3, 0, 66, 1) := rfl
theorem f84_247 : amFetch 84 247 = some (.iload 8, 2, 0, 0, 0) := rfl
theorem f84_249 : amFetch 84 249 = some (.if_icmp .ne 7, 3, 0, 0, 0) := rfl
theorem f84_252 : amFetch 84 252 = some (.iconst 1, 1, 0, 0, 0) := rfl
theorem f84_253 : amFetch 84 253 = some (.goto 4, 3, 0, 0, 0) := rfl
theorem f84_256 : amFetch 84 256 = some (.iconst 0, 1, 0, 0, 0) := rfl
theorem f84_257 : amFetch 84 257 = some (.ireturn, 1, 0, 0, 0) := rfl
theorem ow84 : amOwnL 84 = some (5, 15) := rfl
-- L_isFilter
theorem f85_0 : amFetch 85 0 = some (.iconst 0, 1, 0, 0, 0) := rfl
theorem f85_1 : amFetch 85 1 = some (.istore 5, 2, 0, 0, 0) := rfl
theorem f85_3 : amFetch 85 3 = some (.iconst 0, 1, 0, 0, 0) := rfl
theorem f85_4 : amFetch 85 4 = some (.istore 6, 2, 0, 0, 0) := rfl
theorem f85_6 : amFetch 85 6 = some (.iconst 1, 1, 0, 0, 0) := rfl
theorem f85_7 : amFetch 85 7 = some (.istore 7, 2, 0, 0, 0) := rfl
theorem f85_9 : amFetch 85 9 = some (.iconst 0, 1, 0, 0, 0) := rfl
theorem f85_10 : amFetch 85 10 = some (.istore 8, 2, 0, 0, 0) := rfl
theorem f85_12 : amFetch 85 12 = some (.iload 8, 2, 0, 0, 0) := rfl
theorem f85_14 : amFetch 85 14 = some (.bipush 15, 2, 0, 0, 0) := rfl
theorem f85_16 : amFetch 85 16 = some (.if_icmp .ge 271, 3, 0, 0, 0) := rfl
theorem f85_19 : amFetch 85 19 = some (.iload 7, 2, 0, 0, 0) := rfl
theorem f85_21 : amFetch 85 21 = some (.ifCond .eq 266, 3, 0, 0, 0) := rfl
theorem f85_24 : amFetch 85 24 = some (.aload_n 2, 1, 0, 0, 0) := rfl
theorem f85_25 : amFetch 85 25 = some (.bipush 16, 2, 0, 0, 0) := rfl
theorem f85_27 : amFetch 85 27 = some (.iload 4, 2, 0, 0, 0) := rfl
theorem f85_29 : amFetch 85 29 = some (.imul, 1, 0, 0, 0) := rfl
theorem f85_30 : amFetch 85 30 = some (.iload 8, 2, 0, 0, 0) := rfl
theorem f85_32 : amFetch 85 32 = some (.iadd, 1, 0, 0, 0) := rfl
theorem f85_33 : amFetch 85 33 = some (.iaload, 1, 0, 0, 0) := rfl
theorem f85_34 : amFetch 85 34 = some (.istore 9, 2, 0, 0, 0) := rfl
theorem f85_36 : amFetch 85 36 = some (.iconst 0, 1, 0, 0, 0) := rfl
theorem f85_37 : amFetch 85 37 = some (.istore 10, 2, 0, 0, 0) := rfl
theorem f85_39 : amFetch 85 39 = some (.iconst 0, 1, 0, 0, 0) := rfl
theorem f85_40 : amFetch 85 40 = some (.istore 11, 2, 0, 0, 0) := rfl
theorem f85_42 : amFetch 85 42 = some (.iconst 0, 1, 0, 0, 0) := rfl
theorem f85_43 : amFetch 85 43 = some (.istore 12, 2, 0, 0, 0) := rfl
theorem f85_45 : amFetch 85 45 = some (.iload 12, 2, 0, 0, 0) := rfl
theorem f85_47 : amFetch 85 47 = some (.bipush 15, 2, 0, 0, 0) := rfl
theorem f85_49 : amFetch 85 49 = some (.if_icmp .ge 104, 3, 0, 0, 0) := rfl
theorem f85_52 : amFetch 85 52 = some (.aload_n 1, 1, 0, 0, 0) := rfl
theorem f85_53 : amFetch 85 53 = some (.iload 12, 2, 0, 0, 0) := rfl
theorem f85_55 : amFetch 85 55 = some (.aload_n 3, 1, 0, 0, 0) := rfl
theorem f85_56 : amFetch 85 56 = some (.iload 4, 2, 0, 0, 0) := rfl
theorem f85_58 : amFetch 85 58 = some (.iaload, 1, 0, 0, 0) := rfl
theorem f85_59 : amFetch 85 59 = some (.invokestatic 15, 3, 1, 80, 3) := rfl
theorem f85_62 : amFetch 85 62 = some (.aload_n 1, 1, 0, 0, 0) := rfl
theorem f85_63 : amFetch 85 63 = some (.iload 8, 2, 0, 0, 0) := rfl
theorem f85_65 : amFetch 85 65 = some (.aload_n 3, 1, 0, 0, 0) := rfl
theorem f85_66 : amFetch 85 66 = some (.iload 4, 2, 0, 0, 0) := rfl
theorem f85_68 : amFetch 85 68 = some (.iaload, 1, 0, 0, 0) := rfl
theorem f85_69 : amFetch 85 69 = some (.invokestatic 15, 3, 1, 80, 3) := rfl
theorem f85_72 : amFetch 85 72 = some (.if_icmp .ne 7, 3, 0, 0, 0) := rfl
theorem f85_75 : amFetch 85 75 = some (.iconst 1, 1, 0, 0, 0) := rfl
theorem f85_76 : amFetch 85 76 = some (.goto 4, 3, 0, 0, 0) := rfl
theorem f85_79 : amFetch 85 79 = some (.iconst 0, 1, 0, 0, 0) := rfl
theorem f85_80 : amFetch 85 80 = some (.istore 13, 2, 0, 0, 0) := rfl
theorem f85_82 : amFetch 85 82 = some (.iload 10, 2, 0, 0, 0) := rfl
theorem f85_84 : amFetch 85 84 = some (.iload 13, 2, 0, 0, 0) := rfl
theorem f85_86 : amFetch 85 86 = some (.ifCond .eq 26, 3, 0, 0, 0) := rfl
theorem f85_89 : amFetch 85 89 = some (.iload 12, 2, 0, 0, 0) := rfl
theorem f85_91 : amFetch 85 91 = some (.iload 8, 2, 0, 0, 0) := rfl
theorem f85_93 : amFetch 85 93 = some (.if_icmp .ge 19, 3, 0, 0, 0) := rfl
theorem f85_96 : amFetch 85 96 = some (.aload_n 2, 1, 0, 0, 0) := rfl
theorem f85_97 : amFetch 85 97 = some (.bipush 16, 2, 0, 0, 0) := rfl
theorem f85_99 : amFetch 85 99 = some (.iload 4, 2, 0, 0, 0) := rfl
theorem f85_101 : amFetch 85 101 = some (.imul, 1, 0, 0, 0) := rfl
theorem f85_102 : amFetch 85 102 = some (.iload 12, 2, 0, 0, 0) := rfl
theorem f85_104 : amFetch 85 104 = some (.iadd, 1, 0, 0, 0) := rfl
theorem f85_105 : amFetch 85 105 = some (.iaload, 1, 0, 0, 0) := rfl
theorem f85_106 : amFetch 85 106 = some (.invokestatic 9, 3, 1, 78, 1) := rfl
theorem f85_109 : amFetch 85 109 = some (.goto 4, 3, 0, 0, 0) := rfl
theorem f85_112 : amFetch 85 112 = some (.iconst 0, 1, 0, 0, 0) := rfl
theorem f85_113 : amFetch 85 113 = some (.iadd, 1, 0, 0, 0) := rfl
theorem f85_114 : amFetch 85 114 = some (.istore 10, 2, 0, 0, 0) := rfl
theorem f85_116 : amFetch 85 116 = some (.iload 11, 2, 0, 0, 0) := rfl
theorem f85_118 : amFetch 85 118 = some (.iload 13, 2, 0, 0, 0) := rfl
theorem f85_120 : amFetch 85 120 = some (.ifCond .eq 23, 3, 0, 0, 0) := rfl
theorem f85_123 : amFetch 85 123 = some (.iload 12, 2, 0, 0, 0) := rfl
theorem f85_125 : amFetch 85 125 = some (.iload 8, 2, 0, 0, 0) := rfl
theorem f85_127 : amFetch 85 127 = some (.if_icmp .lt 16, 3, 0, 0, 0) := rfl
theorem f85_130 : amFetch 85 130 = some (.aload_n 2, 1, 0, 0, 0) := rfl
theorem f85_131 : amFetch 85 131 = some (.bipush 16, 2, 0, 0, 0) := rfl
theorem f85_133 : amFetch 85 133 = some (.iload 4, 2, 0, 0, 0) := rfl
theorem f85_135 : amFetch 85 135 = some (.imul, 1, 0, 0, 0) := rfl
theorem f85_136 : amFetch 85 136 = some (.iload 12, 2, 0, 0, 0) := rfl
theorem f85_138 : amFetch 85 138 = some (.iadd, 1, 0, 0, 0) := rfl
theorem f85_139 : amFetch 85 139 = some (.iaload, 1, 0, 0, 0) := rfl
theorem f85_140 : amFetch 85 140 = some (.goto 4, 3, 0, 0, 0) := rfl
theorem f85_143 : amFetch 85 143 = some (.iconst 0, 1, 0, 0, 0) := rfl
theorem f85_144 : amFetch 85 144 = some (.iadd, 1, 0, 0, 0) := rfl
theorem f85_145 : amFetch 85 145 = some (.istore 11, 2, 0, 0, 0) := rfl
theorem f85_147 : amFetch 85 147 = some (.iinc 12 1, 3, 0, 0, 0) := rfl
theorem f85_150 : amFetch 85 150 = some (.goto (-105), 3, 0, 0, 0) := rfl
theorem f85_153 : amFetch 85 153 = some (.aload_n 0, 1, 0, 0, 0) := rfl
theorem f85_154 : amFetch 85 154 = some (.iload 4, 2, 0, 0, 0) := rfl
theorem f85_156 : amFetch 85 156 = some (.aload_n 1, 1, 0, 0, 0) := rfl
theorem f85_157 : amFetch 85 157 = some (.iload 8, 2, 0, 0, 0) := rfl
theorem f85_159 : amFetch 85 159 = some (.iaload, 1, 0, 0, 0) := rfl
theorem f85_160 : amFetch 85 160 = some (.invokevirtual 65, 3, 0, 43, 2) := rfl
theorem f85_163 : amFetch 85 163 = some (.iload 9, 2, 0, 0, 0) := rfl
theorem f85_165 : amFetch 85 165 = some (.if_icmp .ne 91, 3, 0, 0, 0) := rfl
theorem f85_168 : amFetch 85 168 = some (.aload_n 0, 1, 0, 0, 0) := rfl
theorem f85_169 : amFetch 85 169 = some (.iload 4, 2, 0, 0, 0) := rfl
theorem f85_171 : amFetch 85 171 = some (.aload_n 1, 1, 0, 0, 0) := rfl
theorem f85_172 : amFetch 85 172 = some (.iload 8, 2, 0, 0, 0) := rfl
theorem f85_174 : amFetch 85 174 = some (.iaload, 1, 0, 0, 0) := rfl
theorem f85_175 : amFetch 85 175 = some (.invokevirtual 68, 3, 0, 44, 2) := rfl
theorem f85_178 : amFetch 85 178 = some (.iload 9, 2, 0, 0, 0) := rfl
theorem f85_180 : amFetch 85 180 = some (.if_icmp .ne 76, 3, 0, 0, 0) := rfl
theorem f85_183 : amFetch 85 183 = some (.aload_n 0, 1, 0, 0, 0) := rfl
theorem f85_184 : amFetch 85 184 = some (.iload 4, 2, 0, 0, 0) := rfl
theorem f85_186 : amFetch 85 186 = some (.aload_n 1, 1, 0, 0, 0) := rfl
theorem f85_187 : amFetch 85 187 = some (.iload 8, 2, 0, 0, 0) := rfl
theorem f85_189 : amFetch 85 189 = some (.iaload, 1, 0, 0, 0) := rfl
theorem f85_190 : amFetch 85 190 = some (.bipush 77, 2, 0, 0, 0) := rfl
theorem f85_192 : amFetch 85 192 = some (.iload 8, 2, 0, 0, 0) := rfl
theorem f85_194 : amFetch 85 194 = some (.imul, 1, 0, 0, 0) := rfl
theorem f85_195 : amFetch 85 195 = some (.invokestatic 71, 3, 1, 87, 2) := rfl
theorem f85_198 : amFetch 85 198 = some (.invokevirtual 74, 3, 0, 40, 2) := rfl
theorem f85_201 : amFetch 85 201 = some (.iload 9, 2, 0, 0, 0) := rfl
theorem f85_203 : amFetch 85 203 = some (.if_icmp .ne 53, 3, 0, 0, 0) := rfl
theorem f85_206 : amFetch 85 206 = some (.aload_n 0, 1, 0, 0, 0) := rfl
theorem f85_207 : amFetch 85 207 = some (.iload 4, 2, 0, 0, 0) := rfl
theorem f85_209 : amFetch 85 209 = some (.aload_n 1, 1, 0, 0, 0) := rfl
theorem f85_210 : amFetch 85 210 = some (.iload 8, 2, 0, 0, 0) := rfl
theorem f85_212 : amFetch 85 212 = some (.iaload, 1, 0, 0, 0) := rfl
theorem f85_213 : amFetch 85 213 = some (.invokevirtual 77, 3, 0, 45, 2) := rfl
theorem f85_216 : amFetch 85 216 = some (.iload 10, 2, 0, 0, 0) := rfl
theorem f85_218 : amFetch 85 218 = some (.iload 11, 2, 0, 0, 0) := rfl
theorem f85_220 : amFetch 85 220 = some (.ifCond .le 7, 3, 0, 0, 0) := rfl
theorem f85_223 : amFetch 85 223 = some (.iconst 1, 1, 0, 0, 0) := rfl
theorem f85_224 : amFetch 85 224 = some (.goto 4, 3, 0, 0, 0) := rfl
theorem f85_227 : amFetch 85 227 = some (.iconst 0, 1, 0, 0, 0) := rfl
theorem f85_228 : amFetch 85 228 = some (.iadd, 1, 0, 0, 0) := rfl
theorem f85_229 : amFetch 85 229 = some (.if_icmp .ne 27, 3, 0, 0, 0) := rfl
theorem f85_232 : amFetch 85 232 = some (.iload 9, 2, 0, 0, 0) := rfl
theorem f85_234 : amFetch 85 234 = some (.ifCond .eq 18, 3, 0, 0, 0) := rfl
theorem f85_237 : amFetch 85 237 = some (.aload_n 0, 1, 0, 0, 0) := rfl
theorem f85_238 : amFetch 85 238 = some (.iload 4, 2, 0, 0, 0) := rfl
theorem f85_240 : amFetch 85 240 = some (.iload 5, 2, 0, 0, 0) := rfl
theorem f85_242 : amFetch 85 242 = some (.invokevirtual 80, 3, 0, 56, 2) := rfl
theorem f85_245 : amFetch 85 245 = some (.aload_n 1, 1, 0, 0, 0) := rfl
theorem f85_246 : amFetch 85 246 = some (.iload 8, 2, 0, 0, 0) := rfl
theorem f85_248 : amFetch 85 248 = some (.iaload, 1, 0, 0, 0) := rfl
theorem f85_249 : amFetch 85 249 = some (.if_icmp .ne 7, 3, 0, 0, 0) := rfl
theorem f85_252 : amFetch 85 252 = some (.iconst 1, 1, 0, 0, 0) := rfl
theorem f85_253 : amFetch 85 253 = some (.goto 4, 3, 0, 0, 0) := rfl
theorem f85_256 : amFetch 85 256 = some (.iconst 0, 1, 0, 0, 0) := rfl
theorem f85_257 : amFetch 85 257 = some (.istore 7, 2, 0, 0, 0) := rfl
theorem f85_259 : amFetch 85 259 = some (.iload 5, 2, 0, 0, 0) := rfl
theorem f85_261 : amFetch 85 261 = some (.iload 9, 2, 0, 0, 0) := rfl
theorem f85_263 : amFetch 85 263 = some (.ifCond .le 7, 3, 0, 0, 0) := rfl
theorem f85_266 : amFetch 85 266 = some (.iconst 1, 1, 0, 0, 0) := rfl
theorem f85_267 : amFetch 85 267 = some (.goto 4, 3, 0, 0, 0) := rfl
theorem f85_270 : amFetch 85 270 = some (.iconst 0, 1, 0, 0, 0) := rfl
theorem f85_271 : amFetch 85 271 = some (.iadd, 1, 0, 0, 0) := rfl
theorem f85_272 : amFetch 85 272 = some (.istore 5, 2, 0, 0, 0) := rfl
theorem f85_274 : amFetch 85 274 = some (.iload 6, 2, 0, 0, 0) := rfl
theorem f85_276 : amFetch 85 276 = some (.iload 9, 2, 0, 0, 0) := rfl
theorem f85_278 : amFetch 85 278 = some (.iadd, 1, 0, 0, 0) := rfl
theorem f85_279 : amFetch 85 279 = some (.istore 6, 2, 0, 0, 0) := rfl
theorem f85_281 : amFetch 85 281 = some (.iinc 8 1, 3, 0, 0, 0) := rfl
theorem f85_284 : amFetch 85 284 = some (.goto (-272), 3, 0, 0, 0) := rfl
theorem f85_287 : amFetch 85 287 = some (.iload 7, 2, 0, 0, 0) := rfl
theorem f85_289 : amFetch 85 289 = some (.ifCond .eq 59, 3, 0, 0, 0) := rfl
theorem f85_292 : amFetch 85 292 = some (.aload_n 0, 1, 0, 0, 0) := rfl
theorem f85_293 : amFetch 85 293 = some (.iload 4, 2, 0, 0, 0) := rfl
theorem f85_295 : amFetch 85 295 = some (.invokevirtual 83, 3, 0, 52, 1) := rfl
theorem f85_298 : amFetch 85 298 = some (.iconst 1, 1, 0, 0, 0) := rfl
theorem f85_299 : amFetch 85 299 = some (.aload_n 3, 1, 0, 0, 0) := rfl
theorem f85_300 : amFetch 85 300 = some (.iload 4, 2, 0, 0, 0) := rfl
theorem f85_302 : amFetch 85 302 = some (.iaload, 1, 0, 0, 0) := rfl
theorem f85_303 : amFetch 85 303 = some (.ishl, 1, 0, 0, 0) := rfl
theorem f85_304 : amFetch 85 304 = some (.if_icmp .ne 44, 3, 0, 0, 0) := rfl
theorem f85_307 : amFetch 85 307 = some (.aload_n 0, 1, 0, 0, 0) := rfl
theorem f85_308 : amFetch 85 308 = some (.iload 4, 2, 0, 0, 0) := rfl
theorem f85_310 : amFetch 85 310 = some (.invokevirtual 86, 3, 0, 53, 1) := rfl
theorem f85_313 : amFetch 85 313 = some (.aload_n 2, 1, 0, 0, 0) := rfl
theorem f85_314 : amFetch 85 314 = some (.iload 4, 2, 0, 0, 0) := rfl
theorem f85_316 : amFetch 85 316 = some (.invokestatic 87, 3, 1, 79, 2) := rfl
theorem f85_319 : amFetch 85 319 = some (.if_icmp .ne 29, 3, 0, 0, 0) := rfl
theorem f85_322 : amFetch 85 322 = some (.aload_n 0, 1, 0, 0, 0) := rfl
theorem f85_323 : amFetch 85 323 = some (.iload 4, 2, 0, 0, 0) := rfl
theorem f85_325 : amFetch 85 325 = some (.invokevirtual 91, 3, 0, 54, 1) := rfl
theorem f85_328 : amFetch 85 328 = some (.iload 5, 2, 0, 0, 0) := rfl
theorem f85_330 : amFetch 85 330 = some (.if_icmp .ne 18, 3, 0, 0, 0) := rfl
theorem f85_333 : amFetch 85 333 = some (.aload_n 0, 1, 0, 0, 0) := rfl
theorem f85_334 : amFetch 85 334 = some (.iload 4, 2, 0, 0, 0) := rfl
theorem f85_336 : amFetch 85 336 = some (.invokevirtual 94, 3, 0, 55, 1) := rfl
theorem f85_339 : amFetch 85 339 = some (.iload 6, 2, 0, 0, 0) := rfl
theorem f85_341 : amFetch 85 341 = some (.if_icmp .ne 7, 3, 0, 0, 0) := rfl
theorem f85_344 : amFetch 85 344 = some (.iconst 1, 1, 0, 0, 0) := rfl
theorem f85_345 : amFetch 85 345 = some (.goto 4, 3, 0, 0, 0) := rfl
theorem f85_348 : amFetch 85 348 = some (.iconst 0, 1, 0, 0, 0) := rfl
theorem f85_349 : amFetch 85 349 = some (.istore 7, 2, 0, 0, 0) := rfl
theorem f85_351 : amFetch 85 351 = some (.iload 7, 2, 0, 0, 0) := rfl
theorem f85_353 : amFetch 85 353 = some (.ifCond .eq 30, 3, 0, 0, 0) := rfl
theorem f85_356 : amFetch 85 356 = some (.aload_n 3, 1, 0, 0, 0) := rfl
theorem f85_357 : amFetch 85 357 = some (.iload 4, 2, 0, 0, 0) := rfl
theorem f85_359 : amFetch 85 359 = some (.iaload, 1, 0, 0, 0) := rfl
theorem f85_360 : amFetch 85 360 = some (.iconst 5, 1, 0, 0, 0) := rfl
theorem f85_361 : amFetch 85 361 = some (.if_icmp .gt 18, 3, 0, 0, 0) := rfl
theorem f85_364 : amFetch 85 364 = some (.aload_n 0, 1, 0, 0, 0) := rfl
theorem f85_365 : amFetch 85 365 = some (.aload_n 1, 1, 0, 0, 0) := rfl
theorem f85_366 : amFetch 85 366 = some (.aload_n 2, 1, 0, 0, 0) := rfl
theorem f85_367 : amFetch 85 367 = some (.iload 4, 2, 0, 0, 0) := rfl
theorem f85_369 : amFetch 85 369 = some (.aload_n 3, 1, 0, 0, 0) := rfl
theorem f85_370 : amFetch 85 370 = some (.iload 4, 2, 0, 0, 0) := rfl
theorem f85_372 : amFetch 85 372 = some (.iaload, 1, 0, 0, 0) := rfl
theorem f85_373 : amFetch 85 373 = some (.invokestatic 97, 3, 1, 84, 5) := rfl
theorem f85_376 : amFetch 85 376 = some (.ifCond .eq 7, 3, 0, 0, 0) := rfl
theorem f85_379 : amFetch 85 379 = some (.iconst 1, 1, 0, 0, 0) := rfl
theorem f85_380 : amFetch 85 380 = some (.goto 4, 3, 0, 0, 0) := rfl
theorem f85_383 : amFetch 85 383 = some (.iconst 0, 1, 0, 0, 0) := rfl
theorem f85_384 : amFetch 85 384 = some (.ireturn, 1, 0, 0, 0) := rfl
theorem ow85 : amOwnL 85 = some (5, 14) := rfl
-- L_areSame
theorem f86_0 : amFetch 86 0 = some (.iconst 1, 1, 0, 0, 0) := rfl
theorem f86_1 : amFetch 86 1 = some (.istore_n 2, 1, 0, 0, 0) := rfl
theorem f86_2 : amFetch 86 2 = some (.iconst 0, 1, 0, 0, 0) := rfl
theorem f86_3 : amFetch 86 3 = some (.istore_n 3, 1, 0, 0, 0) := rfl
theorem f86_4 : amFetch 86 4 = some (.iload_n 3, 1, 0, 0, 0) := rfl
theorem f86_5 : amFetch 86 5 = some (.bipush 16, 2, 0, 0, 0) := rfl
theorem f86_7 : amFetch 86 7 = some (.if_icmp .ge 90, 3, 0, 0, 0) := rfl
theorem f86_10 : amFetch 86 10 = some (.iload_n 2, 1, 0, 0, 0) := rfl
theorem f86_11 : amFetch 86 11 = some (.ifCond .eq 86, 3, 0, 0, 0) := rfl
theorem f86_14 : amFetch 86 14 = some (.iconst 1, 1, 0, 0, 0) := rfl
theorem f86_15 : amFetch 86 15 = some (.istore 4, 2, 0, 0, 0) := rfl
theorem f86_17 : amFetch 86 17 = some (.iconst 0, 1, 0, 0, 0) := rfl
theorem f86_18 : amFetch 86 18 = some (.istore 5, 2, 0, 0, 0) := rfl
theorem f86_20 : amFetch 86 20 = some (.iload 5, 2, 0, 0, 0) := rfl
theorem f86_22 : amFetch 86 22 = some (.bipush 15, 2, 0, 0, 0) := rfl
theorem f86_24 : amFetch 86 24 = some (.if_icmp .ge 46, 3, 0, 0, 0) := rfl
theorem f86_27 : amFetch 86 27 = some (.iload 4, 2, 0, 0, 0) := rfl
theorem f86_29 : amFetch 86 29 = some (.ifCond .eq 32, 3, 0, 0, 0) := rfl
theorem f86_32 : amFetch 86 32 = some (.aload_n 1, 1, 0, 0, 0) := rfl
theorem f86_33 : amFetch 86 33 = some (.iload_n 3, 1, 0, 0, 0) := rfl
theorem f86_34 : amFetch 86 34 = some (.iconst 4, 1, 0, 0, 0) := rfl
theorem f86_35 : amFetch 86 35 = some (.idiv, 1, 0, 0, 0) := rfl
theorem f86_36 : amFetch 86 36 = some (.bipush 16, 2, 0, 0, 0) := rfl
theorem f86_38 : amFetch 86 38 = some (.imul, 1, 0, 0, 0) := rfl
theorem f86_39 : amFetch 86 39 = some (.iload 5, 2, 0, 0, 0) := rfl
theorem f86_41 : amFetch 86 41 = some (.iadd, 1, 0, 0, 0) := rfl
theorem f86_42 : amFetch 86 42 = some (.iaload, 1, 0, 0, 0) := rfl
theorem f86_43 : amFetch 86 43 = some (.aload_n 1, 1, 0, 0, 0) := rfl
theorem f86_44 : amFetch 86 44 = some (.iload_n 3, 1, 0, 0, 0) := rfl
theorem f86_45 : amFetch 86 45 = some (.iconst 4, 1, 0, 0, 0) := rfl
theorem f86_46 : amFetch 86 46 = some (.irem, 1, 0, 0, 0) := rfl
theorem f86_47 : amFetch 86 47 = some (.bipush 16, 2, 0, 0, 0) := rfl
theorem f86_49 : amFetch 86 49 = some (.imul, 1, 0, 0, 0) := rfl
theorem f86_50 : amFetch 86 50 = some (.iload 5, 2, 0, 0, 0) := rfl
theorem f86_52 : amFetch 86 52 = some (.iadd, 1, 0, 0, 0) := rfl
theorem f86_53 : amFetch 86 53 = some (.iaload, 1, 0, 0, 0) := rfl
theorem f86_54 : amFetch 86 54 = some (.if_icmp .ne 7, 3, 0, 0, 0) := rfl
theorem f86_57 : amFetch 86 57 = some (.iconst 1, 1, 0, 0, 0) := rfl
theorem f86_58 : amFetch 86 58 = some (.goto 4, 3, 0, 0, 0) := rfl
theorem f86_61 : amFetch 86 61 = some (.iconst 0, 1, 0, 0, 0) := rfl
theorem f86_62 : amFetch 86 62 = some (.istore 4, 2, 0, 0, 0) := rfl
theorem f86_64 : amFetch 86 64 = some (.iinc 5 1, 3, 0, 0, 0) := rfl
theorem f86_67 : amFetch 86 67 = some (.goto (-47), 3, 0, 0, 0) := rfl
theorem f86_70 : amFetch 86 70 = some (.aload_n 0, 1, 0, 0, 0) := rfl
theorem f86_71 : amFetch 86 71 = some (.iload_n 3, 1, 0, 0, 0) := rfl
theorem f86_72 : amFetch 86 72 = some (.iconst 4, 1, 0, 0, 0) := rfl
theorem f86_73 : amFetch 86 73 = some (.idiv, 1, 0, 0, 0) := rfl
theorem f86_74 : amFetch 86 74 = some (.iload_n 3, 1, 0, 0, 0) := rfl
theorem f86_75 : amFetch 86 75 = some (.iconst 4, 1, 0, 0, 0) := rfl
theorem f86_76 : amFetch 86 76 = some (.irem, 1, 0, 0, 0) := rfl
theorem f86_77 : amFetch 86 77 = some (.invokevirtual 101, 3, 0, 51, 2) := rfl
theorem f86_80 : amFetch 86 80 = some (.iload 4, 2, 0, 0, 0) := rfl
theorem f86_82 : amFetch 86 82 = some (.if_icmp .ne 7, 3, 0, 0, 0) := rfl
theorem f86_85 : amFetch 86 85 = some (.iconst 1, 1, 0, 0, 0) := rfl
theorem f86_86 : amFetch 86 86 = some (.goto 4, 3, 0, 0, 0) := rfl
theorem f86_89 : amFetch 86 89 = some (.iconst 0, 1, 0, 0, 0) := rfl
theorem f86_90 : amFetch 86 90 = some (.istore_n 2, 1, 0, 0, 0) := rfl
theorem f86_91 : amFetch 86 91 = some (.iinc 3 1, 3, 0, 0, 0) := rfl
theorem f86_94 : amFetch 86 94 = some (.goto (-90), 3, 0, 0, 0) := rfl
theorem f86_97 : amFetch 86 97 = some (.iload_n 2, 1, 0, 0, 0) := rfl
theorem f86_98 : amFetch 86 98 = some (.ireturn, 1, 0, 0, 0) := rfl
theorem ow86 : amOwnL 86 = some (5, 6) := rfl
-- L_key
theorem f87_0 : amFetch 87 0 = some (.iload_n 0, 1, 0, 0, 0) := rfl
theorem f87_1 : amFetch 87 1 = some (.bipush 20, 2, 0, 0, 0) := rfl
theorem f87_3 : amFetch 87 3 = some (.ishl, 1, 0, 0, 0) := rfl
theorem f87_4 : amFetch 87 4 = some (.iload_n 1, 1, 0, 0, 0) := rfl
theorem f87_5 : amFetch 87 5 = some (.ldc 104, 2, 7, 0, 1048575) := rfl
theorem f87_7 : amFetch 87 7 = some (.iand, 1, 0, 0, 0) := rfl
theorem f87_8 : amFetch 87 8 = some (.ior, 1, 0, 0, 0) := rfl
theorem f87_9 : amFetch 87 9 = some (.ldc 105, 2, 7, 0, 340573321) := rfl
theorem f87_11 : amFetch 87 11 = some (.imul, 1, 0, 0, 0) := rfl
theorem f87_12 : amFetch 87 12 = some (.ireturn, 1, 0, 0, 0) := rfl
theorem ow87 : amOwnL 87 = some (5, 2) := rfl
-- L_inserted
theorem f88_0 : amFetch 88 0 = some (.aload_n 0, 1, 0, 0, 0) := rfl
theorem f88_1 : amFetch 88 1 = some (.iload_n 1, 1, 0, 0, 0) := rfl
theorem f88_2 : amFetch 88 2 = some (.iload_n 2, 1, 0, 0, 0) := rfl
theorem f88_3 : amFetch 88 3 = some (.invokevirtual 106, 3, 0, 38, 2) := rfl
theorem f88_6 : amFetch 88 6 = some (.ireturn, 1, 0, 0, 0) := rfl
theorem f88_7 : amFetch 88 7 = some (.astore_n 3, 1, 0, 0, 0) := rfl
theorem f88_8 : amFetch 88 8 = some (.iconst (-1), 1, 0, 0, 0) := rfl
theorem f88_9 : amFetch 88 9 = some (.ireturn, 1, 0, 0, 0) := rfl
theorem ow88 : amOwnL 88 = some (5, 4) := rfl
-- L_added
theorem f89_0 : amFetch 89 0 = some (.aload_n 0, 1, 0, 0, 0) := rfl
theorem f89_1 : amFetch 89 1 = some (.iload_n 1, 1, 0, 0, 0) := rfl
theorem f89_2 : amFetch 89 2 = some (.iload_n 2, 1, 0, 0, 0) := rfl
theorem f89_3 : amFetch 89 3 = some (.iload_n 3, 1, 0, 0, 0) := rfl
theorem f89_4 : amFetch 89 4 = some (.invokevirtual 111, 3, 0, 41, 3) := rfl
theorem f89_7 : amFetch 89 7 = some (.ireturn, 1, 0, 0, 0) := rfl
theorem f89_8 : amFetch 89 8 = some (.astore 4, 2, 0, 0, 0) := rfl
theorem f89_10 : amFetch 89 10 = some (.iconst (-1), 1, 0, 0, 0) := rfl
theorem f89_11 : amFetch 89 11 = some (.ireturn, 1, 0, 0, 0) := rfl
theorem ow89 : amOwnL 89 = some (5, 5) := rfl
-- L_grown
theorem f90_0 : amFetch 90 0 = some (.aload_n 0, 1, 0, 0, 0) := rfl
theorem f90_1 : amFetch 90 1 = some (.iload_n 1, 1, 0, 0, 0) := rfl
theorem f90_2 : amFetch 90 2 = some (.invokevirtual 115, 3, 0, 47, 1) := rfl
theorem f90_5 : amFetch 90 5 = some (.ireturn, 1, 0, 0, 0) := rfl
theorem f90_6 : amFetch 90 6 = some (.astore_n 2, 1, 0, 0, 0) := rfl
theorem f90_7 : amFetch 90 7 = some (.iconst (-1), 1, 0, 0, 0) := rfl
theorem f90_8 : amFetch 90 8 = some (.ireturn, 1, 0, 0, 0) := rfl
theorem ow90 : amOwnL 90 = some (5, 3) := rfl
-- L_shrunk
theorem f91_0 : amFetch 91 0 = some (.aload_n 0, 1, 0, 0, 0) := rfl
theorem f91_1 : amFetch 91 1 = some (.iload_n 1, 1, 0, 0, 0) := rfl
theorem f91_2 : amFetch 91 2 = some (.invokevirtual 118, 3, 0, 48, 1) := rfl
theorem f91_5 : amFetch 91 5 = some (.ireturn, 1, 0, 0, 0) := rfl
theorem f91_6 : amFetch 91 6 = some (.astore_n 2, 1, 0, 0, 0) := rfl
theorem f91_7 : amFetch 91 7 = some (.iconst (-1), 1, 0, 0, 0) := rfl
theorem f91_8 : amFetch 91 8 = some (.ireturn, 1, 0, 0, 0) := rfl
theorem ow91 : amOwnL 91 = some (5, 3) := rfl
-- L_merged
theorem f92_0 : amFetch 92 0 = some (.aload_n 0, 1, 0, 0, 0) := rfl
theorem f92_1 : amFetch 92 1 = some (.iload_n 1, 1, 0, 0, 0) := rfl
theorem f92_2 : amFetch 92 2 = some (.iload_n 2, 1, 0, 0, 0) := rfl
theorem f92_3 : amFetch 92 3 = some (.invokevirtual 121, 3, 0, 49, 2) := rfl
theorem f92_6 : amFetch 92 6 = some (.ireturn, 1, 0, 0, 0) := rfl
theorem f92_7 : amFetch 92 7 = some (.astore_n 3, 1, 0, 0, 0) := rfl
theorem f92_8 : amFetch 92 8 = some (.iconst (-1), 1, 0, 0, 0) := rfl
theorem f92_9 : amFetch 92 9 = some (.ireturn, 1, 0, 0, 0) := rfl
theorem ow92 : amOwnL 92 = some (5, 4) := rfl
-- L_hasRoom
theorem f93_0 : amFetch 93 0 = some (.bipush 8, 2, 0, 0, 0) := rfl
theorem f93_2 : amFetch 93 2 = some (.iload_n 0, 1, 0, 0, 0) := rfl
theorem f93_3 : amFetch 93 3 = some (.imul, 1, 0, 0, 0) := rfl
theorem f93_4 : amFetch 93 4 = some (.bipush 7, 2, 0, 0, 0) := rfl
theorem f93_6 : amFetch 93 6 = some (.iload_n 1, 1, 0, 0, 0) := rfl
theorem f93_7 : amFetch 93 7 = some (.ishl, 1, 0, 0, 0) := rfl
theorem f93_8 : amFetch 93 8 = some (.if_icmp .gt 7, 3, 0, 0, 0) := rfl
theorem f93_11 : amFetch 93 11 = some (.iconst 1, 1, 0, 0, 0) := rfl
theorem f93_12 : amFetch 93 12 = some (.goto 4, 3, 0, 0, 0) := rfl
theorem f93_15 : amFetch 93 15 = some (.iconst 0, 1, 0, 0, 0) := rfl
theorem f93_16 : amFetch 93 16 = some (.ireturn, 1, 0, 0, 0) := rfl
theorem ow93 : amOwnL 93 = some (5, 2) := rfl
-- L_counts
theorem f94_0 : amFetch 94 0 = some (.bipush 16, 2, 0, 0, 0) := rfl
theorem f94_2 : amFetch 94 2 = some (.iload 4, 2, 0, 0, 0) := rfl
theorem f94_4 : amFetch 94 4 = some (.imul, 1, 0, 0, 0) := rfl
theorem f94_5 : amFetch 94 5 = some (.iload 5, 2, 0, 0, 0) := rfl
theorem f94_7 : amFetch 94 7 = some (.iadd, 1, 0, 0, 0) := rfl
theorem f94_8 : amFetch 94 8 = some (.istore 8, 2, 0, 0, 0) := rfl
theorem f94_10 : amFetch 94 10 = some (.iload 6, 2, 0, 0, 0) := rfl
theorem f94_12 : amFetch 94 12 = some (.iconst 4, 1, 0, 0, 0) := rfl
theorem f94_13 : amFetch 94 13 = some (.if_icmp .ge 7, 3, 0, 0, 0) := rfl
theorem f94_16 : amFetch 94 16 = some (.iconst 1, 1, 0, 0, 0) := rfl
theorem f94_17 : amFetch 94 17 = some (.goto 27, 3, 0, 0, 0) := rfl
theorem f94_20 : amFetch 94 20 = some (.iload 6, 2, 0, 0, 0) := rfl
theorem f94_22 : amFetch 94 22 = some (.bipush 8, 2, 0, 0, 0) := rfl
theorem f94_24 : amFetch 94 24 = some (.if_icmp .ge 13, 3, 0, 0, 0) := rfl
theorem f94_27 : amFetch 94 27 = some (.iconst 1, 1, 0, 0, 0) := rfl
theorem f94_28 : amFetch 94 28 = some (.iload 7, 2, 0, 0, 0) := rfl
theorem f94_30 : amFetch 94 30 = some (.bipush 20, 2, 0, 0, 0) := rfl
theorem f94_32 : amFetch 94 32 = some (.irem, 1, 0, 0, 0) := rfl
theorem f94_33 : amFetch 94 33 = some (.iadd, 1, 0, 0, 0) := rfl
theorem f94_34 : amFetch 94 34 = some (.goto 10, 3, 0, 0, 0) := rfl
theorem f94_37 : amFetch 94 37 = some (.iconst 1, 1, 0, 0, 0) := rfl
theorem f94_38 : amFetch 94 38 = some (.iload 7, 2, 0, 0, 0) := rfl
theorem f94_40 : amFetch 94 40 = some (.bipush 100, 2, 0, 0, 0) := rfl
theorem f94_42 : amFetch 94 42 = some (.irem, 1, 0, 0, 0) := rfl
theorem f94_43 : amFetch 94 43 = some (.iadd, 1, 0, 0, 0) := rfl
theorem f94_44 : amFetch 94 44 = some (.istore 9, 2, 0, 0, 0) := rfl
theorem f94_46 : amFetch 94 46 = some (.iload 6, 2, 0, 0, 0) := rfl
theorem f94_48 : amFetch 94 48 = some (.bipush 8, 2, 0, 0, 0) := rfl
theorem f94_50 : amFetch 94 50 = some (.if_icmp .ge 117, 3, 0, 0, 0) := rfl
theorem f94_53 : amFetch 94 53 = some (.aload_n 2, 1, 0, 0, 0) := rfl
theorem f94_54 : amFetch 94 54 = some (.iload 4, 2, 0, 0, 0) := rfl
theorem f94_56 : amFetch 94 56 = some (.invokestatic 87, 3, 1, 79, 2) := rfl
theorem f94_59 : amFetch 94 59 = some (.aload_n 2, 1, 0, 0, 0) := rfl
theorem f94_60 : amFetch 94 60 = some (.iload 8, 2, 0, 0, 0) := rfl
theorem f94_62 : amFetch 94 62 = some (.iaload, 1, 0, 0, 0) := rfl
theorem f94_63 : amFetch 94 63 = some (.invokestatic 9, 3, 1, 78, 1) := rfl
theorem f94_66 : amFetch 94 66 = some (.isub, 1, 0, 0, 0) := rfl
theorem f94_67 : amFetch 94 67 = some (.aload_n 2, 1, 0, 0, 0) := rfl
theorem f94_68 : amFetch 94 68 = some (.iload 8, 2, 0, 0, 0) := rfl
theorem f94_70 : amFetch 94 70 = some (.iaload, 1, 0, 0, 0) := rfl
theorem f94_71 : amFetch 94 71 = some (.iload 9, 2, 0, 0, 0) := rfl
theorem f94_73 : amFetch 94 73 = some (.iadd, 1, 0, 0, 0) := rfl
theorem f94_74 : amFetch 94 74 = some (.invokestatic 9, 3, 1, 78, 1) := rfl
theorem f94_77 : amFetch 94 77 = some (.iadd, 1, 0, 0, 0) := rfl
theorem f94_78 : amFetch 94 78 = some (.aload_n 3, 1, 0, 0, 0) := rfl
theorem f94_79 : amFetch 94 79 = some (.iload 4, 2, 0, 0, 0) := rfl
theorem f94_81 : amFetch 94 81 = some (.iaload, 1, 0, 0, 0) := rfl
theorem f94_82 : amFetch 94 82 = some (.invokestatic 124, 3, 1, 93, 2) := rfl
theorem f94_85 : amFetch 94 85 = some (.istore 10, 2, 0, 0, 0) := rfl
theorem f94_87 : amFetch 94 87 = some (.aload_n 2, 1, 0, 0, 0) := rfl
theorem f94_88 : amFetch 94 88 = some (.iload 8, 2, 0, 0, 0) := rfl
theorem f94_90 : amFetch 94 90 = some (.dup2, 1, 0, 0, 0) := rfl
theorem f94_91 : amFetch 94 91 = some (.iaload, 1, 0, 0, 0) := rfl
theorem f94_92 : amFetch 94 92 = some (.iload 10, 2, 0, 0, 0) := rfl
theorem f94_94 : amFetch 94 94 = some (.ifCond .eq 8, 3, 0, 0, 0) := rfl
theorem f94_97 : amFetch 94 97 = some (.iload 9, 2, 0, 0, 0) := rfl
theorem f94_99 : amFetch 94 99 = some (.goto 4, 3, 0, 0, 0) := rfl
theorem f94_102 : amFetch 94 102 = some (.iconst 0, 1, 0, 0, 0) := rfl
theorem f94_103 : amFetch 94 103 = some (.iadd, 1, 0, 0, 0) := rfl
theorem f94_104 : amFetch 94 104 = some (.iastore, 1, 0, 0, 0) := rfl
theorem f94_105 : amFetch 94 105 = some (.iload 6, 2, 0, 0, 0) := rfl
theorem f94_107 : amFetch 94 107 = some (.iconst 4, 1, 0, 0, 0) := rfl
theorem f94_108 : amFetch 94 108 = some (.if_icmp .ge 21, 3, 0, 0, 0) := rfl
theorem f94_111 : amFetch 94 111 = some (.aload_n 0, 1, 0, 0, 0) := rfl
theorem f94_112 : amFetch 94 112 = some (.iload 4, 2, 0, 0, 0) := rfl
theorem f94_114 : amFetch 94 114 = some (.aload_n 1, 1, 0, 0, 0) := rfl
theorem f94_115 : amFetch 94 115 = some (.iload 5, 2, 0, 0, 0) := rfl
theorem f94_117 : amFetch 94 117 = some (.iaload, 1, 0, 0, 0) := rfl
theorem f94_118 : amFetch 94 118 = some (.iload 7, 2, 0, 0, 0) := rfl
theorem f94_120 : amFetch 94 120 = some (.invokestatic 71, 3, 1, 87, 2) := rfl
theorem f94_123 : amFetch 94 123 = some (.invokestatic 127, 3, 1, 88, 3) := rfl
theorem f94_126 : amFetch 94 126 = some (.goto 15, 3, 0, 0, 0) := rfl
theorem f94_129 : amFetch 94 129 = some (.aload_n 0, 1, 0, 0, 0) := rfl
theorem f94_130 : amFetch 94 130 = some (.iload 4, 2, 0, 0, 0) := rfl
theorem f94_132 : amFetch 94 132 = some (.aload_n 1, 1, 0, 0, 0) := rfl
theorem f94_133 : amFetch 94 133 = some (.iload 5, 2, 0, 0, 0) := rfl
theorem f94_135 : amFetch 94 135 = some (.iaload, 1, 0, 0, 0) := rfl
theorem f94_136 : amFetch 94 136 = some (.iload 9, 2, 0, 0, 0) := rfl
theorem f94_138 : amFetch 94 138 = some (.invokestatic 131, 3, 1, 89, 4) := rfl
theorem f94_141 : amFetch 94 141 = some (.istore 11, 2, 0, 0, 0) := rfl
theorem f94_143 : amFetch 94 143 = some (.iload 11, 2, 0, 0, 0) := rfl
theorem f94_145 : amFetch 94 145 = some (.iload 10, 2, 0, 0, 0) := rfl
theorem f94_147 : amFetch 94 147 = some (.ifCond .eq 10, 3, 0, 0, 0) := rfl
theorem f94_150 : amFetch 94 150 = some (.aload_n 2, 1, 0, 0, 0) := rfl
theorem f94_151 : amFetch 94 151 = some (.iload 8, 2, 0, 0, 0) := rfl
theorem f94_153 : amFetch 94 153 = some (.iaload, 1, 0, 0, 0) := rfl
theorem f94_154 : amFetch 94 154 = some (.goto 4, 3, 0, 0, 0) := rfl
theorem f94_157 : amFetch 94 157 = some (.iconst (-1), 1, 0, 0, 0) := rfl
theorem f94_158 : amFetch 94 158 = some (.if_icmp .ne 7, 3, 0, 0, 0) := rfl
theorem f94_161 : amFetch 94 161 = some (.iconst 1, 1, 0, 0, 0) := rfl
theorem f94_162 : amFetch 94 162 = some (.goto 4, 3, 0, 0, 0) := rfl
theorem f94_165 : amFetch 94 165 = some (.iconst 0, 1, 0, 0, 0) := rfl
theorem f94_166 : amFetch 94 166 = some (.ireturn, 1, 0, 0, 0) := rfl
theorem f94_167 : amFetch 94 167 = some (.iload 6, 2, 0, 0, 0) := rfl
theorem f94_169 : amFetch 94 169 = some (.bipush 10, 2, 0, 0, 0) := rfl
theorem f94_171 : amFetch 94 171 = some (.if_icmp .ge 60, 3, 0, 0, 0) := rfl
theorem f94_174 : amFetch 94 174 = some (.aload_n 2, 1, 0, 0, 0) := rfl
theorem f94_175 : amFetch 94 175 = some (.iload 8, 2, 0, 0, 0) := rfl
theorem f94_177 : amFetch 94 177 = some (.iaload, 1, 0, 0, 0) := rfl
theorem f94_178 : amFetch 94 178 = some (.ifCond .le 7, 3, 0, 0, 0) := rfl
theorem f94_181 : amFetch 94 181 = some (.iconst 1, 1, 0, 0, 0) := rfl
theorem f94_182 : amFetch 94 182 = some (.goto 4, 3, 0, 0, 0) := rfl
theorem f94_185 : amFetch 94 185 = some (.iconst 0, 1, 0, 0, 0) := rfl
theorem f94_186 : amFetch 94 186 = some (.istore 10, 2, 0, 0, 0) := rfl
theorem f94_188 : amFetch 94 188 = some (.aload_n 2, 1, 0, 0, 0) := rfl
theorem f94_189 : amFetch 94 189 = some (.iload 8, 2, 0, 0, 0) := rfl
theorem f94_191 : amFetch 94 191 = some (.dup2, 1, 0, 0, 0) := rfl
theorem f94_192 : amFetch 94 192 = some (.iaload, 1, 0, 0, 0) := rfl
theorem f94_193 : amFetch 94 193 = some (.iload 10, 2, 0, 0, 0) := rfl
theorem f94_195 : amFetch 94 195 = some (.ifCond .eq 7, 3, 0, 0, 0) := rfl
theorem f94_198 : amFetch 94 198 = some (.iconst 1, 1, 0, 0, 0) := rfl
theorem f94_199 : amFetch 94 199 = some (.goto 4, 3, 0, 0, 0) := rfl
theorem f94_202 : amFetch 94 202 = some (.iconst 0, 1, 0, 0, 0) := rfl
theorem f94_203 : amFetch 94 203 = some (.isub, 1, 0, 0, 0) := rfl
theorem f94_204 : amFetch 94 204 = some (.iastore, 1, 0, 0, 0) := rfl
theorem f94_205 : amFetch 94 205 = some (.aload_n 0, 1, 0, 0, 0) := rfl
theorem f94_206 : amFetch 94 206 = some (.iload 4, 2, 0, 0, 0) := rfl
theorem f94_208 : amFetch 94 208 = some (.aload_n 1, 1, 0, 0, 0) := rfl
theorem f94_209 : amFetch 94 209 = some (.iload 5, 2, 0, 0, 0) := rfl
theorem f94_211 : amFetch 94 211 = some (.iaload, 1, 0, 0, 0) := rfl
theorem f94_212 : amFetch 94 212 = some (.iload 7, 2, 0, 0, 0) := rfl
theorem f94_214 : amFetch 94 214 = some (.invokestatic 71, 3, 1, 87, 2) := rfl
theorem f94_217 : amFetch 94 217 = some (.invokevirtual 135, 3, 0, 39, 2) := rfl
theorem f94_220 : amFetch 94 220 = some (.iload 10, 2, 0, 0, 0) := rfl
theorem f94_222 : amFetch 94 222 = some (.if_icmp .ne 7, 3, 0, 0, 0) := rfl
theorem f94_225 : amFetch 94 225 = some (.iconst 1, 1, 0, 0, 0) := rfl
theorem f94_226 : amFetch 94 226 = some (.goto 4, 3, 0, 0, 0) := rfl
theorem f94_229 : amFetch 94 229 = some (.iconst 0, 1, 0, 0, 0) := rfl
theorem f94_230 : amFetch 94 230 = some (.ireturn, 1, 0, 0, 0) := rfl
theorem f94_231 : amFetch 94 231 = some (.aload_n 2, 1, 0, 0, 0) := rfl
theorem f94_232 : amFetch 94 232 = some (.iload 8, 2, 0, 0, 0) := rfl
theorem f94_234 : amFetch 94 234 = some (.iaload, 1, 0, 0, 0) := rfl
theorem f94_235 : amFetch 94 235 = some (.iload 9, 2, 0, 0, 0) := rfl
theorem f94_237 : amFetch 94 237 = some (.if_icmp .ge 10, 3, 0, 0, 0) := rfl
theorem f94_240 : amFetch 94 240 = some (.aload_n 2, 1, 0, 0, 0) := rfl
theorem f94_241 : amFetch 94 241 = some (.iload 8, 2, 0, 0, 0) := rfl
theorem f94_243 : amFetch 94 243 = some (.iaload, 1, 0, 0, 0) := rfl
theorem f94_244 : amFetch 94 244 = some (.goto 5, 3, 0, 0, 0) := rfl
theorem f94_247 : amFetch 94 247 = some (.iload 9, 2, 0, 0, 0) := rfl
theorem f94_249 : amFetch 94 249 = some (.istore 10, 2, 0, 0, 0) := rfl
theorem f94_251 : amFetch 94 251 = some (.aload_n 2, 1, 0, 0, 0) := rfl
theorem f94_252 : amFetch 94 252 = some (.iload 8, 2, 0, 0, 0) := rfl
theorem f94_254 : amFetch 94 254 = some (.dup2, 1, 0, 0, 0) := rfl
theorem f94_255 : amFetch 94 255 = some (.iaload, 1, 0, 0, 0) := rfl
theorem f94_256 : amFetch 94 256 = some (.iload 10, 2, 0, 0, 0) := rfl
theorem f94_258 : amFetch 94 258 = some (.isub, 1, 0, 0, 0) := rfl
theorem f94_259 : amFetch 94 259 = some (.iastore, 1, 0, 0, 0) := rfl
theorem f94_260 : amFetch 94 260 = some (.aload_n 0, 1, 0, 0, 0) := rfl
theorem f94_261 : amFetch 94 261 = some (.iload 4, 2, 0, 0, 0) := rfl
theorem f94_263 : amFetch 94 263 = some (.aload_n 1, 1, 0, 0, 0) := rfl
theorem f94_264 : amFetch 94 264 = some (.iload 5, 2, 0, 0, 0) := rfl
theorem f94_266 : amFetch 94 266 = some (.iaload, 1, 0, 0, 0) := rfl
theorem f94_267 : amFetch 94 267 = some (.iload 9, 2, 0, 0, 0) := rfl
theorem f94_269 : amFetch 94 269 = some (.invokevirtual 138, 3, 0, 42, 3) := rfl
theorem f94_272 : amFetch 94 272 = some (.iload 10, 2, 0, 0, 0) := rfl
theorem f94_274 : amFetch 94 274 = some (.if_icmp .ne 7, 3, 0, 0, 0) := rfl
theorem f94_277 : amFetch 94 277 = some (.iconst 1, 1, 0, 0, 0) := rfl
theorem f94_278 : amFetch 94 278 = some (.goto 4, 3, 0, 0, 0) := rfl
theorem f94_281 : amFetch 94 281 = some (.iconst 0, 1, 0, 0, 0) := rfl
theorem f94_282 : amFetch 94 282 = some (.ireturn, 1, 0, 0, 0) := rfl
theorem ow94 : amOwnL 94 = some (5, 12) := rfl
-- L_wholes
theorem f95_0 : amFetch 95 0 = some (.iload 5, 2, 0, 0, 0) := rfl
theorem f95_2 : amFetch 95 2 = some (.bipush 12, 2, 0, 0, 0) := rfl
theorem f95_4 : amFetch 95 4 = some (.if_icmp .ne 62, 3, 0, 0, 0) := rfl
theorem f95_7 : amFetch 95 7 = some (.aload_n 2, 1, 0, 0, 0) := rfl
theorem f95_8 : amFetch 95 8 = some (.iload_n 3, 1, 0, 0, 0) := rfl
theorem f95_9 : amFetch 95 9 = some (.iaload, 1, 0, 0, 0) := rfl
theorem f95_10 : amFetch 95 10 = some (.bipush 8, 2, 0, 0, 0) := rfl
theorem f95_12 : amFetch 95 12 = some (.if_icmp .ge 7, 3, 0, 0, 0) := rfl
theorem f95_15 : amFetch 95 15 = some (.iconst 1, 1, 0, 0, 0) := rfl
theorem f95_16 : amFetch 95 16 = some (.goto 4, 3, 0, 0, 0) := rfl
theorem f95_19 : amFetch 95 19 = some (.iconst 0, 1, 0, 0, 0) := rfl
theorem f95_20 : amFetch 95 20 = some (.istore 6, 2, 0, 0, 0) := rfl
theorem f95_22 : amFetch 95 22 = some (.aload_n 2, 1, 0, 0, 0) := rfl
theorem f95_23 : amFetch 95 23 = some (.iload_n 3, 1, 0, 0, 0) := rfl
theorem f95_24 : amFetch 95 24 = some (.dup2, 1, 0, 0, 0) := rfl
theorem f95_25 : amFetch 95 25 = some (.iaload, 1, 0, 0, 0) := rfl
theorem f95_26 : amFetch 95 26 = some (.iload 6, 2, 0, 0, 0) := rfl
theorem f95_28 : amFetch 95 28 = some (.ifCond .eq 7, 3, 0, 0, 0) := rfl
theorem f95_31 : amFetch 95 31 = some (.iconst 1, 1, 0, 0, 0) := rfl
theorem f95_32 : amFetch 95 32 = some (.goto 4, 3, 0, 0, 0) := rfl
theorem f95_35 : amFetch 95 35 = some (.iconst 0, 1, 0, 0, 0) := rfl
theorem f95_36 : amFetch 95 36 = some (.iadd, 1, 0, 0, 0) := rfl
theorem f95_37 : amFetch 95 37 = some (.iastore, 1, 0, 0, 0) := rfl
theorem f95_38 : amFetch 95 38 = some (.aload_n 0, 1, 0, 0, 0) := rfl
theorem f95_39 : amFetch 95 39 = some (.iload_n 3, 1, 0, 0, 0) := rfl
theorem f95_40 : amFetch 95 40 = some (.invokestatic 141, 3, 1, 90, 2) := rfl
theorem f95_43 : amFetch 95 43 = some (.iload 6, 2, 0, 0, 0) := rfl
theorem f95_45 : amFetch 95 45 = some (.ifCond .eq 11, 3, 0, 0, 0) := rfl
theorem f95_48 : amFetch 95 48 = some (.iconst 1, 1, 0, 0, 0) := rfl
theorem f95_49 : amFetch 95 49 = some (.aload_n 2, 1, 0, 0, 0) := rfl
theorem f95_50 : amFetch 95 50 = some (.iload_n 3, 1, 0, 0, 0) := rfl
theorem f95_51 : amFetch 95 51 = some (.iaload, 1, 0, 0, 0) := rfl
theorem f95_52 : amFetch 95 52 = some (.ishl, 1, 0, 0, 0) := rfl
theorem f95_53 : amFetch 95 53 = some (.goto 4, 3, 0, 0, 0) := rfl
theorem f95_56 : amFetch 95 56 = some (.iconst (-1), 1, 0, 0, 0) := rfl
theorem f95_57 : amFetch 95 57 = some (.if_icmp .ne 7, 3, 0, 0, 0) := rfl
theorem f95_60 : amFetch 95 60 = some (.iconst 1, 1, 0, 0, 0) := rfl
theorem f95_61 : amFetch 95 61 = some (.goto 4, 3, 0, 0, 0) := rfl
theorem f95_64 : amFetch 95 64 = some (.iconst 0, 1, 0, 0, 0) := rfl
theorem f95_65 : amFetch 95 65 = some (.ireturn, 1, 0, 0, 0) := rfl
theorem f95_66 : amFetch 95 66 = some (.iload 5, 2, 0, 0, 0) := rfl
theorem f95_68 : amFetch 95 68 = some (.bipush 13, 2, 0, 0, 0) := rfl
theorem f95_70 : amFetch 95 70 = some (.if_icmp .ne 77, 3, 0, 0, 0) := rfl
theorem f95_73 : amFetch 95 73 = some (.aload_n 2, 1, 0, 0, 0) := rfl
theorem f95_74 : amFetch 95 74 = some (.iload_n 3, 1, 0, 0, 0) := rfl
theorem f95_75 : amFetch 95 75 = some (.iaload, 1, 0, 0, 0) := rfl
theorem f95_76 : amFetch 95 76 = some (.iconst 3, 1, 0, 0, 0) := rfl
theorem f95_77 : amFetch 95 77 = some (.if_icmp .le 23, 3, 0, 0, 0) := rfl
theorem f95_80 : amFetch 95 80 = some (.aload_n 1, 1, 0, 0, 0) := rfl
theorem f95_81 : amFetch 95 81 = some (.iload_n 3, 1, 0, 0, 0) := rfl
theorem f95_82 : amFetch 95 82 = some (.invokestatic 87, 3, 1, 79, 2) := rfl
theorem f95_85 : amFetch 95 85 = some (.aload_n 2, 1, 0, 0, 0) := rfl
theorem f95_86 : amFetch 95 86 = some (.iload_n 3, 1, 0, 0, 0) := rfl
theorem f95_87 : amFetch 95 87 = some (.iaload, 1, 0, 0, 0) := rfl
theorem f95_88 : amFetch 95 88 = some (.iconst 1, 1, 0, 0, 0) := rfl
theorem f95_89 : amFetch 95 89 = some (.isub, 1, 0, 0, 0) := rfl
theorem f95_90 : amFetch 95 90 = some (.invokestatic 124, 3, 1, 93, 2) := rfl
theorem f95_93 : amFetch 95 93 = some (.ifCond .eq 7, 3, 0, 0, 0) := rfl
theorem f95_96 : amFetch 95 96 = some (.iconst 1, 1, 0, 0, 0) := rfl
theorem f95_97 : amFetch 95 97 = some (.goto 4, 3, 0, 0, 0) := rfl
theorem f95_100 : amFetch 95 100 = some (.iconst 0, 1, 0, 0, 0) := rfl
theorem f95_101 : amFetch 95 101 = some (.istore 6, 2, 0, 0, 0) := rfl
theorem f95_103 : amFetch 95 103 = some (.aload_n 2, 1, 0, 0, 0) := rfl
theorem f95_104 : amFetch 95 104 = some (.iload_n 3, 1, 0, 0, 0) := rfl
theorem f95_105 : amFetch 95 105 = some (.dup2, 1, 0, 0, 0) := rfl
theorem f95_106 : amFetch 95 106 = some (.iaload, 1, 0, 0, 0) := rfl
theorem f95_107 : amFetch 95 107 = some (.iload 6, 2, 0, 0, 0) := rfl
theorem f95_109 : amFetch 95 109 = some (.ifCond .eq 7, 3, 0, 0, 0) := rfl
theorem f95_112 : amFetch 95 112 = some (.iconst 1, 1, 0, 0, 0) := rfl
theorem f95_113 : amFetch 95 113 = some (.goto 4, 3, 0, 0, 0) := rfl
theorem f95_116 : amFetch 95 116 = some (.iconst 0, 1, 0, 0, 0) := rfl
theorem f95_117 : amFetch 95 117 = some (.isub, 1, 0, 0, 0) := rfl
theorem f95_118 : amFetch 95 118 = some (.iastore, 1, 0, 0, 0) := rfl
theorem f95_119 : amFetch 95 119 = some (.aload_n 0, 1, 0, 0, 0) := rfl
theorem f95_120 : amFetch 95 120 = some (.iload_n 3, 1, 0, 0, 0) := rfl
theorem f95_121 : amFetch 95 121 = some (.invokestatic 145, 3, 1, 91, 2) := rfl
theorem f95_124 : amFetch 95 124 = some (.iload 6, 2, 0, 0, 0) := rfl
theorem f95_126 : amFetch 95 126 = some (.ifCond .eq 11, 3, 0, 0, 0) := rfl
theorem f95_129 : amFetch 95 129 = some (.iconst 1, 1, 0, 0, 0) := rfl
theorem f95_130 : amFetch 95 130 = some (.aload_n 2, 1, 0, 0, 0) := rfl
theorem f95_131 : amFetch 95 131 = some (.iload_n 3, 1, 0, 0, 0) := rfl
theorem f95_132 : amFetch 95 132 = some (.iaload, 1, 0, 0, 0) := rfl
theorem f95_133 : amFetch 95 133 = some (.ishl, 1, 0, 0, 0) := rfl
theorem f95_134 : amFetch 95 134 = some (.goto 4, 3, 0, 0, 0) := rfl
theorem f95_137 : amFetch 95 137 = some (.iconst (-1), 1, 0, 0, 0) := rfl
theorem f95_138 : amFetch 95 138 = some (.if_icmp .ne 7, 3, 0, 0, 0) := rfl
theorem f95_141 : amFetch 95 141 = some (.iconst 1, 1, 0, 0, 0) := rfl
theorem f95_142 : amFetch 95 142 = some (.goto 4, 3, 0, 0, 0) := rfl
theorem f95_145 : amFetch 95 145 = some (.iconst 0, 1, 0, 0, 0) := rfl
theorem f95_146 : amFetch 95 146 = some (.ireturn, 1, 0, 0, 0) := rfl
theorem f95_147 : amFetch 95 147 = some (.iconst 0, 1, 0, 0, 0) := rfl
theorem f95_148 : amFetch 95 148 = some (.istore 6, 2, 0, 0, 0) := rfl
theorem f95_150 : amFetch 95 150 = some (.iconst 0, 1, 0, 0, 0) := rfl
theorem f95_151 : amFetch 95 151 = some (.istore 7, 2, 0, 0, 0) := rfl
theorem f95_153 : amFetch 95 153 = some (.iload 7, 2, 0, 0, 0) := rfl
theorem f95_155 : amFetch 95 155 = some (.bipush 15, 2, 0, 0, 0) := rfl
theorem f95_157 : amFetch 95 157 = some (.if_icmp .ge 69, 3, 0, 0, 0) := rfl
theorem f95_160 : amFetch 95 160 = some (.aload_n 1, 1, 0, 0, 0) := rfl
theorem f95_161 : amFetch 95 161 = some (.bipush 16, 2, 0, 0, 0) := rfl
theorem f95_163 : amFetch 95 163 = some (.iload_n 3, 1, 0, 0, 0) := rfl
theorem f95_164 : amFetch 95 164 = some (.imul, 1, 0, 0, 0) := rfl
theorem f95_165 : amFetch 95 165 = some (.iload 7, 2, 0, 0, 0) := rfl
theorem f95_167 : amFetch 95 167 = some (.iadd, 1, 0, 0, 0) := rfl
theorem f95_168 : amFetch 95 168 = some (.iaload, 1, 0, 0, 0) := rfl
theorem f95_169 : amFetch 95 169 = some (.istore 8, 2, 0, 0, 0) := rfl
theorem f95_171 : amFetch 95 171 = some (.aload_n 1, 1, 0, 0, 0) := rfl
theorem f95_172 : amFetch 95 172 = some (.bipush 16, 2, 0, 0, 0) := rfl
theorem f95_174 : amFetch 95 174 = some (.iload 4, 2, 0, 0, 0) := rfl
theorem f95_176 : amFetch 95 176 = some (.imul, 1, 0, 0, 0) := rfl
theorem f95_177 : amFetch 95 177 = some (.iload 7, 2, 0, 0, 0) := rfl
theorem f95_179 : amFetch 95 179 = some (.iadd, 1, 0, 0, 0) := rfl
theorem f95_180 : amFetch 95 180 = some (.iaload, 1, 0, 0, 0) := rfl
theorem f95_181 : amFetch 95 181 = some (.istore 9, 2, 0, 0, 0) := rfl
theorem f95_183 : amFetch 95 183 = some (.iload 6, 2, 0, 0, 0) := rfl
theorem f95_185 : amFetch 95 185 = some (.iload 5, 2, 0, 0, 0) := rfl
theorem f95_187 : amFetch 95 187 = some (.bipush 14, 2, 0, 0, 0) := rfl
theorem f95_189 : amFetch 95 189 = some (.if_icmp .ne 11, 3, 0, 0, 0) := rfl
theorem f95_192 : amFetch 95 192 = some (.iload 8, 2, 0, 0, 0) := rfl
theorem f95_194 : amFetch 95 194 = some (.iload 9, 2, 0, 0, 0) := rfl
theorem f95_196 : amFetch 95 196 = some (.iadd, 1, 0, 0, 0) := rfl
theorem f95_197 : amFetch 95 197 = some (.goto 17, 3, 0, 0, 0) := rfl
theorem f95_200 : amFetch 95 200 = some (.iload 8, 2, 0, 0, 0) := rfl
theorem f95_202 : amFetch 95 202 = some (.iload 9, 2, 0, 0, 0) := rfl
theorem f95_204 : amFetch 95 204 = some (.if_icmp .ge 8, 3, 0, 0, 0) := rfl
theorem f95_207 : amFetch 95 207 = some (.iload 8, 2, 0, 0, 0) := rfl
theorem f95_209 : amFetch 95 209 = some (.goto 5, 3, 0, 0, 0) := rfl
theorem f95_212 : amFetch 95 212 = some (.iload 9, 2, 0, 0, 0) := rfl
theorem f95_214 : amFetch 95 214 = some (.invokestatic 9, 3, 1, 78, 1) := rfl
theorem f95_217 : amFetch 95 217 = some (.iadd, 1, 0, 0, 0) := rfl
theorem f95_218 : amFetch 95 218 = some (.istore 6, 2, 0, 0, 0) := rfl
theorem f95_220 : amFetch 95 220 = some (.iinc 7 1, 3, 0, 0, 0) := rfl
theorem f95_223 : amFetch 95 223 = some (.goto (-70), 3, 0, 0, 0) := rfl
theorem f95_226 : amFetch 95 226 = some (.iload 5, 2, 0, 0, 0) := rfl
theorem f95_228 : amFetch 95 228 = some (.bipush 14, 2, 0, 0, 0) := rfl
theorem f95_230 : amFetch 95 230 = some (.if_icmp .gt 14, 3, 0, 0, 0) := rfl
theorem f95_233 : amFetch 95 233 = some (.iload 6, 2, 0, 0, 0) := rfl
theorem f95_235 : amFetch 95 235 = some (.aload_n 2, 1, 0, 0, 0) := rfl
theorem f95_236 : amFetch 95 236 = some (.iload_n 3, 1, 0, 0, 0) := rfl
theorem f95_237 : amFetch 95 237 = some (.iaload, 1, 0, 0, 0) := rfl
theorem f95_238 : amFetch 95 238 = some (.invokestatic 124, 3, 1, 93, 2) := rfl
theorem f95_241 : amFetch 95 241 = some (.ifCond .eq 7, 3, 0, 0, 0) := rfl
theorem f95_244 : amFetch 95 244 = some (.iconst 1, 1, 0, 0, 0) := rfl
theorem f95_245 : amFetch 95 245 = some (.goto 4, 3, 0, 0, 0) := rfl
theorem f95_248 : amFetch 95 248 = some (.iconst 0, 1, 0, 0, 0) := rfl
theorem f95_249 : amFetch 95 249 = some (.istore 7, 2, 0, 0, 0) := rfl
theorem f95_251 : amFetch 95 251 = some (.iconst 0, 1, 0, 0, 0) := rfl
theorem f95_252 : amFetch 95 252 = some (.istore 8, 2, 0, 0, 0) := rfl
theorem f95_254 : amFetch 95 254 = some (.iload 8, 2, 0, 0, 0) := rfl
theorem f95_256 : amFetch 95 256 = some (.bipush 15, 2, 0, 0, 0) := rfl
theorem f95_258 : amFetch 95 258 = some (.if_icmp .ge 75, 3, 0, 0, 0) := rfl
theorem f95_261 : amFetch 95 261 = some (.iload 7, 2, 0, 0, 0) := rfl
theorem f95_263 : amFetch 95 263 = some (.ifCond .eq 70, 3, 0, 0, 0) := rfl
theorem f95_266 : amFetch 95 266 = some (.aload_n 1, 1, 0, 0, 0) := rfl
theorem f95_267 : amFetch 95 267 = some (.bipush 16, 2, 0, 0, 0) := rfl
theorem f95_269 : amFetch 95 269 = some (.iload_n 3, 1, 0, 0, 0) := rfl
theorem f95_270 : amFetch 95 270 = some (.imul, 1, 0, 0, 0) := rfl
theorem f95_271 : amFetch 95 271 = some (.iload 8, 2, 0, 0, 0) := rfl
theorem f95_273 : amFetch 95 273 = some (.iadd, 1, 0, 0, 0) := rfl
theorem f95_274 : amFetch 95 274 = some (.iaload, 1, 0, 0, 0) := rfl
theorem f95_275 : amFetch 95 275 = some (.istore 9, 2, 0, 0, 0) := rfl
theorem f95_277 : amFetch 95 277 = some (.aload_n 1, 1, 0, 0, 0) := rfl
theorem f95_278 : amFetch 95 278 = some (.bipush 16, 2, 0, 0, 0) := rfl
theorem f95_280 : amFetch 95 280 = some (.iload 4, 2, 0, 0, 0) := rfl
theorem f95_282 : amFetch 95 282 = some (.imul, 1, 0, 0, 0) := rfl
theorem f95_283 : amFetch 95 283 = some (.iload 8, 2, 0, 0, 0) := rfl
theorem f95_285 : amFetch 95 285 = some (.iadd, 1, 0, 0, 0) := rfl
theorem f95_286 : amFetch 95 286 = some (.iaload, 1, 0, 0, 0) := rfl
theorem f95_287 : amFetch 95 287 = some (.istore 10, 2, 0, 0, 0) := rfl
theorem f95_289 : amFetch 95 289 = some (.aload_n 1, 1, 0, 0, 0) := rfl
theorem f95_290 : amFetch 95 290 = some (.bipush 16, 2, 0, 0, 0) := rfl
theorem f95_292 : amFetch 95 292 = some (.iload_n 3, 1, 0, 0, 0) := rfl
theorem f95_293 : amFetch 95 293 = some (.imul, 1, 0, 0, 0) := rfl
theorem f95_294 : amFetch 95 294 = some (.iload 8, 2, 0, 0, 0) := rfl
theorem f95_296 : amFetch 95 296 = some (.iadd, 1, 0, 0, 0) := rfl
theorem f95_297 : amFetch 95 297 = some (.iload 5, 2, 0, 0, 0) := rfl
theorem f95_299 : amFetch 95 299 = some (.bipush 14, 2, 0, 0, 0) := rfl
theorem f95_301 : amFetch 95 301 = some (.if_icmp .ne 11, 3, 0, 0, 0) := rfl
theorem f95_304 : amFetch 95 304 = some (.iload 9, 2, 0, 0, 0) := rfl
theorem f95_306 : amFetch 95 306 = some (.iload 10, 2, 0, 0, 0) := rfl
theorem f95_308 : amFetch 95 308 = some (.iadd, 1, 0, 0, 0) := rfl
theorem f95_309 : amFetch 95 309 = some (.goto 17, 3, 0, 0, 0) := rfl
theorem f95_312 : amFetch 95 312 = some (.iload 9, 2, 0, 0, 0) := rfl
theorem f95_314 : amFetch 95 314 = some (.iload 10, 2, 0, 0, 0) := rfl
theorem f95_316 : amFetch 95 316 = some (.if_icmp .ge 8, 3, 0, 0, 0) := rfl
theorem f95_319 : amFetch 95 319 = some (.iload 9, 2, 0, 0, 0) := rfl
theorem f95_321 : amFetch 95 321 = some (.goto 5, 3, 0, 0, 0) := rfl
theorem f95_324 : amFetch 95 324 = some (.iload 10, 2, 0, 0, 0) := rfl
theorem f95_326 : amFetch 95 326 = some (.iastore, 1, 0, 0, 0) := rfl
theorem f95_327 : amFetch 95 327 = some (.iinc 8 1, 3, 0, 0, 0) := rfl
theorem f95_330 : amFetch 95 330 = some (.goto (-76), 3, 0, 0, 0) := rfl
theorem f95_333 : amFetch 95 333 = some (.iload 5, 2, 0, 0, 0) := rfl
theorem f95_335 : amFetch 95 335 = some (.bipush 14, 2, 0, 0, 0) := rfl
theorem f95_337 : amFetch 95 337 = some (.if_icmp .ne 13, 3, 0, 0, 0) := rfl
theorem f95_340 : amFetch 95 340 = some (.aload_n 0, 1, 0, 0, 0) := rfl
theorem f95_341 : amFetch 95 341 = some (.iload_n 3, 1, 0, 0, 0) := rfl
theorem f95_342 : amFetch 95 342 = some (.iload 4, 2, 0, 0, 0) := rfl
theorem f95_344 : amFetch 95 344 = some (.invokestatic 148, 3, 1, 92, 3) := rfl
theorem f95_347 : amFetch 95 347 = some (.goto 10, 3, 0, 0, 0) := rfl
theorem f95_350 : amFetch 95 350 = some (.aload_n 0, 1, 0, 0, 0) := rfl
theorem f95_351 : amFetch 95 351 = some (.iload_n 3, 1, 0, 0, 0) := rfl
theorem f95_352 : amFetch 95 352 = some (.iload 4, 2, 0, 0, 0) := rfl
theorem f95_354 : amFetch 95 354 = some (.invokevirtual 151, 3, 0, 50, 2) := rfl
theorem f95_357 : amFetch 95 357 = some (.iload 7, 2, 0, 0, 0) := rfl
theorem f95_359 : amFetch 95 359 = some (.ifCond .eq 8, 3, 0, 0, 0) := rfl
theorem f95_362 : amFetch 95 362 = some (.iload 6, 2, 0, 0, 0) := rfl
theorem f95_364 : amFetch 95 364 = some (.goto 4, 3, 0, 0, 0) := rfl
theorem f95_367 : amFetch 95 367 = some (.iconst (-1), 1, 0, 0, 0) := rfl
theorem f95_368 : amFetch 95 368 = some (.if_icmp .ne 7, 3, 0, 0, 0) := rfl
theorem f95_371 : amFetch 95 371 = some (.iconst 1, 1, 0, 0, 0) := rfl
theorem f95_372 : amFetch 95 372 = some (.goto 4, 3, 0, 0, 0) := rfl
theorem f95_375 : amFetch 95 375 = some (.iconst 0, 1, 0, 0, 0) := rfl
theorem f95_376 : amFetch 95 376 = some (.ireturn, 1, 0, 0, 0) := rfl
theorem ow95 : amOwnL 95 = some (5, 11) := rfl
-- L_holds
theorem f96_0 : amFetch 96 0 = some (.new 24, 3, 0, 3, 0) := rfl
theorem f96_3 : amFetch 96 3 = some (.dup, 1, 0, 0, 0) := rfl
theorem f96_4 : amFetch 96 4 = some (.invokespecial 154, 3, 3, 36, 0) := rfl
theorem f96_7 : amFetch 96 7 = some (.astore_n 1, 1, 0, 0, 0) := rfl
theorem f96_8 : amFetch 96 8 = some (.bipush 16, 2, 0, 0, 0) := rfl
theorem f96_10 : amFetch 96 10 = some (.newarray .int, 2, 0, 0, 0) := rfl
theorem f96_12 : amFetch 96 12 = some (.astore_n 2, 1, 0, 0, 0) := rfl
theorem f96_13 : amFetch 96 13 = some (.bipush 64, 2, 0, 0, 0) := rfl
theorem f96_15 : amFetch 96 15 = some (.newarray .int, 2, 0, 0, 0) := rfl
theorem f96_17 : amFetch 96 17 = some (.astore_n 3, 1, 0, 0, 0) := rfl
theorem f96_18 : amFetch 96 18 = some (.iconst 4, 1, 0, 0, 0) := rfl
theorem f96_19 : amFetch 96 19 = some (.newarray .int, 2, 0, 0, 0) := rfl
theorem f96_21 : amFetch 96 21 = some (.astore 4, 2, 0, 0, 0) := rfl
theorem f96_23 : amFetch 96 23 = some (.iconst 1, 1, 0, 0, 0) := rfl
theorem f96_24 : amFetch 96 24 = some (.aload_n 0, 1, 0, 0, 0) := rfl
theorem f96_25 : amFetch 96 25 = some (.iconst 0, 1, 0, 0, 0) := rfl
theorem f96_26 : amFetch 96 26 = some (.sipush 290, 3, 0, 0, 0) := rfl
theorem f96_29 : amFetch 96 29 = some (.invokestatic 155, 3, 1, 77, 3) := rfl
theorem f96_32 : amFetch 96 32 = some (.iadd, 1, 0, 0, 0) := rfl
theorem f96_33 : amFetch 96 33 = some (.istore 5, 2, 0, 0, 0) := rfl
theorem f96_35 : amFetch 96 35 = some (.aload_n 0, 1, 0, 0, 0) := rfl
theorem f96_36 : amFetch 96 36 = some (.iconst 1, 1, 0, 0, 0) := rfl
theorem f96_37 : amFetch 96 37 = some (.sipush 4096, 3, 0, 0, 0) := rfl
theorem f96_40 : amFetch 96 40 = some (.bipush 14, 2, 0, 0, 0) := rfl
theorem f96_42 : amFetch 96 42 = some (.iload 5, 2, 0, 0, 0) := rfl
theorem f96_44 : amFetch 96 44 = some (.imul, 1, 0, 0, 0) := rfl
theorem f96_45 : amFetch 96 45 = some (.isub, 1, 0, 0, 0) := rfl
theorem f96_46 : amFetch 96 46 = some (.invokestatic 155, 3, 1, 77, 3) := rfl
theorem f96_49 : amFetch 96 49 = some (.istore 6, 2, 0, 0, 0) := rfl
theorem f96_51 : amFetch 96 51 = some (.iconst 1, 1, 0, 0, 0) := rfl
theorem f96_52 : amFetch 96 52 = some (.istore 7, 2, 0, 0, 0) := rfl
theorem f96_54 : amFetch 96 54 = some (.iconst 0, 1, 0, 0, 0) := rfl
theorem f96_55 : amFetch 96 55 = some (.istore 8, 2, 0, 0, 0) := rfl
theorem f96_57 : amFetch 96 57 = some (.iload 8, 2, 0, 0, 0) := rfl
theorem f96_59 : amFetch 96 59 = some (.bipush 15, 2, 0, 0, 0) := rfl
theorem f96_61 : amFetch 96 61 = some (.if_icmp .ge 85, 3, 0, 0, 0) := rfl
theorem f96_64 : amFetch 96 64 = some (.iload 7, 2, 0, 0, 0) := rfl
theorem f96_66 : amFetch 96 66 = some (.ifCond .eq 80, 3, 0, 0, 0) := rfl
theorem f96_69 : amFetch 96 69 = some (.aload_n 2, 1, 0, 0, 0) := rfl
theorem f96_70 : amFetch 96 70 = some (.iload 8, 2, 0, 0, 0) := rfl
theorem f96_72 : amFetch 96 72 = some (.iload 6, 2, 0, 0, 0) := rfl
theorem f96_74 : amFetch 96 74 = some (.iload 5, 2, 0, 0, 0) := rfl
theorem f96_76 : amFetch 96 76 = some (.iload 8, 2, 0, 0, 0) := rfl
theorem f96_78 : amFetch 96 78 = some (.imul, 1, 0, 0, 0) := rfl
theorem f96_79 : amFetch 96 79 = some (.iadd, 1, 0, 0, 0) := rfl
theorem f96_80 : amFetch 96 80 = some (.iastore, 1, 0, 0, 0) := rfl
theorem f96_81 : amFetch 96 81 = some (.aload_n 2, 1, 0, 0, 0) := rfl
theorem f96_82 : amFetch 96 82 = some (.iload 8, 2, 0, 0, 0) := rfl
theorem f96_84 : amFetch 96 84 = some (.iaload, 1, 0, 0, 0) := rfl
theorem f96_85 : amFetch 96 85 = some (.sipush 911, 3, 0, 0, 0) := rfl
theorem f96_88 : amFetch 96 88 = some (.iload 8, 2, 0, 0, 0) := rfl
theorem f96_90 : amFetch 96 90 = some (.imul, 1, 0, 0, 0) := rfl
theorem f96_91 : amFetch 96 91 = some (.invokestatic 71, 3, 1, 87, 2) := rfl
theorem f96_94 : amFetch 96 94 = some (.istore 9, 2, 0, 0, 0) := rfl
theorem f96_96 : amFetch 96 96 = some (.aload_n 1, 1, 0, 0, 0) := rfl
theorem f96_97 : amFetch 96 97 = some (.iload 9, 2, 0, 0, 0) := rfl
theorem f96_99 : amFetch 96 99 = some (.invokevirtual 158, 3, 0, 37, 1) := rfl
theorem f96_102 : amFetch 96 102 = some (.aload_n 2, 1, 0, 0, 0) := rfl
theorem f96_103 : amFetch 96 103 = some (.iload 8, 2, 0, 0, 0) := rfl
theorem f96_105 : amFetch 96 105 = some (.iaload, 1, 0, 0, 0) := rfl
theorem f96_106 : amFetch 96 106 = some (.if_icmp .ne 31, 3, 0, 0, 0) := rfl
theorem f96_109 : amFetch 96 109 = some (.aload_n 1, 1, 0, 0, 0) := rfl
theorem f96_110 : amFetch 96 110 = some (.iload 9, 2, 0, 0, 0) := rfl
theorem f96_112 : amFetch 96 112 = some (.invokevirtual 158, 3, 0, 37, 1) := rfl
theorem f96_115 : amFetch 96 115 = some (.iload 9, 2, 0, 0, 0) := rfl
theorem f96_117 : amFetch 96 117 = some (.i2l, 1, 0, 0, 0) := rfl
theorem f96_118 : amFetch 96 118 = some (.ldc2_w 161, 3, 7, 0, 2654435769) := rfl
theorem f96_121 : amFetch 96 121 = some (.lmul, 1, 0, 0, 0) := rfl
theorem f96_122 : amFetch 96 122 = some (.ldc2_w 163, 3, 7, 0, 4294967295) := rfl
theorem f96_125 : amFetch 96 125 = some (.land, 1, 0, 0, 0) := rfl
theorem f96_126 : amFetch 96 126 = some (.bipush 20, 2, 0, 0, 0) := rfl
theorem f96_128 : amFetch 96 128 = some (.lshr, 1, 0, 0, 0) := rfl
theorem f96_129 : amFetch 96 129 = some (.l2i, 1, 0, 0, 0) := rfl
theorem f96_130 : amFetch 96 130 = some (.if_icmp .ne 7, 3, 0, 0, 0) := rfl
theorem f96_133 : amFetch 96 133 = some (.iconst 1, 1, 0, 0, 0) := rfl
theorem f96_134 : amFetch 96 134 = some (.goto 4, 3, 0, 0, 0) := rfl
theorem f96_137 : amFetch 96 137 = some (.iconst 0, 1, 0, 0, 0) := rfl
theorem f96_138 : amFetch 96 138 = some (.istore 7, 2, 0, 0, 0) := rfl
theorem f96_140 : amFetch 96 140 = some (.iinc 8 1, 3, 0, 0, 0) := rfl
theorem f96_143 : amFetch 96 143 = some (.goto (-86), 3, 0, 0, 0) := rfl
theorem f96_146 : amFetch 96 146 = some (.iconst 0, 1, 0, 0, 0) := rfl
theorem f96_147 : amFetch 96 147 = some (.istore 8, 2, 0, 0, 0) := rfl
theorem f96_149 : amFetch 96 149 = some (.iload 8, 2, 0, 0, 0) := rfl
theorem f96_151 : amFetch 96 151 = some (.iconst 4, 1, 0, 0, 0) := rfl
theorem f96_152 : amFetch 96 152 = some (.if_icmp .ge 15, 3, 0, 0, 0) := rfl
theorem f96_155 : amFetch 96 155 = some (.aload 4, 2, 0, 0, 0) := rfl
theorem f96_157 : amFetch 96 157 = some (.iload 8, 2, 0, 0, 0) := rfl
theorem f96_159 : amFetch 96 159 = some (.iconst 3, 1, 0, 0, 0) := rfl
theorem f96_160 : amFetch 96 160 = some (.iastore, 1, 0, 0, 0) := rfl
theorem f96_161 : amFetch 96 161 = some (.iinc 8 1, 3, 0, 0, 0) := rfl
theorem f96_164 : amFetch 96 164 = some (.goto (-15), 3, 0, 0, 0) := rfl
theorem f96_167 : amFetch 96 167 = some (.iconst 0, 1, 0, 0, 0) := rfl
theorem f96_168 : amFetch 96 168 = some (.istore 8, 2, 0, 0, 0) := rfl
theorem f96_170 : amFetch 96 170 = some (.iload 8, 2, 0, 0, 0) := rfl
theorem f96_172 : amFetch 96 172 = some (.bipush 120, 2, 0, 0, 0) := rfl
theorem f96_174 : amFetch 96 174 = some (.if_icmp .ge 225, 3, 0, 0, 0) := rfl
theorem f96_177 : amFetch 96 177 = some (.iload 7, 2, 0, 0, 0) := rfl
theorem f96_179 : amFetch 96 179 = some (.ifCond .eq 220, 3, 0, 0, 0) := rfl
theorem f96_182 : amFetch 96 182 = some (.aload_n 0, 1, 0, 0, 0) := rfl
theorem f96_183 : amFetch 96 183 = some (.iconst 4, 1, 0, 0, 0) := rfl
theorem f96_184 : amFetch 96 184 = some (.iload 8, 2, 0, 0, 0) := rfl
theorem f96_186 : amFetch 96 186 = some (.imul, 1, 0, 0, 0) := rfl
theorem f96_187 : amFetch 96 187 = some (.iconst 2, 1, 0, 0, 0) := rfl
theorem f96_188 : amFetch 96 188 = some (.iadd, 1, 0, 0, 0) := rfl
theorem f96_189 : amFetch 96 189 = some (.bipush 19, 2, 0, 0, 0) := rfl
theorem f96_191 : amFetch 96 191 = some (.invokestatic 155, 3, 1, 77, 3) := rfl
theorem f96_194 : amFetch 96 194 = some (.istore 9, 2, 0, 0, 0) := rfl
theorem f96_196 : amFetch 96 196 = some (.aload_n 0, 1, 0, 0, 0) := rfl
theorem f96_197 : amFetch 96 197 = some (.iconst 4, 1, 0, 0, 0) := rfl
theorem f96_198 : amFetch 96 198 = some (.iload 8, 2, 0, 0, 0) := rfl
theorem f96_200 : amFetch 96 200 = some (.imul, 1, 0, 0, 0) := rfl
theorem f96_201 : amFetch 96 201 = some (.iconst 3, 1, 0, 0, 0) := rfl
theorem f96_202 : amFetch 96 202 = some (.iadd, 1, 0, 0, 0) := rfl
theorem f96_203 : amFetch 96 203 = some (.iconst 4, 1, 0, 0, 0) := rfl
theorem f96_204 : amFetch 96 204 = some (.invokestatic 155, 3, 1, 77, 3) := rfl
theorem f96_207 : amFetch 96 207 = some (.istore 10, 2, 0, 0, 0) := rfl
theorem f96_209 : amFetch 96 209 = some (.aload_n 0, 1, 0, 0, 0) := rfl
theorem f96_210 : amFetch 96 210 = some (.iconst 4, 1, 0, 0, 0) := rfl
theorem f96_211 : amFetch 96 211 = some (.iload 8, 2, 0, 0, 0) := rfl
theorem f96_213 : amFetch 96 213 = some (.imul, 1, 0, 0, 0) := rfl
theorem f96_214 : amFetch 96 214 = some (.iconst 4, 1, 0, 0, 0) := rfl
theorem f96_215 : amFetch 96 215 = some (.iadd, 1, 0, 0, 0) := rfl
theorem f96_216 : amFetch 96 216 = some (.bipush 15, 2, 0, 0, 0) := rfl
theorem f96_218 : amFetch 96 218 = some (.invokestatic 155, 3, 1, 77, 3) := rfl
theorem f96_221 : amFetch 96 221 = some (.istore 11, 2, 0, 0, 0) := rfl
theorem f96_223 : amFetch 96 223 = some (.aload_n 0, 1, 0, 0, 0) := rfl
theorem f96_224 : amFetch 96 224 = some (.iconst 4, 1, 0, 0, 0) := rfl
theorem f96_225 : amFetch 96 225 = some (.iload 8, 2, 0, 0, 0) := rfl
theorem f96_227 : amFetch 96 227 = some (.imul, 1, 0, 0, 0) := rfl
theorem f96_228 : amFetch 96 228 = some (.iconst 5, 1, 0, 0, 0) := rfl
theorem f96_229 : amFetch 96 229 = some (.iadd, 1, 0, 0, 0) := rfl
theorem f96_230 : amFetch 96 230 = some (.ldc 165, 2, 7, 0, 100000) := rfl
theorem f96_232 : amFetch 96 232 = some (.invokestatic 155, 3, 1, 77, 3) := rfl
theorem f96_235 : amFetch 96 235 = some (.istore 12, 2, 0, 0, 0) := rfl
theorem f96_237 : amFetch 96 237 = some (.iload 9, 2, 0, 0, 0) := rfl
theorem f96_239 : amFetch 96 239 = some (.bipush 16, 2, 0, 0, 0) := rfl
theorem f96_241 : amFetch 96 241 = some (.if_icmp .ne 46, 3, 0, 0, 0) := rfl
theorem f96_244 : amFetch 96 244 = some (.iload 12, 2, 0, 0, 0) := rfl
theorem f96_246 : amFetch 96 246 = some (.iconst 3, 1, 0, 0, 0) := rfl
theorem f96_247 : amFetch 96 247 = some (.irem, 1, 0, 0, 0) := rfl
theorem f96_248 : amFetch 96 248 = some (.ifCond .ne 39, 3, 0, 0, 0) := rfl
theorem f96_251 : amFetch 96 251 = some (.aload_n 1, 1, 0, 0, 0) := rfl
theorem f96_252 : amFetch 96 252 = some (.iload 10, 2, 0, 0, 0) := rfl
theorem f96_254 : amFetch 96 254 = some (.invokevirtual 166, 3, 0, 46, 1) := rfl
theorem f96_257 : amFetch 96 257 = some (.iconst 0, 1, 0, 0, 0) := rfl
theorem f96_258 : amFetch 96 258 = some (.istore 13, 2, 0, 0, 0) := rfl
theorem f96_260 : amFetch 96 260 = some (.iload 13, 2, 0, 0, 0) := rfl
theorem f96_262 : amFetch 96 262 = some (.bipush 15, 2, 0, 0, 0) := rfl
theorem f96_264 : amFetch 96 264 = some (.if_icmp .ge 20, 3, 0, 0, 0) := rfl
theorem f96_267 : amFetch 96 267 = some (.aload_n 3, 1, 0, 0, 0) := rfl
theorem f96_268 : amFetch 96 268 = some (.bipush 16, 2, 0, 0, 0) := rfl
theorem f96_270 : amFetch 96 270 = some (.iload 10, 2, 0, 0, 0) := rfl
theorem f96_272 : amFetch 96 272 = some (.imul, 1, 0, 0, 0) := rfl
theorem f96_273 : amFetch 96 273 = some (.iload 13, 2, 0, 0, 0) := rfl
theorem f96_275 : amFetch 96 275 = some (.iadd, 1, 0, 0, 0) := rfl
theorem f96_276 : amFetch 96 276 = some (.iconst 0, 1, 0, 0, 0) := rfl
theorem f96_277 : amFetch 96 277 = some (.iastore, 1, 0, 0, 0) := rfl
theorem f96_278 : amFetch 96 278 = some (.iinc 13 1, 3, 0, 0, 0) := rfl
theorem f96_281 : amFetch 96 281 = some (.goto (-21), 3, 0, 0, 0) := rfl
theorem f96_284 : amFetch 96 284 = some (.goto 58, 3, 0, 0, 0) := rfl
theorem f96_287 : amFetch 96 287 = some (.iload 9, 2, 0, 0, 0) := rfl
theorem f96_289 : amFetch 96 289 = some (.bipush 11, 2, 0, 0, 0) := rfl
theorem f96_291 : amFetch 96 291 = some (.if_icmp .le 30, 3, 0, 0, 0) := rfl
theorem f96_294 : amFetch 96 294 = some (.iload 9, 2, 0, 0, 0) := rfl
theorem f96_296 : amFetch 96 296 = some (.bipush 16, 2, 0, 0, 0) := rfl
theorem f96_298 : amFetch 96 298 = some (.if_icmp .ge 23, 3, 0, 0, 0) := rfl
theorem f96_301 : amFetch 96 301 = some (.aload_n 1, 1, 0, 0, 0) := rfl
theorem f96_302 : amFetch 96 302 = some (.aload_n 3, 1, 0, 0, 0) := rfl
theorem f96_303 : amFetch 96 303 = some (.aload 4, 2, 0, 0, 0) := rfl
theorem f96_305 : amFetch 96 305 = some (.iload 10, 2, 0, 0, 0) := rfl
theorem f96_307 : amFetch 96 307 = some (.iload 12, 2, 0, 0, 0) := rfl
theorem f96_309 : amFetch 96 309 = some (.iconst 4, 1, 0, 0, 0) := rfl
theorem f96_310 : amFetch 96 310 = some (.irem, 1, 0, 0, 0) := rfl
theorem f96_311 : amFetch 96 311 = some (.iload 9, 2, 0, 0, 0) := rfl
theorem f96_313 : amFetch 96 313 = some (.invokestatic 170, 3, 1, 95, 6) := rfl
theorem f96_316 : amFetch 96 316 = some (.istore 7, 2, 0, 0, 0) := rfl
theorem f96_318 : amFetch 96 318 = some (.goto 24, 3, 0, 0, 0) := rfl
theorem f96_321 : amFetch 96 321 = some (.aload_n 1, 1, 0, 0, 0) := rfl
theorem f96_322 : amFetch 96 322 = some (.aload_n 2, 1, 0, 0, 0) := rfl
theorem f96_323 : amFetch 96 323 = some (.aload_n 3, 1, 0, 0, 0) := rfl
theorem f96_324 : amFetch 96 324 = some (.aload 4, 2, 0, 0, 0) := rfl
theorem f96_326 : amFetch 96 326 = some (.iload 10, 2, 0, 0, 0) := rfl
theorem f96_328 : amFetch 96 328 = some (.iload 11, 2, 0, 0, 0) := rfl
theorem f96_330 : amFetch 96 330 = some (.iload 9, 2, 0, 0, 0) := rfl
theorem f96_332 : amFetch 96 332 = some (.bipush 12, 2, 0, 0, 0) := rfl
theorem f96_334 : amFetch 96 334 = some (.irem, 1, 0, 0, 0) := rfl
theorem f96_335 : amFetch 96 335 = some (.iload 12, 2, 0, 0, 0) := rfl
theorem f96_337 : amFetch 96 337 = some (.invokestatic 173, 3, 1, 94, 8) := rfl
theorem f96_340 : amFetch 96 340 = some (.istore 7, 2, 0, 0, 0) := rfl
theorem f96_342 : amFetch 96 342 = some (.iload 7, 2, 0, 0, 0) := rfl
theorem f96_344 : amFetch 96 344 = some (.ifCond .eq 46, 3, 0, 0, 0) := rfl
theorem f96_347 : amFetch 96 347 = some (.iload 8, 2, 0, 0, 0) := rfl
theorem f96_349 : amFetch 96 349 = some (.iconst 3, 1, 0, 0, 0) := rfl
theorem f96_350 : amFetch 96 350 = some (.irem, 1, 0, 0, 0) := rfl
theorem f96_351 : amFetch 96 351 = some (.iconst 2, 1, 0, 0, 0) := rfl
theorem f96_352 : amFetch 96 352 = some (.if_icmp .lt 16, 3, 0, 0, 0) := rfl
theorem f96_355 : amFetch 96 355 = some (.aload_n 1, 1, 0, 0, 0) := rfl
theorem f96_356 : amFetch 96 356 = some (.aload_n 2, 1, 0, 0, 0) := rfl
theorem f96_357 : amFetch 96 357 = some (.aload_n 3, 1, 0, 0, 0) := rfl
theorem f96_358 : amFetch 96 358 = some (.aload 4, 2, 0, 0, 0) := rfl
theorem f96_360 : amFetch 96 360 = some (.iload 10, 2, 0, 0, 0) := rfl
theorem f96_362 : amFetch 96 362 = some (.invokestatic 177, 3, 1, 85, 5) := rfl
theorem f96_365 : amFetch 96 365 = some (.ifCond .eq 25, 3, 0, 0, 0) := rfl
theorem f96_368 : amFetch 96 368 = some (.iload 8, 2, 0, 0, 0) := rfl
theorem f96_370 : amFetch 96 370 = some (.bipush 10, 2, 0, 0, 0) := rfl
theorem f96_372 : amFetch 96 372 = some (.irem, 1, 0, 0, 0) := rfl
theorem f96_373 : amFetch 96 373 = some (.bipush 9, 2, 0, 0, 0) := rfl
theorem f96_375 : amFetch 96 375 = some (.if_icmp .lt 11, 3, 0, 0, 0) := rfl
theorem f96_378 : amFetch 96 378 = some (.aload_n 1, 1, 0, 0, 0) := rfl
theorem f96_379 : amFetch 96 379 = some (.aload_n 3, 1, 0, 0, 0) := rfl
theorem f96_380 : amFetch 96 380 = some (.invokestatic 181, 3, 1, 86, 2) := rfl
theorem f96_383 : amFetch 96 383 = some (.ifCond .eq 7, 3, 0, 0, 0) := rfl
theorem f96_386 : amFetch 96 386 = some (.iconst 1, 1, 0, 0, 0) := rfl
theorem f96_387 : amFetch 96 387 = some (.goto 4, 3, 0, 0, 0) := rfl
theorem f96_390 : amFetch 96 390 = some (.iconst 0, 1, 0, 0, 0) := rfl
theorem f96_391 : amFetch 96 391 = some (.istore 7, 2, 0, 0, 0) := rfl
theorem f96_393 : amFetch 96 393 = some (.iinc 8 1, 3, 0, 0, 0) := rfl
theorem f96_396 : amFetch 96 396 = some (.goto (-226), 3, 0, 0, 0) := rfl
theorem f96_399 : amFetch 96 399 = some (.iload 7, 2, 0, 0, 0) := rfl
theorem f96_401 : amFetch 96 401 = some (.ireturn, 1, 0, 0, 0) := rfl
theorem ow96 : amOwnL 96 = some (5, 14) := rfl
-- L_isHeld
theorem f97_0 : amFetch 97 0 = some (.aload_n 0, 1, 0, 0, 0) := rfl
theorem f97_1 : amFetch 97 1 = some (.invokestatic 185, 3, 1, 96, 1) := rfl
theorem f97_4 : amFetch 97 4 = some (.ireturn, 1, 0, 0, 0) := rfl
theorem f97_5 : amFetch 97 5 = some (.astore_n 1, 1, 0, 0, 0) := rfl
theorem f97_6 : amFetch 97 6 = some (.iconst 0, 1, 0, 0, 0) := rfl
theorem f97_7 : amFetch 97 7 = some (.ireturn, 1, 0, 0, 0) := rfl
theorem f97_8 : amFetch 97 8 = some (.astore_n 1, 1, 0, 0, 0) := rfl
theorem f97_9 : amFetch 97 9 = some (.iconst 0, 1, 0, 0, 0) := rfl
theorem f97_10 : amFetch 97 10 = some (.ireturn, 1, 0, 0, 0) := rfl
theorem f97_11 : amFetch 97 11 = some (.astore_n 1, 1, 0, 0, 0) := rfl
theorem f97_12 : amFetch 97 12 = some (.iconst 0, 1, 0, 0, 0) := rfl
theorem f97_13 : amFetch 97 13 = some (.ireturn, 1, 0, 0, 0) := rfl
theorem ow97 : amOwnL 97 = some (5, 2) := rfl
-- L_law
theorem f98_0 : amFetch 98 0 = some (.aload_n 0, 1, 0, 0, 0) := rfl
theorem f98_1 : amFetch 98 1 = some (.invokestatic 193, 3, 1, 97, 1) := rfl
theorem f98_4 : amFetch 98 4 = some (.ireturn, 1, 0, 0, 0) := rfl
theorem ow98 : amOwnL 98 = some (5, 1) := rfl
-- X0_appendPart
theorem f99_0 : amFetch 99 0 = some (.iload_n 2, 1, 0, 0, 0) := rfl
theorem f99_1 : amFetch 99 1 = some (.istore 4, 2, 0, 0, 0) := rfl
theorem f99_3 : amFetch 99 3 = some (.iload 4, 2, 0, 0, 0) := rfl
theorem f99_5 : amFetch 99 5 = some (.iload_n 3, 1, 0, 0, 0) := rfl
theorem f99_6 : amFetch 99 6 = some (.if_icmp .ge 27, 3, 0, 0, 0) := rfl
theorem f99_9 : amFetch 99 9 = some (.aload_n 0, 1, 0, 0, 0) := rfl
theorem f99_10 : amFetch 99 10 = some (.aload_n 1, 1, 0, 0, 0) := rfl
theorem f99_11 : amFetch 99 11 = some (.getfield 9, 3, 0, 0, 0) := rfl
theorem f99_14 : amFetch 99 14 = some (.iload 4, 2, 0, 0, 0) := rfl
theorem f99_16 : amFetch 99 16 = some (.iaload, 1, 0, 0, 0) := rfl
theorem f99_17 : amFetch 99 17 = some (.aload_n 1, 1, 0, 0, 0) := rfl
theorem f99_18 : amFetch 99 18 = some (.getfield 15, 3, 0, 1, 0) := rfl
theorem f99_21 : amFetch 99 21 = some (.iload 4, 2, 0, 0, 0) := rfl
theorem f99_23 : amFetch 99 23 = some (.iaload, 1, 0, 0, 0) := rfl
theorem f99_24 : amFetch 99 24 = some (.invokevirtual 33, 3, 0, 2, 2) := rfl
theorem f99_27 : amFetch 99 27 = some (.iinc 4 1, 3, 0, 0, 0) := rfl
theorem f99_30 : amFetch 99 30 = some (.goto (-27), 3, 0, 0, 0) := rfl
theorem f99_33 : amFetch 99 33 = some (.return_, 1, 0, 0, 0) := rfl
theorem ow99 : amOwnL 99 = some (0, 5) := rfl
