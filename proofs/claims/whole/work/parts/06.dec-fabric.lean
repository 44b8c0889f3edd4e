theorem dX7_init_0 : decode cX7_init 0 = .ok (.aload_n 0, 1) := by decide +kernel
theorem dX7_init_1 : decode cX7_init 1 = .ok (.invokespecial 3, 3) := by decide +kernel
theorem dX7_init_4 : decode cX7_init 4 = .ok (.aload_n 0, 1) := by decide +kernel
theorem dX7_init_5 : decode cX7_init 5 = .ok (.new 9, 3) := by decide +kernel
theorem dX7_init_8 : decode cX7_init 8 = .ok (.dup, 1) := by decide +kernel
theorem dX7_init_9 : decode cX7_init 9 = .ok (.invokespecial 11, 3) := by decide +kernel
theorem dX7_init_12 : decode cX7_init 12 = .ok (.putfield 12, 3) := by decide +kernel
theorem dX7_init_15 : decode cX7_init 15 = .ok (.aload_n 0, 1) := by decide +kernel
theorem dX7_init_16 : decode cX7_init 16 = .ok (.new 16, 3) := by decide +kernel
theorem dX7_init_19 : decode cX7_init 19 = .ok (.dup, 1) := by decide +kernel
theorem dX7_init_20 : decode cX7_init 20 = .ok (.invokespecial 18, 3) := by decide +kernel
theorem dX7_init_23 : decode cX7_init 23 = .ok (.putfield 19, 3) := by decide +kernel
theorem dX7_init_26 : decode cX7_init 26 = .ok (.aload_n 0, 1) := by decide +kernel
theorem dX7_init_27 : decode cX7_init 27 = .ok (.new 23, 3) := by decide +kernel
theorem dX7_init_30 : decode cX7_init 30 = .ok (.dup, 1) := by decide +kernel
theorem dX7_init_31 : decode cX7_init 31 = .ok (.invokespecial 25, 3) := by decide +kernel
theorem dX7_init_34 : decode cX7_init 34 = .ok (.putfield 26, 3) := by decide +kernel
theorem dX7_init_37 : decode cX7_init 37 = .ok (.aload_n 0, 1) := by decide +kernel
theorem dX7_init_38 : decode cX7_init 38 = .ok (.getfield 26, 3) := by decide +kernel
theorem dX7_init_41 : decode cX7_init 41 = .ok (.iconst 5, 1) := by decide +kernel
theorem dX7_init_42 : decode cX7_init 42 = .ok (.iconst 0, 1) := by decide +kernel
theorem dX7_init_43 : decode cX7_init 43 = .ok (.iconst 0, 1) := by decide +kernel
theorem dX7_init_44 : decode cX7_init 44 = .ok (.invokevirtual 30, 3) := by decide +kernel
theorem dX7_init_47 : decode cX7_init 47 = .ok (.aload_n 0, 1) := by decide +kernel
theorem dX7_init_48 : decode cX7_init 48 = .ok (.new 34, 3) := by decide +kernel
theorem dX7_init_51 : decode cX7_init 51 = .ok (.dup, 1) := by decide +kernel
theorem dX7_init_52 : decode cX7_init 52 = .ok (.invokespecial 36, 3) := by decide +kernel
theorem dX7_init_55 : decode cX7_init 55 = .ok (.putfield 37, 3) := by decide +kernel
theorem dX7_init_58 : decode cX7_init 58 = .ok (.aload_n 0, 1) := by decide +kernel
theorem dX7_init_59 : decode cX7_init 59 = .ok (.new 41, 3) := by decide +kernel
theorem dX7_init_62 : decode cX7_init 62 = .ok (.dup, 1) := by decide +kernel
theorem dX7_init_63 : decode cX7_init 63 = .ok (.invokespecial 43, 3) := by decide +kernel
theorem dX7_init_66 : decode cX7_init 66 = .ok (.putfield 44, 3) := by decide +kernel
theorem dX7_init_69 : decode cX7_init 69 = .ok (.aload_n 0, 1) := by decide +kernel
theorem dX7_init_70 : decode cX7_init 70 = .ok (.new 48, 3) := by decide +kernel
theorem dX7_init_73 : decode cX7_init 73 = .ok (.dup, 1) := by decide +kernel
theorem dX7_init_74 : decode cX7_init 74 = .ok (.invokespecial 50, 3) := by decide +kernel
theorem dX7_init_77 : decode cX7_init 77 = .ok (.putfield 51, 3) := by decide +kernel
theorem dX7_init_80 : decode cX7_init 80 = .ok (.aload_n 0, 1) := by decide +kernel
theorem dX7_init_81 : decode cX7_init 81 = .ok (.new 55, 3) := by decide +kernel
theorem dX7_init_84 : decode cX7_init 84 = .ok (.dup, 1) := by decide +kernel
theorem dX7_init_85 : decode cX7_init 85 = .ok (.invokespecial 57, 3) := by decide +kernel
theorem dX7_init_88 : decode cX7_init 88 = .ok (.putfield 58, 3) := by decide +kernel
theorem dX7_init_91 : decode cX7_init 91 = .ok (.return_, 1) := by decide +kernel
theorem dX7_type_0 : decode cX7_type 0 = .ok (.iload_n 1, 1) := by decide +kernel
theorem dX7_type_1 : decode cX7_type 1 = .ok (.ifCond .lt 10, 3) := by decide +kernel
theorem dX7_type_4 : decode cX7_type 4 = .ok (.iload_n 1, 1) := by decide +kernel
theorem dX7_type_5 : decode cX7_type 5 = .ok (.sipush 255, 3) := by decide +kernel
theorem dX7_type_8 : decode cX7_type 8 = .ok (.if_icmp .le 5, 3) := by decide +kernel
theorem dX7_type_11 : decode cX7_type 11 = .ok (.iconst (-1), 1) := by decide +kernel
theorem dX7_type_12 : decode cX7_type 12 = .ok (.ireturn, 1) := by decide +kernel
theorem dX7_type_13 : decode cX7_type 13 = .ok (.aload_n 0, 1) := by decide +kernel
theorem dX7_type_14 : decode cX7_type 14 = .ok (.getfield 12, 3) := by decide +kernel
theorem dX7_type_17 : decode cX7_type 17 = .ok (.iload_n 1, 1) := by decide +kernel
theorem dX7_type_18 : decode cX7_type 18 = .ok (.invokevirtual 62, 3) := by decide +kernel
theorem dX7_type_21 : decode cX7_type 21 = .ok (.ifCond .eq 13, 3) := by decide +kernel
theorem dX7_type_24 : decode cX7_type 24 = .ok (.aload_n 0, 1) := by decide +kernel
theorem dX7_type_25 : decode cX7_type 25 = .ok (.getfield 12, 3) := by decide +kernel
theorem dX7_type_28 : decode cX7_type 28 = .ok (.invokevirtual 66, 3) := by decide +kernel
theorem dX7_type_31 : decode cX7_type 31 = .ok (.goto 5, 3) := by decide +kernel
theorem dX7_type_34 : decode cX7_type 34 = .ok (.bipush (-3), 2) := by decide +kernel
theorem dX7_type_36 : decode cX7_type 36 = .ok (.ireturn, 1) := by decide +kernel
theorem dX7_clear_0 : decode cX7_clear 0 = .ok (.aload_n 0, 1) := by decide +kernel
theorem dX7_clear_1 : decode cX7_clear 1 = .ok (.getfield 12, 3) := by decide +kernel
theorem dX7_clear_4 : decode cX7_clear 4 = .ok (.invokevirtual 66, 3) := by decide +kernel
theorem dX7_clear_7 : decode cX7_clear 7 = .ok (.istore_n 1, 1) := by decide +kernel
theorem dX7_clear_8 : decode cX7_clear 8 = .ok (.aload_n 0, 1) := by decide +kernel
theorem dX7_clear_9 : decode cX7_clear 9 = .ok (.getfield 12, 3) := by decide +kernel
theorem dX7_clear_12 : decode cX7_clear 12 = .ok (.invokevirtual 70, 3) := by decide +kernel
theorem dX7_clear_15 : decode cX7_clear 15 = .ok (.iload_n 1, 1) := by decide +kernel
theorem dX7_clear_16 : decode cX7_clear 16 = .ok (.ireturn, 1) := by decide +kernel
theorem dX7_tells_0 : decode cX7_tells 0 = .ok (.aload_n 0, 1) := by decide +kernel
theorem dX7_tells_1 : decode cX7_tells 1 = .ok (.getfield 19, 3) := by decide +kernel
theorem dX7_tells_4 : decode cX7_tells 4 = .ok (.aload_n 0, 1) := by decide +kernel
theorem dX7_tells_5 : decode cX7_tells 5 = .ok (.getfield 12, 3) := by decide +kernel
theorem dX7_tells_8 : decode cX7_tells 8 = .ok (.invokevirtual 73, 3) := by decide +kernel
theorem dX7_tells_11 : decode cX7_tells 11 = .ok (.istore_n 1, 1) := by decide +kernel
theorem dX7_tells_12 : decode cX7_tells 12 = .ok (.iload_n 1, 1) := by decide +kernel
theorem dX7_tells_13 : decode cX7_tells 13 = .ok (.bipush (-9), 2) := by decide +kernel
theorem dX7_tells_15 : decode cX7_tells 15 = .ok (.if_icmp .eq 8, 3) := by decide +kernel
theorem dX7_tells_18 : decode cX7_tells 18 = .ok (.bipush (-10), 2) := by decide +kernel
theorem dX7_tells_20 : decode cX7_tells 20 = .ok (.iload_n 1, 1) := by decide +kernel
theorem dX7_tells_21 : decode cX7_tells 21 = .ok (.isub, 1) := by decide +kernel
theorem dX7_tells_22 : decode cX7_tells 22 = .ok (.ireturn, 1) := by decide +kernel
theorem dX7_tells_23 : decode cX7_tells 23 = .ok (.aload_n 0, 1) := by decide +kernel
theorem dX7_tells_24 : decode cX7_tells 24 = .ok (.getfield 37, 3) := by decide +kernel
theorem dX7_tells_27 : decode cX7_tells 27 = .ok (.aload_n 0, 1) := by decide +kernel
theorem dX7_tells_28 : decode cX7_tells 28 = .ok (.getfield 26, 3) := by decide +kernel
theorem dX7_tells_31 : decode cX7_tells 31 = .ok (.invokevirtual 77, 3) := by decide +kernel
theorem dX7_tells_34 : decode cX7_tells 34 = .ok (.aload_n 0, 1) := by decide +kernel
theorem dX7_tells_35 : decode cX7_tells 35 = .ok (.getfield 26, 3) := by decide +kernel
theorem dX7_tells_38 : decode cX7_tells 38 = .ok (.aload_n 0, 1) := by decide +kernel
theorem dX7_tells_39 : decode cX7_tells 39 = .ok (.getfield 19, 3) := by decide +kernel
theorem dX7_tells_42 : decode cX7_tells 42 = .ok (.invokevirtual 81, 3) := by decide +kernel
theorem dX7_tells_45 : decode cX7_tells 45 = .ok (.invokevirtual 85, 3) := by decide +kernel
theorem dX7_tells_48 : decode cX7_tells 48 = .ok (.aload_n 0, 1) := by decide +kernel
theorem dX7_tells_49 : decode cX7_tells 49 = .ok (.getfield 12, 3) := by decide +kernel
theorem dX7_tells_52 : decode cX7_tells 52 = .ok (.invokevirtual 70, 3) := by decide +kernel
theorem dX7_tells_55 : decode cX7_tells 55 = .ok (.aload_n 0, 1) := by decide +kernel
theorem dX7_tells_56 : decode cX7_tells 56 = .ok (.getfield 51, 3) := by decide +kernel
theorem dX7_tells_59 : decode cX7_tells 59 = .ok (.invokevirtual 88, 3) := by decide +kernel
theorem dX7_tells_62 : decode cX7_tells 62 = .ok (.aload_n 0, 1) := by decide +kernel
theorem dX7_tells_63 : decode cX7_tells 63 = .ok (.getfield 44, 3) := by decide +kernel
theorem dX7_tells_66 : decode cX7_tells 66 = .ok (.invokevirtual 89, 3) := by decide +kernel
theorem dX7_tells_69 : decode cX7_tells 69 = .ok (.aload_n 0, 1) := by decide +kernel
theorem dX7_tells_70 : decode cX7_tells 70 = .ok (.getfield 26, 3) := by decide +kernel
theorem dX7_tells_73 : decode cX7_tells 73 = .ok (.invokevirtual 90, 3) := by decide +kernel
theorem dX7_tells_76 : decode cX7_tells 76 = .ok (.aload_n 0, 1) := by decide +kernel
theorem dX7_tells_77 : decode cX7_tells 77 = .ok (.getfield 26, 3) := by decide +kernel
theorem dX7_tells_80 : decode cX7_tells 80 = .ok (.invokevirtual 93, 3) := by decide +kernel
theorem dX7_tells_83 : decode cX7_tells 83 = .ok (.iadd, 1) := by decide +kernel
theorem dX7_tells_84 : decode cX7_tells 84 = .ok (.ireturn, 1) := by decide +kernel
theorem dX7_joins_0 : decode cX7_joins 0 = .ok (.aload_n 0, 1) := by decide +kernel
theorem dX7_joins_1 : decode cX7_joins 1 = .ok (.getfield 26, 3) := by decide +kernel
theorem dX7_joins_4 : decode cX7_joins 4 = .ok (.iload_n 1, 1) := by decide +kernel
theorem dX7_joins_5 : decode cX7_joins 5 = .ok (.iload_n 2, 1) := by decide +kernel
theorem dX7_joins_6 : decode cX7_joins 6 = .ok (.invokevirtual 96, 3) := by decide +kernel
theorem dX7_joins_9 : decode cX7_joins 9 = .ok (.ifCond .ne 5, 3) := by decide +kernel
theorem dX7_joins_12 : decode cX7_joins 12 = .ok (.iconst (-1), 1) := by decide +kernel
theorem dX7_joins_13 : decode cX7_joins 13 = .ok (.ireturn, 1) := by decide +kernel
theorem dX7_joins_14 : decode cX7_joins 14 = .ok (.aload_n 0, 1) := by decide +kernel
theorem dX7_joins_15 : decode cX7_joins 15 = .ok (.getfield 26, 3) := by decide +kernel
theorem dX7_joins_18 : decode cX7_joins 18 = .ok (.iload_n 1, 1) := by decide +kernel
theorem dX7_joins_19 : decode cX7_joins 19 = .ok (.iload_n 2, 1) := by decide +kernel
theorem dX7_joins_20 : decode cX7_joins 20 = .ok (.invokevirtual 100, 3) := by decide +kernel
theorem dX7_joins_23 : decode cX7_joins 23 = .ok (.ifCond .eq 6, 3) := by decide +kernel
theorem dX7_joins_26 : decode cX7_joins 26 = .ok (.bipush (-2), 2) := by decide +kernel
theorem dX7_joins_28 : decode cX7_joins 28 = .ok (.ireturn, 1) := by decide +kernel
theorem dX7_joins_29 : decode cX7_joins 29 = .ok (.aload_n 0, 1) := by decide +kernel
theorem dX7_joins_30 : decode cX7_joins 30 = .ok (.invokevirtual 103, 3) := by decide +kernel
theorem dX7_joins_33 : decode cX7_joins 33 = .ok (.lstore_n 3, 1) := by decide +kernel
theorem dX7_joins_34 : decode cX7_joins 34 = .ok (.aload_n 0, 1) := by decide +kernel
theorem dX7_joins_35 : decode cX7_joins 35 = .ok (.getfield 26, 3) := by decide +kernel
theorem dX7_joins_38 : decode cX7_joins 38 = .ok (.iload_n 1, 1) := by decide +kernel
theorem dX7_joins_39 : decode cX7_joins 39 = .ok (.iload_n 2, 1) := by decide +kernel
theorem dX7_joins_40 : decode cX7_joins 40 = .ok (.invokevirtual 107, 3) := by decide +kernel
theorem dX7_joins_43 : decode cX7_joins 43 = .ok (.istore 5, 2) := by decide +kernel
theorem dX7_joins_45 : decode cX7_joins 45 = .ok (.aload_n 0, 1) := by decide +kernel
theorem dX7_joins_46 : decode cX7_joins 46 = .ok (.getfield 26, 3) := by decide +kernel
theorem dX7_joins_49 : decode cX7_joins 49 = .ok (.lload_n 3, 1) := by decide +kernel
theorem dX7_joins_50 : decode cX7_joins 50 = .ok (.invokevirtual 110, 3) := by decide +kernel
theorem dX7_joins_53 : decode cX7_joins 53 = .ok (.iload 5, 2) := by decide +kernel
theorem dX7_joins_55 : decode cX7_joins 55 = .ok (.ifCond .eq 7, 3) := by decide +kernel
theorem dX7_joins_58 : decode cX7_joins 58 = .ok (.iconst 1, 1) := by decide +kernel
theorem dX7_joins_59 : decode cX7_joins 59 = .ok (.goto 4, 3) := by decide +kernel
theorem dX7_joins_62 : decode cX7_joins 62 = .ok (.iconst 0, 1) := by decide +kernel
theorem dX7_joins_63 : decode cX7_joins 63 = .ok (.ireturn, 1) := by decide +kernel
theorem dX7_cuts_0 : decode cX7_cuts 0 = .ok (.aload_n 0, 1) := by decide +kernel
theorem dX7_cuts_1 : decode cX7_cuts 1 = .ok (.getfield 26, 3) := by decide +kernel
theorem dX7_cuts_4 : decode cX7_cuts 4 = .ok (.iload_n 1, 1) := by decide +kernel
theorem dX7_cuts_5 : decode cX7_cuts 5 = .ok (.iload_n 2, 1) := by decide +kernel
theorem dX7_cuts_6 : decode cX7_cuts 6 = .ok (.invokevirtual 96, 3) := by decide +kernel
theorem dX7_cuts_9 : decode cX7_cuts 9 = .ok (.ifCond .ne 5, 3) := by decide +kernel
theorem dX7_cuts_12 : decode cX7_cuts 12 = .ok (.iconst (-1), 1) := by decide +kernel
theorem dX7_cuts_13 : decode cX7_cuts 13 = .ok (.ireturn, 1) := by decide +kernel
theorem dX7_cuts_14 : decode cX7_cuts 14 = .ok (.aload_n 0, 1) := by decide +kernel
theorem dX7_cuts_15 : decode cX7_cuts 15 = .ok (.getfield 26, 3) := by decide +kernel
theorem dX7_cuts_18 : decode cX7_cuts 18 = .ok (.iload_n 1, 1) := by decide +kernel
theorem dX7_cuts_19 : decode cX7_cuts 19 = .ok (.iload_n 2, 1) := by decide +kernel
theorem dX7_cuts_20 : decode cX7_cuts 20 = .ok (.invokevirtual 114, 3) := by decide +kernel
theorem dX7_cuts_23 : decode cX7_cuts 23 = .ok (.ifCond .ne 6, 3) := by decide +kernel
theorem dX7_cuts_26 : decode cX7_cuts 26 = .ok (.bipush (-2), 2) := by decide +kernel
theorem dX7_cuts_28 : decode cX7_cuts 28 = .ok (.ireturn, 1) := by decide +kernel
theorem dX7_cuts_29 : decode cX7_cuts 29 = .ok (.aload_n 0, 1) := by decide +kernel
theorem dX7_cuts_30 : decode cX7_cuts 30 = .ok (.invokevirtual 103, 3) := by decide +kernel
theorem dX7_cuts_33 : decode cX7_cuts 33 = .ok (.lstore_n 3, 1) := by decide +kernel
theorem dX7_cuts_34 : decode cX7_cuts 34 = .ok (.aload_n 0, 1) := by decide +kernel
theorem dX7_cuts_35 : decode cX7_cuts 35 = .ok (.getfield 26, 3) := by decide +kernel
theorem dX7_cuts_38 : decode cX7_cuts 38 = .ok (.iload_n 1, 1) := by decide +kernel
theorem dX7_cuts_39 : decode cX7_cuts 39 = .ok (.iload_n 2, 1) := by decide +kernel
theorem dX7_cuts_40 : decode cX7_cuts 40 = .ok (.iconst 0, 1) := by decide +kernel
theorem dX7_cuts_41 : decode cX7_cuts 41 = .ok (.invokevirtual 118, 3) := by decide +kernel
theorem dX7_cuts_44 : decode cX7_cuts 44 = .ok (.aload_n 0, 1) := by decide +kernel
theorem dX7_cuts_45 : decode cX7_cuts 45 = .ok (.getfield 26, 3) := by decide +kernel
theorem dX7_cuts_48 : decode cX7_cuts 48 = .ok (.lload_n 3, 1) := by decide +kernel
theorem dX7_cuts_49 : decode cX7_cuts 49 = .ok (.invokevirtual 110, 3) := by decide +kernel
theorem dX7_cuts_52 : decode cX7_cuts 52 = .ok (.aload_n 0, 1) := by decide +kernel
theorem dX7_cuts_53 : decode cX7_cuts 53 = .ok (.getfield 26, 3) := by decide +kernel
theorem dX7_cuts_56 : decode cX7_cuts 56 = .ok (.invokevirtual 121, 3) := by decide +kernel
theorem dX7_cuts_59 : decode cX7_cuts 59 = .ok (.ireturn, 1) := by decide +kernel
theorem dX7_zones_0 : decode cX7_zones 0 = .ok (.aload_n 0, 1) := by decide +kernel
theorem dX7_zones_1 : decode cX7_zones 1 = .ok (.getfield 26, 3) := by decide +kernel
theorem dX7_zones_4 : decode cX7_zones 4 = .ok (.iload_n 1, 1) := by decide +kernel
theorem dX7_zones_5 : decode cX7_zones 5 = .ok (.invokevirtual 124, 3) := by decide +kernel
theorem dX7_zones_8 : decode cX7_zones 8 = .ok (.ifCond .eq 27, 3) := by decide +kernel
theorem dX7_zones_11 : decode cX7_zones 11 = .ok (.iload_n 2, 1) := by decide +kernel
theorem dX7_zones_12 : decode cX7_zones 12 = .ok (.ifCond .lt 23, 3) := by decide +kernel
theorem dX7_zones_15 : decode cX7_zones 15 = .ok (.iload_n 2, 1) := by decide +kernel
theorem dX7_zones_16 : decode cX7_zones 16 = .ok (.iconst 4, 1) := by decide +kernel
theorem dX7_zones_17 : decode cX7_zones 17 = .ok (.if_icmp .ge 18, 3) := by decide +kernel
theorem dX7_zones_20 : decode cX7_zones 20 = .ok (.iload_n 3, 1) := by decide +kernel
theorem dX7_zones_21 : decode cX7_zones 21 = .ok (.ifCond .lt 14, 3) := by decide +kernel
theorem dX7_zones_24 : decode cX7_zones 24 = .ok (.iload_n 3, 1) := by decide +kernel
theorem dX7_zones_25 : decode cX7_zones 25 = .ok (.aload_n 0, 1) := by decide +kernel
theorem dX7_zones_26 : decode cX7_zones 26 = .ok (.getfield 26, 3) := by decide +kernel
theorem dX7_zones_29 : decode cX7_zones 29 = .ok (.invokevirtual 127, 3) := by decide +kernel
theorem dX7_zones_32 : decode cX7_zones 32 = .ok (.if_icmp .le 5, 3) := by decide +kernel
theorem dX7_zones_35 : decode cX7_zones 35 = .ok (.iconst (-1), 1) := by decide +kernel
theorem dX7_zones_36 : decode cX7_zones 36 = .ok (.ireturn, 1) := by decide +kernel
theorem dX7_zones_37 : decode cX7_zones 37 = .ok (.aload_n 0, 1) := by decide +kernel
theorem dX7_zones_38 : decode cX7_zones 38 = .ok (.getfield 26, 3) := by decide +kernel
theorem dX7_zones_41 : decode cX7_zones 41 = .ok (.iload_n 1, 1) := by decide +kernel
theorem dX7_zones_42 : decode cX7_zones 42 = .ok (.iload_n 2, 1) := by decide +kernel
theorem dX7_zones_43 : decode cX7_zones 43 = .ok (.invokevirtual 130, 3) := by decide +kernel
theorem dX7_zones_46 : decode cX7_zones 46 = .ok (.istore 4, 2) := by decide +kernel
theorem dX7_zones_48 : decode cX7_zones 48 = .ok (.iload 4, 2) := by decide +kernel
theorem dX7_zones_50 : decode cX7_zones 50 = .ok (.iload_n 3, 1) := by decide +kernel
theorem dX7_zones_51 : decode cX7_zones 51 = .ok (.if_icmp .ne 6, 3) := by decide +kernel
theorem dX7_zones_54 : decode cX7_zones 54 = .ok (.bipush (-2), 2) := by decide +kernel
theorem dX7_zones_56 : decode cX7_zones 56 = .ok (.ireturn, 1) := by decide +kernel
theorem dX7_zones_57 : decode cX7_zones 57 = .ok (.aload_n 0, 1) := by decide +kernel
theorem dX7_zones_58 : decode cX7_zones 58 = .ok (.invokevirtual 103, 3) := by decide +kernel
theorem dX7_zones_61 : decode cX7_zones 61 = .ok (.lstore 5, 2) := by decide +kernel
theorem dX7_zones_63 : decode cX7_zones 63 = .ok (.aload_n 0, 1) := by decide +kernel
theorem dX7_zones_64 : decode cX7_zones 64 = .ok (.getfield 26, 3) := by decide +kernel
theorem dX7_zones_67 : decode cX7_zones 67 = .ok (.aload_n 0, 1) := by decide +kernel
theorem dX7_zones_68 : decode cX7_zones 68 = .ok (.getfield 26, 3) := by decide +kernel
theorem dX7_zones_71 : decode cX7_zones 71 = .ok (.iload_n 1, 1) := by decide +kernel
theorem dX7_zones_72 : decode cX7_zones 72 = .ok (.invokevirtual 133, 3) := by decide +kernel
theorem dX7_zones_75 : decode cX7_zones 75 = .ok (.iload_n 2, 1) := by decide +kernel
theorem dX7_zones_76 : decode cX7_zones 76 = .ok (.iload_n 3, 1) := by decide +kernel
theorem dX7_zones_77 : decode cX7_zones 77 = .ok (.invokevirtual 137, 3) := by decide +kernel
theorem dX7_zones_80 : decode cX7_zones 80 = .ok (.aload_n 0, 1) := by decide +kernel
theorem dX7_zones_81 : decode cX7_zones 81 = .ok (.getfield 26, 3) := by decide +kernel
theorem dX7_zones_84 : decode cX7_zones 84 = .ok (.lload 5, 2) := by decide +kernel
theorem dX7_zones_86 : decode cX7_zones 86 = .ok (.invokevirtual 110, 3) := by decide +kernel
theorem dX7_zones_89 : decode cX7_zones 89 = .ok (.iload 4, 2) := by decide +kernel
theorem dX7_zones_91 : decode cX7_zones 91 = .ok (.ireturn, 1) := by decide +kernel
theorem dX7_moves_0 : decode cX7_moves 0 = .ok (.aload_n 0, 1) := by decide +kernel
theorem dX7_moves_1 : decode cX7_moves 1 = .ok (.getfield 26, 3) := by decide +kernel
theorem dX7_moves_4 : decode cX7_moves 4 = .ok (.iload_n 1, 1) := by decide +kernel
theorem dX7_moves_5 : decode cX7_moves 5 = .ok (.invokevirtual 140, 3) := by decide +kernel
theorem dX7_moves_8 : decode cX7_moves 8 = .ok (.ifCond .eq 20, 3) := by decide +kernel
theorem dX7_moves_11 : decode cX7_moves 11 = .ok (.iload_n 2, 1) := by decide +kernel
theorem dX7_moves_12 : decode cX7_moves 12 = .ok (.bipush (-9), 2) := by decide +kernel
theorem dX7_moves_14 : decode cX7_moves 14 = .ok (.if_icmp .eq 16, 3) := by decide +kernel
theorem dX7_moves_17 : decode cX7_moves 17 = .ok (.aload_n 0, 1) := by decide +kernel
theorem dX7_moves_18 : decode cX7_moves 18 = .ok (.getfield 26, 3) := by decide +kernel
theorem dX7_moves_21 : decode cX7_moves 21 = .ok (.iload_n 2, 1) := by decide +kernel
theorem dX7_moves_22 : decode cX7_moves 22 = .ok (.invokevirtual 124, 3) := by decide +kernel
theorem dX7_moves_25 : decode cX7_moves 25 = .ok (.ifCond .ne 5, 3) := by decide +kernel
theorem dX7_moves_28 : decode cX7_moves 28 = .ok (.iconst (-1), 1) := by decide +kernel
theorem dX7_moves_29 : decode cX7_moves 29 = .ok (.ireturn, 1) := by decide +kernel
theorem dX7_moves_30 : decode cX7_moves 30 = .ok (.aload_n 0, 1) := by decide +kernel
theorem dX7_moves_31 : decode cX7_moves 31 = .ok (.getfield 26, 3) := by decide +kernel
theorem dX7_moves_34 : decode cX7_moves 34 = .ok (.iload_n 1, 1) := by decide +kernel
theorem dX7_moves_35 : decode cX7_moves 35 = .ok (.invokevirtual 143, 3) := by decide +kernel
theorem dX7_moves_38 : decode cX7_moves 38 = .ok (.istore_n 3, 1) := by decide +kernel
theorem dX7_moves_39 : decode cX7_moves 39 = .ok (.iload_n 3, 1) := by decide +kernel
theorem dX7_moves_40 : decode cX7_moves 40 = .ok (.iload_n 2, 1) := by decide +kernel
theorem dX7_moves_41 : decode cX7_moves 41 = .ok (.if_icmp .ne 6, 3) := by decide +kernel
theorem dX7_moves_44 : decode cX7_moves 44 = .ok (.bipush (-2), 2) := by decide +kernel
theorem dX7_moves_46 : decode cX7_moves 46 = .ok (.ireturn, 1) := by decide +kernel
theorem dX7_moves_47 : decode cX7_moves 47 = .ok (.aload_n 0, 1) := by decide +kernel
theorem dX7_moves_48 : decode cX7_moves 48 = .ok (.invokevirtual 103, 3) := by decide +kernel
theorem dX7_moves_51 : decode cX7_moves 51 = .ok (.lstore 4, 2) := by decide +kernel
theorem dX7_moves_53 : decode cX7_moves 53 = .ok (.aload_n 0, 1) := by decide +kernel
theorem dX7_moves_54 : decode cX7_moves 54 = .ok (.getfield 26, 3) := by decide +kernel
theorem dX7_moves_57 : decode cX7_moves 57 = .ok (.iload_n 1, 1) := by decide +kernel
theorem dX7_moves_58 : decode cX7_moves 58 = .ok (.iload_n 2, 1) := by decide +kernel
theorem dX7_moves_59 : decode cX7_moves 59 = .ok (.invokevirtual 146, 3) := by decide +kernel
theorem dX7_moves_62 : decode cX7_moves 62 = .ok (.aload_n 0, 1) := by decide +kernel
theorem dX7_moves_63 : decode cX7_moves 63 = .ok (.getfield 26, 3) := by decide +kernel
theorem dX7_moves_66 : decode cX7_moves 66 = .ok (.lload 4, 2) := by decide +kernel
theorem dX7_moves_68 : decode cX7_moves 68 = .ok (.invokevirtual 110, 3) := by decide +kernel
theorem dX7_moves_71 : decode cX7_moves 71 = .ok (.iload_n 3, 1) := by decide +kernel
theorem dX7_moves_72 : decode cX7_moves 72 = .ok (.ireturn, 1) := by decide +kernel
theorem dX7_ranks_0 : decode cX7_ranks 0 = .ok (.aload_n 0, 1) := by decide +kernel
theorem dX7_ranks_1 : decode cX7_ranks 1 = .ok (.getfield 26, 3) := by decide +kernel
theorem dX7_ranks_4 : decode cX7_ranks 4 = .ok (.iload_n 1, 1) := by decide +kernel
theorem dX7_ranks_5 : decode cX7_ranks 5 = .ok (.invokevirtual 124, 3) := by decide +kernel
theorem dX7_ranks_8 : decode cX7_ranks 8 = .ok (.ifCond .eq 14, 3) := by decide +kernel
theorem dX7_ranks_11 : decode cX7_ranks 11 = .ok (.iload_n 2, 1) := by decide +kernel
theorem dX7_ranks_12 : decode cX7_ranks 12 = .ok (.iconst 1, 1) := by decide +kernel
theorem dX7_ranks_13 : decode cX7_ranks 13 = .ok (.if_icmp .lt 9, 3) := by decide +kernel
theorem dX7_ranks_16 : decode cX7_ranks 16 = .ok (.iload_n 2, 1) := by decide +kernel
theorem dX7_ranks_17 : decode cX7_ranks 17 = .ok (.bipush 9, 2) := by decide +kernel
theorem dX7_ranks_19 : decode cX7_ranks 19 = .ok (.if_icmp .le 5, 3) := by decide +kernel
theorem dX7_ranks_22 : decode cX7_ranks 22 = .ok (.iconst (-1), 1) := by decide +kernel
theorem dX7_ranks_23 : decode cX7_ranks 23 = .ok (.ireturn, 1) := by decide +kernel
theorem dX7_ranks_24 : decode cX7_ranks 24 = .ok (.aload_n 0, 1) := by decide +kernel
theorem dX7_ranks_25 : decode cX7_ranks 25 = .ok (.getfield 26, 3) := by decide +kernel
theorem dX7_ranks_28 : decode cX7_ranks 28 = .ok (.iload_n 1, 1) := by decide +kernel
theorem dX7_ranks_29 : decode cX7_ranks 29 = .ok (.invokevirtual 150, 3) := by decide +kernel
theorem dX7_ranks_32 : decode cX7_ranks 32 = .ok (.istore_n 3, 1) := by decide +kernel
theorem dX7_ranks_33 : decode cX7_ranks 33 = .ok (.iload_n 3, 1) := by decide +kernel
theorem dX7_ranks_34 : decode cX7_ranks 34 = .ok (.iload_n 2, 1) := by decide +kernel
theorem dX7_ranks_35 : decode cX7_ranks 35 = .ok (.if_icmp .ne 6, 3) := by decide +kernel
theorem dX7_ranks_38 : decode cX7_ranks 38 = .ok (.bipush (-2), 2) := by decide +kernel
theorem dX7_ranks_40 : decode cX7_ranks 40 = .ok (.ireturn, 1) := by decide +kernel
theorem dX7_ranks_41 : decode cX7_ranks 41 = .ok (.aload_n 0, 1) := by decide +kernel
theorem dX7_ranks_42 : decode cX7_ranks 42 = .ok (.getfield 37, 3) := by decide +kernel
theorem dX7_ranks_45 : decode cX7_ranks 45 = .ok (.aload_n 0, 1) := by decide +kernel
theorem dX7_ranks_46 : decode cX7_ranks 46 = .ok (.getfield 26, 3) := by decide +kernel
theorem dX7_ranks_49 : decode cX7_ranks 49 = .ok (.invokevirtual 77, 3) := by decide +kernel
theorem dX7_ranks_52 : decode cX7_ranks 52 = .ok (.aload_n 0, 1) := by decide +kernel
theorem dX7_ranks_53 : decode cX7_ranks 53 = .ok (.getfield 26, 3) := by decide +kernel
theorem dX7_ranks_56 : decode cX7_ranks 56 = .ok (.iload_n 1, 1) := by decide +kernel
theorem dX7_ranks_57 : decode cX7_ranks 57 = .ok (.iload_n 2, 1) := by decide +kernel
theorem dX7_ranks_58 : decode cX7_ranks 58 = .ok (.invokevirtual 153, 3) := by decide +kernel
theorem dX7_ranks_61 : decode cX7_ranks 61 = .ok (.iload_n 3, 1) := by decide +kernel
theorem dX7_ranks_62 : decode cX7_ranks 62 = .ok (.ireturn, 1) := by decide +kernel
theorem dX7_renews_0 : decode cX7_renews 0 = .ok (.aload_n 0, 1) := by decide +kernel
theorem dX7_renews_1 : decode cX7_renews 1 = .ok (.getfield 26, 3) := by decide +kernel
theorem dX7_renews_4 : decode cX7_renews 4 = .ok (.iload_n 1, 1) := by decide +kernel
theorem dX7_renews_5 : decode cX7_renews 5 = .ok (.invokevirtual 124, 3) := by decide +kernel
theorem dX7_renews_8 : decode cX7_renews 8 = .ok (.ifCond .ne 5, 3) := by decide +kernel
theorem dX7_renews_11 : decode cX7_renews 11 = .ok (.iconst (-1), 1) := by decide +kernel
theorem dX7_renews_12 : decode cX7_renews 12 = .ok (.ireturn, 1) := by decide +kernel
theorem dX7_renews_13 : decode cX7_renews 13 = .ok (.aload_n 0, 1) := by decide +kernel
theorem dX7_renews_14 : decode cX7_renews 14 = .ok (.getfield 37, 3) := by decide +kernel
theorem dX7_renews_17 : decode cX7_renews 17 = .ok (.aload_n 0, 1) := by decide +kernel
theorem dX7_renews_18 : decode cX7_renews 18 = .ok (.getfield 26, 3) := by decide +kernel
theorem dX7_renews_21 : decode cX7_renews 21 = .ok (.invokevirtual 77, 3) := by decide +kernel
theorem dX7_renews_24 : decode cX7_renews 24 = .ok (.aload_n 0, 1) := by decide +kernel
theorem dX7_renews_25 : decode cX7_renews 25 = .ok (.getfield 26, 3) := by decide +kernel
theorem dX7_renews_28 : decode cX7_renews 28 = .ok (.aload_n 0, 1) := by decide +kernel
theorem dX7_renews_29 : decode cX7_renews 29 = .ok (.getfield 26, 3) := by decide +kernel
theorem dX7_renews_32 : decode cX7_renews 32 = .ok (.iload_n 1, 1) := by decide +kernel
theorem dX7_renews_33 : decode cX7_renews 33 = .ok (.invokevirtual 133, 3) := by decide +kernel
theorem dX7_renews_36 : decode cX7_renews 36 = .ok (.invokevirtual 156, 3) := by decide +kernel
theorem dX7_renews_39 : decode cX7_renews 39 = .ok (.ireturn, 1) := by decide +kernel
theorem dX7_allows_0 : decode cX7_allows 0 = .ok (.iload_n 1, 1) := by decide +kernel
theorem dX7_allows_1 : decode cX7_allows 1 = .ok (.ifCond .lt 8, 3) := by decide +kernel
theorem dX7_allows_4 : decode cX7_allows 4 = .ok (.iload_n 1, 1) := by decide +kernel
theorem dX7_allows_5 : decode cX7_allows 5 = .ok (.iconst 1, 1) := by decide +kernel
theorem dX7_allows_6 : decode cX7_allows 6 = .ok (.if_icmp .le 5, 3) := by decide +kernel
theorem dX7_allows_9 : decode cX7_allows 9 = .ok (.iconst (-1), 1) := by decide +kernel
theorem dX7_allows_10 : decode cX7_allows 10 = .ok (.ireturn, 1) := by decide +kernel
theorem dX7_allows_11 : decode cX7_allows 11 = .ok (.aload_n 0, 1) := by decide +kernel
theorem dX7_allows_12 : decode cX7_allows 12 = .ok (.getfield 26, 3) := by decide +kernel
theorem dX7_allows_15 : decode cX7_allows 15 = .ok (.invokevirtual 159, 3) := by decide +kernel
theorem dX7_allows_18 : decode cX7_allows 18 = .ok (.iload_n 1, 1) := by decide +kernel
theorem dX7_allows_19 : decode cX7_allows 19 = .ok (.iconst 1, 1) := by decide +kernel
theorem dX7_allows_20 : decode cX7_allows 20 = .ok (.if_icmp .ne 7, 3) := by decide +kernel
theorem dX7_allows_23 : decode cX7_allows 23 = .ok (.iconst 1, 1) := by decide +kernel
theorem dX7_allows_24 : decode cX7_allows 24 = .ok (.goto 4, 3) := by decide +kernel
theorem dX7_allows_27 : decode cX7_allows 27 = .ok (.iconst 0, 1) := by decide +kernel
theorem dX7_allows_28 : decode cX7_allows 28 = .ok (.if_icmp .ne 6, 3) := by decide +kernel
theorem dX7_allows_31 : decode cX7_allows 31 = .ok (.bipush (-2), 2) := by decide +kernel
theorem dX7_allows_33 : decode cX7_allows 33 = .ok (.ireturn, 1) := by decide +kernel
theorem dX7_allows_34 : decode cX7_allows 34 = .ok (.aload_n 0, 1) := by decide +kernel
theorem dX7_allows_35 : decode cX7_allows 35 = .ok (.getfield 37, 3) := by decide +kernel
theorem dX7_allows_38 : decode cX7_allows 38 = .ok (.aload_n 0, 1) := by decide +kernel
theorem dX7_allows_39 : decode cX7_allows 39 = .ok (.getfield 26, 3) := by decide +kernel
theorem dX7_allows_42 : decode cX7_allows 42 = .ok (.invokevirtual 77, 3) := by decide +kernel
theorem dX7_allows_45 : decode cX7_allows 45 = .ok (.aload_n 0, 1) := by decide +kernel
theorem dX7_allows_46 : decode cX7_allows 46 = .ok (.getfield 26, 3) := by decide +kernel
theorem dX7_allows_49 : decode cX7_allows 49 = .ok (.iload_n 1, 1) := by decide +kernel
theorem dX7_allows_50 : decode cX7_allows 50 = .ok (.iconst 1, 1) := by decide +kernel
theorem dX7_allows_51 : decode cX7_allows 51 = .ok (.if_icmp .ne 7, 3) := by decide +kernel
theorem dX7_allows_54 : decode cX7_allows 54 = .ok (.iconst 1, 1) := by decide +kernel
theorem dX7_allows_55 : decode cX7_allows 55 = .ok (.goto 4, 3) := by decide +kernel
theorem dX7_allows_58 : decode cX7_allows 58 = .ok (.iconst 0, 1) := by decide +kernel
theorem dX7_allows_59 : decode cX7_allows 59 = .ok (.invokevirtual 163, 3) := by decide +kernel
theorem dX7_allows_62 : decode cX7_allows 62 = .ok (.iconst 1, 1) := by decide +kernel
theorem dX7_allows_63 : decode cX7_allows 63 = .ok (.ireturn, 1) := by decide +kernel
theorem dX7_undo_0 : decode cX7_undo 0 = .ok (.aload_n 0, 1) := by decide +kernel
theorem dX7_undo_1 : decode cX7_undo 1 = .ok (.getfield 37, 3) := by decide +kernel
theorem dX7_undo_4 : decode cX7_undo 4 = .ok (.invokevirtual 167, 3) := by decide +kernel
theorem dX7_undo_7 : decode cX7_undo 7 = .ok (.ifCond .ne 6, 3) := by decide +kernel
theorem dX7_undo_10 : decode cX7_undo 10 = .ok (.bipush (-2), 2) := by decide +kernel
theorem dX7_undo_12 : decode cX7_undo 12 = .ok (.ireturn, 1) := by decide +kernel
theorem dX7_undo_13 : decode cX7_undo 13 = .ok (.aload_n 0, 1) := by decide +kernel
theorem dX7_undo_14 : decode cX7_undo 14 = .ok (.getfield 37, 3) := by decide +kernel
theorem dX7_undo_17 : decode cX7_undo 17 = .ok (.aload_n 0, 1) := by decide +kernel
theorem dX7_undo_18 : decode cX7_undo 18 = .ok (.getfield 26, 3) := by decide +kernel
theorem dX7_undo_21 : decode cX7_undo 21 = .ok (.invokevirtual 168, 3) := by decide +kernel
theorem dX7_undo_24 : decode cX7_undo 24 = .ok (.aload_n 0, 1) := by decide +kernel
theorem dX7_undo_25 : decode cX7_undo 25 = .ok (.getfield 37, 3) := by decide +kernel
theorem dX7_undo_28 : decode cX7_undo 28 = .ok (.invokevirtual 167, 3) := by decide +kernel
theorem dX7_undo_31 : decode cX7_undo 31 = .ok (.ireturn, 1) := by decide +kernel
theorem dX7_device_0 : decode cX7_device 0 = .ok (.aload_n 0, 1) := by decide +kernel
theorem dX7_device_1 : decode cX7_device 1 = .ok (.getfield 26, 3) := by decide +kernel
theorem dX7_device_4 : decode cX7_device 4 = .ok (.iload_n 1, 1) := by decide +kernel
theorem dX7_device_5 : decode cX7_device 5 = .ok (.invokevirtual 124, 3) := by decide +kernel
theorem dX7_device_8 : decode cX7_device 8 = .ok (.ifCond .ne 5, 3) := by decide +kernel
theorem dX7_device_11 : decode cX7_device 11 = .ok (.iconst (-1), 1) := by decide +kernel
theorem dX7_device_12 : decode cX7_device 12 = .ok (.ireturn, 1) := by decide +kernel
theorem dX7_device_13 : decode cX7_device 13 = .ok (.iload_n 2, 1) := by decide +kernel
theorem dX7_device_14 : decode cX7_device 14 = .ok (.tableswitch 127 0 7 #[46, 55, 64, 73, 82, 98, 107, 116], 46) := by decide +kernel
theorem dX7_device_60 : decode cX7_device 60 = .ok (.aload_n 0, 1) := by decide +kernel
theorem dX7_device_61 : decode cX7_device 61 = .ok (.getfield 26, 3) := by decide +kernel
theorem dX7_device_64 : decode cX7_device 64 = .ok (.iload_n 1, 1) := by decide +kernel
theorem dX7_device_65 : decode cX7_device 65 = .ok (.invokevirtual 150, 3) := by decide +kernel
theorem dX7_device_68 : decode cX7_device 68 = .ok (.ireturn, 1) := by decide +kernel
theorem dX7_device_69 : decode cX7_device 69 = .ok (.aload_n 0, 1) := by decide +kernel
theorem dX7_device_70 : decode cX7_device 70 = .ok (.getfield 26, 3) := by decide +kernel
theorem dX7_device_73 : decode cX7_device 73 = .ok (.iload_n 1, 1) := by decide +kernel
theorem dX7_device_74 : decode cX7_device 74 = .ok (.invokevirtual 171, 3) := by decide +kernel
theorem dX7_device_77 : decode cX7_device 77 = .ok (.ireturn, 1) := by decide +kernel
theorem dX7_device_78 : decode cX7_device 78 = .ok (.aload_n 0, 1) := by decide +kernel
theorem dX7_device_79 : decode cX7_device 79 = .ok (.getfield 26, 3) := by decide +kernel
theorem dX7_device_82 : decode cX7_device 82 = .ok (.iload_n 1, 1) := by decide +kernel
theorem dX7_device_83 : decode cX7_device 83 = .ok (.invokevirtual 174, 3) := by decide +kernel
theorem dX7_device_86 : decode cX7_device 86 = .ok (.ireturn, 1) := by decide +kernel
theorem dX7_device_87 : decode cX7_device 87 = .ok (.aload_n 0, 1) := by decide +kernel
theorem dX7_device_88 : decode cX7_device 88 = .ok (.getfield 26, 3) := by decide +kernel
theorem dX7_device_91 : decode cX7_device 91 = .ok (.iload_n 1, 1) := by decide +kernel
theorem dX7_device_92 : decode cX7_device 92 = .ok (.invokevirtual 177, 3) := by decide +kernel
theorem dX7_device_95 : decode cX7_device 95 = .ok (.ireturn, 1) := by decide +kernel
theorem dX7_device_96 : decode cX7_device 96 = .ok (.aload_n 0, 1) := by decide +kernel
theorem dX7_device_97 : decode cX7_device 97 = .ok (.getfield 26, 3) := by decide +kernel
theorem dX7_device_100 : decode cX7_device 100 = .ok (.aload_n 0, 1) := by decide +kernel
theorem dX7_device_101 : decode cX7_device 101 = .ok (.getfield 26, 3) := by decide +kernel
theorem dX7_device_104 : decode cX7_device 104 = .ok (.iload_n 1, 1) := by decide +kernel
theorem dX7_device_105 : decode cX7_device 105 = .ok (.invokevirtual 133, 3) := by decide +kernel
theorem dX7_device_108 : decode cX7_device 108 = .ok (.invokevirtual 180, 3) := by decide +kernel
theorem dX7_device_111 : decode cX7_device 111 = .ok (.ireturn, 1) := by decide +kernel
theorem dX7_device_112 : decode cX7_device 112 = .ok (.aload_n 0, 1) := by decide +kernel
theorem dX7_device_113 : decode cX7_device 113 = .ok (.getfield 26, 3) := by decide +kernel
theorem dX7_device_116 : decode cX7_device 116 = .ok (.iload_n 1, 1) := by decide +kernel
theorem dX7_device_117 : decode cX7_device 117 = .ok (.invokevirtual 183, 3) := by decide +kernel
theorem dX7_device_120 : decode cX7_device 120 = .ok (.ireturn, 1) := by decide +kernel
theorem dX7_device_121 : decode cX7_device 121 = .ok (.aload_n 0, 1) := by decide +kernel
theorem dX7_device_122 : decode cX7_device 122 = .ok (.getfield 26, 3) := by decide +kernel
theorem dX7_device_125 : decode cX7_device 125 = .ok (.iload_n 1, 1) := by decide +kernel
theorem dX7_device_126 : decode cX7_device 126 = .ok (.invokevirtual 133, 3) := by decide +kernel
theorem dX7_device_129 : decode cX7_device 129 = .ok (.ireturn, 1) := by decide +kernel
theorem dX7_device_130 : decode cX7_device 130 = .ok (.aload_n 0, 1) := by decide +kernel
theorem dX7_device_131 : decode cX7_device 131 = .ok (.getfield 26, 3) := by decide +kernel
theorem dX7_device_134 : decode cX7_device 134 = .ok (.iconst 1, 1) := by decide +kernel
theorem dX7_device_135 : decode cX7_device 135 = .ok (.iload_n 1, 1) := by decide +kernel
theorem dX7_device_136 : decode cX7_device 136 = .ok (.ishl, 1) := by decide +kernel
theorem dX7_device_137 : decode cX7_device 137 = .ok (.invokevirtual 186, 3) := by decide +kernel
theorem dX7_device_140 : decode cX7_device 140 = .ok (.ireturn, 1) := by decide +kernel
theorem dX7_device_141 : decode cX7_device 141 = .ok (.iconst (-1), 1) := by decide +kernel
theorem dX7_device_142 : decode cX7_device 142 = .ok (.ireturn, 1) := by decide +kernel
theorem dX7_link_0 : decode cX7_link 0 = .ok (.aload_n 0, 1) := by decide +kernel
theorem dX7_link_1 : decode cX7_link 1 = .ok (.getfield 26, 3) := by decide +kernel
theorem dX7_link_4 : decode cX7_link 4 = .ok (.iload_n 1, 1) := by decide +kernel
theorem dX7_link_5 : decode cX7_link 5 = .ok (.iload_n 2, 1) := by decide +kernel
theorem dX7_link_6 : decode cX7_link 6 = .ok (.invokevirtual 96, 3) := by decide +kernel
theorem dX7_link_9 : decode cX7_link 9 = .ok (.ifCond .eq 15, 3) := by decide +kernel
theorem dX7_link_12 : decode cX7_link 12 = .ok (.aload_n 0, 1) := by decide +kernel
theorem dX7_link_13 : decode cX7_link 13 = .ok (.getfield 26, 3) := by decide +kernel
theorem dX7_link_16 : decode cX7_link 16 = .ok (.iload_n 1, 1) := by decide +kernel
theorem dX7_link_17 : decode cX7_link 17 = .ok (.iload_n 2, 1) := by decide +kernel
theorem dX7_link_18 : decode cX7_link 18 = .ok (.invokevirtual 114, 3) := by decide +kernel
theorem dX7_link_21 : decode cX7_link 21 = .ok (.goto 4, 3) := by decide +kernel
theorem dX7_link_24 : decode cX7_link 24 = .ok (.iconst (-1), 1) := by decide +kernel
theorem dX7_link_25 : decode cX7_link 25 = .ok (.ireturn, 1) := by decide +kernel
theorem dX7_zone_0 : decode cX7_zone 0 = .ok (.aload_n 0, 1) := by decide +kernel
theorem dX7_zone_1 : decode cX7_zone 1 = .ok (.getfield 26, 3) := by decide +kernel
theorem dX7_zone_4 : decode cX7_zone 4 = .ok (.iload_n 1, 1) := by decide +kernel
theorem dX7_zone_5 : decode cX7_zone 5 = .ok (.invokevirtual 124, 3) := by decide +kernel
theorem dX7_zone_8 : decode cX7_zone 8 = .ok (.ifCond .eq 12, 3) := by decide +kernel
theorem dX7_zone_11 : decode cX7_zone 11 = .ok (.iload_n 2, 1) := by decide +kernel
theorem dX7_zone_12 : decode cX7_zone 12 = .ok (.ifCond .lt 8, 3) := by decide +kernel
theorem dX7_zone_15 : decode cX7_zone 15 = .ok (.iload_n 2, 1) := by decide +kernel
theorem dX7_zone_16 : decode cX7_zone 16 = .ok (.iconst 4, 1) := by decide +kernel
theorem dX7_zone_17 : decode cX7_zone 17 = .ok (.if_icmp .lt 5, 3) := by decide +kernel
theorem dX7_zone_20 : decode cX7_zone 20 = .ok (.iconst (-1), 1) := by decide +kernel
theorem dX7_zone_21 : decode cX7_zone 21 = .ok (.ireturn, 1) := by decide +kernel
theorem dX7_zone_22 : decode cX7_zone 22 = .ok (.aload_n 0, 1) := by decide +kernel
theorem dX7_zone_23 : decode cX7_zone 23 = .ok (.getfield 26, 3) := by decide +kernel
theorem dX7_zone_26 : decode cX7_zone 26 = .ok (.iload_n 1, 1) := by decide +kernel
theorem dX7_zone_27 : decode cX7_zone 27 = .ok (.iload_n 2, 1) := by decide +kernel
theorem dX7_zone_28 : decode cX7_zone 28 = .ok (.invokevirtual 130, 3) := by decide +kernel
theorem dX7_zone_31 : decode cX7_zone 31 = .ok (.ireturn, 1) := by decide +kernel
theorem dX7_host_0 : decode cX7_host 0 = .ok (.aload_n 0, 1) := by decide +kernel
theorem dX7_host_1 : decode cX7_host 1 = .ok (.getfield 26, 3) := by decide +kernel
theorem dX7_host_4 : decode cX7_host 4 = .ok (.iload_n 1, 1) := by decide +kernel
theorem dX7_host_5 : decode cX7_host 5 = .ok (.invokevirtual 140, 3) := by decide +kernel
theorem dX7_host_8 : decode cX7_host 8 = .ok (.ifCond .ne 5, 3) := by decide +kernel
theorem dX7_host_11 : decode cX7_host 11 = .ok (.iconst (-1), 1) := by decide +kernel
theorem dX7_host_12 : decode cX7_host 12 = .ok (.ireturn, 1) := by decide +kernel
theorem dX7_host_13 : decode cX7_host 13 = .ok (.iload_n 2, 1) := by decide +kernel
theorem dX7_host_14 : decode cX7_host 14 = .ok (.tableswitch 69 0 3 #[30, 39, 51, 60], 30) := by decide +kernel
theorem dX7_host_44 : decode cX7_host 44 = .ok (.aload_n 0, 1) := by decide +kernel
theorem dX7_host_45 : decode cX7_host 45 = .ok (.getfield 26, 3) := by decide +kernel
theorem dX7_host_48 : decode cX7_host 48 = .ok (.iload_n 1, 1) := by decide +kernel
theorem dX7_host_49 : decode cX7_host 49 = .ok (.invokevirtual 143, 3) := by decide +kernel
theorem dX7_host_52 : decode cX7_host 52 = .ok (.ireturn, 1) := by decide +kernel
theorem dX7_host_53 : decode cX7_host 53 = .ok (.aload_n 0, 1) := by decide +kernel
theorem dX7_host_54 : decode cX7_host 54 = .ok (.getfield 26, 3) := by decide +kernel
theorem dX7_host_57 : decode cX7_host 57 = .ok (.invokevirtual 189, 3) := by decide +kernel
theorem dX7_host_60 : decode cX7_host 60 = .ok (.iload_n 1, 1) := by decide +kernel
theorem dX7_host_61 : decode cX7_host 61 = .ok (.invokestatic 192, 3) := by decide +kernel
theorem dX7_host_64 : decode cX7_host 64 = .ok (.ireturn, 1) := by decide +kernel
theorem dX7_host_65 : decode cX7_host 65 = .ok (.aload_n 0, 1) := by decide +kernel
theorem dX7_host_66 : decode cX7_host 66 = .ok (.getfield 26, 3) := by decide +kernel
theorem dX7_host_69 : decode cX7_host 69 = .ok (.iload_n 1, 1) := by decide +kernel
theorem dX7_host_70 : decode cX7_host 70 = .ok (.invokevirtual 196, 3) := by decide +kernel
theorem dX7_host_73 : decode cX7_host 73 = .ok (.ireturn, 1) := by decide +kernel
theorem dX7_host_74 : decode cX7_host 74 = .ok (.aload_n 0, 1) := by decide +kernel
theorem dX7_host_75 : decode cX7_host 75 = .ok (.getfield 26, 3) := by decide +kernel
theorem dX7_host_78 : decode cX7_host 78 = .ok (.iload_n 1, 1) := by decide +kernel
theorem dX7_host_79 : decode cX7_host 79 = .ok (.invokevirtual 199, 3) := by decide +kernel
theorem dX7_host_82 : decode cX7_host 82 = .ok (.ireturn, 1) := by decide +kernel
theorem dX7_host_83 : decode cX7_host 83 = .ok (.iconst (-1), 1) := by decide +kernel
theorem dX7_host_84 : decode cX7_host 84 = .ok (.ireturn, 1) := by decide +kernel
theorem dX7_would_0 : decode cX7_would 0 = .ok (.aload_n 0, 1) := by decide +kernel
theorem dX7_would_1 : decode cX7_would 1 = .ok (.getfield 26, 3) := by decide +kernel
theorem dX7_would_4 : decode cX7_would 4 = .ok (.iload_n 1, 1) := by decide +kernel
theorem dX7_would_5 : decode cX7_would 5 = .ok (.iload_n 2, 1) := by decide +kernel
theorem dX7_would_6 : decode cX7_would 6 = .ok (.invokevirtual 96, 3) := by decide +kernel
theorem dX7_would_9 : decode cX7_would 9 = .ok (.ifCond .ne 5, 3) := by decide +kernel
theorem dX7_would_12 : decode cX7_would 12 = .ok (.iconst (-1), 1) := by decide +kernel
theorem dX7_would_13 : decode cX7_would 13 = .ok (.ireturn, 1) := by decide +kernel
theorem dX7_would_14 : decode cX7_would 14 = .ok (.aload_n 0, 1) := by decide +kernel
theorem dX7_would_15 : decode cX7_would 15 = .ok (.getfield 26, 3) := by decide +kernel
theorem dX7_would_18 : decode cX7_would 18 = .ok (.iload_n 1, 1) := by decide +kernel
theorem dX7_would_19 : decode cX7_would 19 = .ok (.iload_n 2, 1) := by decide +kernel
theorem dX7_would_20 : decode cX7_would 20 = .ok (.invokevirtual 100, 3) := by decide +kernel
theorem dX7_would_23 : decode cX7_would 23 = .ok (.ifCond .eq 8, 3) := by decide +kernel
theorem dX7_would_26 : decode cX7_would 26 = .ok (.bipush (-2), 2) := by decide +kernel
theorem dX7_would_28 : decode cX7_would 28 = .ok (.goto 12, 3) := by decide +kernel
theorem dX7_would_31 : decode cX7_would 31 = .ok (.aload_n 0, 1) := by decide +kernel
theorem dX7_would_32 : decode cX7_would 32 = .ok (.getfield 26, 3) := by decide +kernel
theorem dX7_would_35 : decode cX7_would 35 = .ok (.iload_n 1, 1) := by decide +kernel
theorem dX7_would_36 : decode cX7_would 36 = .ok (.iload_n 2, 1) := by decide +kernel
theorem dX7_would_37 : decode cX7_would 37 = .ok (.invokevirtual 202, 3) := by decide +kernel
theorem dX7_would_40 : decode cX7_would 40 = .ok (.ireturn, 1) := by decide +kernel
theorem dX7_weakest_0 : decode cX7_weakest 0 = .ok (.iload_n 1, 1) := by decide +kernel
theorem dX7_weakest_1 : decode cX7_weakest 1 = .ok (.ifCond .lt 8, 3) := by decide +kernel
theorem dX7_weakest_4 : decode cX7_weakest 4 = .ok (.iload_n 1, 1) := by decide +kernel
theorem dX7_weakest_5 : decode cX7_weakest 5 = .ok (.iconst 1, 1) := by decide +kernel
theorem dX7_weakest_6 : decode cX7_weakest 6 = .ok (.if_icmp .le 5, 3) := by decide +kernel
theorem dX7_weakest_9 : decode cX7_weakest 9 = .ok (.iconst (-1), 1) := by decide +kernel
theorem dX7_weakest_10 : decode cX7_weakest 10 = .ok (.ireturn, 1) := by decide +kernel
theorem dX7_weakest_11 : decode cX7_weakest 11 = .ok (.aload_n 0, 1) := by decide +kernel
theorem dX7_weakest_12 : decode cX7_weakest 12 = .ok (.getfield 58, 3) := by decide +kernel
theorem dX7_weakest_15 : decode cX7_weakest 15 = .ok (.aload_n 0, 1) := by decide +kernel
theorem dX7_weakest_16 : decode cX7_weakest 16 = .ok (.getfield 26, 3) := by decide +kernel
theorem dX7_weakest_19 : decode cX7_weakest 19 = .ok (.invokevirtual 205, 3) := by decide +kernel
theorem dX7_weakest_22 : decode cX7_weakest 22 = .ok (.aload_n 0, 1) := by decide +kernel
theorem dX7_weakest_23 : decode cX7_weakest 23 = .ok (.getfield 58, 3) := by decide +kernel
theorem dX7_weakest_26 : decode cX7_weakest 26 = .ok (.invokevirtual 208, 3) := by decide +kernel
theorem dX7_weakest_29 : decode cX7_weakest 29 = .ok (.ifCond .ne 6, 3) := by decide +kernel
theorem dX7_weakest_32 : decode cX7_weakest 32 = .ok (.bipush (-9), 2) := by decide +kernel
theorem dX7_weakest_34 : decode cX7_weakest 34 = .ok (.ireturn, 1) := by decide +kernel
theorem dX7_weakest_35 : decode cX7_weakest 35 = .ok (.aload_n 0, 1) := by decide +kernel
theorem dX7_weakest_36 : decode cX7_weakest 36 = .ok (.getfield 26, 3) := by decide +kernel
theorem dX7_weakest_39 : decode cX7_weakest 39 = .ok (.invokevirtual 189, 3) := by decide +kernel
theorem dX7_weakest_42 : decode cX7_weakest 42 = .ok (.lstore_n 2, 1) := by decide +kernel
theorem dX7_weakest_43 : decode cX7_weakest 43 = .ok (.aload_n 0, 1) := by decide +kernel
theorem dX7_weakest_44 : decode cX7_weakest 44 = .ok (.getfield 58, 3) := by decide +kernel
theorem dX7_weakest_47 : decode cX7_weakest 47 = .ok (.lload_n 2, 1) := by decide +kernel
theorem dX7_weakest_48 : decode cX7_weakest 48 = .ok (.invokevirtual 209, 3) := by decide +kernel
theorem dX7_weakest_51 : decode cX7_weakest 51 = .ok (.istore 4, 2) := by decide +kernel
theorem dX7_weakest_53 : decode cX7_weakest 53 = .ok (.iload_n 1, 1) := by decide +kernel
theorem dX7_weakest_54 : decode cX7_weakest 54 = .ok (.ifCond .ne 15, 3) := by decide +kernel
theorem dX7_weakest_57 : decode cX7_weakest 57 = .ok (.aload_n 0, 1) := by decide +kernel
theorem dX7_weakest_58 : decode cX7_weakest 58 = .ok (.getfield 58, 3) := by decide +kernel
theorem dX7_weakest_61 : decode cX7_weakest 61 = .ok (.iload 4, 2) := by decide +kernel
theorem dX7_weakest_63 : decode cX7_weakest 63 = .ok (.invokevirtual 213, 3) := by decide +kernel
theorem dX7_weakest_66 : decode cX7_weakest 66 = .ok (.goto 13, 3) := by decide +kernel
theorem dX7_weakest_69 : decode cX7_weakest 69 = .ok (.aload_n 0, 1) := by decide +kernel
theorem dX7_weakest_70 : decode cX7_weakest 70 = .ok (.getfield 58, 3) := by decide +kernel
theorem dX7_weakest_73 : decode cX7_weakest 73 = .ok (.iload 4, 2) := by decide +kernel
theorem dX7_weakest_75 : decode cX7_weakest 75 = .ok (.lload_n 2, 1) := by decide +kernel
theorem dX7_weakest_76 : decode cX7_weakest 76 = .ok (.invokevirtual 216, 3) := by decide +kernel
theorem dX7_weakest_79 : decode cX7_weakest 79 = .ok (.ireturn, 1) := by decide +kernel
theorem dX7_sees_0 : decode cX7_sees 0 = .ok (.iload_n 1, 1) := by decide +kernel
theorem dX7_sees_1 : decode cX7_sees 1 = .ok (.ifCond .lt 33, 3) := by decide +kernel
theorem dX7_sees_4 : decode cX7_sees 4 = .ok (.iload_n 1, 1) := by decide +kernel
theorem dX7_sees_5 : decode cX7_sees 5 = .ok (.bipush 8, 2) := by decide +kernel
theorem dX7_sees_7 : decode cX7_sees 7 = .ok (.if_icmp .ge 27, 3) := by decide +kernel
theorem dX7_sees_10 : decode cX7_sees 10 = .ok (.iload_n 2, 1) := by decide +kernel
theorem dX7_sees_11 : decode cX7_sees 11 = .ok (.ifCond .lt 23, 3) := by decide +kernel
theorem dX7_sees_14 : decode cX7_sees 14 = .ok (.iload_n 2, 1) := by decide +kernel
theorem dX7_sees_15 : decode cX7_sees 15 = .ok (.bipush 8, 2) := by decide +kernel
theorem dX7_sees_17 : decode cX7_sees 17 = .ok (.if_icmp .ge 17, 3) := by decide +kernel
theorem dX7_sees_20 : decode cX7_sees 20 = .ok (.iload_n 1, 1) := by decide +kernel
theorem dX7_sees_21 : decode cX7_sees 21 = .ok (.iload_n 2, 1) := by decide +kernel
theorem dX7_sees_22 : decode cX7_sees 22 = .ok (.if_icmp .eq 12, 3) := by decide +kernel
theorem dX7_sees_25 : decode cX7_sees 25 = .ok (.iload_n 3, 1) := by decide +kernel
theorem dX7_sees_26 : decode cX7_sees 26 = .ok (.ifCond .lt 8, 3) := by decide +kernel
theorem dX7_sees_29 : decode cX7_sees 29 = .ok (.iload_n 3, 1) := by decide +kernel
theorem dX7_sees_30 : decode cX7_sees 30 = .ok (.iconst 1, 1) := by decide +kernel
theorem dX7_sees_31 : decode cX7_sees 31 = .ok (.if_icmp .le 5, 3) := by decide +kernel
theorem dX7_sees_34 : decode cX7_sees 34 = .ok (.iconst (-1), 1) := by decide +kernel
theorem dX7_sees_35 : decode cX7_sees 35 = .ok (.ireturn, 1) := by decide +kernel
theorem dX7_sees_36 : decode cX7_sees 36 = .ok (.aload_n 0, 1) := by decide +kernel
theorem dX7_sees_37 : decode cX7_sees 37 = .ok (.getfield 51, 3) := by decide +kernel
theorem dX7_sees_40 : decode cX7_sees 40 = .ok (.iload_n 1, 1) := by decide +kernel
theorem dX7_sees_41 : decode cX7_sees 41 = .ok (.iload_n 2, 1) := by decide +kernel
theorem dX7_sees_42 : decode cX7_sees 42 = .ok (.iload_n 3, 1) := by decide +kernel
theorem dX7_sees_43 : decode cX7_sees 43 = .ok (.iconst 1, 1) := by decide +kernel
theorem dX7_sees_44 : decode cX7_sees 44 = .ok (.if_icmp .ne 7, 3) := by decide +kernel
theorem dX7_sees_47 : decode cX7_sees 47 = .ok (.iconst 1, 1) := by decide +kernel
theorem dX7_sees_48 : decode cX7_sees 48 = .ok (.goto 4, 3) := by decide +kernel
theorem dX7_sees_51 : decode cX7_sees 51 = .ok (.iconst 0, 1) := by decide +kernel
theorem dX7_sees_52 : decode cX7_sees 52 = .ok (.invokevirtual 220, 3) := by decide +kernel
theorem dX7_sees_55 : decode cX7_sees 55 = .ok (.ifCond .eq 13, 3) := by decide +kernel
theorem dX7_sees_58 : decode cX7_sees 58 = .ok (.aload_n 0, 1) := by decide +kernel
theorem dX7_sees_59 : decode cX7_sees 59 = .ok (.getfield 51, 3) := by decide +kernel
theorem dX7_sees_62 : decode cX7_sees 62 = .ok (.invokevirtual 223, 3) := by decide +kernel
theorem dX7_sees_65 : decode cX7_sees 65 = .ok (.goto 5, 3) := by decide +kernel
theorem dX7_sees_68 : decode cX7_sees 68 = .ok (.bipush (-3), 2) := by decide +kernel
theorem dX7_sees_70 : decode cX7_sees 70 = .ok (.ireturn, 1) := by decide +kernel
theorem dX7_forget_0 : decode cX7_forget 0 = .ok (.aload_n 0, 1) := by decide +kernel
theorem dX7_forget_1 : decode cX7_forget 1 = .ok (.getfield 51, 3) := by decide +kernel
theorem dX7_forget_4 : decode cX7_forget 4 = .ok (.invokevirtual 223, 3) := by decide +kernel
theorem dX7_forget_7 : decode cX7_forget 7 = .ok (.istore_n 1, 1) := by decide +kernel
theorem dX7_forget_8 : decode cX7_forget 8 = .ok (.aload_n 0, 1) := by decide +kernel
theorem dX7_forget_9 : decode cX7_forget 9 = .ok (.getfield 51, 3) := by decide +kernel
theorem dX7_forget_12 : decode cX7_forget 12 = .ok (.invokevirtual 88, 3) := by decide +kernel
theorem dX7_forget_15 : decode cX7_forget 15 = .ok (.iload_n 1, 1) := by decide +kernel
theorem dX7_forget_16 : decode cX7_forget 16 = .ok (.ireturn, 1) := by decide +kernel
theorem dX7_which_0 : decode cX7_which 0 = .ok (.iload_n 1, 1) := by decide +kernel
theorem dX7_which_1 : decode cX7_which 1 = .ok (.ifCond .lt 8, 3) := by decide +kernel
theorem dX7_which_4 : decode cX7_which 4 = .ok (.iload_n 1, 1) := by decide +kernel
theorem dX7_which_5 : decode cX7_which 5 = .ok (.iconst 1, 1) := by decide +kernel
theorem dX7_which_6 : decode cX7_which 6 = .ok (.if_icmp .le 5, 3) := by decide +kernel
theorem dX7_which_9 : decode cX7_which 9 = .ok (.iconst (-1), 1) := by decide +kernel
theorem dX7_which_10 : decode cX7_which 10 = .ok (.ireturn, 1) := by decide +kernel
theorem dX7_which_11 : decode cX7_which 11 = .ok (.aload_n 0, 1) := by decide +kernel
theorem dX7_which_12 : decode cX7_which 12 = .ok (.getfield 58, 3) := by decide +kernel
theorem dX7_which_15 : decode cX7_which 15 = .ok (.aload_n 0, 1) := by decide +kernel
theorem dX7_which_16 : decode cX7_which 16 = .ok (.getfield 26, 3) := by decide +kernel
theorem dX7_which_19 : decode cX7_which 19 = .ok (.invokevirtual 205, 3) := by decide +kernel
theorem dX7_which_22 : decode cX7_which 22 = .ok (.aload_n 0, 1) := by decide +kernel
theorem dX7_which_23 : decode cX7_which 23 = .ok (.getfield 58, 3) := by decide +kernel
theorem dX7_which_26 : decode cX7_which 26 = .ok (.aload_n 0, 1) := by decide +kernel
theorem dX7_which_27 : decode cX7_which 27 = .ok (.getfield 51, 3) := by decide +kernel
theorem dX7_which_30 : decode cX7_which 30 = .ok (.aload_n 0, 1) := by decide +kernel
theorem dX7_which_31 : decode cX7_which 31 = .ok (.getfield 26, 3) := by decide +kernel
theorem dX7_which_34 : decode cX7_which 34 = .ok (.invokevirtual 127, 3) := by decide +kernel
theorem dX7_which_37 : decode cX7_which 37 = .ok (.invokevirtual 224, 3) := by decide +kernel
theorem dX7_which_40 : decode cX7_which 40 = .ok (.iload_n 1, 1) := by decide +kernel
theorem dX7_which_41 : decode cX7_which 41 = .ok (.ifCond .ne 11, 3) := by decide +kernel
theorem dX7_which_44 : decode cX7_which 44 = .ok (.aload_n 0, 1) := by decide +kernel
theorem dX7_which_45 : decode cX7_which 45 = .ok (.getfield 58, 3) := by decide +kernel
theorem dX7_which_48 : decode cX7_which 48 = .ok (.invokevirtual 208, 3) := by decide +kernel
theorem dX7_which_51 : decode cX7_which 51 = .ok (.ireturn, 1) := by decide +kernel
theorem dX7_which_52 : decode cX7_which 52 = .ok (.aload_n 0, 1) := by decide +kernel
theorem dX7_which_53 : decode cX7_which 53 = .ok (.getfield 58, 3) := by decide +kernel
theorem dX7_which_56 : decode cX7_which 56 = .ok (.invokevirtual 208, 3) := by decide +kernel
theorem dX7_which_59 : decode cX7_which 59 = .ok (.ifCond .ne 8, 3) := by decide +kernel
theorem dX7_which_62 : decode cX7_which 62 = .ok (.bipush (-9), 2) := by decide +kernel
theorem dX7_which_64 : decode cX7_which 64 = .ok (.goto 11, 3) := by decide +kernel
theorem dX7_which_67 : decode cX7_which 67 = .ok (.aload_n 0, 1) := by decide +kernel
theorem dX7_which_68 : decode cX7_which 68 = .ok (.getfield 58, 3) := by decide +kernel
theorem dX7_which_71 : decode cX7_which 71 = .ok (.iconst 0, 1) := by decide +kernel
theorem dX7_which_72 : decode cX7_which 72 = .ok (.invokevirtual 213, 3) := by decide +kernel
theorem dX7_which_75 : decode cX7_which 75 = .ok (.ireturn, 1) := by decide +kernel
theorem dX7_ask_0 : decode cX7_ask 0 = .ok (.aload_n 0, 1) := by decide +kernel
theorem dX7_ask_1 : decode cX7_ask 1 = .ok (.getfield 58, 3) := by decide +kernel
theorem dX7_ask_4 : decode cX7_ask 4 = .ok (.aload_n 0, 1) := by decide +kernel
theorem dX7_ask_5 : decode cX7_ask 5 = .ok (.getfield 26, 3) := by decide +kernel
theorem dX7_ask_8 : decode cX7_ask 8 = .ok (.invokevirtual 205, 3) := by decide +kernel
theorem dX7_ask_11 : decode cX7_ask 11 = .ok (.aload_n 0, 1) := by decide +kernel
theorem dX7_ask_12 : decode cX7_ask 12 = .ok (.getfield 58, 3) := by decide +kernel
theorem dX7_ask_15 : decode cX7_ask 15 = .ok (.aload_n 0, 1) := by decide +kernel
theorem dX7_ask_16 : decode cX7_ask 16 = .ok (.getfield 51, 3) := by decide +kernel
theorem dX7_ask_19 : decode cX7_ask 19 = .ok (.aload_n 0, 1) := by decide +kernel
theorem dX7_ask_20 : decode cX7_ask 20 = .ok (.getfield 26, 3) := by decide +kernel
theorem dX7_ask_23 : decode cX7_ask 23 = .ok (.invokevirtual 127, 3) := by decide +kernel
theorem dX7_ask_26 : decode cX7_ask 26 = .ok (.invokevirtual 224, 3) := by decide +kernel
theorem dX7_ask_29 : decode cX7_ask 29 = .ok (.aload_n 0, 1) := by decide +kernel
theorem dX7_ask_30 : decode cX7_ask 30 = .ok (.getfield 58, 3) := by decide +kernel
theorem dX7_ask_33 : decode cX7_ask 33 = .ok (.invokevirtual 208, 3) := by decide +kernel
theorem dX7_ask_36 : decode cX7_ask 36 = .ok (.iconst 2, 1) := by decide +kernel
theorem dX7_ask_37 : decode cX7_ask 37 = .ok (.if_icmp .ge 8, 3) := by decide +kernel
theorem dX7_ask_40 : decode cX7_ask 40 = .ok (.bipush (-9), 2) := by decide +kernel
theorem dX7_ask_42 : decode cX7_ask 42 = .ok (.goto 17, 3) := by decide +kernel
theorem dX7_ask_45 : decode cX7_ask 45 = .ok (.aload_n 0, 1) := by decide +kernel
theorem dX7_ask_46 : decode cX7_ask 46 = .ok (.getfield 58, 3) := by decide +kernel
theorem dX7_ask_49 : decode cX7_ask 49 = .ok (.aload_n 0, 1) := by decide +kernel
theorem dX7_ask_50 : decode cX7_ask 50 = .ok (.getfield 26, 3) := by decide +kernel
theorem dX7_ask_53 : decode cX7_ask 53 = .ok (.invokevirtual 93, 3) := by decide +kernel
theorem dX7_ask_56 : decode cX7_ask 56 = .ok (.invokevirtual 228, 3) := by decide +kernel
theorem dX7_ask_59 : decode cX7_ask 59 = .ok (.ireturn, 1) := by decide +kernel
theorem dX7_keep_0 : decode cX7_keep 0 = .ok (.iload_n 1, 1) := by decide +kernel
theorem dX7_keep_1 : decode cX7_keep 1 = .ok (.ifCond .lt 8, 3) := by decide +kernel
theorem dX7_keep_4 : decode cX7_keep 4 = .ok (.iload_n 1, 1) := by decide +kernel
theorem dX7_keep_5 : decode cX7_keep 5 = .ok (.iconst 2, 1) := by decide +kernel
theorem dX7_keep_6 : decode cX7_keep 6 = .ok (.if_icmp .lt 5, 3) := by decide +kernel
theorem dX7_keep_9 : decode cX7_keep 9 = .ok (.iconst (-1), 1) := by decide +kernel
theorem dX7_keep_10 : decode cX7_keep 10 = .ok (.ireturn, 1) := by decide +kernel
theorem dX7_keep_11 : decode cX7_keep 11 = .ok (.aload_n 0, 1) := by decide +kernel
theorem dX7_keep_12 : decode cX7_keep 12 = .ok (.getfield 44, 3) := by decide +kernel
theorem dX7_keep_15 : decode cX7_keep 15 = .ok (.iload_n 1, 1) := by decide +kernel
theorem dX7_keep_16 : decode cX7_keep 16 = .ok (.aload_n 0, 1) := by decide +kernel
theorem dX7_keep_17 : decode cX7_keep 17 = .ok (.getfield 26, 3) := by decide +kernel
theorem dX7_keep_20 : decode cX7_keep 20 = .ok (.invokevirtual 231, 3) := by decide +kernel
theorem dX7_keep_23 : decode cX7_keep 23 = .ok (.aload_n 0, 1) := by decide +kernel
theorem dX7_keep_24 : decode cX7_keep 24 = .ok (.getfield 26, 3) := by decide +kernel
theorem dX7_keep_27 : decode cX7_keep 27 = .ok (.invokevirtual 121, 3) := by decide +kernel
theorem dX7_keep_30 : decode cX7_keep 30 = .ok (.ireturn, 1) := by decide +kernel
theorem dX7_back_0 : decode cX7_back 0 = .ok (.iload_n 1, 1) := by decide +kernel
theorem dX7_back_1 : decode cX7_back 1 = .ok (.ifCond .lt 8, 3) := by decide +kernel
theorem dX7_back_4 : decode cX7_back 4 = .ok (.iload_n 1, 1) := by decide +kernel
theorem dX7_back_5 : decode cX7_back 5 = .ok (.iconst 2, 1) := by decide +kernel
theorem dX7_back_6 : decode cX7_back 6 = .ok (.if_icmp .lt 5, 3) := by decide +kernel
theorem dX7_back_9 : decode cX7_back 9 = .ok (.iconst (-1), 1) := by decide +kernel
theorem dX7_back_10 : decode cX7_back 10 = .ok (.ireturn, 1) := by decide +kernel
theorem dX7_back_11 : decode cX7_back 11 = .ok (.aload_n 0, 1) := by decide +kernel
theorem dX7_back_12 : decode cX7_back 12 = .ok (.getfield 44, 3) := by decide +kernel
theorem dX7_back_15 : decode cX7_back 15 = .ok (.iload_n 1, 1) := by decide +kernel
theorem dX7_back_16 : decode cX7_back 16 = .ok (.invokevirtual 235, 3) := by decide +kernel
theorem dX7_back_19 : decode cX7_back 19 = .ok (.ifCond .ne 6, 3) := by decide +kernel
theorem dX7_back_22 : decode cX7_back 22 = .ok (.bipush (-2), 2) := by decide +kernel
theorem dX7_back_24 : decode cX7_back 24 = .ok (.ireturn, 1) := by decide +kernel
theorem dX7_back_25 : decode cX7_back 25 = .ok (.aload_n 0, 1) := by decide +kernel
theorem dX7_back_26 : decode cX7_back 26 = .ok (.getfield 44, 3) := by decide +kernel
theorem dX7_back_29 : decode cX7_back 29 = .ok (.iload_n 1, 1) := by decide +kernel
theorem dX7_back_30 : decode cX7_back 30 = .ok (.aload_n 0, 1) := by decide +kernel
theorem dX7_back_31 : decode cX7_back 31 = .ok (.getfield 26, 3) := by decide +kernel
theorem dX7_back_34 : decode cX7_back 34 = .ok (.invokevirtual 238, 3) := by decide +kernel
theorem dX7_back_37 : decode cX7_back 37 = .ok (.aload_n 0, 1) := by decide +kernel
theorem dX7_back_38 : decode cX7_back 38 = .ok (.getfield 37, 3) := by decide +kernel
theorem dX7_back_41 : decode cX7_back 41 = .ok (.invokevirtual 240, 3) := by decide +kernel
theorem dX7_back_44 : decode cX7_back 44 = .ok (.aload_n 0, 1) := by decide +kernel
theorem dX7_back_45 : decode cX7_back 45 = .ok (.getfield 26, 3) := by decide +kernel
theorem dX7_back_48 : decode cX7_back 48 = .ok (.invokevirtual 121, 3) := by decide +kernel
theorem dX7_back_51 : decode cX7_back 51 = .ok (.ireturn, 1) := by decide +kernel
theorem dX7_count_0 : decode cX7_count 0 = .ok (.iload_n 1, 1) := by decide +kernel
theorem dX7_count_1 : decode cX7_count 1 = .ok (.tableswitch 160 0 10 #[59, 67, 75, 83, 92, 101, 117, 125, 136, 144, 152], 59) := by decide +kernel
theorem dX7_count_60 : decode cX7_count 60 = .ok (.aload_n 0, 1) := by decide +kernel
theorem dX7_count_61 : decode cX7_count 61 = .ok (.getfield 26, 3) := by decide +kernel
theorem dX7_count_64 : decode cX7_count 64 = .ok (.invokevirtual 90, 3) := by decide +kernel
theorem dX7_count_67 : decode cX7_count 67 = .ok (.ireturn, 1) := by decide +kernel
theorem dX7_count_68 : decode cX7_count 68 = .ok (.aload_n 0, 1) := by decide +kernel
theorem dX7_count_69 : decode cX7_count 69 = .ok (.getfield 26, 3) := by decide +kernel
theorem dX7_count_72 : decode cX7_count 72 = .ok (.invokevirtual 93, 3) := by decide +kernel
theorem dX7_count_75 : decode cX7_count 75 = .ok (.ireturn, 1) := by decide +kernel
theorem dX7_count_76 : decode cX7_count 76 = .ok (.aload_n 0, 1) := by decide +kernel
theorem dX7_count_77 : decode cX7_count 77 = .ok (.getfield 26, 3) := by decide +kernel
theorem dX7_count_80 : decode cX7_count 80 = .ok (.invokevirtual 121, 3) := by decide +kernel
theorem dX7_count_83 : decode cX7_count 83 = .ok (.ireturn, 1) := by decide +kernel
theorem dX7_count_84 : decode cX7_count 84 = .ok (.aload_n 0, 1) := by decide +kernel
theorem dX7_count_85 : decode cX7_count 85 = .ok (.getfield 26, 3) := by decide +kernel
theorem dX7_count_88 : decode cX7_count 88 = .ok (.iconst 1, 1) := by decide +kernel
theorem dX7_count_89 : decode cX7_count 89 = .ok (.invokevirtual 241, 3) := by decide +kernel
theorem dX7_count_92 : decode cX7_count 92 = .ok (.ireturn, 1) := by decide +kernel
theorem dX7_count_93 : decode cX7_count 93 = .ok (.aload_n 0, 1) := by decide +kernel
theorem dX7_count_94 : decode cX7_count 94 = .ok (.getfield 26, 3) := by decide +kernel
theorem dX7_count_97 : decode cX7_count 97 = .ok (.iconst 2, 1) := by decide +kernel
theorem dX7_count_98 : decode cX7_count 98 = .ok (.invokevirtual 241, 3) := by decide +kernel
theorem dX7_count_101 : decode cX7_count 101 = .ok (.ireturn, 1) := by decide +kernel
theorem dX7_count_102 : decode cX7_count 102 = .ok (.aload_n 0, 1) := by decide +kernel
theorem dX7_count_103 : decode cX7_count 103 = .ok (.getfield 26, 3) := by decide +kernel
theorem dX7_count_106 : decode cX7_count 106 = .ok (.invokevirtual 159, 3) := by decide +kernel
theorem dX7_count_109 : decode cX7_count 109 = .ok (.ifCond .eq 7, 3) := by decide +kernel
theorem dX7_count_112 : decode cX7_count 112 = .ok (.iconst 1, 1) := by decide +kernel
theorem dX7_count_113 : decode cX7_count 113 = .ok (.goto 4, 3) := by decide +kernel
theorem dX7_count_116 : decode cX7_count 116 = .ok (.iconst 0, 1) := by decide +kernel
theorem dX7_count_117 : decode cX7_count 117 = .ok (.ireturn, 1) := by decide +kernel
theorem dX7_count_118 : decode cX7_count 118 = .ok (.aload_n 0, 1) := by decide +kernel
theorem dX7_count_119 : decode cX7_count 119 = .ok (.getfield 26, 3) := by decide +kernel
theorem dX7_count_122 : decode cX7_count 122 = .ok (.invokevirtual 244, 3) := by decide +kernel
theorem dX7_count_125 : decode cX7_count 125 = .ok (.ireturn, 1) := by decide +kernel
theorem dX7_count_126 : decode cX7_count 126 = .ok (.aload_n 0, 1) := by decide +kernel
theorem dX7_count_127 : decode cX7_count 127 = .ok (.getfield 26, 3) := by decide +kernel
theorem dX7_count_130 : decode cX7_count 130 = .ok (.invokevirtual 189, 3) := by decide +kernel
theorem dX7_count_133 : decode cX7_count 133 = .ok (.invokestatic 247, 3) := by decide +kernel
theorem dX7_count_136 : decode cX7_count 136 = .ok (.ireturn, 1) := by decide +kernel
theorem dX7_count_137 : decode cX7_count 137 = .ok (.aload_n 0, 1) := by decide +kernel
theorem dX7_count_138 : decode cX7_count 138 = .ok (.getfield 51, 3) := by decide +kernel
theorem dX7_count_141 : decode cX7_count 141 = .ok (.invokevirtual 223, 3) := by decide +kernel
theorem dX7_count_144 : decode cX7_count 144 = .ok (.ireturn, 1) := by decide +kernel
theorem dX7_count_145 : decode cX7_count 145 = .ok (.aload_n 0, 1) := by decide +kernel
theorem dX7_count_146 : decode cX7_count 146 = .ok (.getfield 12, 3) := by decide +kernel
theorem dX7_count_149 : decode cX7_count 149 = .ok (.invokevirtual 66, 3) := by decide +kernel
theorem dX7_count_152 : decode cX7_count 152 = .ok (.ireturn, 1) := by decide +kernel
theorem dX7_count_153 : decode cX7_count 153 = .ok (.aload_n 0, 1) := by decide +kernel
theorem dX7_count_154 : decode cX7_count 154 = .ok (.getfield 37, 3) := by decide +kernel
theorem dX7_count_157 : decode cX7_count 157 = .ok (.invokevirtual 167, 3) := by decide +kernel
theorem dX7_count_160 : decode cX7_count 160 = .ok (.ireturn, 1) := by decide +kernel
theorem dX7_count_161 : decode cX7_count 161 = .ok (.iconst (-1), 1) := by decide +kernel
theorem dX7_count_162 : decode cX7_count 162 = .ok (.ireturn, 1) := by decide +kernel
theorem dX7_rememberView_0 : decode cX7_rememberView 0 = .ok (.aload_n 0, 1) := by decide +kernel
theorem dX7_rememberView_1 : decode cX7_rememberView 1 = .ok (.getfield 37, 3) := by decide +kernel
theorem dX7_rememberView_4 : decode cX7_rememberView 4 = .ok (.aload_n 0, 1) := by decide +kernel
theorem dX7_rememberView_5 : decode cX7_rememberView 5 = .ok (.getfield 26, 3) := by decide +kernel
theorem dX7_rememberView_8 : decode cX7_rememberView 8 = .ok (.invokevirtual 77, 3) := by decide +kernel
theorem dX7_rememberView_11 : decode cX7_rememberView 11 = .ok (.aload_n 0, 1) := by decide +kernel
theorem dX7_rememberView_12 : decode cX7_rememberView 12 = .ok (.getfield 26, 3) := by decide +kernel
theorem dX7_rememberView_15 : decode cX7_rememberView 15 = .ok (.invokevirtual 189, 3) := by decide +kernel
theorem dX7_rememberView_18 : decode cX7_rememberView 18 = .ok (.lreturn, 1) := by decide +kernel
theorem dX7_viewBit_0 : decode cX7_viewBit 0 = .ok (.lconst 1, 1) := by decide +kernel
theorem dX7_viewBit_1 : decode cX7_viewBit 1 = .ok (.bipush 8, 2) := by decide +kernel
theorem dX7_viewBit_3 : decode cX7_viewBit 3 = .ok (.iload_n 0, 1) := by decide +kernel
theorem dX7_viewBit_4 : decode cX7_viewBit 4 = .ok (.imul, 1) := by decide +kernel
theorem dX7_viewBit_5 : decode cX7_viewBit 5 = .ok (.iload_n 1, 1) := by decide +kernel
theorem dX7_viewBit_6 : decode cX7_viewBit 6 = .ok (.iadd, 1) := by decide +kernel
theorem dX7_viewBit_7 : decode cX7_viewBit 7 = .ok (.lshl, 1) := by decide +kernel
theorem dX7_viewBit_8 : decode cX7_viewBit 8 = .ok (.lreturn, 1) := by decide +kernel
theorem dX7_rowOf_0 : decode cX7_rowOf 0 = .ok (.lload_n 0, 1) := by decide +kernel
theorem dX7_rowOf_1 : decode cX7_rowOf 1 = .ok (.bipush 8, 2) := by decide +kernel
theorem dX7_rowOf_3 : decode cX7_rowOf 3 = .ok (.iload_n 2, 1) := by decide +kernel
theorem dX7_rowOf_4 : decode cX7_rowOf 4 = .ok (.imul, 1) := by decide +kernel
theorem dX7_rowOf_5 : decode cX7_rowOf 5 = .ok (.lushr, 1) := by decide +kernel
theorem dX7_rowOf_6 : decode cX7_rowOf 6 = .ok (.l2i, 1) := by decide +kernel
theorem dX7_rowOf_7 : decode cX7_rowOf 7 = .ok (.sipush 255, 3) := by decide +kernel
theorem dX7_rowOf_10 : decode cX7_rowOf 10 = .ok (.iand, 1) := by decide +kernel
theorem dX7_rowOf_11 : decode cX7_rowOf 11 = .ok (.ireturn, 1) := by decide +kernel
theorem dX7_twosOf_0 : decode cX7_twosOf 0 = .ok (.lload_n 0, 1) := by decide +kernel
theorem dX7_twosOf_1 : decode cX7_twosOf 1 = .ok (.invokestatic 250, 3) := by decide +kernel
theorem dX7_twosOf_4 : decode cX7_twosOf 4 = .ok (.iconst 2, 1) := by decide +kernel
theorem dX7_twosOf_5 : decode cX7_twosOf 5 = .ok (.idiv, 1) := by decide +kernel
theorem dX7_twosOf_6 : decode cX7_twosOf 6 = .ok (.ireturn, 1) := by decide +kernel
theorem dX7_has_0 : decode cX7_has 0 = .ok (.iload_n 0, 1) := by decide +kernel
theorem dX7_has_1 : decode cX7_has 1 = .ok (.iload_n 1, 1) := by decide +kernel
theorem dX7_has_2 : decode cX7_has 2 = .ok (.ishr, 1) := by decide +kernel
theorem dX7_has_3 : decode cX7_has 3 = .ok (.iconst 1, 1) := by decide +kernel
theorem dX7_has_4 : decode cX7_has 4 = .ok (.iand, 1) := by decide +kernel
theorem dX7_has_5 : decode cX7_has 5 = .ok (.ifCond .eq 7, 3) := by decide +kernel
theorem dX7_has_8 : decode cX7_has 8 = .ok (.iconst 1, 1) := by decide +kernel
theorem dX7_has_9 : decode cX7_has 9 = .ok (.goto 4, 3) := by decide +kernel
theorem dX7_has_12 : decode cX7_has 12 = .ok (.iconst 0, 1) := by decide +kernel
theorem dX7_has_13 : decode cX7_has 13 = .ok (.ireturn, 1) := by decide +kernel
