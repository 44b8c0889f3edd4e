theorem dX0_init_0 : decode cX0_init 0 = .ok (.aload_n 0, 1) := by decide +kernel
theorem dX0_init_1 : decode cX0_init 1 = .ok (.invokespecial 3, 3) := by decide +kernel
theorem dX0_init_4 : decode cX0_init 4 = .ok (.aload_n 0, 1) := by decide +kernel
theorem dX0_init_5 : decode cX0_init 5 = .ok (.iconst 2, 1) := by decide +kernel
theorem dX0_init_6 : decode cX0_init 6 = .ok (.anewarray 9, 3) := by decide +kernel
theorem dX0_init_9 : decode cX0_init 9 = .ok (.putfield 11, 3) := by decide +kernel
theorem dX0_init_12 : decode cX0_init 12 = .ok (.iconst 0, 1) := by decide +kernel
theorem dX0_init_13 : decode cX0_init 13 = .ok (.istore_n 1, 1) := by decide +kernel
theorem dX0_init_14 : decode cX0_init 14 = .ok (.iload_n 1, 1) := by decide +kernel
theorem dX0_init_15 : decode cX0_init 15 = .ok (.iconst 2, 1) := by decide +kernel
theorem dX0_init_16 : decode cX0_init 16 = .ok (.if_icmp .ge 22, 3) := by decide +kernel
theorem dX0_init_19 : decode cX0_init 19 = .ok (.aload_n 0, 1) := by decide +kernel
theorem dX0_init_20 : decode cX0_init 20 = .ok (.getfield 11, 3) := by decide +kernel
theorem dX0_init_23 : decode cX0_init 23 = .ok (.iload_n 1, 1) := by decide +kernel
theorem dX0_init_24 : decode cX0_init 24 = .ok (.new 9, 3) := by decide +kernel
theorem dX0_init_27 : decode cX0_init 27 = .ok (.dup, 1) := by decide +kernel
theorem dX0_init_28 : decode cX0_init 28 = .ok (.invokespecial 17, 3) := by decide +kernel
theorem dX0_init_31 : decode cX0_init 31 = .ok (.aastore, 1) := by decide +kernel
theorem dX0_init_32 : decode cX0_init 32 = .ok (.iinc 1 1, 3) := by decide +kernel
theorem dX0_init_35 : decode cX0_init 35 = .ok (.goto (-21), 3) := by decide +kernel
theorem dX0_init_38 : decode cX0_init 38 = .ok (.return_, 1) := by decide +kernel
theorem dX0_empty_0 : decode cX0_empty 0 = .ok (.aload_n 0, 1) := by decide +kernel
theorem dX0_empty_1 : decode cX0_empty 1 = .ok (.iconst 0, 1) := by decide +kernel
theorem dX0_empty_2 : decode cX0_empty 2 = .ok (.putfield 18, 3) := by decide +kernel
theorem dX0_empty_5 : decode cX0_empty 5 = .ok (.return_, 1) := by decide +kernel
theorem dX0_holds_0 : decode cX0_holds 0 = .ok (.iload_n 1, 1) := by decide +kernel
theorem dX0_holds_1 : decode cX0_holds 1 = .ok (.ifCond .lt 23, 3) := by decide +kernel
theorem dX0_holds_4 : decode cX0_holds 4 = .ok (.iload_n 1, 1) := by decide +kernel
theorem dX0_holds_5 : decode cX0_holds 5 = .ok (.iconst 2, 1) := by decide +kernel
theorem dX0_holds_6 : decode cX0_holds 6 = .ok (.if_icmp .ge 18, 3) := by decide +kernel
theorem dX0_holds_9 : decode cX0_holds 9 = .ok (.aload_n 0, 1) := by decide +kernel
theorem dX0_holds_10 : decode cX0_holds 10 = .ok (.getfield 18, 3) := by decide +kernel
theorem dX0_holds_13 : decode cX0_holds 13 = .ok (.iload_n 1, 1) := by decide +kernel
theorem dX0_holds_14 : decode cX0_holds 14 = .ok (.invokestatic 22, 3) := by decide +kernel
theorem dX0_holds_17 : decode cX0_holds 17 = .ok (.ifCond .eq 7, 3) := by decide +kernel
theorem dX0_holds_20 : decode cX0_holds 20 = .ok (.iconst 1, 1) := by decide +kernel
theorem dX0_holds_21 : decode cX0_holds 21 = .ok (.goto 4, 3) := by decide +kernel
theorem dX0_holds_24 : decode cX0_holds 24 = .ok (.iconst 0, 1) := by decide +kernel
theorem dX0_holds_25 : decode cX0_holds 25 = .ok (.ireturn, 1) := by decide +kernel
theorem dX0_store_0 : decode cX0_store 0 = .ok (.iload_n 1, 1) := by decide +kernel
theorem dX0_store_1 : decode cX0_store 1 = .ok (.ifCond .lt 30, 3) := by decide +kernel
theorem dX0_store_4 : decode cX0_store 4 = .ok (.iload_n 1, 1) := by decide +kernel
theorem dX0_store_5 : decode cX0_store 5 = .ok (.iconst 2, 1) := by decide +kernel
theorem dX0_store_6 : decode cX0_store 6 = .ok (.if_icmp .ge 25, 3) := by decide +kernel
theorem dX0_store_9 : decode cX0_store 9 = .ok (.aload_n 0, 1) := by decide +kernel
theorem dX0_store_10 : decode cX0_store 10 = .ok (.getfield 11, 3) := by decide +kernel
theorem dX0_store_13 : decode cX0_store 13 = .ok (.iload_n 1, 1) := by decide +kernel
theorem dX0_store_14 : decode cX0_store 14 = .ok (.aaload, 1) := by decide +kernel
theorem dX0_store_15 : decode cX0_store 15 = .ok (.aload_n 2, 1) := by decide +kernel
theorem dX0_store_16 : decode cX0_store 16 = .ok (.invokevirtual 26, 3) := by decide +kernel
theorem dX0_store_19 : decode cX0_store 19 = .ok (.aload_n 0, 1) := by decide +kernel
theorem dX0_store_20 : decode cX0_store 20 = .ok (.dup, 1) := by decide +kernel
theorem dX0_store_21 : decode cX0_store 21 = .ok (.getfield 18, 3) := by decide +kernel
theorem dX0_store_24 : decode cX0_store 24 = .ok (.iconst 1, 1) := by decide +kernel
theorem dX0_store_25 : decode cX0_store 25 = .ok (.iload_n 1, 1) := by decide +kernel
theorem dX0_store_26 : decode cX0_store 26 = .ok (.ishl, 1) := by decide +kernel
theorem dX0_store_27 : decode cX0_store 27 = .ok (.ior, 1) := by decide +kernel
theorem dX0_store_28 : decode cX0_store 28 = .ok (.putfield 18, 3) := by decide +kernel
theorem dX0_store_31 : decode cX0_store 31 = .ok (.return_, 1) := by decide +kernel
theorem dX0_restoreTo_0 : decode cX0_restoreTo 0 = .ok (.aload_n 0, 1) := by decide +kernel
theorem dX0_restoreTo_1 : decode cX0_restoreTo 1 = .ok (.iload_n 1, 1) := by decide +kernel
theorem dX0_restoreTo_2 : decode cX0_restoreTo 2 = .ok (.invokevirtual 30, 3) := by decide +kernel
theorem dX0_restoreTo_5 : decode cX0_restoreTo 5 = .ok (.ifCond .eq 13, 3) := by decide +kernel
theorem dX0_restoreTo_8 : decode cX0_restoreTo 8 = .ok (.aload_n 2, 1) := by decide +kernel
theorem dX0_restoreTo_9 : decode cX0_restoreTo 9 = .ok (.aload_n 0, 1) := by decide +kernel
theorem dX0_restoreTo_10 : decode cX0_restoreTo 10 = .ok (.getfield 11, 3) := by decide +kernel
theorem dX0_restoreTo_13 : decode cX0_restoreTo 13 = .ok (.iload_n 1, 1) := by decide +kernel
theorem dX0_restoreTo_14 : decode cX0_restoreTo 14 = .ok (.aaload, 1) := by decide +kernel
theorem dX0_restoreTo_15 : decode cX0_restoreTo 15 = .ok (.invokevirtual 26, 3) := by decide +kernel
theorem dX0_restoreTo_18 : decode cX0_restoreTo 18 = .ok (.return_, 1) := by decide +kernel
theorem dX1_init_0 : decode cX1_init 0 = .ok (.aload_n 0, 1) := by decide +kernel
theorem dX1_init_1 : decode cX1_init 1 = .ok (.invokespecial 3, 3) := by decide +kernel
theorem dX1_init_4 : decode cX1_init 4 = .ok (.return_, 1) := by decide +kernel
theorem dX1_size_0 : decode cX1_size 0 = .ok (.aload_n 0, 1) := by decide +kernel
theorem dX1_size_1 : decode cX1_size 1 = .ok (.getfield 9, 3) := by decide +kernel
theorem dX1_size_4 : decode cX1_size 4 = .ok (.ireturn, 1) := by decide +kernel
theorem dX1_empty_0 : decode cX1_empty 0 = .ok (.aload_n 0, 1) := by decide +kernel
theorem dX1_empty_1 : decode cX1_empty 1 = .ok (.iconst 0, 1) := by decide +kernel
theorem dX1_empty_2 : decode cX1_empty 2 = .ok (.putfield 9, 3) := by decide +kernel
theorem dX1_empty_5 : decode cX1_empty 5 = .ok (.aload_n 0, 1) := by decide +kernel
theorem dX1_empty_6 : decode cX1_empty 6 = .ok (.iconst 0, 1) := by decide +kernel
theorem dX1_empty_7 : decode cX1_empty 7 = .ok (.putfield 15, 3) := by decide +kernel
theorem dX1_empty_10 : decode cX1_empty 10 = .ok (.aload_n 0, 1) := by decide +kernel
theorem dX1_empty_11 : decode cX1_empty 11 = .ok (.lconst 0, 1) := by decide +kernel
theorem dX1_empty_12 : decode cX1_empty 12 = .ok (.putfield 18, 3) := by decide +kernel
theorem dX1_empty_15 : decode cX1_empty 15 = .ok (.aload_n 0, 1) := by decide +kernel
theorem dX1_empty_16 : decode cX1_empty 16 = .ok (.lconst 0, 1) := by decide +kernel
theorem dX1_empty_17 : decode cX1_empty 17 = .ok (.putfield 22, 3) := by decide +kernel
theorem dX1_empty_20 : decode cX1_empty 20 = .ok (.return_, 1) := by decide +kernel
theorem dX1_add_0 : decode cX1_add 0 = .ok (.aload_n 0, 1) := by decide +kernel
theorem dX1_add_1 : decode cX1_add 1 = .ok (.getfield 9, 3) := by decide +kernel
theorem dX1_add_4 : decode cX1_add 4 = .ok (.bipush 6, 2) := by decide +kernel
theorem dX1_add_6 : decode cX1_add 6 = .ok (.if_icmp .lt 5, 3) := by decide +kernel
theorem dX1_add_9 : decode cX1_add 9 = .ok (.iconst 0, 1) := by decide +kernel
theorem dX1_add_10 : decode cX1_add 10 = .ok (.ireturn, 1) := by decide +kernel
theorem dX1_add_11 : decode cX1_add 11 = .ok (.iload_n 3, 1) := by decide +kernel
theorem dX1_add_12 : decode cX1_add 12 = .ok (.ifCond .eq 20, 3) := by decide +kernel
theorem dX1_add_15 : decode cX1_add 15 = .ok (.aload_n 0, 1) := by decide +kernel
theorem dX1_add_16 : decode cX1_add 16 = .ok (.dup, 1) := by decide +kernel
theorem dX1_add_17 : decode cX1_add 17 = .ok (.getfield 18, 3) := by decide +kernel
theorem dX1_add_20 : decode cX1_add 20 = .ok (.iload_n 1, 1) := by decide +kernel
theorem dX1_add_21 : decode cX1_add 21 = .ok (.iload_n 2, 1) := by decide +kernel
theorem dX1_add_22 : decode cX1_add 22 = .ok (.invokestatic 25, 3) := by decide +kernel
theorem dX1_add_25 : decode cX1_add 25 = .ok (.lor, 1) := by decide +kernel
theorem dX1_add_26 : decode cX1_add 26 = .ok (.putfield 18, 3) := by decide +kernel
theorem dX1_add_29 : decode cX1_add 29 = .ok (.goto 17, 3) := by decide +kernel
theorem dX1_add_32 : decode cX1_add 32 = .ok (.aload_n 0, 1) := by decide +kernel
theorem dX1_add_33 : decode cX1_add 33 = .ok (.dup, 1) := by decide +kernel
theorem dX1_add_34 : decode cX1_add 34 = .ok (.getfield 22, 3) := by decide +kernel
theorem dX1_add_37 : decode cX1_add 37 = .ok (.iload_n 1, 1) := by decide +kernel
theorem dX1_add_38 : decode cX1_add 38 = .ok (.iload_n 2, 1) := by decide +kernel
theorem dX1_add_39 : decode cX1_add 39 = .ok (.invokestatic 25, 3) := by decide +kernel
theorem dX1_add_42 : decode cX1_add 42 = .ok (.lor, 1) := by decide +kernel
theorem dX1_add_43 : decode cX1_add 43 = .ok (.putfield 22, 3) := by decide +kernel
theorem dX1_add_46 : decode cX1_add 46 = .ok (.aload_n 0, 1) := by decide +kernel
theorem dX1_add_47 : decode cX1_add 47 = .ok (.dup, 1) := by decide +kernel
theorem dX1_add_48 : decode cX1_add 48 = .ok (.getfield 15, 3) := by decide +kernel
theorem dX1_add_51 : decode cX1_add 51 = .ok (.iconst 1, 1) := by decide +kernel
theorem dX1_add_52 : decode cX1_add 52 = .ok (.iload_n 1, 1) := by decide +kernel
theorem dX1_add_53 : decode cX1_add 53 = .ok (.ishl, 1) := by decide +kernel
theorem dX1_add_54 : decode cX1_add 54 = .ok (.iconst 1, 1) := by decide +kernel
theorem dX1_add_55 : decode cX1_add 55 = .ok (.iload_n 2, 1) := by decide +kernel
theorem dX1_add_56 : decode cX1_add 56 = .ok (.ishl, 1) := by decide +kernel
theorem dX1_add_57 : decode cX1_add 57 = .ok (.ior, 1) := by decide +kernel
theorem dX1_add_58 : decode cX1_add 58 = .ok (.ior, 1) := by decide +kernel
theorem dX1_add_59 : decode cX1_add 59 = .ok (.putfield 15, 3) := by decide +kernel
theorem dX1_add_62 : decode cX1_add 62 = .ok (.aload_n 0, 1) := by decide +kernel
theorem dX1_add_63 : decode cX1_add 63 = .ok (.dup, 1) := by decide +kernel
theorem dX1_add_64 : decode cX1_add 64 = .ok (.getfield 9, 3) := by decide +kernel
theorem dX1_add_67 : decode cX1_add 67 = .ok (.iconst 1, 1) := by decide +kernel
theorem dX1_add_68 : decode cX1_add 68 = .ok (.iadd, 1) := by decide +kernel
theorem dX1_add_69 : decode cX1_add 69 = .ok (.putfield 9, 3) := by decide +kernel
theorem dX1_add_72 : decode cX1_add 72 = .ok (.iconst 1, 1) := by decide +kernel
theorem dX1_add_73 : decode cX1_add 73 = .ok (.ireturn, 1) := by decide +kernel
theorem dX1_fit_0 : decode cX1_fit 0 = .ok (.aload_n 0, 1) := by decide +kernel
theorem dX1_fit_1 : decode cX1_fit 1 = .ok (.getfield 15, 3) := by decide +kernel
theorem dX1_fit_4 : decode cX1_fit 4 = .ok (.iload_n 3, 1) := by decide +kernel
theorem dX1_fit_5 : decode cX1_fit 5 = .ok (.iconst (-1), 1) := by decide +kernel
theorem dX1_fit_6 : decode cX1_fit 6 = .ok (.ixor, 1) := by decide +kernel
theorem dX1_fit_7 : decode cX1_fit 7 = .ok (.iand, 1) := by decide +kernel
theorem dX1_fit_8 : decode cX1_fit 8 = .ok (.ifCond .ne 32, 3) := by decide +kernel
theorem dX1_fit_11 : decode cX1_fit 11 = .ok (.lload_n 1, 1) := by decide +kernel
theorem dX1_fit_12 : decode cX1_fit 12 = .ok (.aload_n 0, 1) := by decide +kernel
theorem dX1_fit_13 : decode cX1_fit 13 = .ok (.getfield 18, 3) := by decide +kernel
theorem dX1_fit_16 : decode cX1_fit 16 = .ok (.land, 1) := by decide +kernel
theorem dX1_fit_17 : decode cX1_fit 17 = .ok (.aload_n 0, 1) := by decide +kernel
theorem dX1_fit_18 : decode cX1_fit 18 = .ok (.getfield 18, 3) := by decide +kernel
theorem dX1_fit_21 : decode cX1_fit 21 = .ok (.lcmp, 1) := by decide +kernel
theorem dX1_fit_22 : decode cX1_fit 22 = .ok (.ifCond .ne 18, 3) := by decide +kernel
theorem dX1_fit_25 : decode cX1_fit 25 = .ok (.lload_n 1, 1) := by decide +kernel
theorem dX1_fit_26 : decode cX1_fit 26 = .ok (.aload_n 0, 1) := by decide +kernel
theorem dX1_fit_27 : decode cX1_fit 27 = .ok (.getfield 22, 3) := by decide +kernel
theorem dX1_fit_30 : decode cX1_fit 30 = .ok (.land, 1) := by decide +kernel
theorem dX1_fit_31 : decode cX1_fit 31 = .ok (.lconst 0, 1) := by decide +kernel
theorem dX1_fit_32 : decode cX1_fit 32 = .ok (.lcmp, 1) := by decide +kernel
theorem dX1_fit_33 : decode cX1_fit 33 = .ok (.ifCond .ne 7, 3) := by decide +kernel
theorem dX1_fit_36 : decode cX1_fit 36 = .ok (.iconst 1, 1) := by decide +kernel
theorem dX1_fit_37 : decode cX1_fit 37 = .ok (.goto 4, 3) := by decide +kernel
theorem dX1_fit_40 : decode cX1_fit 40 = .ok (.iconst 0, 1) := by decide +kernel
theorem dX1_fit_41 : decode cX1_fit 41 = .ok (.ireturn, 1) := by decide +kernel
theorem dX2_init_0 : decode cX2_init 0 = .ok (.aload_n 0, 1) := by decide +kernel
theorem dX2_init_1 : decode cX2_init 1 = .ok (.invokespecial 3, 3) := by decide +kernel
theorem dX2_init_4 : decode cX2_init 4 = .ok (.aload_n 0, 1) := by decide +kernel
theorem dX2_init_5 : decode cX2_init 5 = .ok (.iconst 5, 1) := by decide +kernel
theorem dX2_init_6 : decode cX2_init 6 = .ok (.anewarray 9, 3) := by decide +kernel
theorem dX2_init_9 : decode cX2_init 9 = .ok (.putfield 11, 3) := by decide +kernel
theorem dX2_init_12 : decode cX2_init 12 = .ok (.iconst 0, 1) := by decide +kernel
theorem dX2_init_13 : decode cX2_init 13 = .ok (.istore_n 1, 1) := by decide +kernel
theorem dX2_init_14 : decode cX2_init 14 = .ok (.iload_n 1, 1) := by decide +kernel
theorem dX2_init_15 : decode cX2_init 15 = .ok (.iconst 5, 1) := by decide +kernel
theorem dX2_init_16 : decode cX2_init 16 = .ok (.if_icmp .ge 22, 3) := by decide +kernel
theorem dX2_init_19 : decode cX2_init 19 = .ok (.aload_n 0, 1) := by decide +kernel
theorem dX2_init_20 : decode cX2_init 20 = .ok (.getfield 11, 3) := by decide +kernel
theorem dX2_init_23 : decode cX2_init 23 = .ok (.iload_n 1, 1) := by decide +kernel
theorem dX2_init_24 : decode cX2_init 24 = .ok (.new 9, 3) := by decide +kernel
theorem dX2_init_27 : decode cX2_init 27 = .ok (.dup, 1) := by decide +kernel
theorem dX2_init_28 : decode cX2_init 28 = .ok (.invokespecial 17, 3) := by decide +kernel
theorem dX2_init_31 : decode cX2_init 31 = .ok (.aastore, 1) := by decide +kernel
theorem dX2_init_32 : decode cX2_init 32 = .ok (.iinc 1 1, 3) := by decide +kernel
theorem dX2_init_35 : decode cX2_init 35 = .ok (.goto (-21), 3) := by decide +kernel
theorem dX2_init_38 : decode cX2_init 38 = .ok (.return_, 1) := by decide +kernel
theorem dX2_size_0 : decode cX2_size 0 = .ok (.aload_n 0, 1) := by decide +kernel
theorem dX2_size_1 : decode cX2_size 1 = .ok (.getfield 18, 3) := by decide +kernel
theorem dX2_size_4 : decode cX2_size 4 = .ok (.ireturn, 1) := by decide +kernel
theorem dX2_empty_0 : decode cX2_empty 0 = .ok (.aload_n 0, 1) := by decide +kernel
theorem dX2_empty_1 : decode cX2_empty 1 = .ok (.iconst 0, 1) := by decide +kernel
theorem dX2_empty_2 : decode cX2_empty 2 = .ok (.putfield 18, 3) := by decide +kernel
theorem dX2_empty_5 : decode cX2_empty 5 = .ok (.return_, 1) := by decide +kernel
theorem dX2_remember_0 : decode cX2_remember 0 = .ok (.aload_n 0, 1) := by decide +kernel
theorem dX2_remember_1 : decode cX2_remember 1 = .ok (.getfield 18, 3) := by decide +kernel
theorem dX2_remember_4 : decode cX2_remember 4 = .ok (.iconst 5, 1) := by decide +kernel
theorem dX2_remember_5 : decode cX2_remember 5 = .ok (.if_icmp .ne 25, 3) := by decide +kernel
theorem dX2_remember_8 : decode cX2_remember 8 = .ok (.aload_n 0, 1) := by decide +kernel
theorem dX2_remember_9 : decode cX2_remember 9 = .ok (.aload_n 0, 1) := by decide +kernel
theorem dX2_remember_10 : decode cX2_remember 10 = .ok (.getfield 22, 3) := by decide +kernel
theorem dX2_remember_13 : decode cX2_remember 13 = .ok (.iconst 1, 1) := by decide +kernel
theorem dX2_remember_14 : decode cX2_remember 14 = .ok (.iadd, 1) := by decide +kernel
theorem dX2_remember_15 : decode cX2_remember 15 = .ok (.iconst 5, 1) := by decide +kernel
theorem dX2_remember_16 : decode cX2_remember 16 = .ok (.irem, 1) := by decide +kernel
theorem dX2_remember_17 : decode cX2_remember 17 = .ok (.putfield 22, 3) := by decide +kernel
theorem dX2_remember_20 : decode cX2_remember 20 = .ok (.aload_n 0, 1) := by decide +kernel
theorem dX2_remember_21 : decode cX2_remember 21 = .ok (.dup, 1) := by decide +kernel
theorem dX2_remember_22 : decode cX2_remember 22 = .ok (.getfield 18, 3) := by decide +kernel
theorem dX2_remember_25 : decode cX2_remember 25 = .ok (.iconst 1, 1) := by decide +kernel
theorem dX2_remember_26 : decode cX2_remember 26 = .ok (.isub, 1) := by decide +kernel
theorem dX2_remember_27 : decode cX2_remember 27 = .ok (.putfield 18, 3) := by decide +kernel
theorem dX2_remember_30 : decode cX2_remember 30 = .ok (.aload_n 0, 1) := by decide +kernel
theorem dX2_remember_31 : decode cX2_remember 31 = .ok (.getfield 11, 3) := by decide +kernel
theorem dX2_remember_34 : decode cX2_remember 34 = .ok (.aload_n 0, 1) := by decide +kernel
theorem dX2_remember_35 : decode cX2_remember 35 = .ok (.getfield 22, 3) := by decide +kernel
theorem dX2_remember_38 : decode cX2_remember 38 = .ok (.aload_n 0, 1) := by decide +kernel
theorem dX2_remember_39 : decode cX2_remember 39 = .ok (.getfield 18, 3) := by decide +kernel
theorem dX2_remember_42 : decode cX2_remember 42 = .ok (.iadd, 1) := by decide +kernel
theorem dX2_remember_43 : decode cX2_remember 43 = .ok (.iconst 5, 1) := by decide +kernel
theorem dX2_remember_44 : decode cX2_remember 44 = .ok (.irem, 1) := by decide +kernel
theorem dX2_remember_45 : decode cX2_remember 45 = .ok (.aaload, 1) := by decide +kernel
theorem dX2_remember_46 : decode cX2_remember 46 = .ok (.aload_n 1, 1) := by decide +kernel
theorem dX2_remember_47 : decode cX2_remember 47 = .ok (.invokevirtual 25, 3) := by decide +kernel
theorem dX2_remember_50 : decode cX2_remember 50 = .ok (.aload_n 0, 1) := by decide +kernel
theorem dX2_remember_51 : decode cX2_remember 51 = .ok (.dup, 1) := by decide +kernel
theorem dX2_remember_52 : decode cX2_remember 52 = .ok (.getfield 18, 3) := by decide +kernel
theorem dX2_remember_55 : decode cX2_remember 55 = .ok (.iconst 1, 1) := by decide +kernel
theorem dX2_remember_56 : decode cX2_remember 56 = .ok (.iadd, 1) := by decide +kernel
theorem dX2_remember_57 : decode cX2_remember 57 = .ok (.putfield 18, 3) := by decide +kernel
theorem dX2_remember_60 : decode cX2_remember 60 = .ok (.return_, 1) := by decide +kernel
theorem dX2_restoreTo_0 : decode cX2_restoreTo 0 = .ok (.aload_n 0, 1) := by decide +kernel
theorem dX2_restoreTo_1 : decode cX2_restoreTo 1 = .ok (.getfield 18, 3) := by decide +kernel
theorem dX2_restoreTo_4 : decode cX2_restoreTo 4 = .ok (.ifCond .le 33, 3) := by decide +kernel
theorem dX2_restoreTo_7 : decode cX2_restoreTo 7 = .ok (.aload_n 0, 1) := by decide +kernel
theorem dX2_restoreTo_8 : decode cX2_restoreTo 8 = .ok (.dup, 1) := by decide +kernel
theorem dX2_restoreTo_9 : decode cX2_restoreTo 9 = .ok (.getfield 18, 3) := by decide +kernel
theorem dX2_restoreTo_12 : decode cX2_restoreTo 12 = .ok (.iconst 1, 1) := by decide +kernel
theorem dX2_restoreTo_13 : decode cX2_restoreTo 13 = .ok (.isub, 1) := by decide +kernel
theorem dX2_restoreTo_14 : decode cX2_restoreTo 14 = .ok (.putfield 18, 3) := by decide +kernel
theorem dX2_restoreTo_17 : decode cX2_restoreTo 17 = .ok (.aload_n 1, 1) := by decide +kernel
theorem dX2_restoreTo_18 : decode cX2_restoreTo 18 = .ok (.aload_n 0, 1) := by decide +kernel
theorem dX2_restoreTo_19 : decode cX2_restoreTo 19 = .ok (.getfield 11, 3) := by decide +kernel
theorem dX2_restoreTo_22 : decode cX2_restoreTo 22 = .ok (.aload_n 0, 1) := by decide +kernel
theorem dX2_restoreTo_23 : decode cX2_restoreTo 23 = .ok (.getfield 22, 3) := by decide +kernel
theorem dX2_restoreTo_26 : decode cX2_restoreTo 26 = .ok (.aload_n 0, 1) := by decide +kernel
theorem dX2_restoreTo_27 : decode cX2_restoreTo 27 = .ok (.getfield 18, 3) := by decide +kernel
theorem dX2_restoreTo_30 : decode cX2_restoreTo 30 = .ok (.iadd, 1) := by decide +kernel
theorem dX2_restoreTo_31 : decode cX2_restoreTo 31 = .ok (.iconst 5, 1) := by decide +kernel
theorem dX2_restoreTo_32 : decode cX2_restoreTo 32 = .ok (.irem, 1) := by decide +kernel
theorem dX2_restoreTo_33 : decode cX2_restoreTo 33 = .ok (.aaload, 1) := by decide +kernel
theorem dX2_restoreTo_34 : decode cX2_restoreTo 34 = .ok (.invokevirtual 25, 3) := by decide +kernel
theorem dX2_restoreTo_37 : decode cX2_restoreTo 37 = .ok (.return_, 1) := by decide +kernel
theorem dX4_init_0 : decode cX4_init 0 = .ok (.aload_n 0, 1) := by decide +kernel
theorem dX4_init_1 : decode cX4_init 1 = .ok (.invokespecial 3, 3) := by decide +kernel
theorem dX4_init_4 : decode cX4_init 4 = .ok (.aload_n 0, 1) := by decide +kernel
theorem dX4_init_5 : decode cX4_init 5 = .ok (.new 9, 3) := by decide +kernel
theorem dX4_init_8 : decode cX4_init 8 = .ok (.dup, 1) := by decide +kernel
theorem dX4_init_9 : decode cX4_init 9 = .ok (.invokespecial 11, 3) := by decide +kernel
theorem dX4_init_12 : decode cX4_init 12 = .ok (.putfield 12, 3) := by decide +kernel
theorem dX4_init_15 : decode cX4_init 15 = .ok (.return_, 1) := by decide +kernel
theorem dX4_told_0 : decode cX4_told 0 = .ok (.aload_n 0, 1) := by decide +kernel
theorem dX4_told_1 : decode cX4_told 1 = .ok (.getfield 12, 3) := by decide +kernel
theorem dX4_told_4 : decode cX4_told 4 = .ok (.areturn, 1) := by decide +kernel
theorem dX4_faultOf_0 : decode cX4_faultOf 0 = .ok (.aload_n 0, 1) := by decide +kernel
theorem dX4_faultOf_1 : decode cX4_faultOf 1 = .ok (.getfield 12, 3) := by decide +kernel
theorem dX4_faultOf_4 : decode cX4_faultOf 4 = .ok (.invokevirtual 18, 3) := by decide +kernel
theorem dX4_faultOf_7 : decode cX4_faultOf 7 = .ok (.aload_n 0, 1) := by decide +kernel
theorem dX4_faultOf_8 : decode cX4_faultOf 8 = .ok (.iconst 0, 1) := by decide +kernel
theorem dX4_faultOf_9 : decode cX4_faultOf 9 = .ok (.putfield 21, 3) := by decide +kernel
theorem dX4_faultOf_12 : decode cX4_faultOf 12 = .ok (.aload_n 1, 1) := by decide +kernel
theorem dX4_faultOf_13 : decode cX4_faultOf 13 = .ok (.iconst 0, 1) := by decide +kernel
theorem dX4_faultOf_14 : decode cX4_faultOf 14 = .ok (.invokevirtual 25, 3) := by decide +kernel
theorem dX4_faultOf_17 : decode cX4_faultOf 17 = .ok (.istore_n 2, 1) := by decide +kernel
theorem dX4_faultOf_18 : decode cX4_faultOf 18 = .ok (.iconst 0, 1) := by decide +kernel
theorem dX4_faultOf_19 : decode cX4_faultOf 19 = .ok (.istore_n 3, 1) := by decide +kernel
theorem dX4_faultOf_20 : decode cX4_faultOf 20 = .ok (.iload_n 3, 1) := by decide +kernel
theorem dX4_faultOf_21 : decode cX4_faultOf 21 = .ok (.bipush 100, 2) := by decide +kernel
theorem dX4_faultOf_23 : decode cX4_faultOf 23 = .ok (.if_icmp .ge 52, 3) := by decide +kernel
theorem dX4_faultOf_26 : decode cX4_faultOf 26 = .ok (.iload_n 2, 1) := by decide +kernel
theorem dX4_faultOf_27 : decode cX4_faultOf 27 = .ok (.aload_n 1, 1) := by decide +kernel
theorem dX4_faultOf_28 : decode cX4_faultOf 28 = .ok (.invokevirtual 31, 3) := by decide +kernel
theorem dX4_faultOf_31 : decode cX4_faultOf 31 = .ok (.if_icmp .ge 44, 3) := by decide +kernel
theorem dX4_faultOf_34 : decode cX4_faultOf 34 = .ok (.aload_n 1, 1) := by decide +kernel
theorem dX4_faultOf_35 : decode cX4_faultOf 35 = .ok (.iload_n 2, 1) := by decide +kernel
theorem dX4_faultOf_36 : decode cX4_faultOf 36 = .ok (.invokevirtual 35, 3) := by decide +kernel
theorem dX4_faultOf_39 : decode cX4_faultOf 39 = .ok (.istore 4, 2) := by decide +kernel
theorem dX4_faultOf_41 : decode cX4_faultOf 41 = .ok (.aload_n 0, 1) := by decide +kernel
theorem dX4_faultOf_42 : decode cX4_faultOf 42 = .ok (.aload_n 1, 1) := by decide +kernel
theorem dX4_faultOf_43 : decode cX4_faultOf 43 = .ok (.iload_n 2, 1) := by decide +kernel
theorem dX4_faultOf_44 : decode cX4_faultOf 44 = .ok (.invokevirtual 38, 3) := by decide +kernel
theorem dX4_faultOf_47 : decode cX4_faultOf 47 = .ok (.aload_n 1, 1) := by decide +kernel
theorem dX4_faultOf_48 : decode cX4_faultOf 48 = .ok (.iload_n 2, 1) := by decide +kernel
theorem dX4_faultOf_49 : decode cX4_faultOf 49 = .ok (.iload 4, 2) := by decide +kernel
theorem dX4_faultOf_51 : decode cX4_faultOf 51 = .ok (.invokevirtual 41, 3) := by decide +kernel
theorem dX4_faultOf_54 : decode cX4_faultOf 54 = .ok (.invokevirtual 45, 3) := by decide +kernel
theorem dX4_faultOf_57 : decode cX4_faultOf 57 = .ok (.ifCond .ne 5, 3) := by decide +kernel
theorem dX4_faultOf_60 : decode cX4_faultOf 60 = .ok (.iload_n 2, 1) := by decide +kernel
theorem dX4_faultOf_61 : decode cX4_faultOf 61 = .ok (.ireturn, 1) := by decide +kernel
theorem dX4_faultOf_62 : decode cX4_faultOf 62 = .ok (.aload_n 1, 1) := by decide +kernel
theorem dX4_faultOf_63 : decode cX4_faultOf 63 = .ok (.iload 4, 2) := by decide +kernel
theorem dX4_faultOf_65 : decode cX4_faultOf 65 = .ok (.invokevirtual 25, 3) := by decide +kernel
theorem dX4_faultOf_68 : decode cX4_faultOf 68 = .ok (.istore_n 2, 1) := by decide +kernel
theorem dX4_faultOf_69 : decode cX4_faultOf 69 = .ok (.iinc 3 1, 3) := by decide +kernel
theorem dX4_faultOf_72 : decode cX4_faultOf 72 = .ok (.goto (-52), 3) := by decide +kernel
theorem dX4_faultOf_75 : decode cX4_faultOf 75 = .ok (.aload_n 0, 1) := by decide +kernel
theorem dX4_faultOf_76 : decode cX4_faultOf 76 = .ok (.getfield 21, 3) := by decide +kernel
theorem dX4_faultOf_79 : decode cX4_faultOf 79 = .ok (.ifCond .ne 18, 3) := by decide +kernel
theorem dX4_faultOf_82 : decode cX4_faultOf 82 = .ok (.aload_n 0, 1) := by decide +kernel
theorem dX4_faultOf_83 : decode cX4_faultOf 83 = .ok (.getfield 12, 3) := by decide +kernel
theorem dX4_faultOf_86 : decode cX4_faultOf 86 = .ok (.invokevirtual 49, 3) := by decide +kernel
theorem dX4_faultOf_89 : decode cX4_faultOf 89 = .ok (.ifCond .le 8, 3) := by decide +kernel
theorem dX4_faultOf_92 : decode cX4_faultOf 92 = .ok (.bipush (-9), 2) := by decide +kernel
theorem dX4_faultOf_94 : decode cX4_faultOf 94 = .ok (.goto 7, 3) := by decide +kernel
theorem dX4_faultOf_97 : decode cX4_faultOf 97 = .ok (.aload_n 1, 1) := by decide +kernel
theorem dX4_faultOf_98 : decode cX4_faultOf 98 = .ok (.invokevirtual 31, 3) := by decide +kernel
theorem dX4_faultOf_101 : decode cX4_faultOf 101 = .ok (.ireturn, 1) := by decide +kernel
theorem dX4_takes_0 : decode cX4_takes 0 = .ok (.aload_n 0, 1) := by decide +kernel
theorem dX4_takes_1 : decode cX4_takes 1 = .ok (.getfield 21, 3) := by decide +kernel
theorem dX4_takes_4 : decode cX4_takes 4 = .ok (.tableswitch 67 0 4 #[36, 42, 48, 54, 60], 36) := by decide +kernel
theorem dX4_takes_40 : decode cX4_takes 40 = .ok (.aload_n 0, 1) := by decide +kernel
theorem dX4_takes_41 : decode cX4_takes 41 = .ok (.iload_n 1, 1) := by decide +kernel
theorem dX4_takes_42 : decode cX4_takes 42 = .ok (.invokevirtual 52, 3) := by decide +kernel
theorem dX4_takes_45 : decode cX4_takes 45 = .ok (.ireturn, 1) := by decide +kernel
theorem dX4_takes_46 : decode cX4_takes 46 = .ok (.aload_n 0, 1) := by decide +kernel
theorem dX4_takes_47 : decode cX4_takes 47 = .ok (.iload_n 2, 1) := by decide +kernel
theorem dX4_takes_48 : decode cX4_takes 48 = .ok (.invokevirtual 56, 3) := by decide +kernel
theorem dX4_takes_51 : decode cX4_takes 51 = .ok (.ireturn, 1) := by decide +kernel
theorem dX4_takes_52 : decode cX4_takes 52 = .ok (.aload_n 0, 1) := by decide +kernel
theorem dX4_takes_53 : decode cX4_takes 53 = .ok (.iload_n 2, 1) := by decide +kernel
theorem dX4_takes_54 : decode cX4_takes 54 = .ok (.invokevirtual 59, 3) := by decide +kernel
theorem dX4_takes_57 : decode cX4_takes 57 = .ok (.ireturn, 1) := by decide +kernel
theorem dX4_takes_58 : decode cX4_takes 58 = .ok (.aload_n 0, 1) := by decide +kernel
theorem dX4_takes_59 : decode cX4_takes 59 = .ok (.iload_n 2, 1) := by decide +kernel
theorem dX4_takes_60 : decode cX4_takes 60 = .ok (.invokevirtual 62, 3) := by decide +kernel
theorem dX4_takes_63 : decode cX4_takes 63 = .ok (.ireturn, 1) := by decide +kernel
theorem dX4_takes_64 : decode cX4_takes 64 = .ok (.aload_n 0, 1) := by decide +kernel
theorem dX4_takes_65 : decode cX4_takes 65 = .ok (.iload_n 1, 1) := by decide +kernel
theorem dX4_takes_66 : decode cX4_takes 66 = .ok (.iload_n 2, 1) := by decide +kernel
theorem dX4_takes_67 : decode cX4_takes 67 = .ok (.invokevirtual 65, 3) := by decide +kernel
theorem dX4_takes_70 : decode cX4_takes 70 = .ok (.ireturn, 1) := by decide +kernel
theorem dX4_takes_71 : decode cX4_takes 71 = .ok (.aload_n 0, 1) := by decide +kernel
theorem dX4_takes_72 : decode cX4_takes 72 = .ok (.iconst 0, 1) := by decide +kernel
theorem dX4_takes_73 : decode cX4_takes 73 = .ok (.putfield 21, 3) := by decide +kernel
theorem dX4_takes_76 : decode cX4_takes 76 = .ok (.iload_n 1, 1) := by decide +kernel
theorem dX4_takes_77 : decode cX4_takes 77 = .ok (.bipush 59, 2) := by decide +kernel
theorem dX4_takes_79 : decode cX4_takes 79 = .ok (.if_icmp .ne 7, 3) := by decide +kernel
theorem dX4_takes_82 : decode cX4_takes 82 = .ok (.iconst 1, 1) := by decide +kernel
theorem dX4_takes_83 : decode cX4_takes 83 = .ok (.goto 4, 3) := by decide +kernel
theorem dX4_takes_86 : decode cX4_takes 86 = .ok (.iconst 0, 1) := by decide +kernel
theorem dX4_takes_87 : decode cX4_takes 87 = .ok (.ireturn, 1) := by decide +kernel
theorem dX4_takesItem_0 : decode cX4_takesItem 0 = .ok (.iload_n 1, 1) := by decide +kernel
theorem dX4_takesItem_1 : decode cX4_takesItem 1 = .ok (.bipush 115, 2) := by decide +kernel
theorem dX4_takesItem_3 : decode cX4_takesItem 3 = .ok (.if_icmp .ne 36, 3) := by decide +kernel
theorem dX4_takesItem_6 : decode cX4_takesItem 6 = .ok (.aload_n 0, 1) := by decide +kernel
theorem dX4_takesItem_7 : decode cX4_takesItem 7 = .ok (.iconst 1, 1) := by decide +kernel
theorem dX4_takesItem_8 : decode cX4_takesItem 8 = .ok (.putfield 21, 3) := by decide +kernel
theorem dX4_takesItem_11 : decode cX4_takesItem 11 = .ok (.aload_n 0, 1) := by decide +kernel
theorem dX4_takesItem_12 : decode cX4_takesItem 12 = .ok (.getfield 12, 3) := by decide +kernel
theorem dX4_takesItem_15 : decode cX4_takesItem 15 = .ok (.invokevirtual 68, 3) := by decide +kernel
theorem dX4_takesItem_18 : decode cX4_takesItem 18 = .ok (.ifCond .ne 19, 3) := by decide +kernel
theorem dX4_takesItem_21 : decode cX4_takesItem 21 = .ok (.aload_n 0, 1) := by decide +kernel
theorem dX4_takesItem_22 : decode cX4_takesItem 22 = .ok (.getfield 12, 3) := by decide +kernel
theorem dX4_takesItem_25 : decode cX4_takesItem 25 = .ok (.invokevirtual 49, 3) := by decide +kernel
theorem dX4_takesItem_28 : decode cX4_takesItem 28 = .ok (.bipush 6, 2) := by decide +kernel
theorem dX4_takesItem_30 : decode cX4_takesItem 30 = .ok (.if_icmp .ge 7, 3) := by decide +kernel
theorem dX4_takesItem_33 : decode cX4_takesItem 33 = .ok (.iconst 1, 1) := by decide +kernel
theorem dX4_takesItem_34 : decode cX4_takesItem 34 = .ok (.goto 4, 3) := by decide +kernel
theorem dX4_takesItem_37 : decode cX4_takesItem 37 = .ok (.iconst 0, 1) := by decide +kernel
theorem dX4_takesItem_38 : decode cX4_takesItem 38 = .ok (.ireturn, 1) := by decide +kernel
theorem dX4_takesItem_39 : decode cX4_takesItem 39 = .ok (.aload_n 0, 1) := by decide +kernel
theorem dX4_takesItem_40 : decode cX4_takesItem 40 = .ok (.iconst 4, 1) := by decide +kernel
theorem dX4_takesItem_41 : decode cX4_takesItem 41 = .ok (.putfield 21, 3) := by decide +kernel
theorem dX4_takesItem_44 : decode cX4_takesItem 44 = .ok (.iload_n 1, 1) := by decide +kernel
theorem dX4_takesItem_45 : decode cX4_takesItem 45 = .ok (.bipush 104, 2) := by decide +kernel
theorem dX4_takesItem_47 : decode cX4_takesItem 47 = .ok (.if_icmp .ne 29, 3) := by decide +kernel
theorem dX4_takesItem_50 : decode cX4_takesItem 50 = .ok (.aload_n 0, 1) := by decide +kernel
theorem dX4_takesItem_51 : decode cX4_takesItem 51 = .ok (.getfield 12, 3) := by decide +kernel
theorem dX4_takesItem_54 : decode cX4_takesItem 54 = .ok (.invokevirtual 49, 3) := by decide +kernel
theorem dX4_takesItem_57 : decode cX4_takesItem 57 = .ok (.ifCond .le 19, 3) := by decide +kernel
theorem dX4_takesItem_60 : decode cX4_takesItem 60 = .ok (.aload_n 0, 1) := by decide +kernel
theorem dX4_takesItem_61 : decode cX4_takesItem 61 = .ok (.getfield 12, 3) := by decide +kernel
theorem dX4_takesItem_64 : decode cX4_takesItem 64 = .ok (.invokevirtual 68, 3) := by decide +kernel
theorem dX4_takesItem_67 : decode cX4_takesItem 67 = .ok (.bipush 8, 2) := by decide +kernel
theorem dX4_takesItem_69 : decode cX4_takesItem 69 = .ok (.if_icmp .ge 7, 3) := by decide +kernel
theorem dX4_takesItem_72 : decode cX4_takesItem 72 = .ok (.iconst 1, 1) := by decide +kernel
theorem dX4_takesItem_73 : decode cX4_takesItem 73 = .ok (.goto 4, 3) := by decide +kernel
theorem dX4_takesItem_76 : decode cX4_takesItem 76 = .ok (.iconst 0, 1) := by decide +kernel
theorem dX4_takesItem_77 : decode cX4_takesItem 77 = .ok (.ireturn, 1) := by decide +kernel
theorem dX4_takesPriority_0 : decode cX4_takesPriority 0 = .ok (.aload_n 0, 1) := by decide +kernel
theorem dX4_takesPriority_1 : decode cX4_takesPriority 1 = .ok (.iload_n 1, 1) := by decide +kernel
theorem dX4_takesPriority_2 : decode cX4_takesPriority 2 = .ok (.putfield 71, 3) := by decide +kernel
theorem dX4_takesPriority_5 : decode cX4_takesPriority 5 = .ok (.aload_n 0, 1) := by decide +kernel
theorem dX4_takesPriority_6 : decode cX4_takesPriority 6 = .ok (.iconst 2, 1) := by decide +kernel
theorem dX4_takesPriority_7 : decode cX4_takesPriority 7 = .ok (.putfield 21, 3) := by decide +kernel
theorem dX4_takesPriority_10 : decode cX4_takesPriority 10 = .ok (.iload_n 1, 1) := by decide +kernel
theorem dX4_takesPriority_11 : decode cX4_takesPriority 11 = .ok (.iconst 1, 1) := by decide +kernel
theorem dX4_takesPriority_12 : decode cX4_takesPriority 12 = .ok (.if_icmp .lt 13, 3) := by decide +kernel
theorem dX4_takesPriority_15 : decode cX4_takesPriority 15 = .ok (.iload_n 1, 1) := by decide +kernel
theorem dX4_takesPriority_16 : decode cX4_takesPriority 16 = .ok (.bipush 9, 2) := by decide +kernel
theorem dX4_takesPriority_18 : decode cX4_takesPriority 18 = .ok (.if_icmp .gt 7, 3) := by decide +kernel
theorem dX4_takesPriority_21 : decode cX4_takesPriority 21 = .ok (.iconst 1, 1) := by decide +kernel
theorem dX4_takesPriority_22 : decode cX4_takesPriority 22 = .ok (.goto 4, 3) := by decide +kernel
theorem dX4_takesPriority_25 : decode cX4_takesPriority 25 = .ok (.iconst 0, 1) := by decide +kernel
theorem dX4_takesPriority_26 : decode cX4_takesPriority 26 = .ok (.ireturn, 1) := by decide +kernel
theorem dX4_takesName_0 : decode cX4_takesName 0 = .ok (.aload_n 0, 1) := by decide +kernel
theorem dX4_takesName_1 : decode cX4_takesName 1 = .ok (.iload_n 1, 1) := by decide +kernel
theorem dX4_takesName_2 : decode cX4_takesName 2 = .ok (.putfield 74, 3) := by decide +kernel
theorem dX4_takesName_5 : decode cX4_takesName 5 = .ok (.aload_n 0, 1) := by decide +kernel
theorem dX4_takesName_6 : decode cX4_takesName 6 = .ok (.iconst 3, 1) := by decide +kernel
theorem dX4_takesName_7 : decode cX4_takesName 7 = .ok (.putfield 21, 3) := by decide +kernel
theorem dX4_takesName_10 : decode cX4_takesName 10 = .ok (.iload_n 1, 1) := by decide +kernel
theorem dX4_takesName_11 : decode cX4_takesName 11 = .ok (.ifCond .lt 18, 3) := by decide +kernel
theorem dX4_takesName_14 : decode cX4_takesName 14 = .ok (.aload_n 0, 1) := by decide +kernel
theorem dX4_takesName_15 : decode cX4_takesName 15 = .ok (.getfield 12, 3) := by decide +kernel
theorem dX4_takesName_18 : decode cX4_takesName 18 = .ok (.iload_n 1, 1) := by decide +kernel
theorem dX4_takesName_19 : decode cX4_takesName 19 = .ok (.invokevirtual 77, 3) := by decide +kernel
theorem dX4_takesName_22 : decode cX4_takesName 22 = .ok (.ifCond .ne 7, 3) := by decide +kernel
theorem dX4_takesName_25 : decode cX4_takesName 25 = .ok (.iconst 1, 1) := by decide +kernel
theorem dX4_takesName_26 : decode cX4_takesName 26 = .ok (.goto 4, 3) := by decide +kernel
theorem dX4_takesName_29 : decode cX4_takesName 29 = .ok (.iconst 0, 1) := by decide +kernel
theorem dX4_takesName_30 : decode cX4_takesName 30 = .ok (.ireturn, 1) := by decide +kernel
theorem dX4_takesWant_0 : decode cX4_takesWant 0 = .ok (.iload_n 1, 1) := by decide +kernel
theorem dX4_takesWant_1 : decode cX4_takesWant 1 = .ok (.ifCond .lt 9, 3) := by decide +kernel
theorem dX4_takesWant_4 : decode cX4_takesWant 4 = .ok (.iload_n 1, 1) := by decide +kernel
theorem dX4_takesWant_5 : decode cX4_takesWant 5 = .ok (.bipush 8, 2) := by decide +kernel
theorem dX4_takesWant_7 : decode cX4_takesWant 7 = .ok (.if_icmp .le 5, 3) := by decide +kernel
theorem dX4_takesWant_10 : decode cX4_takesWant 10 = .ok (.iconst 0, 1) := by decide +kernel
theorem dX4_takesWant_11 : decode cX4_takesWant 11 = .ok (.ireturn, 1) := by decide +kernel
theorem dX4_takesWant_12 : decode cX4_takesWant 12 = .ok (.aload_n 0, 1) := by decide +kernel
theorem dX4_takesWant_13 : decode cX4_takesWant 13 = .ok (.getfield 12, 3) := by decide +kernel
theorem dX4_takesWant_16 : decode cX4_takesWant 16 = .ok (.aload_n 0, 1) := by decide +kernel
theorem dX4_takesWant_17 : decode cX4_takesWant 17 = .ok (.getfield 71, 3) := by decide +kernel
theorem dX4_takesWant_20 : decode cX4_takesWant 20 = .ok (.aload_n 0, 1) := by decide +kernel
theorem dX4_takesWant_21 : decode cX4_takesWant 21 = .ok (.getfield 74, 3) := by decide +kernel
theorem dX4_takesWant_24 : decode cX4_takesWant 24 = .ok (.iload_n 1, 1) := by decide +kernel
theorem dX4_takesWant_25 : decode cX4_takesWant 25 = .ok (.invokevirtual 80, 3) := by decide +kernel
theorem dX4_takesWant_28 : decode cX4_takesWant 28 = .ok (.aload_n 0, 1) := by decide +kernel
theorem dX4_takesWant_29 : decode cX4_takesWant 29 = .ok (.iconst 5, 1) := by decide +kernel
theorem dX4_takesWant_30 : decode cX4_takesWant 30 = .ok (.putfield 21, 3) := by decide +kernel
theorem dX4_takesWant_33 : decode cX4_takesWant 33 = .ok (.iconst 1, 1) := by decide +kernel
theorem dX4_takesWant_34 : decode cX4_takesWant 34 = .ok (.ireturn, 1) := by decide +kernel
theorem dX4_takesPlace_0 : decode cX4_takesPlace 0 = .ok (.iload_n 1, 1) := by decide +kernel
theorem dX4_takesPlace_1 : decode cX4_takesPlace 1 = .ok (.bipush 45, 2) := by decide +kernel
theorem dX4_takesPlace_3 : decode cX4_takesPlace 3 = .ok (.if_icmp .eq 16, 3) := by decide +kernel
theorem dX4_takesPlace_6 : decode cX4_takesPlace 6 = .ok (.aload_n 0, 1) := by decide +kernel
theorem dX4_takesPlace_7 : decode cX4_takesPlace 7 = .ok (.getfield 12, 3) := by decide +kernel
theorem dX4_takesPlace_10 : decode cX4_takesPlace 10 = .ok (.iload_n 2, 1) := by decide +kernel
theorem dX4_takesPlace_11 : decode cX4_takesPlace 11 = .ok (.invokevirtual 84, 3) := by decide +kernel
theorem dX4_takesPlace_14 : decode cX4_takesPlace 14 = .ok (.ifCond .ne 5, 3) := by decide +kernel
theorem dX4_takesPlace_17 : decode cX4_takesPlace 17 = .ok (.iconst 0, 1) := by decide +kernel
theorem dX4_takesPlace_18 : decode cX4_takesPlace 18 = .ok (.ireturn, 1) := by decide +kernel
theorem dX4_takesPlace_19 : decode cX4_takesPlace 19 = .ok (.aload_n 0, 1) := by decide +kernel
theorem dX4_takesPlace_20 : decode cX4_takesPlace 20 = .ok (.getfield 12, 3) := by decide +kernel
theorem dX4_takesPlace_23 : decode cX4_takesPlace 23 = .ok (.iload_n 1, 1) := by decide +kernel
theorem dX4_takesPlace_24 : decode cX4_takesPlace 24 = .ok (.bipush 45, 2) := by decide +kernel
theorem dX4_takesPlace_26 : decode cX4_takesPlace 26 = .ok (.if_icmp .ne 8, 3) := by decide +kernel
theorem dX4_takesPlace_29 : decode cX4_takesPlace 29 = .ok (.bipush (-9), 2) := by decide +kernel
theorem dX4_takesPlace_31 : decode cX4_takesPlace 31 = .ok (.goto 4, 3) := by decide +kernel
theorem dX4_takesPlace_34 : decode cX4_takesPlace 34 = .ok (.iload_n 2, 1) := by decide +kernel
theorem dX4_takesPlace_35 : decode cX4_takesPlace 35 = .ok (.invokevirtual 87, 3) := by decide +kernel
theorem dX4_takesPlace_38 : decode cX4_takesPlace 38 = .ok (.aload_n 0, 1) := by decide +kernel
theorem dX4_takesPlace_39 : decode cX4_takesPlace 39 = .ok (.iconst 5, 1) := by decide +kernel
theorem dX4_takesPlace_40 : decode cX4_takesPlace 40 = .ok (.putfield 21, 3) := by decide +kernel
theorem dX4_takesPlace_43 : decode cX4_takesPlace 43 = .ok (.iconst 1, 1) := by decide +kernel
theorem dX4_takesPlace_44 : decode cX4_takesPlace 44 = .ok (.ireturn, 1) := by decide +kernel
theorem dX5_init_0 : decode cX5_init 0 = .ok (.aload_n 0, 1) := by decide +kernel
theorem dX5_init_1 : decode cX5_init 1 = .ok (.invokespecial 3, 3) := by decide +kernel
theorem dX5_init_4 : decode cX5_init 4 = .ok (.aload_n 0, 1) := by decide +kernel
theorem dX5_init_5 : decode cX5_init 5 = .ok (.bipush 100, 2) := by decide +kernel
theorem dX5_init_7 : decode cX5_init 7 = .ok (.newarray .int, 2) := by decide +kernel
theorem dX5_init_9 : decode cX5_init 9 = .ok (.putfield 9, 3) := by decide +kernel
theorem dX5_init_12 : decode cX5_init 12 = .ok (.return_, 1) := by decide +kernel
theorem dX5_add_0 : decode cX5_add 0 = .ok (.aload_n 0, 1) := by decide +kernel
theorem dX5_add_1 : decode cX5_add 1 = .ok (.getfield 15, 3) := by decide +kernel
theorem dX5_add_4 : decode cX5_add 4 = .ok (.bipush 100, 2) := by decide +kernel
theorem dX5_add_6 : decode cX5_add 6 = .ok (.if_icmp .lt 5, 3) := by decide +kernel
theorem dX5_add_9 : decode cX5_add 9 = .ok (.iconst 0, 1) := by decide +kernel
theorem dX5_add_10 : decode cX5_add 10 = .ok (.ireturn, 1) := by decide +kernel
theorem dX5_add_11 : decode cX5_add 11 = .ok (.aload_n 0, 1) := by decide +kernel
theorem dX5_add_12 : decode cX5_add 12 = .ok (.getfield 9, 3) := by decide +kernel
theorem dX5_add_15 : decode cX5_add 15 = .ok (.aload_n 0, 1) := by decide +kernel
theorem dX5_add_16 : decode cX5_add 16 = .ok (.getfield 15, 3) := by decide +kernel
theorem dX5_add_19 : decode cX5_add 19 = .ok (.iload_n 1, 1) := by decide +kernel
theorem dX5_add_20 : decode cX5_add 20 = .ok (.iastore, 1) := by decide +kernel
theorem dX5_add_21 : decode cX5_add 21 = .ok (.aload_n 0, 1) := by decide +kernel
theorem dX5_add_22 : decode cX5_add 22 = .ok (.dup, 1) := by decide +kernel
theorem dX5_add_23 : decode cX5_add 23 = .ok (.getfield 15, 3) := by decide +kernel
theorem dX5_add_26 : decode cX5_add 26 = .ok (.iconst 1, 1) := by decide +kernel
theorem dX5_add_27 : decode cX5_add 27 = .ok (.iadd, 1) := by decide +kernel
theorem dX5_add_28 : decode cX5_add 28 = .ok (.putfield 15, 3) := by decide +kernel
theorem dX5_add_31 : decode cX5_add 31 = .ok (.iconst 1, 1) := by decide +kernel
theorem dX5_add_32 : decode cX5_add 32 = .ok (.ireturn, 1) := by decide +kernel
theorem dX5_empty_0 : decode cX5_empty 0 = .ok (.aload_n 0, 1) := by decide +kernel
theorem dX5_empty_1 : decode cX5_empty 1 = .ok (.iconst 0, 1) := by decide +kernel
theorem dX5_empty_2 : decode cX5_empty 2 = .ok (.putfield 15, 3) := by decide +kernel
theorem dX5_empty_5 : decode cX5_empty 5 = .ok (.return_, 1) := by decide +kernel
theorem dX5_size_0 : decode cX5_size 0 = .ok (.aload_n 0, 1) := by decide +kernel
theorem dX5_size_1 : decode cX5_size 1 = .ok (.getfield 15, 3) := by decide +kernel
theorem dX5_size_4 : decode cX5_size 4 = .ok (.ireturn, 1) := by decide +kernel
theorem dX5_letterAt_0 : decode cX5_letterAt 0 = .ok (.iload_n 1, 1) := by decide +kernel
theorem dX5_letterAt_1 : decode cX5_letterAt 1 = .ok (.ifCond .lt 20, 3) := by decide +kernel
theorem dX5_letterAt_4 : decode cX5_letterAt 4 = .ok (.iload_n 1, 1) := by decide +kernel
theorem dX5_letterAt_5 : decode cX5_letterAt 5 = .ok (.aload_n 0, 1) := by decide +kernel
theorem dX5_letterAt_6 : decode cX5_letterAt 6 = .ok (.getfield 15, 3) := by decide +kernel
theorem dX5_letterAt_9 : decode cX5_letterAt 9 = .ok (.if_icmp .ge 12, 3) := by decide +kernel
theorem dX5_letterAt_12 : decode cX5_letterAt 12 = .ok (.aload_n 0, 1) := by decide +kernel
theorem dX5_letterAt_13 : decode cX5_letterAt 13 = .ok (.getfield 9, 3) := by decide +kernel
theorem dX5_letterAt_16 : decode cX5_letterAt 16 = .ok (.iload_n 1, 1) := by decide +kernel
theorem dX5_letterAt_17 : decode cX5_letterAt 17 = .ok (.iaload, 1) := by decide +kernel
theorem dX5_letterAt_18 : decode cX5_letterAt 18 = .ok (.goto 4, 3) := by decide +kernel
theorem dX5_letterAt_21 : decode cX5_letterAt 21 = .ok (.iconst (-1), 1) := by decide +kernel
theorem dX5_letterAt_22 : decode cX5_letterAt 22 = .ok (.ireturn, 1) := by decide +kernel
theorem dX5_isFigure_0 : decode cX5_isFigure 0 = .ok (.aload_n 0, 1) := by decide +kernel
theorem dX5_isFigure_1 : decode cX5_isFigure 1 = .ok (.iload_n 1, 1) := by decide +kernel
theorem dX5_isFigure_2 : decode cX5_isFigure 2 = .ok (.invokevirtual 19, 3) := by decide +kernel
theorem dX5_isFigure_5 : decode cX5_isFigure 5 = .ok (.bipush 48, 2) := by decide +kernel
theorem dX5_isFigure_7 : decode cX5_isFigure 7 = .ok (.if_icmp .lt 17, 3) := by decide +kernel
theorem dX5_isFigure_10 : decode cX5_isFigure 10 = .ok (.aload_n 0, 1) := by decide +kernel
theorem dX5_isFigure_11 : decode cX5_isFigure 11 = .ok (.iload_n 1, 1) := by decide +kernel
theorem dX5_isFigure_12 : decode cX5_isFigure 12 = .ok (.invokevirtual 19, 3) := by decide +kernel
theorem dX5_isFigure_15 : decode cX5_isFigure 15 = .ok (.bipush 57, 2) := by decide +kernel
theorem dX5_isFigure_17 : decode cX5_isFigure 17 = .ok (.if_icmp .gt 7, 3) := by decide +kernel
theorem dX5_isFigure_20 : decode cX5_isFigure 20 = .ok (.iconst 1, 1) := by decide +kernel
theorem dX5_isFigure_21 : decode cX5_isFigure 21 = .ok (.goto 4, 3) := by decide +kernel
theorem dX5_isFigure_24 : decode cX5_isFigure 24 = .ok (.iconst 0, 1) := by decide +kernel
theorem dX5_isFigure_25 : decode cX5_isFigure 25 = .ok (.ireturn, 1) := by decide +kernel
theorem dX5_skipBlanks_0 : decode cX5_skipBlanks 0 = .ok (.iload_n 1, 1) := by decide +kernel
theorem dX5_skipBlanks_1 : decode cX5_skipBlanks 1 = .ok (.istore_n 2, 1) := by decide +kernel
theorem dX5_skipBlanks_2 : decode cX5_skipBlanks 2 = .ok (.iload_n 2, 1) := by decide +kernel
theorem dX5_skipBlanks_3 : decode cX5_skipBlanks 3 = .ok (.aload_n 0, 1) := by decide +kernel
theorem dX5_skipBlanks_4 : decode cX5_skipBlanks 4 = .ok (.getfield 15, 3) := by decide +kernel
theorem dX5_skipBlanks_7 : decode cX5_skipBlanks 7 = .ok (.if_icmp .ge 19, 3) := by decide +kernel
theorem dX5_skipBlanks_10 : decode cX5_skipBlanks 10 = .ok (.aload_n 0, 1) := by decide +kernel
theorem dX5_skipBlanks_11 : decode cX5_skipBlanks 11 = .ok (.iload_n 2, 1) := by decide +kernel
theorem dX5_skipBlanks_12 : decode cX5_skipBlanks 12 = .ok (.invokevirtual 19, 3) := by decide +kernel
theorem dX5_skipBlanks_15 : decode cX5_skipBlanks 15 = .ok (.bipush 32, 2) := by decide +kernel
theorem dX5_skipBlanks_17 : decode cX5_skipBlanks 17 = .ok (.if_icmp .ne 9, 3) := by decide +kernel
theorem dX5_skipBlanks_20 : decode cX5_skipBlanks 20 = .ok (.iinc 2 1, 3) := by decide +kernel
theorem dX5_skipBlanks_23 : decode cX5_skipBlanks 23 = .ok (.goto (-21), 3) := by decide +kernel
theorem dX5_skipBlanks_26 : decode cX5_skipBlanks 26 = .ok (.iload_n 2, 1) := by decide +kernel
theorem dX5_skipBlanks_27 : decode cX5_skipBlanks 27 = .ok (.ireturn, 1) := by decide +kernel
theorem dX5_tokenEnd_0 : decode cX5_tokenEnd 0 = .ok (.iload_n 1, 1) := by decide +kernel
theorem dX5_tokenEnd_1 : decode cX5_tokenEnd 1 = .ok (.iconst 1, 1) := by decide +kernel
theorem dX5_tokenEnd_2 : decode cX5_tokenEnd 2 = .ok (.iadd, 1) := by decide +kernel
theorem dX5_tokenEnd_3 : decode cX5_tokenEnd 3 = .ok (.istore_n 2, 1) := by decide +kernel
theorem dX5_tokenEnd_4 : decode cX5_tokenEnd 4 = .ok (.aload_n 0, 1) := by decide +kernel
theorem dX5_tokenEnd_5 : decode cX5_tokenEnd 5 = .ok (.iload_n 1, 1) := by decide +kernel
theorem dX5_tokenEnd_6 : decode cX5_tokenEnd 6 = .ok (.invokevirtual 23, 3) := by decide +kernel
theorem dX5_tokenEnd_9 : decode cX5_tokenEnd 9 = .ok (.ifCond .eq 25, 3) := by decide +kernel
theorem dX5_tokenEnd_12 : decode cX5_tokenEnd 12 = .ok (.iload_n 2, 1) := by decide +kernel
theorem dX5_tokenEnd_13 : decode cX5_tokenEnd 13 = .ok (.aload_n 0, 1) := by decide +kernel
theorem dX5_tokenEnd_14 : decode cX5_tokenEnd 14 = .ok (.getfield 15, 3) := by decide +kernel
theorem dX5_tokenEnd_17 : decode cX5_tokenEnd 17 = .ok (.if_icmp .ge 17, 3) := by decide +kernel
theorem dX5_tokenEnd_20 : decode cX5_tokenEnd 20 = .ok (.aload_n 0, 1) := by decide +kernel
theorem dX5_tokenEnd_21 : decode cX5_tokenEnd 21 = .ok (.iload_n 2, 1) := by decide +kernel
theorem dX5_tokenEnd_22 : decode cX5_tokenEnd 22 = .ok (.invokevirtual 23, 3) := by decide +kernel
theorem dX5_tokenEnd_25 : decode cX5_tokenEnd 25 = .ok (.ifCond .eq 9, 3) := by decide +kernel
theorem dX5_tokenEnd_28 : decode cX5_tokenEnd 28 = .ok (.iinc 2 1, 3) := by decide +kernel
theorem dX5_tokenEnd_31 : decode cX5_tokenEnd 31 = .ok (.goto (-19), 3) := by decide +kernel
theorem dX5_tokenEnd_34 : decode cX5_tokenEnd 34 = .ok (.iload_n 2, 1) := by decide +kernel
theorem dX5_tokenEnd_35 : decode cX5_tokenEnd 35 = .ok (.ireturn, 1) := by decide +kernel
theorem dX5_numberAt_0 : decode cX5_numberAt 0 = .ok (.aload_n 0, 1) := by decide +kernel
theorem dX5_numberAt_1 : decode cX5_numberAt 1 = .ok (.iload_n 1, 1) := by decide +kernel
theorem dX5_numberAt_2 : decode cX5_numberAt 2 = .ok (.invokevirtual 23, 3) := by decide +kernel
theorem dX5_numberAt_5 : decode cX5_numberAt 5 = .ok (.ifCond .eq 10, 3) := by decide +kernel
theorem dX5_numberAt_8 : decode cX5_numberAt 8 = .ok (.iload_n 2, 1) := by decide +kernel
theorem dX5_numberAt_9 : decode cX5_numberAt 9 = .ok (.iload_n 1, 1) := by decide +kernel
theorem dX5_numberAt_10 : decode cX5_numberAt 10 = .ok (.isub, 1) := by decide +kernel
theorem dX5_numberAt_11 : decode cX5_numberAt 11 = .ok (.iconst 2, 1) := by decide +kernel
theorem dX5_numberAt_12 : decode cX5_numberAt 12 = .ok (.if_icmp .le 5, 3) := by decide +kernel
theorem dX5_numberAt_15 : decode cX5_numberAt 15 = .ok (.iconst (-1), 1) := by decide +kernel
theorem dX5_numberAt_16 : decode cX5_numberAt 16 = .ok (.ireturn, 1) := by decide +kernel
theorem dX5_numberAt_17 : decode cX5_numberAt 17 = .ok (.aload_n 0, 1) := by decide +kernel
theorem dX5_numberAt_18 : decode cX5_numberAt 18 = .ok (.iload_n 1, 1) := by decide +kernel
theorem dX5_numberAt_19 : decode cX5_numberAt 19 = .ok (.invokevirtual 19, 3) := by decide +kernel
theorem dX5_numberAt_22 : decode cX5_numberAt 22 = .ok (.bipush 48, 2) := by decide +kernel
theorem dX5_numberAt_24 : decode cX5_numberAt 24 = .ok (.isub, 1) := by decide +kernel
theorem dX5_numberAt_25 : decode cX5_numberAt 25 = .ok (.istore_n 3, 1) := by decide +kernel
theorem dX5_numberAt_26 : decode cX5_numberAt 26 = .ok (.iload_n 2, 1) := by decide +kernel
theorem dX5_numberAt_27 : decode cX5_numberAt 27 = .ok (.iload_n 1, 1) := by decide +kernel
theorem dX5_numberAt_28 : decode cX5_numberAt 28 = .ok (.isub, 1) := by decide +kernel
theorem dX5_numberAt_29 : decode cX5_numberAt 29 = .ok (.iconst 1, 1) := by decide +kernel
theorem dX5_numberAt_30 : decode cX5_numberAt 30 = .ok (.if_icmp .ne 5, 3) := by decide +kernel
theorem dX5_numberAt_33 : decode cX5_numberAt 33 = .ok (.iload_n 3, 1) := by decide +kernel
theorem dX5_numberAt_34 : decode cX5_numberAt 34 = .ok (.ireturn, 1) := by decide +kernel
theorem dX5_numberAt_35 : decode cX5_numberAt 35 = .ok (.iload_n 3, 1) := by decide +kernel
theorem dX5_numberAt_36 : decode cX5_numberAt 36 = .ok (.ifCond .ne 7, 3) := by decide +kernel
theorem dX5_numberAt_39 : decode cX5_numberAt 39 = .ok (.iconst (-1), 1) := by decide +kernel
theorem dX5_numberAt_40 : decode cX5_numberAt 40 = .ok (.goto 18, 3) := by decide +kernel
theorem dX5_numberAt_43 : decode cX5_numberAt 43 = .ok (.bipush 10, 2) := by decide +kernel
theorem dX5_numberAt_45 : decode cX5_numberAt 45 = .ok (.iload_n 3, 1) := by decide +kernel
theorem dX5_numberAt_46 : decode cX5_numberAt 46 = .ok (.imul, 1) := by decide +kernel
theorem dX5_numberAt_47 : decode cX5_numberAt 47 = .ok (.aload_n 0, 1) := by decide +kernel
theorem dX5_numberAt_48 : decode cX5_numberAt 48 = .ok (.iload_n 1, 1) := by decide +kernel
theorem dX5_numberAt_49 : decode cX5_numberAt 49 = .ok (.iconst 1, 1) := by decide +kernel
theorem dX5_numberAt_50 : decode cX5_numberAt 50 = .ok (.iadd, 1) := by decide +kernel
theorem dX5_numberAt_51 : decode cX5_numberAt 51 = .ok (.invokevirtual 19, 3) := by decide +kernel
theorem dX5_numberAt_54 : decode cX5_numberAt 54 = .ok (.iadd, 1) := by decide +kernel
theorem dX5_numberAt_55 : decode cX5_numberAt 55 = .ok (.bipush 48, 2) := by decide +kernel
theorem dX5_numberAt_57 : decode cX5_numberAt 57 = .ok (.isub, 1) := by decide +kernel
theorem dX5_numberAt_58 : decode cX5_numberAt 58 = .ok (.ireturn, 1) := by decide +kernel
theorem dX6_init_0 : decode cX6_init 0 = .ok (.aload_n 0, 1) := by decide +kernel
theorem dX6_init_1 : decode cX6_init 1 = .ok (.invokespecial 3, 3) := by decide +kernel
theorem dX6_init_4 : decode cX6_init 4 = .ok (.aload_n 0, 1) := by decide +kernel
theorem dX6_init_5 : decode cX6_init 5 = .ok (.bipush 15, 2) := by decide +kernel
theorem dX6_init_7 : decode cX6_init 7 = .ok (.newarray .int, 2) := by decide +kernel
theorem dX6_init_9 : decode cX6_init 9 = .ok (.putfield 9, 3) := by decide +kernel
theorem dX6_init_12 : decode cX6_init 12 = .ok (.aload_n 0, 1) := by decide +kernel
theorem dX6_init_13 : decode cX6_init 13 = .ok (.bipush 15, 2) := by decide +kernel
theorem dX6_init_15 : decode cX6_init 15 = .ok (.newarray .long, 2) := by decide +kernel
theorem dX6_init_17 : decode cX6_init 17 = .ok (.putfield 15, 3) := by decide +kernel
theorem dX6_init_20 : decode cX6_init 20 = .ok (.return_, 1) := by decide +kernel
theorem dX6_size_0 : decode cX6_size 0 = .ok (.aload_n 0, 1) := by decide +kernel
theorem dX6_size_1 : decode cX6_size 1 = .ok (.getfield 19, 3) := by decide +kernel
theorem dX6_size_4 : decode cX6_size 4 = .ok (.ireturn, 1) := by decide +kernel
theorem dX6_codeAt_0 : decode cX6_codeAt 0 = .ok (.iload_n 1, 1) := by decide +kernel
theorem dX6_codeAt_1 : decode cX6_codeAt 1 = .ok (.ifCond .lt 20, 3) := by decide +kernel
theorem dX6_codeAt_4 : decode cX6_codeAt 4 = .ok (.iload_n 1, 1) := by decide +kernel
theorem dX6_codeAt_5 : decode cX6_codeAt 5 = .ok (.aload_n 0, 1) := by decide +kernel
theorem dX6_codeAt_6 : decode cX6_codeAt 6 = .ok (.getfield 19, 3) := by decide +kernel
theorem dX6_codeAt_9 : decode cX6_codeAt 9 = .ok (.if_icmp .ge 12, 3) := by decide +kernel
theorem dX6_codeAt_12 : decode cX6_codeAt 12 = .ok (.aload_n 0, 1) := by decide +kernel
theorem dX6_codeAt_13 : decode cX6_codeAt 13 = .ok (.getfield 9, 3) := by decide +kernel
theorem dX6_codeAt_16 : decode cX6_codeAt 16 = .ok (.iload_n 1, 1) := by decide +kernel
theorem dX6_codeAt_17 : decode cX6_codeAt 17 = .ok (.iaload, 1) := by decide +kernel
theorem dX6_codeAt_18 : decode cX6_codeAt 18 = .ok (.goto 5, 3) := by decide +kernel
theorem dX6_codeAt_21 : decode cX6_codeAt 21 = .ok (.bipush (-9), 2) := by decide +kernel
theorem dX6_codeAt_23 : decode cX6_codeAt 23 = .ok (.ireturn, 1) := by decide +kernel
theorem dX6_cutEach_0 : decode cX6_cutEach 0 = .ok (.aload_n 0, 1) := by decide +kernel
theorem dX6_cutEach_1 : decode cX6_cutEach 1 = .ok (.iconst 0, 1) := by decide +kernel
theorem dX6_cutEach_2 : decode cX6_cutEach 2 = .ok (.putfield 19, 3) := by decide +kernel
theorem dX6_cutEach_5 : decode cX6_cutEach 5 = .ok (.iconst 0, 1) := by decide +kernel
theorem dX6_cutEach_6 : decode cX6_cutEach 6 = .ok (.istore_n 2, 1) := by decide +kernel
theorem dX6_cutEach_7 : decode cX6_cutEach 7 = .ok (.iload_n 2, 1) := by decide +kernel
theorem dX6_cutEach_8 : decode cX6_cutEach 8 = .ok (.aload_n 1, 1) := by decide +kernel
theorem dX6_cutEach_9 : decode cX6_cutEach 9 = .ok (.invokevirtual 23, 3) := by decide +kernel
theorem dX6_cutEach_12 : decode cX6_cutEach 12 = .ok (.if_icmp .ge 85, 3) := by decide +kernel
theorem dX6_cutEach_15 : decode cX6_cutEach 15 = .ok (.iload_n 2, 1) := by decide +kernel
theorem dX6_cutEach_16 : decode cX6_cutEach 16 = .ok (.iconst 1, 1) := by decide +kernel
theorem dX6_cutEach_17 : decode cX6_cutEach 17 = .ok (.iadd, 1) := by decide +kernel
theorem dX6_cutEach_18 : decode cX6_cutEach 18 = .ok (.istore_n 3, 1) := by decide +kernel
theorem dX6_cutEach_19 : decode cX6_cutEach 19 = .ok (.iload_n 3, 1) := by decide +kernel
theorem dX6_cutEach_20 : decode cX6_cutEach 20 = .ok (.aload_n 1, 1) := by decide +kernel
theorem dX6_cutEach_21 : decode cX6_cutEach 21 = .ok (.invokevirtual 23, 3) := by decide +kernel
theorem dX6_cutEach_24 : decode cX6_cutEach 24 = .ok (.if_icmp .ge 67, 3) := by decide +kernel
theorem dX6_cutEach_27 : decode cX6_cutEach 27 = .ok (.aload_n 1, 1) := by decide +kernel
theorem dX6_cutEach_28 : decode cX6_cutEach 28 = .ok (.iload_n 2, 1) := by decide +kernel
theorem dX6_cutEach_29 : decode cX6_cutEach 29 = .ok (.iload_n 3, 1) := by decide +kernel
theorem dX6_cutEach_30 : decode cX6_cutEach 30 = .ok (.invokevirtual 29, 3) := by decide +kernel
theorem dX6_cutEach_33 : decode cX6_cutEach 33 = .ok (.ifCond .eq 52, 3) := by decide +kernel
theorem dX6_cutEach_36 : decode cX6_cutEach 36 = .ok (.aload_n 0, 1) := by decide +kernel
theorem dX6_cutEach_37 : decode cX6_cutEach 37 = .ok (.getfield 19, 3) := by decide +kernel
theorem dX6_cutEach_40 : decode cX6_cutEach 40 = .ok (.bipush 15, 2) := by decide +kernel
theorem dX6_cutEach_42 : decode cX6_cutEach 42 = .ok (.if_icmp .ge 43, 3) := by decide +kernel
theorem dX6_cutEach_45 : decode cX6_cutEach 45 = .ok (.aload_n 0, 1) := by decide +kernel
theorem dX6_cutEach_46 : decode cX6_cutEach 46 = .ok (.getfield 9, 3) := by decide +kernel
theorem dX6_cutEach_49 : decode cX6_cutEach 49 = .ok (.aload_n 0, 1) := by decide +kernel
theorem dX6_cutEach_50 : decode cX6_cutEach 50 = .ok (.getfield 19, 3) := by decide +kernel
theorem dX6_cutEach_53 : decode cX6_cutEach 53 = .ok (.bipush 10, 2) := by decide +kernel
theorem dX6_cutEach_55 : decode cX6_cutEach 55 = .ok (.iload_n 2, 1) := by decide +kernel
theorem dX6_cutEach_56 : decode cX6_cutEach 56 = .ok (.imul, 1) := by decide +kernel
theorem dX6_cutEach_57 : decode cX6_cutEach 57 = .ok (.iload_n 3, 1) := by decide +kernel
theorem dX6_cutEach_58 : decode cX6_cutEach 58 = .ok (.iadd, 1) := by decide +kernel
theorem dX6_cutEach_59 : decode cX6_cutEach 59 = .ok (.iastore, 1) := by decide +kernel
theorem dX6_cutEach_60 : decode cX6_cutEach 60 = .ok (.aload_n 0, 1) := by decide +kernel
theorem dX6_cutEach_61 : decode cX6_cutEach 61 = .ok (.getfield 15, 3) := by decide +kernel
theorem dX6_cutEach_64 : decode cX6_cutEach 64 = .ok (.aload_n 0, 1) := by decide +kernel
theorem dX6_cutEach_65 : decode cX6_cutEach 65 = .ok (.getfield 19, 3) := by decide +kernel
theorem dX6_cutEach_68 : decode cX6_cutEach 68 = .ok (.aload_n 1, 1) := by decide +kernel
theorem dX6_cutEach_69 : decode cX6_cutEach 69 = .ok (.iload_n 2, 1) := by decide +kernel
theorem dX6_cutEach_70 : decode cX6_cutEach 70 = .ok (.iload_n 3, 1) := by decide +kernel
theorem dX6_cutEach_71 : decode cX6_cutEach 71 = .ok (.invokevirtual 33, 3) := by decide +kernel
theorem dX6_cutEach_74 : decode cX6_cutEach 74 = .ok (.lastore, 1) := by decide +kernel
theorem dX6_cutEach_75 : decode cX6_cutEach 75 = .ok (.aload_n 0, 1) := by decide +kernel
theorem dX6_cutEach_76 : decode cX6_cutEach 76 = .ok (.dup, 1) := by decide +kernel
theorem dX6_cutEach_77 : decode cX6_cutEach 77 = .ok (.getfield 19, 3) := by decide +kernel
theorem dX6_cutEach_80 : decode cX6_cutEach 80 = .ok (.iconst 1, 1) := by decide +kernel
theorem dX6_cutEach_81 : decode cX6_cutEach 81 = .ok (.iadd, 1) := by decide +kernel
theorem dX6_cutEach_82 : decode cX6_cutEach 82 = .ok (.putfield 19, 3) := by decide +kernel
theorem dX6_cutEach_85 : decode cX6_cutEach 85 = .ok (.iinc 3 1, 3) := by decide +kernel
theorem dX6_cutEach_88 : decode cX6_cutEach 88 = .ok (.goto (-69), 3) := by decide +kernel
theorem dX6_cutEach_91 : decode cX6_cutEach 91 = .ok (.iinc 2 1, 3) := by decide +kernel
theorem dX6_cutEach_94 : decode cX6_cutEach 94 = .ok (.goto (-87), 3) := by decide +kernel
theorem dX6_cutEach_97 : decode cX6_cutEach 97 = .ok (.return_, 1) := by decide +kernel
theorem dX6_dropUnfit_0 : decode cX6_dropUnfit 0 = .ok (.iconst 0, 1) := by decide +kernel
theorem dX6_dropUnfit_1 : decode cX6_dropUnfit 1 = .ok (.istore_n 3, 1) := by decide +kernel
theorem dX6_dropUnfit_2 : decode cX6_dropUnfit 2 = .ok (.iconst 0, 1) := by decide +kernel
theorem dX6_dropUnfit_3 : decode cX6_dropUnfit 3 = .ok (.istore 4, 2) := by decide +kernel
theorem dX6_dropUnfit_5 : decode cX6_dropUnfit 5 = .ok (.iload 4, 2) := by decide +kernel
theorem dX6_dropUnfit_7 : decode cX6_dropUnfit 7 = .ok (.aload_n 0, 1) := by decide +kernel
theorem dX6_dropUnfit_8 : decode cX6_dropUnfit 8 = .ok (.getfield 19, 3) := by decide +kernel
theorem dX6_dropUnfit_11 : decode cX6_dropUnfit 11 = .ok (.if_icmp .ge 53, 3) := by decide +kernel
theorem dX6_dropUnfit_14 : decode cX6_dropUnfit 14 = .ok (.aload_n 1, 1) := by decide +kernel
theorem dX6_dropUnfit_15 : decode cX6_dropUnfit 15 = .ok (.aload_n 0, 1) := by decide +kernel
theorem dX6_dropUnfit_16 : decode cX6_dropUnfit 16 = .ok (.getfield 15, 3) := by decide +kernel
theorem dX6_dropUnfit_19 : decode cX6_dropUnfit 19 = .ok (.iload 4, 2) := by decide +kernel
theorem dX6_dropUnfit_21 : decode cX6_dropUnfit 21 = .ok (.laload, 1) := by decide +kernel
theorem dX6_dropUnfit_22 : decode cX6_dropUnfit 22 = .ok (.iload_n 2, 1) := by decide +kernel
theorem dX6_dropUnfit_23 : decode cX6_dropUnfit 23 = .ok (.invokevirtual 37, 3) := by decide +kernel
theorem dX6_dropUnfit_26 : decode cX6_dropUnfit 26 = .ok (.ifCond .eq 32, 3) := by decide +kernel
theorem dX6_dropUnfit_29 : decode cX6_dropUnfit 29 = .ok (.aload_n 0, 1) := by decide +kernel
theorem dX6_dropUnfit_30 : decode cX6_dropUnfit 30 = .ok (.getfield 9, 3) := by decide +kernel
theorem dX6_dropUnfit_33 : decode cX6_dropUnfit 33 = .ok (.iload_n 3, 1) := by decide +kernel
theorem dX6_dropUnfit_34 : decode cX6_dropUnfit 34 = .ok (.aload_n 0, 1) := by decide +kernel
theorem dX6_dropUnfit_35 : decode cX6_dropUnfit 35 = .ok (.getfield 9, 3) := by decide +kernel
theorem dX6_dropUnfit_38 : decode cX6_dropUnfit 38 = .ok (.iload 4, 2) := by decide +kernel
theorem dX6_dropUnfit_40 : decode cX6_dropUnfit 40 = .ok (.iaload, 1) := by decide +kernel
theorem dX6_dropUnfit_41 : decode cX6_dropUnfit 41 = .ok (.iastore, 1) := by decide +kernel
theorem dX6_dropUnfit_42 : decode cX6_dropUnfit 42 = .ok (.aload_n 0, 1) := by decide +kernel
theorem dX6_dropUnfit_43 : decode cX6_dropUnfit 43 = .ok (.getfield 15, 3) := by decide +kernel
theorem dX6_dropUnfit_46 : decode cX6_dropUnfit 46 = .ok (.iload_n 3, 1) := by decide +kernel
theorem dX6_dropUnfit_47 : decode cX6_dropUnfit 47 = .ok (.aload_n 0, 1) := by decide +kernel
theorem dX6_dropUnfit_48 : decode cX6_dropUnfit 48 = .ok (.getfield 15, 3) := by decide +kernel
theorem dX6_dropUnfit_51 : decode cX6_dropUnfit 51 = .ok (.iload 4, 2) := by decide +kernel
theorem dX6_dropUnfit_53 : decode cX6_dropUnfit 53 = .ok (.laload, 1) := by decide +kernel
theorem dX6_dropUnfit_54 : decode cX6_dropUnfit 54 = .ok (.lastore, 1) := by decide +kernel
theorem dX6_dropUnfit_55 : decode cX6_dropUnfit 55 = .ok (.iinc 3 1, 3) := by decide +kernel
theorem dX6_dropUnfit_58 : decode cX6_dropUnfit 58 = .ok (.iinc 4 1, 3) := by decide +kernel
theorem dX6_dropUnfit_61 : decode cX6_dropUnfit 61 = .ok (.goto (-56), 3) := by decide +kernel
theorem dX6_dropUnfit_64 : decode cX6_dropUnfit 64 = .ok (.aload_n 0, 1) := by decide +kernel
theorem dX6_dropUnfit_65 : decode cX6_dropUnfit 65 = .ok (.iload_n 3, 1) := by decide +kernel
theorem dX6_dropUnfit_66 : decode cX6_dropUnfit 66 = .ok (.putfield 19, 3) := by decide +kernel
theorem dX6_dropUnfit_69 : decode cX6_dropUnfit 69 = .ok (.return_, 1) := by decide +kernel
theorem dX6_lostAt_0 : decode cX6_lostAt 0 = .ok (.iload_n 1, 1) := by decide +kernel
theorem dX6_lostAt_1 : decode cX6_lostAt 1 = .ok (.ifCond .lt 29, 3) := by decide +kernel
theorem dX6_lostAt_4 : decode cX6_lostAt 4 = .ok (.iload_n 1, 1) := by decide +kernel
theorem dX6_lostAt_5 : decode cX6_lostAt 5 = .ok (.aload_n 0, 1) := by decide +kernel
theorem dX6_lostAt_6 : decode cX6_lostAt 6 = .ok (.getfield 19, 3) := by decide +kernel
theorem dX6_lostAt_9 : decode cX6_lostAt 9 = .ok (.if_icmp .ge 21, 3) := by decide +kernel
theorem dX6_lostAt_12 : decode cX6_lostAt 12 = .ok (.lload_n 2, 1) := by decide +kernel
theorem dX6_lostAt_13 : decode cX6_lostAt 13 = .ok (.aload_n 0, 1) := by decide +kernel
theorem dX6_lostAt_14 : decode cX6_lostAt 14 = .ok (.getfield 15, 3) := by decide +kernel
theorem dX6_lostAt_17 : decode cX6_lostAt 17 = .ok (.iload_n 1, 1) := by decide +kernel
theorem dX6_lostAt_18 : decode cX6_lostAt 18 = .ok (.laload, 1) := by decide +kernel
theorem dX6_lostAt_19 : decode cX6_lostAt 19 = .ok (.ldc2_w 43, 3) := by decide +kernel
theorem dX6_lostAt_22 : decode cX6_lostAt 22 = .ok (.lxor, 1) := by decide +kernel
theorem dX6_lostAt_23 : decode cX6_lostAt 23 = .ok (.land, 1) := by decide +kernel
theorem dX6_lostAt_24 : decode cX6_lostAt 24 = .ok (.invokestatic 45, 3) := by decide +kernel
theorem dX6_lostAt_27 : decode cX6_lostAt 27 = .ok (.goto 4, 3) := by decide +kernel
theorem dX6_lostAt_30 : decode cX6_lostAt 30 = .ok (.iconst 0, 1) := by decide +kernel
theorem dX6_lostAt_31 : decode cX6_lostAt 31 = .ok (.ireturn, 1) := by decide +kernel
theorem dX6_dearest_0 : decode cX6_dearest 0 = .ok (.iconst 0, 1) := by decide +kernel
theorem dX6_dearest_1 : decode cX6_dearest 1 = .ok (.istore_n 3, 1) := by decide +kernel
theorem dX6_dearest_2 : decode cX6_dearest 2 = .ok (.iconst 1, 1) := by decide +kernel
theorem dX6_dearest_3 : decode cX6_dearest 3 = .ok (.istore 4, 2) := by decide +kernel
theorem dX6_dearest_5 : decode cX6_dearest 5 = .ok (.iload 4, 2) := by decide +kernel
theorem dX6_dearest_7 : decode cX6_dearest 7 = .ok (.aload_n 0, 1) := by decide +kernel
theorem dX6_dearest_8 : decode cX6_dearest 8 = .ok (.getfield 19, 3) := by decide +kernel
theorem dX6_dearest_11 : decode cX6_dearest 11 = .ok (.if_icmp .ge 28, 3) := by decide +kernel
theorem dX6_dearest_14 : decode cX6_dearest 14 = .ok (.aload_n 0, 1) := by decide +kernel
theorem dX6_dearest_15 : decode cX6_dearest 15 = .ok (.iload 4, 2) := by decide +kernel
theorem dX6_dearest_17 : decode cX6_dearest 17 = .ok (.lload_n 1, 1) := by decide +kernel
theorem dX6_dearest_18 : decode cX6_dearest 18 = .ok (.invokevirtual 49, 3) := by decide +kernel
theorem dX6_dearest_21 : decode cX6_dearest 21 = .ok (.aload_n 0, 1) := by decide +kernel
theorem dX6_dearest_22 : decode cX6_dearest 22 = .ok (.iload_n 3, 1) := by decide +kernel
theorem dX6_dearest_23 : decode cX6_dearest 23 = .ok (.lload_n 1, 1) := by decide +kernel
theorem dX6_dearest_24 : decode cX6_dearest 24 = .ok (.invokevirtual 49, 3) := by decide +kernel
theorem dX6_dearest_27 : decode cX6_dearest 27 = .ok (.if_icmp .le 6, 3) := by decide +kernel
theorem dX6_dearest_30 : decode cX6_dearest 30 = .ok (.iload 4, 2) := by decide +kernel
theorem dX6_dearest_32 : decode cX6_dearest 32 = .ok (.istore_n 3, 1) := by decide +kernel
theorem dX6_dearest_33 : decode cX6_dearest 33 = .ok (.iinc 4 1, 3) := by decide +kernel
theorem dX6_dearest_36 : decode cX6_dearest 36 = .ok (.goto (-31), 3) := by decide +kernel
theorem dX6_dearest_39 : decode cX6_dearest 39 = .ok (.iload_n 3, 1) := by decide +kernel
theorem dX6_dearest_40 : decode cX6_dearest 40 = .ok (.ireturn, 1) := by decide +kernel
theorem dX6_bestQuestion_0 : decode cX6_bestQuestion 0 = .ok (.bipush (-9), 2) := by decide +kernel
theorem dX6_bestQuestion_2 : decode cX6_bestQuestion 2 = .ok (.istore_n 2, 1) := by decide +kernel
theorem dX6_bestQuestion_3 : decode cX6_bestQuestion 3 = .ok (.aload_n 0, 1) := by decide +kernel
theorem dX6_bestQuestion_4 : decode cX6_bestQuestion 4 = .ok (.getfield 19, 3) := by decide +kernel
theorem dX6_bestQuestion_7 : decode cX6_bestQuestion 7 = .ok (.iconst 1, 1) := by decide +kernel
theorem dX6_bestQuestion_8 : decode cX6_bestQuestion 8 = .ok (.iadd, 1) := by decide +kernel
theorem dX6_bestQuestion_9 : decode cX6_bestQuestion 9 = .ok (.istore_n 3, 1) := by decide +kernel
theorem dX6_bestQuestion_10 : decode cX6_bestQuestion 10 = .ok (.iconst 0, 1) := by decide +kernel
theorem dX6_bestQuestion_11 : decode cX6_bestQuestion 11 = .ok (.istore 4, 2) := by decide +kernel
theorem dX6_bestQuestion_13 : decode cX6_bestQuestion 13 = .ok (.iload 4, 2) := by decide +kernel
theorem dX6_bestQuestion_15 : decode cX6_bestQuestion 15 = .ok (.iload_n 1, 1) := by decide +kernel
theorem dX6_bestQuestion_16 : decode cX6_bestQuestion 16 = .ok (.if_icmp .ge 58, 3) := by decide +kernel
theorem dX6_bestQuestion_19 : decode cX6_bestQuestion 19 = .ok (.iload 4, 2) := by decide +kernel
theorem dX6_bestQuestion_21 : decode cX6_bestQuestion 21 = .ok (.iconst 1, 1) := by decide +kernel
theorem dX6_bestQuestion_22 : decode cX6_bestQuestion 22 = .ok (.iadd, 1) := by decide +kernel
theorem dX6_bestQuestion_23 : decode cX6_bestQuestion 23 = .ok (.istore 5, 2) := by decide +kernel
theorem dX6_bestQuestion_25 : decode cX6_bestQuestion 25 = .ok (.iload 5, 2) := by decide +kernel
theorem dX6_bestQuestion_27 : decode cX6_bestQuestion 27 = .ok (.iload_n 1, 1) := by decide +kernel
theorem dX6_bestQuestion_28 : decode cX6_bestQuestion 28 = .ok (.if_icmp .ge 40, 3) := by decide +kernel
theorem dX6_bestQuestion_31 : decode cX6_bestQuestion 31 = .ok (.aload_n 0, 1) := by decide +kernel
theorem dX6_bestQuestion_32 : decode cX6_bestQuestion 32 = .ok (.iload 4, 2) := by decide +kernel
theorem dX6_bestQuestion_34 : decode cX6_bestQuestion 34 = .ok (.iload 5, 2) := by decide +kernel
theorem dX6_bestQuestion_36 : decode cX6_bestQuestion 36 = .ok (.invokestatic 53, 3) := by decide +kernel
theorem dX6_bestQuestion_39 : decode cX6_bestQuestion 39 = .ok (.invokevirtual 56, 3) := by decide +kernel
theorem dX6_bestQuestion_42 : decode cX6_bestQuestion 42 = .ok (.istore 6, 2) := by decide +kernel
theorem dX6_bestQuestion_44 : decode cX6_bestQuestion 44 = .ok (.iload 6, 2) := by decide +kernel
theorem dX6_bestQuestion_46 : decode cX6_bestQuestion 46 = .ok (.iload_n 3, 1) := by decide +kernel
theorem dX6_bestQuestion_47 : decode cX6_bestQuestion 47 = .ok (.if_icmp .ge 15, 3) := by decide +kernel
theorem dX6_bestQuestion_50 : decode cX6_bestQuestion 50 = .ok (.iload 6, 2) := by decide +kernel
theorem dX6_bestQuestion_52 : decode cX6_bestQuestion 52 = .ok (.istore_n 3, 1) := by decide +kernel
theorem dX6_bestQuestion_53 : decode cX6_bestQuestion 53 = .ok (.bipush 10, 2) := by decide +kernel
theorem dX6_bestQuestion_55 : decode cX6_bestQuestion 55 = .ok (.iload 4, 2) := by decide +kernel
theorem dX6_bestQuestion_57 : decode cX6_bestQuestion 57 = .ok (.imul, 1) := by decide +kernel
theorem dX6_bestQuestion_58 : decode cX6_bestQuestion 58 = .ok (.iload 5, 2) := by decide +kernel
theorem dX6_bestQuestion_60 : decode cX6_bestQuestion 60 = .ok (.iadd, 1) := by decide +kernel
theorem dX6_bestQuestion_61 : decode cX6_bestQuestion 61 = .ok (.istore_n 2, 1) := by decide +kernel
theorem dX6_bestQuestion_62 : decode cX6_bestQuestion 62 = .ok (.iinc 5 1, 3) := by decide +kernel
theorem dX6_bestQuestion_65 : decode cX6_bestQuestion 65 = .ok (.goto (-40), 3) := by decide +kernel
theorem dX6_bestQuestion_68 : decode cX6_bestQuestion 68 = .ok (.iinc 4 1, 3) := by decide +kernel
theorem dX6_bestQuestion_71 : decode cX6_bestQuestion 71 = .ok (.goto (-58), 3) := by decide +kernel
theorem dX6_bestQuestion_74 : decode cX6_bestQuestion 74 = .ok (.iload_n 2, 1) := by decide +kernel
theorem dX6_bestQuestion_75 : decode cX6_bestQuestion 75 = .ok (.ireturn, 1) := by decide +kernel
theorem dX6_mostAlike_0 : decode cX6_mostAlike 0 = .ok (.iconst 0, 1) := by decide +kernel
theorem dX6_mostAlike_1 : decode cX6_mostAlike 1 = .ok (.istore_n 3, 1) := by decide +kernel
theorem dX6_mostAlike_2 : decode cX6_mostAlike 2 = .ok (.iconst 0, 1) := by decide +kernel
theorem dX6_mostAlike_3 : decode cX6_mostAlike 3 = .ok (.istore 4, 2) := by decide +kernel
theorem dX6_mostAlike_5 : decode cX6_mostAlike 5 = .ok (.iload 4, 2) := by decide +kernel
theorem dX6_mostAlike_7 : decode cX6_mostAlike 7 = .ok (.aload_n 0, 1) := by decide +kernel
theorem dX6_mostAlike_8 : decode cX6_mostAlike 8 = .ok (.getfield 19, 3) := by decide +kernel
theorem dX6_mostAlike_11 : decode cX6_mostAlike 11 = .ok (.if_icmp .ge 26, 3) := by decide +kernel
theorem dX6_mostAlike_14 : decode cX6_mostAlike 14 = .ok (.aload_n 0, 1) := by decide +kernel
theorem dX6_mostAlike_15 : decode cX6_mostAlike 15 = .ok (.getfield 15, 3) := by decide +kernel
theorem dX6_mostAlike_18 : decode cX6_mostAlike 18 = .ok (.iload 4, 2) := by decide +kernel
theorem dX6_mostAlike_20 : decode cX6_mostAlike 20 = .ok (.laload, 1) := by decide +kernel
theorem dX6_mostAlike_21 : decode cX6_mostAlike 21 = .ok (.lload_n 1, 1) := by decide +kernel
theorem dX6_mostAlike_22 : decode cX6_mostAlike 22 = .ok (.land, 1) := by decide +kernel
theorem dX6_mostAlike_23 : decode cX6_mostAlike 23 = .ok (.lconst 0, 1) := by decide +kernel
theorem dX6_mostAlike_24 : decode cX6_mostAlike 24 = .ok (.lcmp, 1) := by decide +kernel
theorem dX6_mostAlike_25 : decode cX6_mostAlike 25 = .ok (.ifCond .eq 6, 3) := by decide +kernel
theorem dX6_mostAlike_28 : decode cX6_mostAlike 28 = .ok (.iinc 3 1, 3) := by decide +kernel
theorem dX6_mostAlike_31 : decode cX6_mostAlike 31 = .ok (.iinc 4 1, 3) := by decide +kernel
theorem dX6_mostAlike_34 : decode cX6_mostAlike 34 = .ok (.goto (-29), 3) := by decide +kernel
theorem dX6_mostAlike_37 : decode cX6_mostAlike 37 = .ok (.iload_n 3, 1) := by decide +kernel
theorem dX6_mostAlike_38 : decode cX6_mostAlike 38 = .ok (.aload_n 0, 1) := by decide +kernel
theorem dX6_mostAlike_39 : decode cX6_mostAlike 39 = .ok (.getfield 19, 3) := by decide +kernel
theorem dX6_mostAlike_42 : decode cX6_mostAlike 42 = .ok (.iload_n 3, 1) := by decide +kernel
theorem dX6_mostAlike_43 : decode cX6_mostAlike 43 = .ok (.isub, 1) := by decide +kernel
theorem dX6_mostAlike_44 : decode cX6_mostAlike 44 = .ok (.invokestatic 59, 3) := by decide +kernel
theorem dX6_mostAlike_47 : decode cX6_mostAlike 47 = .ok (.ireturn, 1) := by decide +kernel
theorem dJ6_bitCount_0f7a4_0 : decode cJ6_bitCount_0f7a4 0 = .ok (.iload_n 0, 1) := by decide +kernel
theorem dJ6_bitCount_0f7a4_1 : decode cJ6_bitCount_0f7a4 1 = .ok (.iload_n 0, 1) := by decide +kernel
theorem dJ6_bitCount_0f7a4_2 : decode cJ6_bitCount_0f7a4 2 = .ok (.iconst 1, 1) := by decide +kernel
theorem dJ6_bitCount_0f7a4_3 : decode cJ6_bitCount_0f7a4 3 = .ok (.iushr, 1) := by decide +kernel
theorem dJ6_bitCount_0f7a4_4 : decode cJ6_bitCount_0f7a4 4 = .ok (.ldc_w 265, 3) := by decide +kernel
theorem dJ6_bitCount_0f7a4_7 : decode cJ6_bitCount_0f7a4 7 = .ok (.iand, 1) := by decide +kernel
theorem dJ6_bitCount_0f7a4_8 : decode cJ6_bitCount_0f7a4 8 = .ok (.isub, 1) := by decide +kernel
theorem dJ6_bitCount_0f7a4_9 : decode cJ6_bitCount_0f7a4 9 = .ok (.istore_n 0, 1) := by decide +kernel
theorem dJ6_bitCount_0f7a4_10 : decode cJ6_bitCount_0f7a4 10 = .ok (.iload_n 0, 1) := by decide +kernel
theorem dJ6_bitCount_0f7a4_11 : decode cJ6_bitCount_0f7a4 11 = .ok (.ldc_w 266, 3) := by decide +kernel
theorem dJ6_bitCount_0f7a4_14 : decode cJ6_bitCount_0f7a4 14 = .ok (.iand, 1) := by decide +kernel
theorem dJ6_bitCount_0f7a4_15 : decode cJ6_bitCount_0f7a4 15 = .ok (.iload_n 0, 1) := by decide +kernel
theorem dJ6_bitCount_0f7a4_16 : decode cJ6_bitCount_0f7a4 16 = .ok (.iconst 2, 1) := by decide +kernel
theorem dJ6_bitCount_0f7a4_17 : decode cJ6_bitCount_0f7a4 17 = .ok (.iushr, 1) := by decide +kernel
theorem dJ6_bitCount_0f7a4_18 : decode cJ6_bitCount_0f7a4 18 = .ok (.ldc_w 266, 3) := by decide +kernel
theorem dJ6_bitCount_0f7a4_21 : decode cJ6_bitCount_0f7a4 21 = .ok (.iand, 1) := by decide +kernel
theorem dJ6_bitCount_0f7a4_22 : decode cJ6_bitCount_0f7a4 22 = .ok (.iadd, 1) := by decide +kernel
theorem dJ6_bitCount_0f7a4_23 : decode cJ6_bitCount_0f7a4 23 = .ok (.istore_n 0, 1) := by decide +kernel
theorem dJ6_bitCount_0f7a4_24 : decode cJ6_bitCount_0f7a4 24 = .ok (.iload_n 0, 1) := by decide +kernel
theorem dJ6_bitCount_0f7a4_25 : decode cJ6_bitCount_0f7a4 25 = .ok (.iload_n 0, 1) := by decide +kernel
theorem dJ6_bitCount_0f7a4_26 : decode cJ6_bitCount_0f7a4 26 = .ok (.iconst 4, 1) := by decide +kernel
theorem dJ6_bitCount_0f7a4_27 : decode cJ6_bitCount_0f7a4 27 = .ok (.iushr, 1) := by decide +kernel
theorem dJ6_bitCount_0f7a4_28 : decode cJ6_bitCount_0f7a4 28 = .ok (.iadd, 1) := by decide +kernel
theorem dJ6_bitCount_0f7a4_29 : decode cJ6_bitCount_0f7a4 29 = .ok (.ldc_w 267, 3) := by decide +kernel
theorem dJ6_bitCount_0f7a4_32 : decode cJ6_bitCount_0f7a4 32 = .ok (.iand, 1) := by decide +kernel
theorem dJ6_bitCount_0f7a4_33 : decode cJ6_bitCount_0f7a4 33 = .ok (.istore_n 0, 1) := by decide +kernel
theorem dJ6_bitCount_0f7a4_34 : decode cJ6_bitCount_0f7a4 34 = .ok (.iload_n 0, 1) := by decide +kernel
theorem dJ6_bitCount_0f7a4_35 : decode cJ6_bitCount_0f7a4 35 = .ok (.iload_n 0, 1) := by decide +kernel
theorem dJ6_bitCount_0f7a4_36 : decode cJ6_bitCount_0f7a4 36 = .ok (.bipush 8, 2) := by decide +kernel
theorem dJ6_bitCount_0f7a4_38 : decode cJ6_bitCount_0f7a4 38 = .ok (.iushr, 1) := by decide +kernel
theorem dJ6_bitCount_0f7a4_39 : decode cJ6_bitCount_0f7a4 39 = .ok (.iadd, 1) := by decide +kernel
theorem dJ6_bitCount_0f7a4_40 : decode cJ6_bitCount_0f7a4 40 = .ok (.istore_n 0, 1) := by decide +kernel
theorem dJ6_bitCount_0f7a4_41 : decode cJ6_bitCount_0f7a4 41 = .ok (.iload_n 0, 1) := by decide +kernel
theorem dJ6_bitCount_0f7a4_42 : decode cJ6_bitCount_0f7a4 42 = .ok (.iload_n 0, 1) := by decide +kernel
theorem dJ6_bitCount_0f7a4_43 : decode cJ6_bitCount_0f7a4 43 = .ok (.bipush 16, 2) := by decide +kernel
theorem dJ6_bitCount_0f7a4_45 : decode cJ6_bitCount_0f7a4 45 = .ok (.iushr, 1) := by decide +kernel
theorem dJ6_bitCount_0f7a4_46 : decode cJ6_bitCount_0f7a4 46 = .ok (.iadd, 1) := by decide +kernel
theorem dJ6_bitCount_0f7a4_47 : decode cJ6_bitCount_0f7a4 47 = .ok (.istore_n 0, 1) := by decide +kernel
theorem dJ6_bitCount_0f7a4_48 : decode cJ6_bitCount_0f7a4 48 = .ok (.iload_n 0, 1) := by decide +kernel
theorem dJ6_bitCount_0f7a4_49 : decode cJ6_bitCount_0f7a4 49 = .ok (.bipush 63, 2) := by decide +kernel
theorem dJ6_bitCount_0f7a4_51 : decode cJ6_bitCount_0f7a4 51 = .ok (.iand, 1) := by decide +kernel
theorem dJ6_bitCount_0f7a4_52 : decode cJ6_bitCount_0f7a4 52 = .ok (.ireturn, 1) := by decide +kernel
theorem dJ13_bitCount_95d88_0 : decode cJ13_bitCount_95d88 0 = .ok (.lload_n 0, 1) := by decide +kernel
theorem dJ13_bitCount_95d88_1 : decode cJ13_bitCount_95d88 1 = .ok (.lload_n 0, 1) := by decide +kernel
theorem dJ13_bitCount_95d88_2 : decode cJ13_bitCount_95d88 2 = .ok (.iconst 1, 1) := by decide +kernel
theorem dJ13_bitCount_95d88_3 : decode cJ13_bitCount_95d88 3 = .ok (.lushr, 1) := by decide +kernel
theorem dJ13_bitCount_95d88_4 : decode cJ13_bitCount_95d88 4 = .ok (.ldc2_w 314, 3) := by decide +kernel
theorem dJ13_bitCount_95d88_7 : decode cJ13_bitCount_95d88 7 = .ok (.land, 1) := by decide +kernel
theorem dJ13_bitCount_95d88_8 : decode cJ13_bitCount_95d88 8 = .ok (.lsub, 1) := by decide +kernel
theorem dJ13_bitCount_95d88_9 : decode cJ13_bitCount_95d88 9 = .ok (.lstore_n 0, 1) := by decide +kernel
theorem dJ13_bitCount_95d88_10 : decode cJ13_bitCount_95d88 10 = .ok (.lload_n 0, 1) := by decide +kernel
theorem dJ13_bitCount_95d88_11 : decode cJ13_bitCount_95d88 11 = .ok (.ldc2_w 316, 3) := by decide +kernel
theorem dJ13_bitCount_95d88_14 : decode cJ13_bitCount_95d88 14 = .ok (.land, 1) := by decide +kernel
theorem dJ13_bitCount_95d88_15 : decode cJ13_bitCount_95d88 15 = .ok (.lload_n 0, 1) := by decide +kernel
theorem dJ13_bitCount_95d88_16 : decode cJ13_bitCount_95d88 16 = .ok (.iconst 2, 1) := by decide +kernel
theorem dJ13_bitCount_95d88_17 : decode cJ13_bitCount_95d88 17 = .ok (.lushr, 1) := by decide +kernel
theorem dJ13_bitCount_95d88_18 : decode cJ13_bitCount_95d88 18 = .ok (.ldc2_w 316, 3) := by decide +kernel
theorem dJ13_bitCount_95d88_21 : decode cJ13_bitCount_95d88 21 = .ok (.land, 1) := by decide +kernel
theorem dJ13_bitCount_95d88_22 : decode cJ13_bitCount_95d88 22 = .ok (.ladd, 1) := by decide +kernel
theorem dJ13_bitCount_95d88_23 : decode cJ13_bitCount_95d88 23 = .ok (.lstore_n 0, 1) := by decide +kernel
theorem dJ13_bitCount_95d88_24 : decode cJ13_bitCount_95d88 24 = .ok (.lload_n 0, 1) := by decide +kernel
theorem dJ13_bitCount_95d88_25 : decode cJ13_bitCount_95d88 25 = .ok (.lload_n 0, 1) := by decide +kernel
theorem dJ13_bitCount_95d88_26 : decode cJ13_bitCount_95d88 26 = .ok (.iconst 4, 1) := by decide +kernel
theorem dJ13_bitCount_95d88_27 : decode cJ13_bitCount_95d88 27 = .ok (.lushr, 1) := by decide +kernel
theorem dJ13_bitCount_95d88_28 : decode cJ13_bitCount_95d88 28 = .ok (.ladd, 1) := by decide +kernel
theorem dJ13_bitCount_95d88_29 : decode cJ13_bitCount_95d88 29 = .ok (.ldc2_w 318, 3) := by decide +kernel
theorem dJ13_bitCount_95d88_32 : decode cJ13_bitCount_95d88 32 = .ok (.land, 1) := by decide +kernel
theorem dJ13_bitCount_95d88_33 : decode cJ13_bitCount_95d88 33 = .ok (.lstore_n 0, 1) := by decide +kernel
theorem dJ13_bitCount_95d88_34 : decode cJ13_bitCount_95d88 34 = .ok (.lload_n 0, 1) := by decide +kernel
theorem dJ13_bitCount_95d88_35 : decode cJ13_bitCount_95d88 35 = .ok (.lload_n 0, 1) := by decide +kernel
theorem dJ13_bitCount_95d88_36 : decode cJ13_bitCount_95d88 36 = .ok (.bipush 8, 2) := by decide +kernel
theorem dJ13_bitCount_95d88_38 : decode cJ13_bitCount_95d88 38 = .ok (.lushr, 1) := by decide +kernel
theorem dJ13_bitCount_95d88_39 : decode cJ13_bitCount_95d88 39 = .ok (.ladd, 1) := by decide +kernel
theorem dJ13_bitCount_95d88_40 : decode cJ13_bitCount_95d88 40 = .ok (.lstore_n 0, 1) := by decide +kernel
theorem dJ13_bitCount_95d88_41 : decode cJ13_bitCount_95d88 41 = .ok (.lload_n 0, 1) := by decide +kernel
theorem dJ13_bitCount_95d88_42 : decode cJ13_bitCount_95d88 42 = .ok (.lload_n 0, 1) := by decide +kernel
theorem dJ13_bitCount_95d88_43 : decode cJ13_bitCount_95d88 43 = .ok (.bipush 16, 2) := by decide +kernel
theorem dJ13_bitCount_95d88_45 : decode cJ13_bitCount_95d88 45 = .ok (.lushr, 1) := by decide +kernel
theorem dJ13_bitCount_95d88_46 : decode cJ13_bitCount_95d88 46 = .ok (.ladd, 1) := by decide +kernel
theorem dJ13_bitCount_95d88_47 : decode cJ13_bitCount_95d88 47 = .ok (.lstore_n 0, 1) := by decide +kernel
theorem dJ13_bitCount_95d88_48 : decode cJ13_bitCount_95d88 48 = .ok (.lload_n 0, 1) := by decide +kernel
theorem dJ13_bitCount_95d88_49 : decode cJ13_bitCount_95d88 49 = .ok (.lload_n 0, 1) := by decide +kernel
theorem dJ13_bitCount_95d88_50 : decode cJ13_bitCount_95d88 50 = .ok (.bipush 32, 2) := by decide +kernel
theorem dJ13_bitCount_95d88_52 : decode cJ13_bitCount_95d88 52 = .ok (.lushr, 1) := by decide +kernel
theorem dJ13_bitCount_95d88_53 : decode cJ13_bitCount_95d88 53 = .ok (.ladd, 1) := by decide +kernel
theorem dJ13_bitCount_95d88_54 : decode cJ13_bitCount_95d88 54 = .ok (.lstore_n 0, 1) := by decide +kernel
theorem dJ13_bitCount_95d88_55 : decode cJ13_bitCount_95d88 55 = .ok (.lload_n 0, 1) := by decide +kernel
theorem dJ13_bitCount_95d88_56 : decode cJ13_bitCount_95d88 56 = .ok (.l2i, 1) := by decide +kernel
theorem dJ13_bitCount_95d88_57 : decode cJ13_bitCount_95d88 57 = .ok (.bipush 127, 2) := by decide +kernel
theorem dJ13_bitCount_95d88_59 : decode cJ13_bitCount_95d88 59 = .ok (.iand, 1) := by decide +kernel
theorem dJ13_bitCount_95d88_60 : decode cJ13_bitCount_95d88 60 = .ok (.ireturn, 1) := by decide +kernel
theorem dJ9_max_7cf53_0 : decode cJ9_max_7cf53 0 = .ok (.iload_n 0, 1) := by decide +kernel
theorem dJ9_max_7cf53_1 : decode cJ9_max_7cf53 1 = .ok (.iload_n 1, 1) := by decide +kernel
theorem dJ9_max_7cf53_2 : decode cJ9_max_7cf53 2 = .ok (.if_icmp .lt 7, 3) := by decide +kernel
theorem dJ9_max_7cf53_5 : decode cJ9_max_7cf53 5 = .ok (.iload_n 0, 1) := by decide +kernel
theorem dJ9_max_7cf53_6 : decode cJ9_max_7cf53 6 = .ok (.goto 4, 3) := by decide +kernel
theorem dJ9_max_7cf53_9 : decode cJ9_max_7cf53 9 = .ok (.iload_n 1, 1) := by decide +kernel
theorem dJ9_max_7cf53_10 : decode cJ9_max_7cf53 10 = .ok (.ireturn, 1) := by decide +kernel
