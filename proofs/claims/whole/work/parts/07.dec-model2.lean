theorem dX8_doesSee_27 : decode cX8_doesSee 27 = .ok (.bipush (-9), 2) := by decide +kernel
theorem dX8_doesSee_29 : decode cX8_doesSee 29 = .ok (.if_icmp .eq 37, 3) := by decide +kernel
theorem dX8_doesSee_32 : decode cX8_doesSee 32 = .ok (.iload 4, 2) := by decide +kernel
theorem dX8_doesSee_34 : decode cX8_doesSee 34 = .ok (.bipush (-9), 2) := by decide +kernel
theorem dX8_doesSee_36 : decode cX8_doesSee 36 = .ok (.if_icmp .eq 30, 3) := by decide +kernel
theorem dX8_doesSee_39 : decode cX8_doesSee 39 = .ok (.aload_n 0, 1) := by decide +kernel
theorem dX8_doesSee_40 : decode cX8_doesSee 40 = .ok (.iload_n 3, 1) := by decide +kernel
theorem dX8_doesSee_41 : decode cX8_doesSee 41 = .ok (.invokevirtual 109, 3) := by decide +kernel
theorem dX8_doesSee_44 : decode cX8_doesSee 44 = .ok (.iload 4, 2) := by decide +kernel
theorem dX8_doesSee_46 : decode cX8_doesSee 46 = .ok (.invokestatic 102, 3) := by decide +kernel
theorem dX8_doesSee_49 : decode cX8_doesSee 49 = .ok (.ifCond .eq 17, 3) := by decide +kernel
theorem dX8_doesSee_52 : decode cX8_doesSee 52 = .ok (.aload_n 0, 1) := by decide +kernel
theorem dX8_doesSee_53 : decode cX8_doesSee 53 = .ok (.iload_n 3, 1) := by decide +kernel
theorem dX8_doesSee_54 : decode cX8_doesSee 54 = .ok (.iload_n 1, 1) := by decide +kernel
theorem dX8_doesSee_55 : decode cX8_doesSee 55 = .ok (.iload_n 2, 1) := by decide +kernel
theorem dX8_doesSee_56 : decode cX8_doesSee 56 = .ok (.invokevirtual 134, 3) := by decide +kernel
theorem dX8_doesSee_59 : decode cX8_doesSee 59 = .ok (.ifCond .eq 7, 3) := by decide +kernel
theorem dX8_doesSee_62 : decode cX8_doesSee 62 = .ok (.iconst 1, 1) := by decide +kernel
theorem dX8_doesSee_63 : decode cX8_doesSee 63 = .ok (.goto 4, 3) := by decide +kernel
theorem dX8_doesSee_66 : decode cX8_doesSee 66 = .ok (.iconst 0, 1) := by decide +kernel
theorem dX8_doesSee_67 : decode cX8_doesSee 67 = .ok (.ireturn, 1) := by decide +kernel
theorem dX8_seesOf_0 : decode cX8_seesOf 0 = .ok (.iconst 0, 1) := by decide +kernel
theorem dX8_seesOf_1 : decode cX8_seesOf 1 = .ok (.istore_n 2, 1) := by decide +kernel
theorem dX8_seesOf_2 : decode cX8_seesOf 2 = .ok (.iconst 0, 1) := by decide +kernel
theorem dX8_seesOf_3 : decode cX8_seesOf 3 = .ok (.istore_n 3, 1) := by decide +kernel
theorem dX8_seesOf_4 : decode cX8_seesOf 4 = .ok (.iload_n 3, 1) := by decide +kernel
theorem dX8_seesOf_5 : decode cX8_seesOf 5 = .ok (.aload_n 0, 1) := by decide +kernel
theorem dX8_seesOf_6 : decode cX8_seesOf 6 = .ok (.getfield 7, 3) := by decide +kernel
theorem dX8_seesOf_9 : decode cX8_seesOf 9 = .ok (.iconst 1, 1) := by decide +kernel
theorem dX8_seesOf_10 : decode cX8_seesOf 10 = .ok (.iaload, 1) := by decide +kernel
theorem dX8_seesOf_11 : decode cX8_seesOf 11 = .ok (.if_icmp .ge 28, 3) := by decide +kernel
theorem dX8_seesOf_14 : decode cX8_seesOf 14 = .ok (.iload_n 2, 1) := by decide +kernel
theorem dX8_seesOf_15 : decode cX8_seesOf 15 = .ok (.aload_n 0, 1) := by decide +kernel
theorem dX8_seesOf_16 : decode cX8_seesOf 16 = .ok (.iload_n 1, 1) := by decide +kernel
theorem dX8_seesOf_17 : decode cX8_seesOf 17 = .ok (.iload_n 3, 1) := by decide +kernel
theorem dX8_seesOf_18 : decode cX8_seesOf 18 = .ok (.invokevirtual 137, 3) := by decide +kernel
theorem dX8_seesOf_21 : decode cX8_seesOf 21 = .ok (.ifCond .eq 9, 3) := by decide +kernel
theorem dX8_seesOf_24 : decode cX8_seesOf 24 = .ok (.iconst 1, 1) := by decide +kernel
theorem dX8_seesOf_25 : decode cX8_seesOf 25 = .ok (.iload_n 3, 1) := by decide +kernel
theorem dX8_seesOf_26 : decode cX8_seesOf 26 = .ok (.ishl, 1) := by decide +kernel
theorem dX8_seesOf_27 : decode cX8_seesOf 27 = .ok (.goto 4, 3) := by decide +kernel
theorem dX8_seesOf_30 : decode cX8_seesOf 30 = .ok (.iconst 0, 1) := by decide +kernel
theorem dX8_seesOf_31 : decode cX8_seesOf 31 = .ok (.ior, 1) := by decide +kernel
theorem dX8_seesOf_32 : decode cX8_seesOf 32 = .ok (.istore_n 2, 1) := by decide +kernel
theorem dX8_seesOf_33 : decode cX8_seesOf 33 = .ok (.iinc 3 1, 3) := by decide +kernel
theorem dX8_seesOf_36 : decode cX8_seesOf 36 = .ok (.goto (-32), 3) := by decide +kernel
theorem dX8_seesOf_39 : decode cX8_seesOf 39 = .ok (.iload_n 2, 1) := by decide +kernel
theorem dX8_seesOf_40 : decode cX8_seesOf 40 = .ok (.ireturn, 1) := by decide +kernel
theorem dX8_twos_0 : decode cX8_twos 0 = .ok (.iconst 0, 1) := by decide +kernel
theorem dX8_twos_1 : decode cX8_twos 1 = .ok (.istore_n 1, 1) := by decide +kernel
theorem dX8_twos_2 : decode cX8_twos 2 = .ok (.iconst 0, 1) := by decide +kernel
theorem dX8_twos_3 : decode cX8_twos 3 = .ok (.istore_n 2, 1) := by decide +kernel
theorem dX8_twos_4 : decode cX8_twos 4 = .ok (.iload_n 2, 1) := by decide +kernel
theorem dX8_twos_5 : decode cX8_twos 5 = .ok (.aload_n 0, 1) := by decide +kernel
theorem dX8_twos_6 : decode cX8_twos 6 = .ok (.getfield 7, 3) := by decide +kernel
theorem dX8_twos_9 : decode cX8_twos 9 = .ok (.iconst 1, 1) := by decide +kernel
theorem dX8_twos_10 : decode cX8_twos 10 = .ok (.iaload, 1) := by decide +kernel
theorem dX8_twos_11 : decode cX8_twos 11 = .ok (.if_icmp .ge 20, 3) := by decide +kernel
theorem dX8_twos_14 : decode cX8_twos 14 = .ok (.iload_n 1, 1) := by decide +kernel
theorem dX8_twos_15 : decode cX8_twos 15 = .ok (.aload_n 0, 1) := by decide +kernel
theorem dX8_twos_16 : decode cX8_twos 16 = .ok (.iload_n 2, 1) := by decide +kernel
theorem dX8_twos_17 : decode cX8_twos 17 = .ok (.invokevirtual 140, 3) := by decide +kernel
theorem dX8_twos_20 : decode cX8_twos 20 = .ok (.invokestatic 143, 3) := by decide +kernel
theorem dX8_twos_23 : decode cX8_twos 23 = .ok (.iadd, 1) := by decide +kernel
theorem dX8_twos_24 : decode cX8_twos 24 = .ok (.istore_n 1, 1) := by decide +kernel
theorem dX8_twos_25 : decode cX8_twos 25 = .ok (.iinc 2 1, 3) := by decide +kernel
theorem dX8_twos_28 : decode cX8_twos 28 = .ok (.goto (-24), 3) := by decide +kernel
theorem dX8_twos_31 : decode cX8_twos 31 = .ok (.iload_n 1, 1) := by decide +kernel
theorem dX8_twos_32 : decode cX8_twos 32 = .ok (.iconst 2, 1) := by decide +kernel
theorem dX8_twos_33 : decode cX8_twos 33 = .ok (.idiv, 1) := by decide +kernel
theorem dX8_twos_34 : decode cX8_twos 34 = .ok (.ireturn, 1) := by decide +kernel
theorem dX8_looks_0 : decode cX8_looks 0 = .ok (.iconst 0, 1) := by decide +kernel
theorem dX8_looks_1 : decode cX8_looks 1 = .ok (.istore_n 1, 1) := by decide +kernel
theorem dX8_looks_2 : decode cX8_looks 2 = .ok (.iload_n 1, 1) := by decide +kernel
theorem dX8_looks_3 : decode cX8_looks 3 = .ok (.aload_n 0, 1) := by decide +kernel
theorem dX8_looks_4 : decode cX8_looks 4 = .ok (.getfield 7, 3) := by decide +kernel
theorem dX8_looks_7 : decode cX8_looks 7 = .ok (.iconst 1, 1) := by decide +kernel
theorem dX8_looks_8 : decode cX8_looks 8 = .ok (.iaload, 1) := by decide +kernel
theorem dX8_looks_9 : decode cX8_looks 9 = .ok (.if_icmp .ge 20, 3) := by decide +kernel
theorem dX8_looks_12 : decode cX8_looks 12 = .ok (.aload_n 0, 1) := by decide +kernel
theorem dX8_looks_13 : decode cX8_looks 13 = .ok (.getfield 32, 3) := by decide +kernel
theorem dX8_looks_16 : decode cX8_looks 16 = .ok (.iload_n 1, 1) := by decide +kernel
theorem dX8_looks_17 : decode cX8_looks 17 = .ok (.aload_n 0, 1) := by decide +kernel
theorem dX8_looks_18 : decode cX8_looks 18 = .ok (.iload_n 1, 1) := by decide +kernel
theorem dX8_looks_19 : decode cX8_looks 19 = .ok (.invokevirtual 140, 3) := by decide +kernel
theorem dX8_looks_22 : decode cX8_looks 22 = .ok (.iastore, 1) := by decide +kernel
theorem dX8_looks_23 : decode cX8_looks 23 = .ok (.iinc 1 1, 3) := by decide +kernel
theorem dX8_looks_26 : decode cX8_looks 26 = .ok (.goto (-24), 3) := by decide +kernel
theorem dX8_looks_29 : decode cX8_looks 29 = .ok (.return_, 1) := by decide +kernel
theorem dX8_tellNews_0 : decode cX8_tellNews 0 = .ok (.iconst 0, 1) := by decide +kernel
theorem dX8_tellNews_1 : decode cX8_tellNews 1 = .ok (.istore_n 1, 1) := by decide +kernel
theorem dX8_tellNews_2 : decode cX8_tellNews 2 = .ok (.iload_n 1, 1) := by decide +kernel
theorem dX8_tellNews_3 : decode cX8_tellNews 3 = .ok (.aload_n 0, 1) := by decide +kernel
theorem dX8_tellNews_4 : decode cX8_tellNews 4 = .ok (.getfield 7, 3) := by decide +kernel
theorem dX8_tellNews_7 : decode cX8_tellNews 7 = .ok (.iconst 1, 1) := by decide +kernel
theorem dX8_tellNews_8 : decode cX8_tellNews 8 = .ok (.iaload, 1) := by decide +kernel
theorem dX8_tellNews_9 : decode cX8_tellNews 9 = .ok (.if_icmp .ge 69, 3) := by decide +kernel
theorem dX8_tellNews_12 : decode cX8_tellNews 12 = .ok (.aload_n 0, 1) := by decide +kernel
theorem dX8_tellNews_13 : decode cX8_tellNews 13 = .ok (.getfield 32, 3) := by decide +kernel
theorem dX8_tellNews_16 : decode cX8_tellNews 16 = .ok (.iload_n 1, 1) := by decide +kernel
theorem dX8_tellNews_17 : decode cX8_tellNews 17 = .ok (.iaload, 1) := by decide +kernel
theorem dX8_tellNews_18 : decode cX8_tellNews 18 = .ok (.aload_n 0, 1) := by decide +kernel
theorem dX8_tellNews_19 : decode cX8_tellNews 19 = .ok (.iload_n 1, 1) := by decide +kernel
theorem dX8_tellNews_20 : decode cX8_tellNews 20 = .ok (.invokevirtual 140, 3) := by decide +kernel
theorem dX8_tellNews_23 : decode cX8_tellNews 23 = .ok (.ixor, 1) := by decide +kernel
theorem dX8_tellNews_24 : decode cX8_tellNews 24 = .ok (.istore_n 2, 1) := by decide +kernel
theorem dX8_tellNews_25 : decode cX8_tellNews 25 = .ok (.aload_n 0, 1) := by decide +kernel
theorem dX8_tellNews_26 : decode cX8_tellNews 26 = .ok (.getfield 7, 3) := by decide +kernel
theorem dX8_tellNews_29 : decode cX8_tellNews 29 = .ok (.bipush 71, 2) := by decide +kernel
theorem dX8_tellNews_31 : decode cX8_tellNews 31 = .ok (.iload_n 1, 1) := by decide +kernel
theorem dX8_tellNews_32 : decode cX8_tellNews 32 = .ok (.iadd, 1) := by decide +kernel
theorem dX8_tellNews_33 : decode cX8_tellNews 33 = .ok (.dup2, 1) := by decide +kernel
theorem dX8_tellNews_34 : decode cX8_tellNews 34 = .ok (.iaload, 1) := by decide +kernel
theorem dX8_tellNews_35 : decode cX8_tellNews 35 = .ok (.iload_n 2, 1) := by decide +kernel
theorem dX8_tellNews_36 : decode cX8_tellNews 36 = .ok (.ifCond .ne 7, 3) := by decide +kernel
theorem dX8_tellNews_39 : decode cX8_tellNews 39 = .ok (.iconst 0, 1) := by decide +kernel
theorem dX8_tellNews_40 : decode cX8_tellNews 40 = .ok (.goto 4, 3) := by decide +kernel
theorem dX8_tellNews_43 : decode cX8_tellNews 43 = .ok (.iconst 1, 1) := by decide +kernel
theorem dX8_tellNews_44 : decode cX8_tellNews 44 = .ok (.iadd, 1) := by decide +kernel
theorem dX8_tellNews_45 : decode cX8_tellNews 45 = .ok (.iastore, 1) := by decide +kernel
theorem dX8_tellNews_46 : decode cX8_tellNews 46 = .ok (.aload_n 0, 1) := by decide +kernel
theorem dX8_tellNews_47 : decode cX8_tellNews 47 = .ok (.getfield 7, 3) := by decide +kernel
theorem dX8_tellNews_50 : decode cX8_tellNews 50 = .ok (.bipush 79, 2) := by decide +kernel
theorem dX8_tellNews_52 : decode cX8_tellNews 52 = .ok (.iload_n 1, 1) := by decide +kernel
theorem dX8_tellNews_53 : decode cX8_tellNews 53 = .ok (.iadd, 1) := by decide +kernel
theorem dX8_tellNews_54 : decode cX8_tellNews 54 = .ok (.iload_n 2, 1) := by decide +kernel
theorem dX8_tellNews_55 : decode cX8_tellNews 55 = .ok (.ifCond .ne 15, 3) := by decide +kernel
theorem dX8_tellNews_58 : decode cX8_tellNews 58 = .ok (.aload_n 0, 1) := by decide +kernel
theorem dX8_tellNews_59 : decode cX8_tellNews 59 = .ok (.getfield 7, 3) := by decide +kernel
theorem dX8_tellNews_62 : decode cX8_tellNews 62 = .ok (.bipush 79, 2) := by decide +kernel
theorem dX8_tellNews_64 : decode cX8_tellNews 64 = .ok (.iload_n 1, 1) := by decide +kernel
theorem dX8_tellNews_65 : decode cX8_tellNews 65 = .ok (.iadd, 1) := by decide +kernel
theorem dX8_tellNews_66 : decode cX8_tellNews 66 = .ok (.iaload, 1) := by decide +kernel
theorem dX8_tellNews_67 : decode cX8_tellNews 67 = .ok (.goto 4, 3) := by decide +kernel
theorem dX8_tellNews_70 : decode cX8_tellNews 70 = .ok (.iload_n 2, 1) := by decide +kernel
theorem dX8_tellNews_71 : decode cX8_tellNews 71 = .ok (.iastore, 1) := by decide +kernel
theorem dX8_tellNews_72 : decode cX8_tellNews 72 = .ok (.iinc 1 1, 3) := by decide +kernel
theorem dX8_tellNews_75 : decode cX8_tellNews 75 = .ok (.goto (-73), 3) := by decide +kernel
theorem dX8_tellNews_78 : decode cX8_tellNews 78 = .ok (.return_, 1) := by decide +kernel
theorem dX8_wouldBe_0 : decode cX8_wouldBe 0 = .ok (.aload_n 0, 1) := by decide +kernel
theorem dX8_wouldBe_1 : decode cX8_wouldBe 1 = .ok (.iload_n 1, 1) := by decide +kernel
theorem dX8_wouldBe_2 : decode cX8_wouldBe 2 = .ok (.invokevirtual 109, 3) := by decide +kernel
theorem dX8_wouldBe_5 : decode cX8_wouldBe 5 = .ok (.iload_n 2, 1) := by decide +kernel
theorem dX8_wouldBe_6 : decode cX8_wouldBe 6 = .ok (.invokestatic 102, 3) := by decide +kernel
theorem dX8_wouldBe_9 : decode cX8_wouldBe 9 = .ok (.ifCond .eq 5, 3) := by decide +kernel
theorem dX8_wouldBe_12 : decode cX8_wouldBe 12 = .ok (.iconst 0, 1) := by decide +kernel
theorem dX8_wouldBe_13 : decode cX8_wouldBe 13 = .ok (.ireturn, 1) := by decide +kernel
theorem dX8_wouldBe_14 : decode cX8_wouldBe 14 = .ok (.aload_n 0, 1) := by decide +kernel
theorem dX8_wouldBe_15 : decode cX8_wouldBe 15 = .ok (.iload_n 1, 1) := by decide +kernel
theorem dX8_wouldBe_16 : decode cX8_wouldBe 16 = .ok (.iload_n 2, 1) := by decide +kernel
theorem dX8_wouldBe_17 : decode cX8_wouldBe 17 = .ok (.invokevirtual 146, 3) := by decide +kernel
theorem dX8_wouldBe_20 : decode cX8_wouldBe 20 = .ok (.istore_n 3, 1) := by decide +kernel
theorem dX8_wouldBe_21 : decode cX8_wouldBe 21 = .ok (.aload_n 0, 1) := by decide +kernel
theorem dX8_wouldBe_22 : decode cX8_wouldBe 22 = .ok (.iload_n 1, 1) := by decide +kernel
theorem dX8_wouldBe_23 : decode cX8_wouldBe 23 = .ok (.iload_n 2, 1) := by decide +kernel
theorem dX8_wouldBe_24 : decode cX8_wouldBe 24 = .ok (.invokevirtual 149, 3) := by decide +kernel
theorem dX8_wouldBe_27 : decode cX8_wouldBe 27 = .ok (.istore 4, 2) := by decide +kernel
theorem dX8_wouldBe_29 : decode cX8_wouldBe 29 = .ok (.iload_n 3, 1) := by decide +kernel
theorem dX8_wouldBe_30 : decode cX8_wouldBe 30 = .ok (.ifCond .eq 16, 3) := by decide +kernel
theorem dX8_wouldBe_33 : decode cX8_wouldBe 33 = .ok (.iload 4, 2) := by decide +kernel
theorem dX8_wouldBe_35 : decode cX8_wouldBe 35 = .ok (.ifCond .eq 7, 3) := by decide +kernel
theorem dX8_wouldBe_38 : decode cX8_wouldBe 38 = .ok (.iconst 5, 1) := by decide +kernel
theorem dX8_wouldBe_39 : decode cX8_wouldBe 39 = .ok (.goto 31, 3) := by decide +kernel
theorem dX8_wouldBe_42 : decode cX8_wouldBe 42 = .ok (.iconst 4, 1) := by decide +kernel
theorem dX8_wouldBe_43 : decode cX8_wouldBe 43 = .ok (.goto 27, 3) := by decide +kernel
theorem dX8_wouldBe_46 : decode cX8_wouldBe 46 = .ok (.iload 4, 2) := by decide +kernel
theorem dX8_wouldBe_48 : decode cX8_wouldBe 48 = .ok (.ifCond .ne 7, 3) := by decide +kernel
theorem dX8_wouldBe_51 : decode cX8_wouldBe 51 = .ok (.iconst 1, 1) := by decide +kernel
theorem dX8_wouldBe_52 : decode cX8_wouldBe 52 = .ok (.goto 18, 3) := by decide +kernel
theorem dX8_wouldBe_55 : decode cX8_wouldBe 55 = .ok (.aload_n 0, 1) := by decide +kernel
theorem dX8_wouldBe_56 : decode cX8_wouldBe 56 = .ok (.getfield 7, 3) := by decide +kernel
theorem dX8_wouldBe_59 : decode cX8_wouldBe 59 = .ok (.iconst 2, 1) := by decide +kernel
theorem dX8_wouldBe_60 : decode cX8_wouldBe 60 = .ok (.iaload, 1) := by decide +kernel
theorem dX8_wouldBe_61 : decode cX8_wouldBe 61 = .ok (.iconst 1, 1) := by decide +kernel
theorem dX8_wouldBe_62 : decode cX8_wouldBe 62 = .ok (.if_icmp .ne 7, 3) := by decide +kernel
theorem dX8_wouldBe_65 : decode cX8_wouldBe 65 = .ok (.iconst 2, 1) := by decide +kernel
theorem dX8_wouldBe_66 : decode cX8_wouldBe 66 = .ok (.goto 4, 3) := by decide +kernel
theorem dX8_wouldBe_69 : decode cX8_wouldBe 69 = .ok (.iconst 3, 1) := by decide +kernel
theorem dX8_wouldBe_70 : decode cX8_wouldBe 70 = .ok (.ireturn, 1) := by decide +kernel
theorem dX8_joins_0 : decode cX8_joins 0 = .ok (.aload_n 0, 1) := by decide +kernel
theorem dX8_joins_1 : decode cX8_joins 1 = .ok (.iload_n 1, 1) := by decide +kernel
theorem dX8_joins_2 : decode cX8_joins 2 = .ok (.iload_n 2, 1) := by decide +kernel
theorem dX8_joins_3 : decode cX8_joins 3 = .ok (.invokevirtual 152, 3) := by decide +kernel
theorem dX8_joins_6 : decode cX8_joins 6 = .ok (.ifCond .ne 5, 3) := by decide +kernel
theorem dX8_joins_9 : decode cX8_joins 9 = .ok (.iconst (-1), 1) := by decide +kernel
theorem dX8_joins_10 : decode cX8_joins 10 = .ok (.ireturn, 1) := by decide +kernel
theorem dX8_joins_11 : decode cX8_joins 11 = .ok (.aload_n 0, 1) := by decide +kernel
theorem dX8_joins_12 : decode cX8_joins 12 = .ok (.iload_n 1, 1) := by decide +kernel
theorem dX8_joins_13 : decode cX8_joins 13 = .ok (.iload_n 2, 1) := by decide +kernel
theorem dX8_joins_14 : decode cX8_joins 14 = .ok (.invokevirtual 155, 3) := by decide +kernel
theorem dX8_joins_17 : decode cX8_joins 17 = .ok (.ifCond .eq 6, 3) := by decide +kernel
theorem dX8_joins_20 : decode cX8_joins 20 = .ok (.bipush (-2), 2) := by decide +kernel
theorem dX8_joins_22 : decode cX8_joins 22 = .ok (.ireturn, 1) := by decide +kernel
theorem dX8_joins_23 : decode cX8_joins 23 = .ok (.aload_n 0, 1) := by decide +kernel
theorem dX8_joins_24 : decode cX8_joins 24 = .ok (.invokevirtual 93, 3) := by decide +kernel
theorem dX8_joins_27 : decode cX8_joins 27 = .ok (.aload_n 0, 1) := by decide +kernel
theorem dX8_joins_28 : decode cX8_joins 28 = .ok (.iload_n 1, 1) := by decide +kernel
theorem dX8_joins_29 : decode cX8_joins 29 = .ok (.iload_n 2, 1) := by decide +kernel
theorem dX8_joins_30 : decode cX8_joins 30 = .ok (.invokevirtual 158, 3) := by decide +kernel
theorem dX8_joins_33 : decode cX8_joins 33 = .ok (.istore_n 3, 1) := by decide +kernel
theorem dX8_joins_34 : decode cX8_joins 34 = .ok (.iload_n 3, 1) := by decide +kernel
theorem dX8_joins_35 : decode cX8_joins 35 = .ok (.iconst 2, 1) := by decide +kernel
theorem dX8_joins_36 : decode cX8_joins 36 = .ok (.if_icmp .le 13, 3) := by decide +kernel
theorem dX8_joins_39 : decode cX8_joins 39 = .ok (.aload_n 0, 1) := by decide +kernel
theorem dX8_joins_40 : decode cX8_joins 40 = .ok (.iload_n 1, 1) := by decide +kernel
theorem dX8_joins_41 : decode cX8_joins 41 = .ok (.iload_n 2, 1) := by decide +kernel
theorem dX8_joins_42 : decode cX8_joins 42 = .ok (.iconst 0, 1) := by decide +kernel
theorem dX8_joins_43 : decode cX8_joins 43 = .ok (.iconst 1, 1) := by decide +kernel
theorem dX8_joins_44 : decode cX8_joins 44 = .ok (.invokevirtual 161, 3) := by decide +kernel
theorem dX8_joins_47 : decode cX8_joins 47 = .ok (.iconst 0, 1) := by decide +kernel
theorem dX8_joins_48 : decode cX8_joins 48 = .ok (.ireturn, 1) := by decide +kernel
theorem dX8_joins_49 : decode cX8_joins 49 = .ok (.aload_n 0, 1) := by decide +kernel
theorem dX8_joins_50 : decode cX8_joins 50 = .ok (.invokevirtual 165, 3) := by decide +kernel
theorem dX8_joins_53 : decode cX8_joins 53 = .ok (.aload_n 0, 1) := by decide +kernel
theorem dX8_joins_54 : decode cX8_joins 54 = .ok (.iload_n 1, 1) := by decide +kernel
theorem dX8_joins_55 : decode cX8_joins 55 = .ok (.iload_n 2, 1) := by decide +kernel
theorem dX8_joins_56 : decode cX8_joins 56 = .ok (.iconst 1, 1) := by decide +kernel
theorem dX8_joins_57 : decode cX8_joins 57 = .ok (.iconst 0, 1) := by decide +kernel
theorem dX8_joins_58 : decode cX8_joins 58 = .ok (.invokevirtual 161, 3) := by decide +kernel
theorem dX8_joins_61 : decode cX8_joins 61 = .ok (.iload_n 3, 1) := by decide +kernel
theorem dX8_joins_62 : decode cX8_joins 62 = .ok (.ifCond .le 61, 3) := by decide +kernel
theorem dX8_joins_65 : decode cX8_joins 65 = .ok (.aload_n 0, 1) := by decide +kernel
theorem dX8_joins_66 : decode cX8_joins 66 = .ok (.iload_n 1, 1) := by decide +kernel
theorem dX8_joins_67 : decode cX8_joins 67 = .ok (.invokevirtual 109, 3) := by decide +kernel
theorem dX8_joins_70 : decode cX8_joins 70 = .ok (.istore 4, 2) := by decide +kernel
theorem dX8_joins_72 : decode cX8_joins 72 = .ok (.iconst 0, 1) := by decide +kernel
theorem dX8_joins_73 : decode cX8_joins 73 = .ok (.istore 5, 2) := by decide +kernel
theorem dX8_joins_75 : decode cX8_joins 75 = .ok (.iload 5, 2) := by decide +kernel
theorem dX8_joins_77 : decode cX8_joins 77 = .ok (.iconst 4, 1) := by decide +kernel
theorem dX8_joins_78 : decode cX8_joins 78 = .ok (.if_icmp .ge 32, 3) := by decide +kernel
theorem dX8_joins_81 : decode cX8_joins 81 = .ok (.aload_n 0, 1) := by decide +kernel
theorem dX8_joins_82 : decode cX8_joins 82 = .ok (.iload 4, 2) := by decide +kernel
theorem dX8_joins_84 : decode cX8_joins 84 = .ok (.iload 5, 2) := by decide +kernel
theorem dX8_joins_86 : decode cX8_joins 86 = .ok (.aload_n 0, 1) := by decide +kernel
theorem dX8_joins_87 : decode cX8_joins 87 = .ok (.iload_n 1, 1) := by decide +kernel
theorem dX8_joins_88 : decode cX8_joins 88 = .ok (.iload 5, 2) := by decide +kernel
theorem dX8_joins_90 : decode cX8_joins 90 = .ok (.invokevirtual 125, 3) := by decide +kernel
theorem dX8_joins_93 : decode cX8_joins 93 = .ok (.aload_n 0, 1) := by decide +kernel
theorem dX8_joins_94 : decode cX8_joins 94 = .ok (.iload_n 2, 1) := by decide +kernel
theorem dX8_joins_95 : decode cX8_joins 95 = .ok (.iload 5, 2) := by decide +kernel
theorem dX8_joins_97 : decode cX8_joins 97 = .ok (.invokevirtual 125, 3) := by decide +kernel
theorem dX8_joins_100 : decode cX8_joins 100 = .ok (.ior, 1) := by decide +kernel
theorem dX8_joins_101 : decode cX8_joins 101 = .ok (.invokevirtual 168, 3) := by decide +kernel
theorem dX8_joins_104 : decode cX8_joins 104 = .ok (.iinc 5 1, 3) := by decide +kernel
theorem dX8_joins_107 : decode cX8_joins 107 = .ok (.goto (-32), 3) := by decide +kernel
theorem dX8_joins_110 : decode cX8_joins 110 = .ok (.iload_n 3, 1) := by decide +kernel
theorem dX8_joins_111 : decode cX8_joins 111 = .ok (.iconst 2, 1) := by decide +kernel
theorem dX8_joins_112 : decode cX8_joins 112 = .ok (.if_icmp .ne 11, 3) := by decide +kernel
theorem dX8_joins_115 : decode cX8_joins 115 = .ok (.aload_n 0, 1) := by decide +kernel
theorem dX8_joins_116 : decode cX8_joins 116 = .ok (.iload 4, 2) := by decide +kernel
theorem dX8_joins_118 : decode cX8_joins 118 = .ok (.invokevirtual 172, 3) := by decide +kernel
theorem dX8_joins_121 : decode cX8_joins 121 = .ok (.istore 5, 2) := by decide +kernel
theorem dX8_joins_123 : decode cX8_joins 123 = .ok (.aload_n 0, 1) := by decide +kernel
theorem dX8_joins_124 : decode cX8_joins 124 = .ok (.invokevirtual 175, 3) := by decide +kernel
theorem dX8_joins_127 : decode cX8_joins 127 = .ok (.iconst 1, 1) := by decide +kernel
theorem dX8_joins_128 : decode cX8_joins 128 = .ok (.ireturn, 1) := by decide +kernel
theorem dX8_zoned_0 : decode cX8_zoned 0 = .ok (.iconst 0, 1) := by decide +kernel
theorem dX8_zoned_1 : decode cX8_zoned 1 = .ok (.istore 4, 2) := by decide +kernel
theorem dX8_zoned_3 : decode cX8_zoned 3 = .ok (.iload 4, 2) := by decide +kernel
theorem dX8_zoned_5 : decode cX8_zoned 5 = .ok (.aload_n 0, 1) := by decide +kernel
theorem dX8_zoned_6 : decode cX8_zoned 6 = .ok (.getfield 7, 3) := by decide +kernel
theorem dX8_zoned_9 : decode cX8_zoned 9 = .ok (.iconst 0, 1) := by decide +kernel
theorem dX8_zoned_10 : decode cX8_zoned 10 = .ok (.iaload, 1) := by decide +kernel
theorem dX8_zoned_11 : decode cX8_zoned 11 = .ok (.if_icmp .ge 50, 3) := by decide +kernel
theorem dX8_zoned_14 : decode cX8_zoned 14 = .ok (.aload_n 0, 1) := by decide +kernel
theorem dX8_zoned_15 : decode cX8_zoned 15 = .ok (.getfield 7, 3) := by decide +kernel
theorem dX8_zoned_18 : decode cX8_zoned 18 = .ok (.bipush 47, 2) := by decide +kernel
theorem dX8_zoned_20 : decode cX8_zoned 20 = .ok (.iconst 4, 1) := by decide +kernel
theorem dX8_zoned_21 : decode cX8_zoned 21 = .ok (.iload 4, 2) := by decide +kernel
theorem dX8_zoned_23 : decode cX8_zoned 23 = .ok (.imul, 1) := by decide +kernel
theorem dX8_zoned_24 : decode cX8_zoned 24 = .ok (.iadd, 1) := by decide +kernel
theorem dX8_zoned_25 : decode cX8_zoned 25 = .ok (.iload_n 2, 1) := by decide +kernel
theorem dX8_zoned_26 : decode cX8_zoned 26 = .ok (.iadd, 1) := by decide +kernel
theorem dX8_zoned_27 : decode cX8_zoned 27 = .ok (.iload_n 1, 1) := by decide +kernel
theorem dX8_zoned_28 : decode cX8_zoned 28 = .ok (.iload 4, 2) := by decide +kernel
theorem dX8_zoned_30 : decode cX8_zoned 30 = .ok (.invokestatic 102, 3) := by decide +kernel
theorem dX8_zoned_33 : decode cX8_zoned 33 = .ok (.ifCond .eq 7, 3) := by decide +kernel
theorem dX8_zoned_36 : decode cX8_zoned 36 = .ok (.iload_n 3, 1) := by decide +kernel
theorem dX8_zoned_37 : decode cX8_zoned 37 = .ok (.goto 17, 3) := by decide +kernel
theorem dX8_zoned_40 : decode cX8_zoned 40 = .ok (.aload_n 0, 1) := by decide +kernel
theorem dX8_zoned_41 : decode cX8_zoned 41 = .ok (.getfield 7, 3) := by decide +kernel
theorem dX8_zoned_44 : decode cX8_zoned 44 = .ok (.bipush 47, 2) := by decide +kernel
theorem dX8_zoned_46 : decode cX8_zoned 46 = .ok (.iconst 4, 1) := by decide +kernel
theorem dX8_zoned_47 : decode cX8_zoned 47 = .ok (.iload 4, 2) := by decide +kernel
theorem dX8_zoned_49 : decode cX8_zoned 49 = .ok (.imul, 1) := by decide +kernel
theorem dX8_zoned_50 : decode cX8_zoned 50 = .ok (.iadd, 1) := by decide +kernel
theorem dX8_zoned_51 : decode cX8_zoned 51 = .ok (.iload_n 2, 1) := by decide +kernel
theorem dX8_zoned_52 : decode cX8_zoned 52 = .ok (.iadd, 1) := by decide +kernel
theorem dX8_zoned_53 : decode cX8_zoned 53 = .ok (.iaload, 1) := by decide +kernel
theorem dX8_zoned_54 : decode cX8_zoned 54 = .ok (.iastore, 1) := by decide +kernel
theorem dX8_zoned_55 : decode cX8_zoned 55 = .ok (.iinc 4 1, 3) := by decide +kernel
theorem dX8_zoned_58 : decode cX8_zoned 58 = .ok (.goto (-55), 3) := by decide +kernel
theorem dX8_zoned_61 : decode cX8_zoned 61 = .ok (.return_, 1) := by decide +kernel
theorem dX8_cuts_0 : decode cX8_cuts 0 = .ok (.aload_n 0, 1) := by decide +kernel
theorem dX8_cuts_1 : decode cX8_cuts 1 = .ok (.iload_n 1, 1) := by decide +kernel
theorem dX8_cuts_2 : decode cX8_cuts 2 = .ok (.iload_n 2, 1) := by decide +kernel
theorem dX8_cuts_3 : decode cX8_cuts 3 = .ok (.invokevirtual 152, 3) := by decide +kernel
theorem dX8_cuts_6 : decode cX8_cuts 6 = .ok (.ifCond .ne 5, 3) := by decide +kernel
theorem dX8_cuts_9 : decode cX8_cuts 9 = .ok (.iconst (-1), 1) := by decide +kernel
theorem dX8_cuts_10 : decode cX8_cuts 10 = .ok (.ireturn, 1) := by decide +kernel
theorem dX8_cuts_11 : decode cX8_cuts 11 = .ok (.aload_n 0, 1) := by decide +kernel
theorem dX8_cuts_12 : decode cX8_cuts 12 = .ok (.iload_n 1, 1) := by decide +kernel
theorem dX8_cuts_13 : decode cX8_cuts 13 = .ok (.iload_n 2, 1) := by decide +kernel
theorem dX8_cuts_14 : decode cX8_cuts 14 = .ok (.invokevirtual 155, 3) := by decide +kernel
theorem dX8_cuts_17 : decode cX8_cuts 17 = .ok (.ifCond .ne 22, 3) := by decide +kernel
theorem dX8_cuts_20 : decode cX8_cuts 20 = .ok (.aload_n 0, 1) := by decide +kernel
theorem dX8_cuts_21 : decode cX8_cuts 21 = .ok (.getfield 7, 3) := by decide +kernel
theorem dX8_cuts_24 : decode cX8_cuts 24 = .ok (.bipush 41, 2) := by decide +kernel
theorem dX8_cuts_26 : decode cX8_cuts 26 = .ok (.iload_n 1, 1) := by decide +kernel
theorem dX8_cuts_27 : decode cX8_cuts 27 = .ok (.iadd, 1) := by decide +kernel
theorem dX8_cuts_28 : decode cX8_cuts 28 = .ok (.iaload, 1) := by decide +kernel
theorem dX8_cuts_29 : decode cX8_cuts 29 = .ok (.iload_n 2, 1) := by decide +kernel
theorem dX8_cuts_30 : decode cX8_cuts 30 = .ok (.invokestatic 102, 3) := by decide +kernel
theorem dX8_cuts_33 : decode cX8_cuts 33 = .ok (.ifCond .ne 6, 3) := by decide +kernel
theorem dX8_cuts_36 : decode cX8_cuts 36 = .ok (.bipush (-2), 2) := by decide +kernel
theorem dX8_cuts_38 : decode cX8_cuts 38 = .ok (.ireturn, 1) := by decide +kernel
theorem dX8_cuts_39 : decode cX8_cuts 39 = .ok (.aload_n 0, 1) := by decide +kernel
theorem dX8_cuts_40 : decode cX8_cuts 40 = .ok (.invokevirtual 93, 3) := by decide +kernel
theorem dX8_cuts_43 : decode cX8_cuts 43 = .ok (.aload_n 0, 1) := by decide +kernel
theorem dX8_cuts_44 : decode cX8_cuts 44 = .ok (.invokevirtual 165, 3) := by decide +kernel
theorem dX8_cuts_47 : decode cX8_cuts 47 = .ok (.aload_n 0, 1) := by decide +kernel
theorem dX8_cuts_48 : decode cX8_cuts 48 = .ok (.iload_n 1, 1) := by decide +kernel
theorem dX8_cuts_49 : decode cX8_cuts 49 = .ok (.iload_n 2, 1) := by decide +kernel
theorem dX8_cuts_50 : decode cX8_cuts 50 = .ok (.iconst 0, 1) := by decide +kernel
theorem dX8_cuts_51 : decode cX8_cuts 51 = .ok (.iconst 0, 1) := by decide +kernel
theorem dX8_cuts_52 : decode cX8_cuts 52 = .ok (.invokevirtual 161, 3) := by decide +kernel
theorem dX8_cuts_55 : decode cX8_cuts 55 = .ok (.aload_n 0, 1) := by decide +kernel
theorem dX8_cuts_56 : decode cX8_cuts 56 = .ok (.invokevirtual 175, 3) := by decide +kernel
theorem dX8_cuts_59 : decode cX8_cuts 59 = .ok (.aload_n 0, 1) := by decide +kernel
theorem dX8_cuts_60 : decode cX8_cuts 60 = .ok (.invokevirtual 178, 3) := by decide +kernel
theorem dX8_cuts_63 : decode cX8_cuts 63 = .ok (.ireturn, 1) := by decide +kernel
theorem dX8_zones_0 : decode cX8_zones 0 = .ok (.aload_n 0, 1) := by decide +kernel
theorem dX8_zones_1 : decode cX8_zones 1 = .ok (.iload_n 1, 1) := by decide +kernel
theorem dX8_zones_2 : decode cX8_zones 2 = .ok (.invokevirtual 99, 3) := by decide +kernel
theorem dX8_zones_5 : decode cX8_zones 5 = .ok (.ifCond .eq 30, 3) := by decide +kernel
theorem dX8_zones_8 : decode cX8_zones 8 = .ok (.iload_n 2, 1) := by decide +kernel
theorem dX8_zones_9 : decode cX8_zones 9 = .ok (.iconst 0, 1) := by decide +kernel
theorem dX8_zones_10 : decode cX8_zones 10 = .ok (.iconst 3, 1) := by decide +kernel
theorem dX8_zones_11 : decode cX8_zones 11 = .ok (.invokestatic 55, 3) := by decide +kernel
theorem dX8_zones_14 : decode cX8_zones 14 = .ok (.ifCond .eq 21, 3) := by decide +kernel
theorem dX8_zones_17 : decode cX8_zones 17 = .ok (.iload_n 3, 1) := by decide +kernel
theorem dX8_zones_18 : decode cX8_zones 18 = .ok (.iconst 0, 1) := by decide +kernel
theorem dX8_zones_19 : decode cX8_zones 19 = .ok (.iconst 1, 1) := by decide +kernel
theorem dX8_zones_20 : decode cX8_zones 20 = .ok (.aload_n 0, 1) := by decide +kernel
theorem dX8_zones_21 : decode cX8_zones 21 = .ok (.getfield 7, 3) := by decide +kernel
theorem dX8_zones_24 : decode cX8_zones 24 = .ok (.iconst 1, 1) := by decide +kernel
theorem dX8_zones_25 : decode cX8_zones 25 = .ok (.iaload, 1) := by decide +kernel
theorem dX8_zones_26 : decode cX8_zones 26 = .ok (.ishl, 1) := by decide +kernel
theorem dX8_zones_27 : decode cX8_zones 27 = .ok (.iconst 1, 1) := by decide +kernel
theorem dX8_zones_28 : decode cX8_zones 28 = .ok (.isub, 1) := by decide +kernel
theorem dX8_zones_29 : decode cX8_zones 29 = .ok (.invokestatic 55, 3) := by decide +kernel
theorem dX8_zones_32 : decode cX8_zones 32 = .ok (.ifCond .ne 5, 3) := by decide +kernel
theorem dX8_zones_35 : decode cX8_zones 35 = .ok (.iconst (-1), 1) := by decide +kernel
theorem dX8_zones_36 : decode cX8_zones 36 = .ok (.ireturn, 1) := by decide +kernel
theorem dX8_zones_37 : decode cX8_zones 37 = .ok (.aload_n 0, 1) := by decide +kernel
theorem dX8_zones_38 : decode cX8_zones 38 = .ok (.iload_n 1, 1) := by decide +kernel
theorem dX8_zones_39 : decode cX8_zones 39 = .ok (.iload_n 2, 1) := by decide +kernel
theorem dX8_zones_40 : decode cX8_zones 40 = .ok (.invokevirtual 125, 3) := by decide +kernel
theorem dX8_zones_43 : decode cX8_zones 43 = .ok (.istore 4, 2) := by decide +kernel
theorem dX8_zones_45 : decode cX8_zones 45 = .ok (.iload 4, 2) := by decide +kernel
theorem dX8_zones_47 : decode cX8_zones 47 = .ok (.iload_n 3, 1) := by decide +kernel
theorem dX8_zones_48 : decode cX8_zones 48 = .ok (.if_icmp .ne 6, 3) := by decide +kernel
theorem dX8_zones_51 : decode cX8_zones 51 = .ok (.bipush (-2), 2) := by decide +kernel
theorem dX8_zones_53 : decode cX8_zones 53 = .ok (.ireturn, 1) := by decide +kernel
theorem dX8_zones_54 : decode cX8_zones 54 = .ok (.aload_n 0, 1) := by decide +kernel
theorem dX8_zones_55 : decode cX8_zones 55 = .ok (.invokevirtual 93, 3) := by decide +kernel
theorem dX8_zones_58 : decode cX8_zones 58 = .ok (.aload_n 0, 1) := by decide +kernel
theorem dX8_zones_59 : decode cX8_zones 59 = .ok (.invokevirtual 165, 3) := by decide +kernel
theorem dX8_zones_62 : decode cX8_zones 62 = .ok (.aload_n 0, 1) := by decide +kernel
theorem dX8_zones_63 : decode cX8_zones 63 = .ok (.aload_n 0, 1) := by decide +kernel
theorem dX8_zones_64 : decode cX8_zones 64 = .ok (.iload_n 1, 1) := by decide +kernel
theorem dX8_zones_65 : decode cX8_zones 65 = .ok (.invokevirtual 109, 3) := by decide +kernel
theorem dX8_zones_68 : decode cX8_zones 68 = .ok (.iload_n 2, 1) := by decide +kernel
theorem dX8_zones_69 : decode cX8_zones 69 = .ok (.iload_n 3, 1) := by decide +kernel
theorem dX8_zones_70 : decode cX8_zones 70 = .ok (.invokevirtual 168, 3) := by decide +kernel
theorem dX8_zones_73 : decode cX8_zones 73 = .ok (.aload_n 0, 1) := by decide +kernel
theorem dX8_zones_74 : decode cX8_zones 74 = .ok (.invokevirtual 175, 3) := by decide +kernel
theorem dX8_zones_77 : decode cX8_zones 77 = .ok (.iload 4, 2) := by decide +kernel
theorem dX8_zones_79 : decode cX8_zones 79 = .ok (.ireturn, 1) := by decide +kernel
theorem dX8_moves_0 : decode cX8_moves 0 = .ok (.aload_n 0, 1) := by decide +kernel
theorem dX8_moves_1 : decode cX8_moves 1 = .ok (.iload_n 1, 1) := by decide +kernel
theorem dX8_moves_2 : decode cX8_moves 2 = .ok (.invokevirtual 181, 3) := by decide +kernel
theorem dX8_moves_5 : decode cX8_moves 5 = .ok (.ifCond .eq 17, 3) := by decide +kernel
theorem dX8_moves_8 : decode cX8_moves 8 = .ok (.iload_n 2, 1) := by decide +kernel
theorem dX8_moves_9 : decode cX8_moves 9 = .ok (.bipush (-9), 2) := by decide +kernel
theorem dX8_moves_11 : decode cX8_moves 11 = .ok (.if_icmp .eq 13, 3) := by decide +kernel
theorem dX8_moves_14 : decode cX8_moves 14 = .ok (.aload_n 0, 1) := by decide +kernel
theorem dX8_moves_15 : decode cX8_moves 15 = .ok (.iload_n 2, 1) := by decide +kernel
theorem dX8_moves_16 : decode cX8_moves 16 = .ok (.invokevirtual 99, 3) := by decide +kernel
theorem dX8_moves_19 : decode cX8_moves 19 = .ok (.ifCond .ne 5, 3) := by decide +kernel
theorem dX8_moves_22 : decode cX8_moves 22 = .ok (.iconst (-1), 1) := by decide +kernel
theorem dX8_moves_23 : decode cX8_moves 23 = .ok (.ireturn, 1) := by decide +kernel
theorem dX8_moves_24 : decode cX8_moves 24 = .ok (.aload_n 0, 1) := by decide +kernel
theorem dX8_moves_25 : decode cX8_moves 25 = .ok (.getfield 7, 3) := by decide +kernel
theorem dX8_moves_28 : decode cX8_moves 28 = .ok (.bipush 27, 2) := by decide +kernel
theorem dX8_moves_30 : decode cX8_moves 30 = .ok (.iload_n 1, 1) := by decide +kernel
theorem dX8_moves_31 : decode cX8_moves 31 = .ok (.iadd, 1) := by decide +kernel
theorem dX8_moves_32 : decode cX8_moves 32 = .ok (.iaload, 1) := by decide +kernel
theorem dX8_moves_33 : decode cX8_moves 33 = .ok (.istore_n 3, 1) := by decide +kernel
theorem dX8_moves_34 : decode cX8_moves 34 = .ok (.iload_n 3, 1) := by decide +kernel
theorem dX8_moves_35 : decode cX8_moves 35 = .ok (.iload_n 2, 1) := by decide +kernel
theorem dX8_moves_36 : decode cX8_moves 36 = .ok (.if_icmp .ne 6, 3) := by decide +kernel
theorem dX8_moves_39 : decode cX8_moves 39 = .ok (.bipush (-2), 2) := by decide +kernel
theorem dX8_moves_41 : decode cX8_moves 41 = .ok (.ireturn, 1) := by decide +kernel
theorem dX8_moves_42 : decode cX8_moves 42 = .ok (.aload_n 0, 1) := by decide +kernel
theorem dX8_moves_43 : decode cX8_moves 43 = .ok (.invokevirtual 93, 3) := by decide +kernel
theorem dX8_moves_46 : decode cX8_moves 46 = .ok (.aload_n 0, 1) := by decide +kernel
theorem dX8_moves_47 : decode cX8_moves 47 = .ok (.invokevirtual 165, 3) := by decide +kernel
theorem dX8_moves_50 : decode cX8_moves 50 = .ok (.aload_n 0, 1) := by decide +kernel
theorem dX8_moves_51 : decode cX8_moves 51 = .ok (.getfield 7, 3) := by decide +kernel
theorem dX8_moves_54 : decode cX8_moves 54 = .ok (.bipush 27, 2) := by decide +kernel
theorem dX8_moves_56 : decode cX8_moves 56 = .ok (.iload_n 1, 1) := by decide +kernel
theorem dX8_moves_57 : decode cX8_moves 57 = .ok (.iadd, 1) := by decide +kernel
theorem dX8_moves_58 : decode cX8_moves 58 = .ok (.iload_n 2, 1) := by decide +kernel
theorem dX8_moves_59 : decode cX8_moves 59 = .ok (.iastore, 1) := by decide +kernel
theorem dX8_moves_60 : decode cX8_moves 60 = .ok (.aload_n 0, 1) := by decide +kernel
theorem dX8_moves_61 : decode cX8_moves 61 = .ok (.invokevirtual 175, 3) := by decide +kernel
theorem dX8_moves_64 : decode cX8_moves 64 = .ok (.iload_n 3, 1) := by decide +kernel
theorem dX8_moves_65 : decode cX8_moves 65 = .ok (.ireturn, 1) := by decide +kernel
theorem dX8_ranks_0 : decode cX8_ranks 0 = .ok (.aload_n 0, 1) := by decide +kernel
theorem dX8_ranks_1 : decode cX8_ranks 1 = .ok (.iload_n 1, 1) := by decide +kernel
theorem dX8_ranks_2 : decode cX8_ranks 2 = .ok (.invokevirtual 99, 3) := by decide +kernel
theorem dX8_ranks_5 : decode cX8_ranks 5 = .ok (.ifCond .eq 13, 3) := by decide +kernel
theorem dX8_ranks_8 : decode cX8_ranks 8 = .ok (.iload_n 2, 1) := by decide +kernel
theorem dX8_ranks_9 : decode cX8_ranks 9 = .ok (.iconst 1, 1) := by decide +kernel
theorem dX8_ranks_10 : decode cX8_ranks 10 = .ok (.bipush 9, 2) := by decide +kernel
theorem dX8_ranks_12 : decode cX8_ranks 12 = .ok (.invokestatic 55, 3) := by decide +kernel
theorem dX8_ranks_15 : decode cX8_ranks 15 = .ok (.ifCond .ne 5, 3) := by decide +kernel
theorem dX8_ranks_18 : decode cX8_ranks 18 = .ok (.iconst (-1), 1) := by decide +kernel
theorem dX8_ranks_19 : decode cX8_ranks 19 = .ok (.ireturn, 1) := by decide +kernel
theorem dX8_ranks_20 : decode cX8_ranks 20 = .ok (.aload_n 0, 1) := by decide +kernel
theorem dX8_ranks_21 : decode cX8_ranks 21 = .ok (.iload_n 1, 1) := by decide +kernel
theorem dX8_ranks_22 : decode cX8_ranks 22 = .ok (.iconst 0, 1) := by decide +kernel
theorem dX8_ranks_23 : decode cX8_ranks 23 = .ok (.invokevirtual 115, 3) := by decide +kernel
theorem dX8_ranks_26 : decode cX8_ranks 26 = .ok (.istore_n 3, 1) := by decide +kernel
theorem dX8_ranks_27 : decode cX8_ranks 27 = .ok (.iload_n 3, 1) := by decide +kernel
theorem dX8_ranks_28 : decode cX8_ranks 28 = .ok (.iload_n 2, 1) := by decide +kernel
theorem dX8_ranks_29 : decode cX8_ranks 29 = .ok (.if_icmp .ne 6, 3) := by decide +kernel
theorem dX8_ranks_32 : decode cX8_ranks 32 = .ok (.bipush (-2), 2) := by decide +kernel
theorem dX8_ranks_34 : decode cX8_ranks 34 = .ok (.ireturn, 1) := by decide +kernel
theorem dX8_ranks_35 : decode cX8_ranks 35 = .ok (.aload_n 0, 1) := by decide +kernel
theorem dX8_ranks_36 : decode cX8_ranks 36 = .ok (.invokevirtual 93, 3) := by decide +kernel
theorem dX8_ranks_39 : decode cX8_ranks 39 = .ok (.aload_n 0, 1) := by decide +kernel
theorem dX8_ranks_40 : decode cX8_ranks 40 = .ok (.getfield 7, 3) := by decide +kernel
theorem dX8_ranks_43 : decode cX8_ranks 43 = .ok (.iconst 3, 1) := by decide +kernel
theorem dX8_ranks_44 : decode cX8_ranks 44 = .ok (.iconst 4, 1) := by decide +kernel
theorem dX8_ranks_45 : decode cX8_ranks 45 = .ok (.iload_n 1, 1) := by decide +kernel
theorem dX8_ranks_46 : decode cX8_ranks 46 = .ok (.imul, 1) := by decide +kernel
theorem dX8_ranks_47 : decode cX8_ranks 47 = .ok (.iadd, 1) := by decide +kernel
theorem dX8_ranks_48 : decode cX8_ranks 48 = .ok (.iconst 0, 1) := by decide +kernel
theorem dX8_ranks_49 : decode cX8_ranks 49 = .ok (.iadd, 1) := by decide +kernel
theorem dX8_ranks_50 : decode cX8_ranks 50 = .ok (.iload_n 2, 1) := by decide +kernel
theorem dX8_ranks_51 : decode cX8_ranks 51 = .ok (.iastore, 1) := by decide +kernel
theorem dX8_ranks_52 : decode cX8_ranks 52 = .ok (.iload_n 3, 1) := by decide +kernel
theorem dX8_ranks_53 : decode cX8_ranks 53 = .ok (.ireturn, 1) := by decide +kernel
theorem dX8_renews_0 : decode cX8_renews 0 = .ok (.aload_n 0, 1) := by decide +kernel
theorem dX8_renews_1 : decode cX8_renews 1 = .ok (.iload_n 1, 1) := by decide +kernel
theorem dX8_renews_2 : decode cX8_renews 2 = .ok (.invokevirtual 99, 3) := by decide +kernel
theorem dX8_renews_5 : decode cX8_renews 5 = .ok (.ifCond .ne 5, 3) := by decide +kernel
theorem dX8_renews_8 : decode cX8_renews 8 = .ok (.iconst (-1), 1) := by decide +kernel
theorem dX8_renews_9 : decode cX8_renews 9 = .ok (.ireturn, 1) := by decide +kernel
theorem dX8_renews_10 : decode cX8_renews 10 = .ok (.aload_n 0, 1) := by decide +kernel
theorem dX8_renews_11 : decode cX8_renews 11 = .ok (.invokevirtual 93, 3) := by decide +kernel
theorem dX8_renews_14 : decode cX8_renews 14 = .ok (.aload_n 0, 1) := by decide +kernel
theorem dX8_renews_15 : decode cX8_renews 15 = .ok (.aload_n 0, 1) := by decide +kernel
theorem dX8_renews_16 : decode cX8_renews 16 = .ok (.iload_n 1, 1) := by decide +kernel
theorem dX8_renews_17 : decode cX8_renews 17 = .ok (.invokevirtual 109, 3) := by decide +kernel
theorem dX8_renews_20 : decode cX8_renews 20 = .ok (.invokevirtual 172, 3) := by decide +kernel
theorem dX8_renews_23 : decode cX8_renews 23 = .ok (.ireturn, 1) := by decide +kernel
theorem dX8_allows_0 : decode cX8_allows 0 = .ok (.iload_n 1, 1) := by decide +kernel
theorem dX8_allows_1 : decode cX8_allows 1 = .ok (.iconst 0, 1) := by decide +kernel
theorem dX8_allows_2 : decode cX8_allows 2 = .ok (.iconst 1, 1) := by decide +kernel
theorem dX8_allows_3 : decode cX8_allows 3 = .ok (.invokestatic 55, 3) := by decide +kernel
theorem dX8_allows_6 : decode cX8_allows 6 = .ok (.ifCond .ne 5, 3) := by decide +kernel
theorem dX8_allows_9 : decode cX8_allows 9 = .ok (.iconst (-1), 1) := by decide +kernel
theorem dX8_allows_10 : decode cX8_allows 10 = .ok (.ireturn, 1) := by decide +kernel
theorem dX8_allows_11 : decode cX8_allows 11 = .ok (.aload_n 0, 1) := by decide +kernel
theorem dX8_allows_12 : decode cX8_allows 12 = .ok (.getfield 7, 3) := by decide +kernel
theorem dX8_allows_15 : decode cX8_allows 15 = .ok (.iconst 2, 1) := by decide +kernel
theorem dX8_allows_16 : decode cX8_allows 16 = .ok (.iaload, 1) := by decide +kernel
theorem dX8_allows_17 : decode cX8_allows 17 = .ok (.iload_n 1, 1) := by decide +kernel
theorem dX8_allows_18 : decode cX8_allows 18 = .ok (.if_icmp .ne 6, 3) := by decide +kernel
theorem dX8_allows_21 : decode cX8_allows 21 = .ok (.bipush (-2), 2) := by decide +kernel
theorem dX8_allows_23 : decode cX8_allows 23 = .ok (.ireturn, 1) := by decide +kernel
theorem dX8_allows_24 : decode cX8_allows 24 = .ok (.aload_n 0, 1) := by decide +kernel
theorem dX8_allows_25 : decode cX8_allows 25 = .ok (.invokevirtual 93, 3) := by decide +kernel
theorem dX8_allows_28 : decode cX8_allows 28 = .ok (.aload_n 0, 1) := by decide +kernel
theorem dX8_allows_29 : decode cX8_allows 29 = .ok (.getfield 7, 3) := by decide +kernel
theorem dX8_allows_32 : decode cX8_allows 32 = .ok (.iconst 2, 1) := by decide +kernel
theorem dX8_allows_33 : decode cX8_allows 33 = .ok (.iload_n 1, 1) := by decide +kernel
theorem dX8_allows_34 : decode cX8_allows 34 = .ok (.iastore, 1) := by decide +kernel
theorem dX8_allows_35 : decode cX8_allows 35 = .ok (.iconst 1, 1) := by decide +kernel
theorem dX8_allows_36 : decode cX8_allows 36 = .ok (.ireturn, 1) := by decide +kernel
theorem dX8_undo_0 : decode cX8_undo 0 = .ok (.aload_n 0, 1) := by decide +kernel
theorem dX8_undo_1 : decode cX8_undo 1 = .ok (.getfield 41, 3) := by decide +kernel
theorem dX8_undo_4 : decode cX8_undo 4 = .ok (.ifCond .ne 6, 3) := by decide +kernel
theorem dX8_undo_7 : decode cX8_undo 7 = .ok (.bipush (-2), 2) := by decide +kernel
theorem dX8_undo_9 : decode cX8_undo 9 = .ok (.ireturn, 1) := by decide +kernel
theorem dX8_undo_10 : decode cX8_undo 10 = .ok (.aload_n 0, 1) := by decide +kernel
theorem dX8_undo_11 : decode cX8_undo 11 = .ok (.dup, 1) := by decide +kernel
theorem dX8_undo_12 : decode cX8_undo 12 = .ok (.getfield 41, 3) := by decide +kernel
theorem dX8_undo_15 : decode cX8_undo 15 = .ok (.iconst 1, 1) := by decide +kernel
theorem dX8_undo_16 : decode cX8_undo 16 = .ok (.isub, 1) := by decide +kernel
theorem dX8_undo_17 : decode cX8_undo 17 = .ok (.putfield 41, 3) := by decide +kernel
theorem dX8_undo_20 : decode cX8_undo 20 = .ok (.aload_n 0, 1) := by decide +kernel
theorem dX8_undo_21 : decode cX8_undo 21 = .ok (.getfield 16, 3) := by decide +kernel
theorem dX8_undo_24 : decode cX8_undo 24 = .ok (.bipush 87, 2) := by decide +kernel
theorem dX8_undo_26 : decode cX8_undo 26 = .ok (.aload_n 0, 1) := by decide +kernel
theorem dX8_undo_27 : decode cX8_undo 27 = .ok (.getfield 41, 3) := by decide +kernel
theorem dX8_undo_30 : decode cX8_undo 30 = .ok (.imul, 1) := by decide +kernel
theorem dX8_undo_31 : decode cX8_undo 31 = .ok (.aload_n 0, 1) := by decide +kernel
theorem dX8_undo_32 : decode cX8_undo 32 = .ok (.getfield 7, 3) := by decide +kernel
theorem dX8_undo_35 : decode cX8_undo 35 = .ok (.iconst 0, 1) := by decide +kernel
theorem dX8_undo_36 : decode cX8_undo 36 = .ok (.invokestatic 45, 3) := by decide +kernel
theorem dX8_undo_39 : decode cX8_undo 39 = .ok (.aload_n 0, 1) := by decide +kernel
theorem dX8_undo_40 : decode cX8_undo 40 = .ok (.getfield 41, 3) := by decide +kernel
theorem dX8_undo_43 : decode cX8_undo 43 = .ok (.ireturn, 1) := by decide +kernel
theorem dX8_hostsAt_0 : decode cX8_hostsAt 0 = .ok (.iconst 0, 1) := by decide +kernel
theorem dX8_hostsAt_1 : decode cX8_hostsAt 1 = .ok (.istore_n 2, 1) := by decide +kernel
theorem dX8_hostsAt_2 : decode cX8_hostsAt 2 = .ok (.iconst 0, 1) := by decide +kernel
theorem dX8_hostsAt_3 : decode cX8_hostsAt 3 = .ok (.istore_n 3, 1) := by decide +kernel
theorem dX8_hostsAt_4 : decode cX8_hostsAt 4 = .ok (.iload_n 3, 1) := by decide +kernel
theorem dX8_hostsAt_5 : decode cX8_hostsAt 5 = .ok (.aload_n 0, 1) := by decide +kernel
theorem dX8_hostsAt_6 : decode cX8_hostsAt 6 = .ok (.getfield 7, 3) := by decide +kernel
theorem dX8_hostsAt_9 : decode cX8_hostsAt 9 = .ok (.iconst 1, 1) := by decide +kernel
theorem dX8_hostsAt_10 : decode cX8_hostsAt 10 = .ok (.iaload, 1) := by decide +kernel
theorem dX8_hostsAt_11 : decode cX8_hostsAt 11 = .ok (.if_icmp .ge 32, 3) := by decide +kernel
theorem dX8_hostsAt_14 : decode cX8_hostsAt 14 = .ok (.iload_n 2, 1) := by decide +kernel
theorem dX8_hostsAt_15 : decode cX8_hostsAt 15 = .ok (.aload_n 0, 1) := by decide +kernel
theorem dX8_hostsAt_16 : decode cX8_hostsAt 16 = .ok (.getfield 7, 3) := by decide +kernel
theorem dX8_hostsAt_19 : decode cX8_hostsAt 19 = .ok (.bipush 27, 2) := by decide +kernel
theorem dX8_hostsAt_21 : decode cX8_hostsAt 21 = .ok (.iload_n 3, 1) := by decide +kernel
theorem dX8_hostsAt_22 : decode cX8_hostsAt 22 = .ok (.iadd, 1) := by decide +kernel
theorem dX8_hostsAt_23 : decode cX8_hostsAt 23 = .ok (.iaload, 1) := by decide +kernel
theorem dX8_hostsAt_24 : decode cX8_hostsAt 24 = .ok (.iload_n 1, 1) := by decide +kernel
theorem dX8_hostsAt_25 : decode cX8_hostsAt 25 = .ok (.if_icmp .ne 9, 3) := by decide +kernel
theorem dX8_hostsAt_28 : decode cX8_hostsAt 28 = .ok (.iconst 1, 1) := by decide +kernel
theorem dX8_hostsAt_29 : decode cX8_hostsAt 29 = .ok (.iload_n 3, 1) := by decide +kernel
theorem dX8_hostsAt_30 : decode cX8_hostsAt 30 = .ok (.ishl, 1) := by decide +kernel
theorem dX8_hostsAt_31 : decode cX8_hostsAt 31 = .ok (.goto 4, 3) := by decide +kernel
theorem dX8_hostsAt_34 : decode cX8_hostsAt 34 = .ok (.iconst 0, 1) := by decide +kernel
theorem dX8_hostsAt_35 : decode cX8_hostsAt 35 = .ok (.ior, 1) := by decide +kernel
theorem dX8_hostsAt_36 : decode cX8_hostsAt 36 = .ok (.istore_n 2, 1) := by decide +kernel
theorem dX8_hostsAt_37 : decode cX8_hostsAt 37 = .ok (.iinc 3 1, 3) := by decide +kernel
theorem dX8_hostsAt_40 : decode cX8_hostsAt 40 = .ok (.goto (-36), 3) := by decide +kernel
theorem dX8_hostsAt_43 : decode cX8_hostsAt 43 = .ok (.iload_n 2, 1) := by decide +kernel
theorem dX8_hostsAt_44 : decode cX8_hostsAt 44 = .ok (.ireturn, 1) := by decide +kernel
theorem dX8_device_0 : decode cX8_device 0 = .ok (.aload_n 0, 1) := by decide +kernel
theorem dX8_device_1 : decode cX8_device 1 = .ok (.iload_n 1, 1) := by decide +kernel
theorem dX8_device_2 : decode cX8_device 2 = .ok (.invokevirtual 99, 3) := by decide +kernel
theorem dX8_device_5 : decode cX8_device 5 = .ok (.ifCond .eq 13, 3) := by decide +kernel
theorem dX8_device_8 : decode cX8_device 8 = .ok (.iload_n 2, 1) := by decide +kernel
theorem dX8_device_9 : decode cX8_device 9 = .ok (.iconst 0, 1) := by decide +kernel
theorem dX8_device_10 : decode cX8_device 10 = .ok (.bipush 7, 2) := by decide +kernel
theorem dX8_device_12 : decode cX8_device 12 = .ok (.invokestatic 55, 3) := by decide +kernel
theorem dX8_device_15 : decode cX8_device 15 = .ok (.ifCond .ne 5, 3) := by decide +kernel
theorem dX8_device_18 : decode cX8_device 18 = .ok (.iconst (-1), 1) := by decide +kernel
theorem dX8_device_19 : decode cX8_device 19 = .ok (.ireturn, 1) := by decide +kernel
theorem dX8_device_20 : decode cX8_device 20 = .ok (.iload_n 2, 1) := by decide +kernel
theorem dX8_device_21 : decode cX8_device 21 = .ok (.tableswitch 59 4 7 #[31, 41, 47, 53], 31) := by decide +kernel
theorem dX8_device_52 : decode cX8_device 52 = .ok (.aload_n 0, 1) := by decide +kernel
theorem dX8_device_53 : decode cX8_device 53 = .ok (.aload_n 0, 1) := by decide +kernel
theorem dX8_device_54 : decode cX8_device 54 = .ok (.iload_n 1, 1) := by decide +kernel
theorem dX8_device_55 : decode cX8_device 55 = .ok (.invokevirtual 109, 3) := by decide +kernel
theorem dX8_device_58 : decode cX8_device 58 = .ok (.invokevirtual 119, 3) := by decide +kernel
theorem dX8_device_61 : decode cX8_device 61 = .ok (.ireturn, 1) := by decide +kernel
theorem dX8_device_62 : decode cX8_device 62 = .ok (.aload_n 0, 1) := by decide +kernel
theorem dX8_device_63 : decode cX8_device 63 = .ok (.iload_n 1, 1) := by decide +kernel
theorem dX8_device_64 : decode cX8_device 64 = .ok (.invokevirtual 122, 3) := by decide +kernel
theorem dX8_device_67 : decode cX8_device 67 = .ok (.ireturn, 1) := by decide +kernel
theorem dX8_device_68 : decode cX8_device 68 = .ok (.aload_n 0, 1) := by decide +kernel
theorem dX8_device_69 : decode cX8_device 69 = .ok (.iload_n 1, 1) := by decide +kernel
theorem dX8_device_70 : decode cX8_device 70 = .ok (.invokevirtual 109, 3) := by decide +kernel
theorem dX8_device_73 : decode cX8_device 73 = .ok (.ireturn, 1) := by decide +kernel
theorem dX8_device_74 : decode cX8_device 74 = .ok (.aload_n 0, 1) := by decide +kernel
theorem dX8_device_75 : decode cX8_device 75 = .ok (.iload_n 1, 1) := by decide +kernel
theorem dX8_device_76 : decode cX8_device 76 = .ok (.invokevirtual 184, 3) := by decide +kernel
theorem dX8_device_79 : decode cX8_device 79 = .ok (.ireturn, 1) := by decide +kernel
theorem dX8_device_80 : decode cX8_device 80 = .ok (.aload_n 0, 1) := by decide +kernel
theorem dX8_device_81 : decode cX8_device 81 = .ok (.iload_n 1, 1) := by decide +kernel
theorem dX8_device_82 : decode cX8_device 82 = .ok (.iload_n 2, 1) := by decide +kernel
theorem dX8_device_83 : decode cX8_device 83 = .ok (.invokevirtual 115, 3) := by decide +kernel
theorem dX8_device_86 : decode cX8_device 86 = .ok (.ireturn, 1) := by decide +kernel
theorem dX8_link_0 : decode cX8_link 0 = .ok (.aload_n 0, 1) := by decide +kernel
theorem dX8_link_1 : decode cX8_link 1 = .ok (.iload_n 1, 1) := by decide +kernel
theorem dX8_link_2 : decode cX8_link 2 = .ok (.iload_n 2, 1) := by decide +kernel
theorem dX8_link_3 : decode cX8_link 3 = .ok (.invokevirtual 152, 3) := by decide +kernel
theorem dX8_link_6 : decode cX8_link 6 = .ok (.ifCond .ne 7, 3) := by decide +kernel
theorem dX8_link_9 : decode cX8_link 9 = .ok (.iconst (-1), 1) := by decide +kernel
theorem dX8_link_10 : decode cX8_link 10 = .ok (.goto 37, 3) := by decide +kernel
theorem dX8_link_13 : decode cX8_link 13 = .ok (.aload_n 0, 1) := by decide +kernel
theorem dX8_link_14 : decode cX8_link 14 = .ok (.iload_n 1, 1) := by decide +kernel
theorem dX8_link_15 : decode cX8_link 15 = .ok (.iload_n 2, 1) := by decide +kernel
theorem dX8_link_16 : decode cX8_link 16 = .ok (.invokevirtual 155, 3) := by decide +kernel
theorem dX8_link_19 : decode cX8_link 19 = .ok (.ifCond .eq 7, 3) := by decide +kernel
theorem dX8_link_22 : decode cX8_link 22 = .ok (.iconst 1, 1) := by decide +kernel
theorem dX8_link_23 : decode cX8_link 23 = .ok (.goto 24, 3) := by decide +kernel
theorem dX8_link_26 : decode cX8_link 26 = .ok (.aload_n 0, 1) := by decide +kernel
theorem dX8_link_27 : decode cX8_link 27 = .ok (.getfield 7, 3) := by decide +kernel
theorem dX8_link_30 : decode cX8_link 30 = .ok (.bipush 41, 2) := by decide +kernel
theorem dX8_link_32 : decode cX8_link 32 = .ok (.iload_n 1, 1) := by decide +kernel
theorem dX8_link_33 : decode cX8_link 33 = .ok (.iadd, 1) := by decide +kernel
theorem dX8_link_34 : decode cX8_link 34 = .ok (.iaload, 1) := by decide +kernel
theorem dX8_link_35 : decode cX8_link 35 = .ok (.iload_n 2, 1) := by decide +kernel
theorem dX8_link_36 : decode cX8_link 36 = .ok (.invokestatic 102, 3) := by decide +kernel
theorem dX8_link_39 : decode cX8_link 39 = .ok (.ifCond .eq 7, 3) := by decide +kernel
theorem dX8_link_42 : decode cX8_link 42 = .ok (.iconst 2, 1) := by decide +kernel
theorem dX8_link_43 : decode cX8_link 43 = .ok (.goto 4, 3) := by decide +kernel
theorem dX8_link_46 : decode cX8_link 46 = .ok (.iconst 0, 1) := by decide +kernel
theorem dX8_link_47 : decode cX8_link 47 = .ok (.ireturn, 1) := by decide +kernel
theorem dX8_zone_0 : decode cX8_zone 0 = .ok (.aload_n 0, 1) := by decide +kernel
theorem dX8_zone_1 : decode cX8_zone 1 = .ok (.iload_n 1, 1) := by decide +kernel
theorem dX8_zone_2 : decode cX8_zone 2 = .ok (.invokevirtual 99, 3) := by decide +kernel
theorem dX8_zone_5 : decode cX8_zone 5 = .ok (.ifCond .eq 21, 3) := by decide +kernel
theorem dX8_zone_8 : decode cX8_zone 8 = .ok (.iload_n 2, 1) := by decide +kernel
theorem dX8_zone_9 : decode cX8_zone 9 = .ok (.iconst 0, 1) := by decide +kernel
theorem dX8_zone_10 : decode cX8_zone 10 = .ok (.iconst 3, 1) := by decide +kernel
theorem dX8_zone_11 : decode cX8_zone 11 = .ok (.invokestatic 55, 3) := by decide +kernel
theorem dX8_zone_14 : decode cX8_zone 14 = .ok (.ifCond .eq 12, 3) := by decide +kernel
theorem dX8_zone_17 : decode cX8_zone 17 = .ok (.aload_n 0, 1) := by decide +kernel
theorem dX8_zone_18 : decode cX8_zone 18 = .ok (.iload_n 1, 1) := by decide +kernel
theorem dX8_zone_19 : decode cX8_zone 19 = .ok (.iload_n 2, 1) := by decide +kernel
theorem dX8_zone_20 : decode cX8_zone 20 = .ok (.invokevirtual 125, 3) := by decide +kernel
theorem dX8_zone_23 : decode cX8_zone 23 = .ok (.goto 4, 3) := by decide +kernel
theorem dX8_zone_26 : decode cX8_zone 26 = .ok (.iconst (-1), 1) := by decide +kernel
theorem dX8_zone_27 : decode cX8_zone 27 = .ok (.ireturn, 1) := by decide +kernel
theorem dX8_host_0 : decode cX8_host 0 = .ok (.aload_n 0, 1) := by decide +kernel
theorem dX8_host_1 : decode cX8_host 1 = .ok (.iload_n 1, 1) := by decide +kernel
theorem dX8_host_2 : decode cX8_host 2 = .ok (.invokevirtual 181, 3) := by decide +kernel
theorem dX8_host_5 : decode cX8_host 5 = .ok (.ifCond .eq 12, 3) := by decide +kernel
theorem dX8_host_8 : decode cX8_host 8 = .ok (.iload_n 2, 1) := by decide +kernel
theorem dX8_host_9 : decode cX8_host 9 = .ok (.iconst 0, 1) := by decide +kernel
theorem dX8_host_10 : decode cX8_host 10 = .ok (.iconst 3, 1) := by decide +kernel
theorem dX8_host_11 : decode cX8_host 11 = .ok (.invokestatic 55, 3) := by decide +kernel
theorem dX8_host_14 : decode cX8_host 14 = .ok (.ifCond .ne 5, 3) := by decide +kernel
theorem dX8_host_17 : decode cX8_host 17 = .ok (.iconst (-1), 1) := by decide +kernel
theorem dX8_host_18 : decode cX8_host 18 = .ok (.ireturn, 1) := by decide +kernel
theorem dX8_host_19 : decode cX8_host 19 = .ok (.iload_n 2, 1) := by decide +kernel
theorem dX8_host_20 : decode cX8_host 20 = .ok (.ifCond .ne 15, 3) := by decide +kernel
theorem dX8_host_23 : decode cX8_host 23 = .ok (.aload_n 0, 1) := by decide +kernel
theorem dX8_host_24 : decode cX8_host 24 = .ok (.getfield 7, 3) := by decide +kernel
theorem dX8_host_27 : decode cX8_host 27 = .ok (.bipush 27, 2) := by decide +kernel
theorem dX8_host_29 : decode cX8_host 29 = .ok (.iload_n 1, 1) := by decide +kernel
theorem dX8_host_30 : decode cX8_host 30 = .ok (.iadd, 1) := by decide +kernel
theorem dX8_host_31 : decode cX8_host 31 = .ok (.iaload, 1) := by decide +kernel
theorem dX8_host_32 : decode cX8_host 32 = .ok (.goto 35, 3) := by decide +kernel
theorem dX8_host_35 : decode cX8_host 35 = .ok (.iload_n 2, 1) := by decide +kernel
theorem dX8_host_36 : decode cX8_host 36 = .ok (.iconst 1, 1) := by decide +kernel
theorem dX8_host_37 : decode cX8_host 37 = .ok (.if_icmp .ne 11, 3) := by decide +kernel
theorem dX8_host_40 : decode cX8_host 40 = .ok (.aload_n 0, 1) := by decide +kernel
theorem dX8_host_41 : decode cX8_host 41 = .ok (.iload_n 1, 1) := by decide +kernel
theorem dX8_host_42 : decode cX8_host 42 = .ok (.invokevirtual 140, 3) := by decide +kernel
theorem dX8_host_45 : decode cX8_host 45 = .ok (.goto 22, 3) := by decide +kernel
theorem dX8_host_48 : decode cX8_host 48 = .ok (.aload_n 0, 1) := by decide +kernel
theorem dX8_host_49 : decode cX8_host 49 = .ok (.getfield 7, 3) := by decide +kernel
theorem dX8_host_52 : decode cX8_host 52 = .ok (.iload_n 2, 1) := by decide +kernel
theorem dX8_host_53 : decode cX8_host 53 = .ok (.iconst 2, 1) := by decide +kernel
theorem dX8_host_54 : decode cX8_host 54 = .ok (.if_icmp .ne 8, 3) := by decide +kernel
theorem dX8_host_57 : decode cX8_host 57 = .ok (.bipush 71, 2) := by decide +kernel
theorem dX8_host_59 : decode cX8_host 59 = .ok (.goto 5, 3) := by decide +kernel
theorem dX8_host_62 : decode cX8_host 62 = .ok (.bipush 79, 2) := by decide +kernel
theorem dX8_host_64 : decode cX8_host 64 = .ok (.iload_n 1, 1) := by decide +kernel
theorem dX8_host_65 : decode cX8_host 65 = .ok (.iadd, 1) := by decide +kernel
theorem dX8_host_66 : decode cX8_host 66 = .ok (.iaload, 1) := by decide +kernel
theorem dX8_host_67 : decode cX8_host 67 = .ok (.ireturn, 1) := by decide +kernel
theorem dX8_would_0 : decode cX8_would 0 = .ok (.aload_n 0, 1) := by decide +kernel
theorem dX8_would_1 : decode cX8_would 1 = .ok (.iload_n 1, 1) := by decide +kernel
theorem dX8_would_2 : decode cX8_would 2 = .ok (.iload_n 2, 1) := by decide +kernel
theorem dX8_would_3 : decode cX8_would 3 = .ok (.invokevirtual 152, 3) := by decide +kernel
theorem dX8_would_6 : decode cX8_would 6 = .ok (.ifCond .ne 7, 3) := by decide +kernel
theorem dX8_would_9 : decode cX8_would 9 = .ok (.iconst (-1), 1) := by decide +kernel
theorem dX8_would_10 : decode cX8_would 10 = .ok (.goto 23, 3) := by decide +kernel
theorem dX8_would_13 : decode cX8_would 13 = .ok (.aload_n 0, 1) := by decide +kernel
theorem dX8_would_14 : decode cX8_would 14 = .ok (.iload_n 1, 1) := by decide +kernel
theorem dX8_would_15 : decode cX8_would 15 = .ok (.iload_n 2, 1) := by decide +kernel
theorem dX8_would_16 : decode cX8_would 16 = .ok (.invokevirtual 155, 3) := by decide +kernel
theorem dX8_would_19 : decode cX8_would 19 = .ok (.ifCond .eq 8, 3) := by decide +kernel
theorem dX8_would_22 : decode cX8_would 22 = .ok (.bipush (-2), 2) := by decide +kernel
theorem dX8_would_24 : decode cX8_would 24 = .ok (.goto 9, 3) := by decide +kernel
theorem dX8_would_27 : decode cX8_would 27 = .ok (.aload_n 0, 1) := by decide +kernel
theorem dX8_would_28 : decode cX8_would 28 = .ok (.iload_n 1, 1) := by decide +kernel
theorem dX8_would_29 : decode cX8_would 29 = .ok (.iload_n 2, 1) := by decide +kernel
theorem dX8_would_30 : decode cX8_would 30 = .ok (.invokevirtual 158, 3) := by decide +kernel
theorem dX8_would_33 : decode cX8_would 33 = .ok (.ireturn, 1) := by decide +kernel
theorem dX8_findWeakest_0 : decode cX8_findWeakest 0 = .ok (.aload_n 0, 1) := by decide +kernel
theorem dX8_findWeakest_1 : decode cX8_findWeakest 1 = .ok (.bipush (-9), 2) := by decide +kernel
theorem dX8_findWeakest_3 : decode cX8_findWeakest 3 = .ok (.putfield 187, 3) := by decide +kernel
theorem dX8_findWeakest_6 : decode cX8_findWeakest 6 = .ok (.aload_n 0, 1) := by decide +kernel
theorem dX8_findWeakest_7 : decode cX8_findWeakest 7 = .ok (.bipush (-9), 2) := by decide +kernel
theorem dX8_findWeakest_9 : decode cX8_findWeakest 9 = .ok (.putfield 190, 3) := by decide +kernel
theorem dX8_findWeakest_12 : decode cX8_findWeakest 12 = .ok (.aload_n 0, 1) := by decide +kernel
theorem dX8_findWeakest_13 : decode cX8_findWeakest 13 = .ok (.invokevirtual 193, 3) := by decide +kernel
theorem dX8_findWeakest_16 : decode cX8_findWeakest 16 = .ok (.istore_n 1, 1) := by decide +kernel
theorem dX8_findWeakest_17 : decode cX8_findWeakest 17 = .ok (.iconst 0, 1) := by decide +kernel
theorem dX8_findWeakest_18 : decode cX8_findWeakest 18 = .ok (.istore_n 2, 1) := by decide +kernel
theorem dX8_findWeakest_19 : decode cX8_findWeakest 19 = .ok (.iload_n 2, 1) := by decide +kernel
theorem dX8_findWeakest_20 : decode cX8_findWeakest 20 = .ok (.aload_n 0, 1) := by decide +kernel
theorem dX8_findWeakest_21 : decode cX8_findWeakest 21 = .ok (.getfield 7, 3) := by decide +kernel
theorem dX8_findWeakest_24 : decode cX8_findWeakest 24 = .ok (.iconst 0, 1) := by decide +kernel
theorem dX8_findWeakest_25 : decode cX8_findWeakest 25 = .ok (.iaload, 1) := by decide +kernel
theorem dX8_findWeakest_26 : decode cX8_findWeakest 26 = .ok (.if_icmp .ge 110, 3) := by decide +kernel
theorem dX8_findWeakest_29 : decode cX8_findWeakest 29 = .ok (.iload_n 2, 1) := by decide +kernel
theorem dX8_findWeakest_30 : decode cX8_findWeakest 30 = .ok (.iconst 1, 1) := by decide +kernel
theorem dX8_findWeakest_31 : decode cX8_findWeakest 31 = .ok (.iadd, 1) := by decide +kernel
theorem dX8_findWeakest_32 : decode cX8_findWeakest 32 = .ok (.istore_n 3, 1) := by decide +kernel
theorem dX8_findWeakest_33 : decode cX8_findWeakest 33 = .ok (.iload_n 3, 1) := by decide +kernel
theorem dX8_findWeakest_34 : decode cX8_findWeakest 34 = .ok (.aload_n 0, 1) := by decide +kernel
theorem dX8_findWeakest_35 : decode cX8_findWeakest 35 = .ok (.getfield 7, 3) := by decide +kernel
theorem dX8_findWeakest_38 : decode cX8_findWeakest 38 = .ok (.iconst 0, 1) := by decide +kernel
theorem dX8_findWeakest_39 : decode cX8_findWeakest 39 = .ok (.iaload, 1) := by decide +kernel
theorem dX8_findWeakest_40 : decode cX8_findWeakest 40 = .ok (.if_icmp .ge 90, 3) := by decide +kernel
theorem dX8_findWeakest_43 : decode cX8_findWeakest 43 = .ok (.aload_n 0, 1) := by decide +kernel
theorem dX8_findWeakest_44 : decode cX8_findWeakest 44 = .ok (.iload_n 2, 1) := by decide +kernel
theorem dX8_findWeakest_45 : decode cX8_findWeakest 45 = .ok (.iload_n 3, 1) := by decide +kernel
theorem dX8_findWeakest_46 : decode cX8_findWeakest 46 = .ok (.invokevirtual 155, 3) := by decide +kernel
theorem dX8_findWeakest_49 : decode cX8_findWeakest 49 = .ok (.ifCond .eq 75, 3) := by decide +kernel
theorem dX8_findWeakest_52 : decode cX8_findWeakest 52 = .ok (.aload_n 0, 1) := by decide +kernel
theorem dX8_findWeakest_53 : decode cX8_findWeakest 53 = .ok (.iload_n 2, 1) := by decide +kernel
theorem dX8_findWeakest_54 : decode cX8_findWeakest 54 = .ok (.iload_n 3, 1) := by decide +kernel
theorem dX8_findWeakest_55 : decode cX8_findWeakest 55 = .ok (.iconst 0, 1) := by decide +kernel
theorem dX8_findWeakest_56 : decode cX8_findWeakest 56 = .ok (.iconst 0, 1) := by decide +kernel
theorem dX8_findWeakest_57 : decode cX8_findWeakest 57 = .ok (.invokevirtual 161, 3) := by decide +kernel
theorem dX8_findWeakest_60 : decode cX8_findWeakest 60 = .ok (.iload_n 1, 1) := by decide +kernel
theorem dX8_findWeakest_61 : decode cX8_findWeakest 61 = .ok (.aload_n 0, 1) := by decide +kernel
theorem dX8_findWeakest_62 : decode cX8_findWeakest 62 = .ok (.invokevirtual 193, 3) := by decide +kernel
theorem dX8_findWeakest_65 : decode cX8_findWeakest 65 = .ok (.isub, 1) := by decide +kernel
theorem dX8_findWeakest_66 : decode cX8_findWeakest 66 = .ok (.istore 4, 2) := by decide +kernel
theorem dX8_findWeakest_68 : decode cX8_findWeakest 68 = .ok (.aload_n 0, 1) := by decide +kernel
theorem dX8_findWeakest_69 : decode cX8_findWeakest 69 = .ok (.iload_n 2, 1) := by decide +kernel
theorem dX8_findWeakest_70 : decode cX8_findWeakest 70 = .ok (.iload_n 3, 1) := by decide +kernel
theorem dX8_findWeakest_71 : decode cX8_findWeakest 71 = .ok (.iconst 1, 1) := by decide +kernel
theorem dX8_findWeakest_72 : decode cX8_findWeakest 72 = .ok (.iconst 0, 1) := by decide +kernel
theorem dX8_findWeakest_73 : decode cX8_findWeakest 73 = .ok (.invokevirtual 161, 3) := by decide +kernel
theorem dX8_findWeakest_76 : decode cX8_findWeakest 76 = .ok (.aload_n 0, 1) := by decide +kernel
theorem dX8_findWeakest_77 : decode cX8_findWeakest 77 = .ok (.iload 4, 2) := by decide +kernel
theorem dX8_findWeakest_79 : decode cX8_findWeakest 79 = .ok (.aload_n 0, 1) := by decide +kernel
theorem dX8_findWeakest_80 : decode cX8_findWeakest 80 = .ok (.getfield 190, 3) := by decide +kernel
theorem dX8_findWeakest_83 : decode cX8_findWeakest 83 = .ok (.if_icmp .le 12, 3) := by decide +kernel
theorem dX8_findWeakest_86 : decode cX8_findWeakest 86 = .ok (.bipush 10, 2) := by decide +kernel
theorem dX8_findWeakest_88 : decode cX8_findWeakest 88 = .ok (.iload_n 2, 1) := by decide +kernel
theorem dX8_findWeakest_89 : decode cX8_findWeakest 89 = .ok (.imul, 1) := by decide +kernel
theorem dX8_findWeakest_90 : decode cX8_findWeakest 90 = .ok (.iload_n 3, 1) := by decide +kernel
theorem dX8_findWeakest_91 : decode cX8_findWeakest 91 = .ok (.iadd, 1) := by decide +kernel
theorem dX8_findWeakest_92 : decode cX8_findWeakest 92 = .ok (.goto 7, 3) := by decide +kernel
theorem dX8_findWeakest_95 : decode cX8_findWeakest 95 = .ok (.aload_n 0, 1) := by decide +kernel
theorem dX8_findWeakest_96 : decode cX8_findWeakest 96 = .ok (.getfield 187, 3) := by decide +kernel
theorem dX8_findWeakest_99 : decode cX8_findWeakest 99 = .ok (.putfield 187, 3) := by decide +kernel
theorem dX8_findWeakest_102 : decode cX8_findWeakest 102 = .ok (.aload_n 0, 1) := by decide +kernel
theorem dX8_findWeakest_103 : decode cX8_findWeakest 103 = .ok (.iload 4, 2) := by decide +kernel
theorem dX8_findWeakest_105 : decode cX8_findWeakest 105 = .ok (.aload_n 0, 1) := by decide +kernel
theorem dX8_findWeakest_106 : decode cX8_findWeakest 106 = .ok (.getfield 190, 3) := by decide +kernel
theorem dX8_findWeakest_109 : decode cX8_findWeakest 109 = .ok (.if_icmp .le 8, 3) := by decide +kernel
theorem dX8_findWeakest_112 : decode cX8_findWeakest 112 = .ok (.iload 4, 2) := by decide +kernel
theorem dX8_findWeakest_114 : decode cX8_findWeakest 114 = .ok (.goto 7, 3) := by decide +kernel
theorem dX8_findWeakest_117 : decode cX8_findWeakest 117 = .ok (.aload_n 0, 1) := by decide +kernel
theorem dX8_findWeakest_118 : decode cX8_findWeakest 118 = .ok (.getfield 190, 3) := by decide +kernel
theorem dX8_findWeakest_121 : decode cX8_findWeakest 121 = .ok (.putfield 190, 3) := by decide +kernel
theorem dX8_findWeakest_124 : decode cX8_findWeakest 124 = .ok (.iinc 3 1, 3) := by decide +kernel
theorem dX8_findWeakest_127 : decode cX8_findWeakest 127 = .ok (.goto (-94), 3) := by decide +kernel
theorem dX8_findWeakest_130 : decode cX8_findWeakest 130 = .ok (.iinc 2 1, 3) := by decide +kernel
theorem dX8_findWeakest_133 : decode cX8_findWeakest 133 = .ok (.goto (-114), 3) := by decide +kernel
theorem dX8_findWeakest_136 : decode cX8_findWeakest 136 = .ok (.return_, 1) := by decide +kernel
theorem dX8_weakest_0 : decode cX8_weakest 0 = .ok (.iload_n 1, 1) := by decide +kernel
theorem dX8_weakest_1 : decode cX8_weakest 1 = .ok (.iconst 0, 1) := by decide +kernel
theorem dX8_weakest_2 : decode cX8_weakest 2 = .ok (.iconst 1, 1) := by decide +kernel
theorem dX8_weakest_3 : decode cX8_weakest 3 = .ok (.invokestatic 55, 3) := by decide +kernel
theorem dX8_weakest_6 : decode cX8_weakest 6 = .ok (.ifCond .ne 5, 3) := by decide +kernel
theorem dX8_weakest_9 : decode cX8_weakest 9 = .ok (.iconst (-1), 1) := by decide +kernel
theorem dX8_weakest_10 : decode cX8_weakest 10 = .ok (.ireturn, 1) := by decide +kernel
theorem dX8_weakest_11 : decode cX8_weakest 11 = .ok (.aload_n 0, 1) := by decide +kernel
theorem dX8_weakest_12 : decode cX8_weakest 12 = .ok (.invokevirtual 196, 3) := by decide +kernel
theorem dX8_weakest_15 : decode cX8_weakest 15 = .ok (.iload_n 1, 1) := by decide +kernel
theorem dX8_weakest_16 : decode cX8_weakest 16 = .ok (.ifCond .ne 10, 3) := by decide +kernel
theorem dX8_weakest_19 : decode cX8_weakest 19 = .ok (.aload_n 0, 1) := by decide +kernel
theorem dX8_weakest_20 : decode cX8_weakest 20 = .ok (.getfield 187, 3) := by decide +kernel
theorem dX8_weakest_23 : decode cX8_weakest 23 = .ok (.goto 7, 3) := by decide +kernel
theorem dX8_weakest_26 : decode cX8_weakest 26 = .ok (.aload_n 0, 1) := by decide +kernel
theorem dX8_weakest_27 : decode cX8_weakest 27 = .ok (.getfield 190, 3) := by decide +kernel
theorem dX8_weakest_30 : decode cX8_weakest 30 = .ok (.ireturn, 1) := by decide +kernel
theorem dX8_sees_0 : decode cX8_sees 0 = .ok (.iload_n 1, 1) := by decide +kernel
theorem dX8_sees_1 : decode cX8_sees 1 = .ok (.iconst 0, 1) := by decide +kernel
theorem dX8_sees_2 : decode cX8_sees 2 = .ok (.bipush 7, 2) := by decide +kernel
theorem dX8_sees_4 : decode cX8_sees 4 = .ok (.invokestatic 55, 3) := by decide +kernel
theorem dX8_sees_7 : decode cX8_sees 7 = .ok (.ifCond .eq 27, 3) := by decide +kernel
theorem dX8_sees_10 : decode cX8_sees 10 = .ok (.iload_n 2, 1) := by decide +kernel
theorem dX8_sees_11 : decode cX8_sees 11 = .ok (.iconst 0, 1) := by decide +kernel
theorem dX8_sees_12 : decode cX8_sees 12 = .ok (.bipush 7, 2) := by decide +kernel
theorem dX8_sees_14 : decode cX8_sees 14 = .ok (.invokestatic 55, 3) := by decide +kernel
theorem dX8_sees_17 : decode cX8_sees 17 = .ok (.ifCond .eq 17, 3) := by decide +kernel
theorem dX8_sees_20 : decode cX8_sees 20 = .ok (.iload_n 1, 1) := by decide +kernel
theorem dX8_sees_21 : decode cX8_sees 21 = .ok (.iload_n 2, 1) := by decide +kernel
theorem dX8_sees_22 : decode cX8_sees 22 = .ok (.if_icmp .eq 12, 3) := by decide +kernel
theorem dX8_sees_25 : decode cX8_sees 25 = .ok (.iload_n 3, 1) := by decide +kernel
theorem dX8_sees_26 : decode cX8_sees 26 = .ok (.iconst 0, 1) := by decide +kernel
theorem dX8_sees_27 : decode cX8_sees 27 = .ok (.iconst 1, 1) := by decide +kernel
theorem dX8_sees_28 : decode cX8_sees 28 = .ok (.invokestatic 55, 3) := by decide +kernel
theorem dX8_sees_31 : decode cX8_sees 31 = .ok (.ifCond .ne 5, 3) := by decide +kernel
theorem dX8_sees_34 : decode cX8_sees 34 = .ok (.iconst (-1), 1) := by decide +kernel
theorem dX8_sees_35 : decode cX8_sees 35 = .ok (.ireturn, 1) := by decide +kernel
theorem dX8_sees_36 : decode cX8_sees 36 = .ok (.aload_n 0, 1) := by decide +kernel
theorem dX8_sees_37 : decode cX8_sees 37 = .ok (.getfield 96, 3) := by decide +kernel
theorem dX8_sees_40 : decode cX8_sees 40 = .ok (.bipush 6, 2) := by decide +kernel
theorem dX8_sees_42 : decode cX8_sees 42 = .ok (.if_icmp .ne 6, 3) := by decide +kernel
theorem dX8_sees_45 : decode cX8_sees 45 = .ok (.bipush (-3), 2) := by decide +kernel
theorem dX8_sees_47 : decode cX8_sees 47 = .ok (.ireturn, 1) := by decide +kernel
theorem dX8_sees_48 : decode cX8_sees 48 = .ok (.aload_n 0, 1) := by decide +kernel
theorem dX8_sees_49 : decode cX8_sees 49 = .ok (.getfield 29, 3) := by decide +kernel
theorem dX8_sees_52 : decode cX8_sees 52 = .ok (.iconst 3, 1) := by decide +kernel
theorem dX8_sees_53 : decode cX8_sees 53 = .ok (.aload_n 0, 1) := by decide +kernel
theorem dX8_sees_54 : decode cX8_sees 54 = .ok (.getfield 96, 3) := by decide +kernel
theorem dX8_sees_57 : decode cX8_sees 57 = .ok (.imul, 1) := by decide +kernel
theorem dX8_sees_58 : decode cX8_sees 58 = .ok (.iload_n 1, 1) := by decide +kernel
theorem dX8_sees_59 : decode cX8_sees 59 = .ok (.iastore, 1) := by decide +kernel
theorem dX8_sees_60 : decode cX8_sees 60 = .ok (.aload_n 0, 1) := by decide +kernel
theorem dX8_sees_61 : decode cX8_sees 61 = .ok (.getfield 29, 3) := by decide +kernel
theorem dX8_sees_64 : decode cX8_sees 64 = .ok (.iconst 3, 1) := by decide +kernel
theorem dX8_sees_65 : decode cX8_sees 65 = .ok (.aload_n 0, 1) := by decide +kernel
theorem dX8_sees_66 : decode cX8_sees 66 = .ok (.getfield 96, 3) := by decide +kernel
theorem dX8_sees_69 : decode cX8_sees 69 = .ok (.imul, 1) := by decide +kernel
theorem dX8_sees_70 : decode cX8_sees 70 = .ok (.iconst 1, 1) := by decide +kernel
theorem dX8_sees_71 : decode cX8_sees 71 = .ok (.iadd, 1) := by decide +kernel
theorem dX8_sees_72 : decode cX8_sees 72 = .ok (.iload_n 2, 1) := by decide +kernel
theorem dX8_sees_73 : decode cX8_sees 73 = .ok (.iastore, 1) := by decide +kernel
theorem dX8_sees_74 : decode cX8_sees 74 = .ok (.aload_n 0, 1) := by decide +kernel
theorem dX8_sees_75 : decode cX8_sees 75 = .ok (.getfield 29, 3) := by decide +kernel
theorem dX8_sees_78 : decode cX8_sees 78 = .ok (.iconst 3, 1) := by decide +kernel
theorem dX8_sees_79 : decode cX8_sees 79 = .ok (.aload_n 0, 1) := by decide +kernel
theorem dX8_sees_80 : decode cX8_sees 80 = .ok (.getfield 96, 3) := by decide +kernel
theorem dX8_sees_83 : decode cX8_sees 83 = .ok (.imul, 1) := by decide +kernel
theorem dX8_sees_84 : decode cX8_sees 84 = .ok (.iconst 2, 1) := by decide +kernel
theorem dX8_sees_85 : decode cX8_sees 85 = .ok (.iadd, 1) := by decide +kernel
theorem dX8_sees_86 : decode cX8_sees 86 = .ok (.iload_n 3, 1) := by decide +kernel
theorem dX8_sees_87 : decode cX8_sees 87 = .ok (.iastore, 1) := by decide +kernel
theorem dX8_sees_88 : decode cX8_sees 88 = .ok (.aload_n 0, 1) := by decide +kernel
theorem dX8_sees_89 : decode cX8_sees 89 = .ok (.dup, 1) := by decide +kernel
theorem dX8_sees_90 : decode cX8_sees 90 = .ok (.getfield 96, 3) := by decide +kernel
theorem dX8_sees_93 : decode cX8_sees 93 = .ok (.iconst 1, 1) := by decide +kernel
theorem dX8_sees_94 : decode cX8_sees 94 = .ok (.iadd, 1) := by decide +kernel
theorem dX8_sees_95 : decode cX8_sees 95 = .ok (.putfield 96, 3) := by decide +kernel
theorem dX8_sees_98 : decode cX8_sees 98 = .ok (.aload_n 0, 1) := by decide +kernel
theorem dX8_sees_99 : decode cX8_sees 99 = .ok (.getfield 96, 3) := by decide +kernel
theorem dX8_sees_102 : decode cX8_sees 102 = .ok (.ireturn, 1) := by decide +kernel
theorem dX8_forget_0 : decode cX8_forget 0 = .ok (.aload_n 0, 1) := by decide +kernel
theorem dX8_forget_1 : decode cX8_forget 1 = .ok (.getfield 96, 3) := by decide +kernel
theorem dX8_forget_4 : decode cX8_forget 4 = .ok (.istore_n 1, 1) := by decide +kernel
theorem dX8_forget_5 : decode cX8_forget 5 = .ok (.aload_n 0, 1) := by decide +kernel
theorem dX8_forget_6 : decode cX8_forget 6 = .ok (.iconst 0, 1) := by decide +kernel
theorem dX8_forget_7 : decode cX8_forget 7 = .ok (.putfield 96, 3) := by decide +kernel
theorem dX8_forget_10 : decode cX8_forget 10 = .ok (.iload_n 1, 1) := by decide +kernel
theorem dX8_forget_11 : decode cX8_forget 11 = .ok (.ireturn, 1) := by decide +kernel
theorem dX8_isSo_0 : decode cX8_isSo 0 = .ok (.iconst 1, 1) := by decide +kernel
theorem dX8_isSo_1 : decode cX8_isSo 1 = .ok (.istore_n 1, 1) := by decide +kernel
theorem dX8_isSo_2 : decode cX8_isSo 2 = .ok (.iconst 0, 1) := by decide +kernel
theorem dX8_isSo_3 : decode cX8_isSo 3 = .ok (.istore_n 2, 1) := by decide +kernel
theorem dX8_isSo_4 : decode cX8_isSo 4 = .ok (.iload_n 2, 1) := by decide +kernel
theorem dX8_isSo_5 : decode cX8_isSo 5 = .ok (.aload_n 0, 1) := by decide +kernel
theorem dX8_isSo_6 : decode cX8_isSo 6 = .ok (.getfield 96, 3) := by decide +kernel
theorem dX8_isSo_9 : decode cX8_isSo 9 = .ok (.if_icmp .ge 86, 3) := by decide +kernel
theorem dX8_isSo_12 : decode cX8_isSo 12 = .ok (.aload_n 0, 1) := by decide +kernel
theorem dX8_isSo_13 : decode cX8_isSo 13 = .ok (.getfield 29, 3) := by decide +kernel
theorem dX8_isSo_16 : decode cX8_isSo 16 = .ok (.iconst 3, 1) := by decide +kernel
theorem dX8_isSo_17 : decode cX8_isSo 17 = .ok (.iload_n 2, 1) := by decide +kernel
theorem dX8_isSo_18 : decode cX8_isSo 18 = .ok (.imul, 1) := by decide +kernel
theorem dX8_isSo_19 : decode cX8_isSo 19 = .ok (.iaload, 1) := by decide +kernel
theorem dX8_isSo_20 : decode cX8_isSo 20 = .ok (.istore_n 3, 1) := by decide +kernel
theorem dX8_isSo_21 : decode cX8_isSo 21 = .ok (.aload_n 0, 1) := by decide +kernel
theorem dX8_isSo_22 : decode cX8_isSo 22 = .ok (.getfield 29, 3) := by decide +kernel
theorem dX8_isSo_25 : decode cX8_isSo 25 = .ok (.iconst 3, 1) := by decide +kernel
theorem dX8_isSo_26 : decode cX8_isSo 26 = .ok (.iload_n 2, 1) := by decide +kernel
theorem dX8_isSo_27 : decode cX8_isSo 27 = .ok (.imul, 1) := by decide +kernel
theorem dX8_isSo_28 : decode cX8_isSo 28 = .ok (.iconst 1, 1) := by decide +kernel
theorem dX8_isSo_29 : decode cX8_isSo 29 = .ok (.iadd, 1) := by decide +kernel
theorem dX8_isSo_30 : decode cX8_isSo 30 = .ok (.iaload, 1) := by decide +kernel
theorem dX8_isSo_31 : decode cX8_isSo 31 = .ok (.istore 4, 2) := by decide +kernel
theorem dX8_isSo_33 : decode cX8_isSo 33 = .ok (.iload_n 1, 1) := by decide +kernel
theorem dX8_isSo_34 : decode cX8_isSo 34 = .ok (.ifCond .eq 53, 3) := by decide +kernel
theorem dX8_isSo_37 : decode cX8_isSo 37 = .ok (.aload_n 0, 1) := by decide +kernel
theorem dX8_isSo_38 : decode cX8_isSo 38 = .ok (.iload_n 3, 1) := by decide +kernel
theorem dX8_isSo_39 : decode cX8_isSo 39 = .ok (.invokevirtual 181, 3) := by decide +kernel
theorem dX8_isSo_42 : decode cX8_isSo 42 = .ok (.ifCond .eq 45, 3) := by decide +kernel
theorem dX8_isSo_45 : decode cX8_isSo 45 = .ok (.aload_n 0, 1) := by decide +kernel
theorem dX8_isSo_46 : decode cX8_isSo 46 = .ok (.iload 4, 2) := by decide +kernel
theorem dX8_isSo_48 : decode cX8_isSo 48 = .ok (.invokevirtual 181, 3) := by decide +kernel
theorem dX8_isSo_51 : decode cX8_isSo 51 = .ok (.ifCond .eq 36, 3) := by decide +kernel
theorem dX8_isSo_54 : decode cX8_isSo 54 = .ok (.aload_n 0, 1) := by decide +kernel
theorem dX8_isSo_55 : decode cX8_isSo 55 = .ok (.iload_n 3, 1) := by decide +kernel
theorem dX8_isSo_56 : decode cX8_isSo 56 = .ok (.iload 4, 2) := by decide +kernel
theorem dX8_isSo_58 : decode cX8_isSo 58 = .ok (.invokevirtual 137, 3) := by decide +kernel
theorem dX8_isSo_61 : decode cX8_isSo 61 = .ok (.aload_n 0, 1) := by decide +kernel
theorem dX8_isSo_62 : decode cX8_isSo 62 = .ok (.getfield 29, 3) := by decide +kernel
theorem dX8_isSo_65 : decode cX8_isSo 65 = .ok (.iconst 3, 1) := by decide +kernel
theorem dX8_isSo_66 : decode cX8_isSo 66 = .ok (.iload_n 2, 1) := by decide +kernel
theorem dX8_isSo_67 : decode cX8_isSo 67 = .ok (.imul, 1) := by decide +kernel
theorem dX8_isSo_68 : decode cX8_isSo 68 = .ok (.iconst 2, 1) := by decide +kernel
theorem dX8_isSo_69 : decode cX8_isSo 69 = .ok (.iadd, 1) := by decide +kernel
theorem dX8_isSo_70 : decode cX8_isSo 70 = .ok (.iaload, 1) := by decide +kernel
theorem dX8_isSo_71 : decode cX8_isSo 71 = .ok (.iconst 1, 1) := by decide +kernel
theorem dX8_isSo_72 : decode cX8_isSo 72 = .ok (.if_icmp .ne 7, 3) := by decide +kernel
theorem dX8_isSo_75 : decode cX8_isSo 75 = .ok (.iconst 1, 1) := by decide +kernel
theorem dX8_isSo_76 : decode cX8_isSo 76 = .ok (.goto 4, 3) := by decide +kernel
theorem dX8_isSo_79 : decode cX8_isSo 79 = .ok (.iconst 0, 1) := by decide +kernel
theorem dX8_isSo_80 : decode cX8_isSo 80 = .ok (.if_icmp .ne 7, 3) := by decide +kernel
theorem dX8_isSo_83 : decode cX8_isSo 83 = .ok (.iconst 1, 1) := by decide +kernel
theorem dX8_isSo_84 : decode cX8_isSo 84 = .ok (.goto 4, 3) := by decide +kernel
theorem dX8_isSo_87 : decode cX8_isSo 87 = .ok (.iconst 0, 1) := by decide +kernel
theorem dX8_isSo_88 : decode cX8_isSo 88 = .ok (.istore_n 1, 1) := by decide +kernel
theorem dX8_isSo_89 : decode cX8_isSo 89 = .ok (.iinc 2 1, 3) := by decide +kernel
theorem dX8_isSo_92 : decode cX8_isSo 92 = .ok (.goto (-88), 3) := by decide +kernel
theorem dX8_isSo_95 : decode cX8_isSo 95 = .ok (.iload_n 1, 1) := by decide +kernel
theorem dX8_isSo_96 : decode cX8_isSo 96 = .ok (.ireturn, 1) := by decide +kernel
theorem dX8_findWhich_0 : decode cX8_findWhich 0 = .ok (.aload_n 0, 1) := by decide +kernel
theorem dX8_findWhich_1 : decode cX8_findWhich 1 = .ok (.iconst 0, 1) := by decide +kernel
theorem dX8_findWhich_2 : decode cX8_findWhich 2 = .ok (.putfield 199, 3) := by decide +kernel
theorem dX8_findWhich_5 : decode cX8_findWhich 5 = .ok (.iconst 0, 1) := by decide +kernel
theorem dX8_findWhich_6 : decode cX8_findWhich 6 = .ok (.istore_n 1, 1) := by decide +kernel
theorem dX8_findWhich_7 : decode cX8_findWhich 7 = .ok (.iload_n 1, 1) := by decide +kernel
theorem dX8_findWhich_8 : decode cX8_findWhich 8 = .ok (.aload_n 0, 1) := by decide +kernel
theorem dX8_findWhich_9 : decode cX8_findWhich 9 = .ok (.getfield 7, 3) := by decide +kernel
theorem dX8_findWhich_12 : decode cX8_findWhich 12 = .ok (.iconst 0, 1) := by decide +kernel
theorem dX8_findWhich_13 : decode cX8_findWhich 13 = .ok (.iaload, 1) := by decide +kernel
theorem dX8_findWhich_14 : decode cX8_findWhich 14 = .ok (.if_icmp .ge 133, 3) := by decide +kernel
theorem dX8_findWhich_17 : decode cX8_findWhich 17 = .ok (.iload_n 1, 1) := by decide +kernel
theorem dX8_findWhich_18 : decode cX8_findWhich 18 = .ok (.iconst 1, 1) := by decide +kernel
theorem dX8_findWhich_19 : decode cX8_findWhich 19 = .ok (.iadd, 1) := by decide +kernel
theorem dX8_findWhich_20 : decode cX8_findWhich 20 = .ok (.istore_n 2, 1) := by decide +kernel
theorem dX8_findWhich_21 : decode cX8_findWhich 21 = .ok (.iload_n 2, 1) := by decide +kernel
theorem dX8_findWhich_22 : decode cX8_findWhich 22 = .ok (.aload_n 0, 1) := by decide +kernel
theorem dX8_findWhich_23 : decode cX8_findWhich 23 = .ok (.getfield 7, 3) := by decide +kernel
theorem dX8_findWhich_26 : decode cX8_findWhich 26 = .ok (.iconst 0, 1) := by decide +kernel
theorem dX8_findWhich_27 : decode cX8_findWhich 27 = .ok (.iaload, 1) := by decide +kernel
theorem dX8_findWhich_28 : decode cX8_findWhich 28 = .ok (.if_icmp .ge 113, 3) := by decide +kernel
theorem dX8_findWhich_31 : decode cX8_findWhich 31 = .ok (.aload_n 0, 1) := by decide +kernel
theorem dX8_findWhich_32 : decode cX8_findWhich 32 = .ok (.iload_n 1, 1) := by decide +kernel
theorem dX8_findWhich_33 : decode cX8_findWhich 33 = .ok (.iload_n 2, 1) := by decide +kernel
theorem dX8_findWhich_34 : decode cX8_findWhich 34 = .ok (.invokevirtual 155, 3) := by decide +kernel
theorem dX8_findWhich_37 : decode cX8_findWhich 37 = .ok (.ifCond .eq 98, 3) := by decide +kernel
theorem dX8_findWhich_40 : decode cX8_findWhich 40 = .ok (.aload_n 0, 1) := by decide +kernel
theorem dX8_findWhich_41 : decode cX8_findWhich 41 = .ok (.iload_n 1, 1) := by decide +kernel
theorem dX8_findWhich_42 : decode cX8_findWhich 42 = .ok (.iload_n 2, 1) := by decide +kernel
theorem dX8_findWhich_43 : decode cX8_findWhich 43 = .ok (.iconst 0, 1) := by decide +kernel
theorem dX8_findWhich_44 : decode cX8_findWhich 44 = .ok (.iconst 0, 1) := by decide +kernel
theorem dX8_findWhich_45 : decode cX8_findWhich 45 = .ok (.invokevirtual 161, 3) := by decide +kernel
theorem dX8_findWhich_48 : decode cX8_findWhich 48 = .ok (.aload_n 0, 1) := by decide +kernel
theorem dX8_findWhich_49 : decode cX8_findWhich 49 = .ok (.invokevirtual 202, 3) := by decide +kernel
theorem dX8_findWhich_52 : decode cX8_findWhich 52 = .ok (.ifCond .eq 75, 3) := by decide +kernel
theorem dX8_findWhich_55 : decode cX8_findWhich 55 = .ok (.aload_n 0, 1) := by decide +kernel
theorem dX8_findWhich_56 : decode cX8_findWhich 56 = .ok (.getfield 35, 3) := by decide +kernel
theorem dX8_findWhich_59 : decode cX8_findWhich 59 = .ok (.aload_n 0, 1) := by decide +kernel
theorem dX8_findWhich_60 : decode cX8_findWhich 60 = .ok (.getfield 199, 3) := by decide +kernel
theorem dX8_findWhich_63 : decode cX8_findWhich 63 = .ok (.bipush 10, 2) := by decide +kernel
theorem dX8_findWhich_65 : decode cX8_findWhich 65 = .ok (.iload_n 1, 1) := by decide +kernel
theorem dX8_findWhich_66 : decode cX8_findWhich 66 = .ok (.imul, 1) := by decide +kernel
theorem dX8_findWhich_67 : decode cX8_findWhich 67 = .ok (.iload_n 2, 1) := by decide +kernel
theorem dX8_findWhich_68 : decode cX8_findWhich 68 = .ok (.iadd, 1) := by decide +kernel
theorem dX8_findWhich_69 : decode cX8_findWhich 69 = .ok (.iastore, 1) := by decide +kernel
theorem dX8_findWhich_70 : decode cX8_findWhich 70 = .ok (.iconst 0, 1) := by decide +kernel
theorem dX8_findWhich_71 : decode cX8_findWhich 71 = .ok (.istore_n 3, 1) := by decide +kernel
theorem dX8_findWhich_72 : decode cX8_findWhich 72 = .ok (.iload_n 3, 1) := by decide +kernel
theorem dX8_findWhich_73 : decode cX8_findWhich 73 = .ok (.bipush 8, 2) := by decide +kernel
theorem dX8_findWhich_75 : decode cX8_findWhich 75 = .ok (.if_icmp .ge 42, 3) := by decide +kernel
theorem dX8_findWhich_78 : decode cX8_findWhich 78 = .ok (.aload_n 0, 1) := by decide +kernel
theorem dX8_findWhich_79 : decode cX8_findWhich 79 = .ok (.getfield 38, 3) := by decide +kernel
theorem dX8_findWhich_82 : decode cX8_findWhich 82 = .ok (.bipush 8, 2) := by decide +kernel
theorem dX8_findWhich_84 : decode cX8_findWhich 84 = .ok (.aload_n 0, 1) := by decide +kernel
theorem dX8_findWhich_85 : decode cX8_findWhich 85 = .ok (.getfield 199, 3) := by decide +kernel
theorem dX8_findWhich_88 : decode cX8_findWhich 88 = .ok (.imul, 1) := by decide +kernel
theorem dX8_findWhich_89 : decode cX8_findWhich 89 = .ok (.iload_n 3, 1) := by decide +kernel
theorem dX8_findWhich_90 : decode cX8_findWhich 90 = .ok (.iadd, 1) := by decide +kernel
theorem dX8_findWhich_91 : decode cX8_findWhich 91 = .ok (.iload_n 3, 1) := by decide +kernel
theorem dX8_findWhich_92 : decode cX8_findWhich 92 = .ok (.aload_n 0, 1) := by decide +kernel
theorem dX8_findWhich_93 : decode cX8_findWhich 93 = .ok (.getfield 7, 3) := by decide +kernel
theorem dX8_findWhich_96 : decode cX8_findWhich 96 = .ok (.iconst 1, 1) := by decide +kernel
theorem dX8_findWhich_97 : decode cX8_findWhich 97 = .ok (.iaload, 1) := by decide +kernel
theorem dX8_findWhich_98 : decode cX8_findWhich 98 = .ok (.if_icmp .ge 11, 3) := by decide +kernel
theorem dX8_findWhich_101 : decode cX8_findWhich 101 = .ok (.aload_n 0, 1) := by decide +kernel
theorem dX8_findWhich_102 : decode cX8_findWhich 102 = .ok (.iload_n 3, 1) := by decide +kernel
theorem dX8_findWhich_103 : decode cX8_findWhich 103 = .ok (.invokevirtual 140, 3) := by decide +kernel
theorem dX8_findWhich_106 : decode cX8_findWhich 106 = .ok (.goto 4, 3) := by decide +kernel
theorem dX8_findWhich_109 : decode cX8_findWhich 109 = .ok (.iconst 0, 1) := by decide +kernel
theorem dX8_findWhich_110 : decode cX8_findWhich 110 = .ok (.iastore, 1) := by decide +kernel
theorem dX8_findWhich_111 : decode cX8_findWhich 111 = .ok (.iinc 3 1, 3) := by decide +kernel
theorem dX8_findWhich_114 : decode cX8_findWhich 114 = .ok (.goto (-42), 3) := by decide +kernel
theorem dX8_findWhich_117 : decode cX8_findWhich 117 = .ok (.aload_n 0, 1) := by decide +kernel
theorem dX8_findWhich_118 : decode cX8_findWhich 118 = .ok (.dup, 1) := by decide +kernel
theorem dX8_findWhich_119 : decode cX8_findWhich 119 = .ok (.getfield 199, 3) := by decide +kernel
theorem dX8_findWhich_122 : decode cX8_findWhich 122 = .ok (.iconst 1, 1) := by decide +kernel
theorem dX8_findWhich_123 : decode cX8_findWhich 123 = .ok (.iadd, 1) := by decide +kernel
theorem dX8_findWhich_124 : decode cX8_findWhich 124 = .ok (.putfield 199, 3) := by decide +kernel
theorem dX8_findWhich_127 : decode cX8_findWhich 127 = .ok (.aload_n 0, 1) := by decide +kernel
theorem dX8_findWhich_128 : decode cX8_findWhich 128 = .ok (.iload_n 1, 1) := by decide +kernel
theorem dX8_findWhich_129 : decode cX8_findWhich 129 = .ok (.iload_n 2, 1) := by decide +kernel
theorem dX8_findWhich_130 : decode cX8_findWhich 130 = .ok (.iconst 1, 1) := by decide +kernel
theorem dX8_findWhich_131 : decode cX8_findWhich 131 = .ok (.iconst 0, 1) := by decide +kernel
theorem dX8_findWhich_132 : decode cX8_findWhich 132 = .ok (.invokevirtual 161, 3) := by decide +kernel
theorem dX8_findWhich_135 : decode cX8_findWhich 135 = .ok (.iinc 2 1, 3) := by decide +kernel
theorem dX8_findWhich_138 : decode cX8_findWhich 138 = .ok (.goto (-117), 3) := by decide +kernel
theorem dX8_findWhich_141 : decode cX8_findWhich 141 = .ok (.iinc 1 1, 3) := by decide +kernel
theorem dX8_findWhich_144 : decode cX8_findWhich 144 = .ok (.goto (-137), 3) := by decide +kernel
theorem dX8_findWhich_147 : decode cX8_findWhich 147 = .ok (.return_, 1) := by decide +kernel
theorem dX8_which_0 : decode cX8_which 0 = .ok (.iload_n 1, 1) := by decide +kernel
theorem dX8_which_1 : decode cX8_which 1 = .ok (.iconst 0, 1) := by decide +kernel
theorem dX8_which_2 : decode cX8_which 2 = .ok (.iconst 1, 1) := by decide +kernel
theorem dX8_which_3 : decode cX8_which 3 = .ok (.invokestatic 55, 3) := by decide +kernel
theorem dX8_which_6 : decode cX8_which 6 = .ok (.ifCond .ne 5, 3) := by decide +kernel
theorem dX8_which_9 : decode cX8_which 9 = .ok (.iconst (-1), 1) := by decide +kernel
theorem dX8_which_10 : decode cX8_which 10 = .ok (.ireturn, 1) := by decide +kernel
theorem dX8_which_11 : decode cX8_which 11 = .ok (.aload_n 0, 1) := by decide +kernel
theorem dX8_which_12 : decode cX8_which 12 = .ok (.invokevirtual 205, 3) := by decide +kernel
theorem dX8_which_15 : decode cX8_which 15 = .ok (.iload_n 1, 1) := by decide +kernel
theorem dX8_which_16 : decode cX8_which 16 = .ok (.ifCond .ne 10, 3) := by decide +kernel
theorem dX8_which_19 : decode cX8_which 19 = .ok (.aload_n 0, 1) := by decide +kernel
theorem dX8_which_20 : decode cX8_which 20 = .ok (.getfield 199, 3) := by decide +kernel
theorem dX8_which_23 : decode cX8_which 23 = .ok (.goto 21, 3) := by decide +kernel
theorem dX8_which_26 : decode cX8_which 26 = .ok (.aload_n 0, 1) := by decide +kernel
theorem dX8_which_27 : decode cX8_which 27 = .ok (.getfield 199, 3) := by decide +kernel
theorem dX8_which_30 : decode cX8_which 30 = .ok (.ifCond .ne 8, 3) := by decide +kernel
theorem dX8_which_33 : decode cX8_which 33 = .ok (.bipush (-9), 2) := by decide +kernel
theorem dX8_which_35 : decode cX8_which 35 = .ok (.goto 9, 3) := by decide +kernel
theorem dX8_which_38 : decode cX8_which 38 = .ok (.aload_n 0, 1) := by decide +kernel
theorem dX8_which_39 : decode cX8_which 39 = .ok (.getfield 35, 3) := by decide +kernel
theorem dX8_which_42 : decode cX8_which 42 = .ok (.iconst 0, 1) := by decide +kernel
theorem dX8_which_43 : decode cX8_which 43 = .ok (.iaload, 1) := by decide +kernel
theorem dX8_which_44 : decode cX8_which 44 = .ok (.ireturn, 1) := by decide +kernel
theorem dX8_ask_0 : decode cX8_ask 0 = .ok (.aload_n 0, 1) := by decide +kernel
theorem dX8_ask_1 : decode cX8_ask 1 = .ok (.invokevirtual 205, 3) := by decide +kernel
theorem dX8_ask_4 : decode cX8_ask 4 = .ok (.bipush (-9), 2) := by decide +kernel
theorem dX8_ask_6 : decode cX8_ask 6 = .ok (.istore_n 1, 1) := by decide +kernel
theorem dX8_ask_7 : decode cX8_ask 7 = .ok (.aload_n 0, 1) := by decide +kernel
theorem dX8_ask_8 : decode cX8_ask 8 = .ok (.getfield 199, 3) := by decide +kernel
theorem dX8_ask_11 : decode cX8_ask 11 = .ok (.iconst 1, 1) := by decide +kernel
theorem dX8_ask_12 : decode cX8_ask 12 = .ok (.iadd, 1) := by decide +kernel
theorem dX8_ask_13 : decode cX8_ask 13 = .ok (.istore_n 2, 1) := by decide +kernel
theorem dX8_ask_14 : decode cX8_ask 14 = .ok (.iconst 0, 1) := by decide +kernel
theorem dX8_ask_15 : decode cX8_ask 15 = .ok (.istore_n 3, 1) := by decide +kernel
theorem dX8_ask_16 : decode cX8_ask 16 = .ok (.iload_n 3, 1) := by decide +kernel
theorem dX8_ask_17 : decode cX8_ask 17 = .ok (.aload_n 0, 1) := by decide +kernel
theorem dX8_ask_18 : decode cX8_ask 18 = .ok (.getfield 7, 3) := by decide +kernel
theorem dX8_ask_21 : decode cX8_ask 21 = .ok (.iconst 1, 1) := by decide +kernel
theorem dX8_ask_22 : decode cX8_ask 22 = .ok (.iaload, 1) := by decide +kernel
theorem dX8_ask_23 : decode cX8_ask 23 = .ok (.if_icmp .ge 147, 3) := by decide +kernel
theorem dX8_ask_26 : decode cX8_ask 26 = .ok (.aload_n 0, 1) := by decide +kernel
theorem dX8_ask_27 : decode cX8_ask 27 = .ok (.getfield 199, 3) := by decide +kernel
theorem dX8_ask_30 : decode cX8_ask 30 = .ok (.iconst 1, 1) := by decide +kernel
theorem dX8_ask_31 : decode cX8_ask 31 = .ok (.if_icmp .le 139, 3) := by decide +kernel
theorem dX8_ask_34 : decode cX8_ask 34 = .ok (.iload_n 3, 1) := by decide +kernel
theorem dX8_ask_35 : decode cX8_ask 35 = .ok (.iconst 1, 1) := by decide +kernel
theorem dX8_ask_36 : decode cX8_ask 36 = .ok (.iadd, 1) := by decide +kernel
theorem dX8_ask_37 : decode cX8_ask 37 = .ok (.istore 4, 2) := by decide +kernel
theorem dX8_ask_39 : decode cX8_ask 39 = .ok (.iload 4, 2) := by decide +kernel
theorem dX8_ask_41 : decode cX8_ask 41 = .ok (.aload_n 0, 1) := by decide +kernel
theorem dX8_ask_42 : decode cX8_ask 42 = .ok (.getfield 7, 3) := by decide +kernel
theorem dX8_ask_45 : decode cX8_ask 45 = .ok (.iconst 1, 1) := by decide +kernel
theorem dX8_ask_46 : decode cX8_ask 46 = .ok (.iaload, 1) := by decide +kernel
theorem dX8_ask_47 : decode cX8_ask 47 = .ok (.if_icmp .ge 117, 3) := by decide +kernel
theorem dX8_ask_50 : decode cX8_ask 50 = .ok (.iconst 0, 1) := by decide +kernel
theorem dX8_ask_51 : decode cX8_ask 51 = .ok (.istore 5, 2) := by decide +kernel
theorem dX8_ask_53 : decode cX8_ask 53 = .ok (.iconst 0, 1) := by decide +kernel
theorem dX8_ask_54 : decode cX8_ask 54 = .ok (.istore 6, 2) := by decide +kernel
theorem dX8_ask_56 : decode cX8_ask 56 = .ok (.iload 6, 2) := by decide +kernel
theorem dX8_ask_58 : decode cX8_ask 58 = .ok (.aload_n 0, 1) := by decide +kernel
theorem dX8_ask_59 : decode cX8_ask 59 = .ok (.getfield 199, 3) := by decide +kernel
theorem dX8_ask_62 : decode cX8_ask 62 = .ok (.if_icmp .ge 39, 3) := by decide +kernel
theorem dX8_ask_65 : decode cX8_ask 65 = .ok (.iload 5, 2) := by decide +kernel
theorem dX8_ask_67 : decode cX8_ask 67 = .ok (.aload_n 0, 1) := by decide +kernel
theorem dX8_ask_68 : decode cX8_ask 68 = .ok (.getfield 38, 3) := by decide +kernel
theorem dX8_ask_71 : decode cX8_ask 71 = .ok (.bipush 8, 2) := by decide +kernel
theorem dX8_ask_73 : decode cX8_ask 73 = .ok (.iload 6, 2) := by decide +kernel
theorem dX8_ask_75 : decode cX8_ask 75 = .ok (.imul, 1) := by decide +kernel
theorem dX8_ask_76 : decode cX8_ask 76 = .ok (.iload_n 3, 1) := by decide +kernel
theorem dX8_ask_77 : decode cX8_ask 77 = .ok (.iadd, 1) := by decide +kernel
theorem dX8_ask_78 : decode cX8_ask 78 = .ok (.iaload, 1) := by decide +kernel
theorem dX8_ask_79 : decode cX8_ask 79 = .ok (.iload 4, 2) := by decide +kernel
theorem dX8_ask_81 : decode cX8_ask 81 = .ok (.invokestatic 102, 3) := by decide +kernel
theorem dX8_ask_84 : decode cX8_ask 84 = .ok (.ifCond .eq 7, 3) := by decide +kernel
theorem dX8_ask_87 : decode cX8_ask 87 = .ok (.iconst 1, 1) := by decide +kernel
theorem dX8_ask_88 : decode cX8_ask 88 = .ok (.goto 4, 3) := by decide +kernel
theorem dX8_ask_91 : decode cX8_ask 91 = .ok (.iconst 0, 1) := by decide +kernel
theorem dX8_ask_92 : decode cX8_ask 92 = .ok (.iadd, 1) := by decide +kernel
theorem dX8_ask_93 : decode cX8_ask 93 = .ok (.istore 5, 2) := by decide +kernel
theorem dX8_ask_95 : decode cX8_ask 95 = .ok (.iinc 6 1, 3) := by decide +kernel
theorem dX8_ask_98 : decode cX8_ask 98 = .ok (.goto (-42), 3) := by decide +kernel
theorem dX8_ask_101 : decode cX8_ask 101 = .ok (.iload 5, 2) := by decide +kernel
theorem dX8_ask_103 : decode cX8_ask 103 = .ok (.aload_n 0, 1) := by decide +kernel
theorem dX8_ask_104 : decode cX8_ask 104 = .ok (.getfield 199, 3) := by decide +kernel
theorem dX8_ask_107 : decode cX8_ask 107 = .ok (.iload 5, 2) := by decide +kernel
theorem dX8_ask_109 : decode cX8_ask 109 = .ok (.isub, 1) := by decide +kernel
theorem dX8_ask_110 : decode cX8_ask 110 = .ok (.if_icmp .le 8, 3) := by decide +kernel
theorem dX8_ask_113 : decode cX8_ask 113 = .ok (.iload 5, 2) := by decide +kernel
theorem dX8_ask_115 : decode cX8_ask 115 = .ok (.goto 10, 3) := by decide +kernel
theorem dX8_ask_118 : decode cX8_ask 118 = .ok (.aload_n 0, 1) := by decide +kernel
theorem dX8_ask_119 : decode cX8_ask 119 = .ok (.getfield 199, 3) := by decide +kernel
theorem dX8_ask_122 : decode cX8_ask 122 = .ok (.iload 5, 2) := by decide +kernel
theorem dX8_ask_124 : decode cX8_ask 124 = .ok (.isub, 1) := by decide +kernel
theorem dX8_ask_125 : decode cX8_ask 125 = .ok (.istore 6, 2) := by decide +kernel
theorem dX8_ask_127 : decode cX8_ask 127 = .ok (.iload 6, 2) := by decide +kernel
theorem dX8_ask_129 : decode cX8_ask 129 = .ok (.iload_n 2, 1) := by decide +kernel
theorem dX8_ask_130 : decode cX8_ask 130 = .ok (.if_icmp .ge 13, 3) := by decide +kernel
theorem dX8_ask_133 : decode cX8_ask 133 = .ok (.bipush 10, 2) := by decide +kernel
theorem dX8_ask_135 : decode cX8_ask 135 = .ok (.iload_n 3, 1) := by decide +kernel
theorem dX8_ask_136 : decode cX8_ask 136 = .ok (.imul, 1) := by decide +kernel
theorem dX8_ask_137 : decode cX8_ask 137 = .ok (.iload 4, 2) := by decide +kernel
theorem dX8_ask_139 : decode cX8_ask 139 = .ok (.iadd, 1) := by decide +kernel
theorem dX8_ask_140 : decode cX8_ask 140 = .ok (.goto 4, 3) := by decide +kernel
theorem dX8_ask_143 : decode cX8_ask 143 = .ok (.iload_n 1, 1) := by decide +kernel
theorem dX8_ask_144 : decode cX8_ask 144 = .ok (.istore_n 1, 1) := by decide +kernel
theorem dX8_ask_145 : decode cX8_ask 145 = .ok (.iload 6, 2) := by decide +kernel
theorem dX8_ask_147 : decode cX8_ask 147 = .ok (.iload_n 2, 1) := by decide +kernel
theorem dX8_ask_148 : decode cX8_ask 148 = .ok (.if_icmp .ge 8, 3) := by decide +kernel
theorem dX8_ask_151 : decode cX8_ask 151 = .ok (.iload 6, 2) := by decide +kernel
theorem dX8_ask_153 : decode cX8_ask 153 = .ok (.goto 4, 3) := by decide +kernel
theorem dX8_ask_156 : decode cX8_ask 156 = .ok (.iload_n 2, 1) := by decide +kernel
theorem dX8_ask_157 : decode cX8_ask 157 = .ok (.istore_n 2, 1) := by decide +kernel
theorem dX8_ask_158 : decode cX8_ask 158 = .ok (.iinc 4 1, 3) := by decide +kernel
theorem dX8_ask_161 : decode cX8_ask 161 = .ok (.goto (-122), 3) := by decide +kernel
theorem dX8_ask_164 : decode cX8_ask 164 = .ok (.iinc 3 1, 3) := by decide +kernel
theorem dX8_ask_167 : decode cX8_ask 167 = .ok (.goto (-151), 3) := by decide +kernel
theorem dX8_ask_170 : decode cX8_ask 170 = .ok (.iload_n 1, 1) := by decide +kernel
theorem dX8_ask_171 : decode cX8_ask 171 = .ok (.ireturn, 1) := by decide +kernel
theorem dX8_keep_0 : decode cX8_keep 0 = .ok (.iload_n 1, 1) := by decide +kernel
theorem dX8_keep_1 : decode cX8_keep 1 = .ok (.iconst 0, 1) := by decide +kernel
theorem dX8_keep_2 : decode cX8_keep 2 = .ok (.iconst 1, 1) := by decide +kernel
theorem dX8_keep_3 : decode cX8_keep 3 = .ok (.invokestatic 55, 3) := by decide +kernel
theorem dX8_keep_6 : decode cX8_keep 6 = .ok (.ifCond .ne 5, 3) := by decide +kernel
theorem dX8_keep_9 : decode cX8_keep 9 = .ok (.iconst (-1), 1) := by decide +kernel
theorem dX8_keep_10 : decode cX8_keep 10 = .ok (.ireturn, 1) := by decide +kernel
theorem dX8_keep_11 : decode cX8_keep 11 = .ok (.aload_n 0, 1) := by decide +kernel
theorem dX8_keep_12 : decode cX8_keep 12 = .ok (.getfield 7, 3) := by decide +kernel
theorem dX8_keep_15 : decode cX8_keep 15 = .ok (.iconst 0, 1) := by decide +kernel
theorem dX8_keep_16 : decode cX8_keep 16 = .ok (.aload_n 0, 1) := by decide +kernel
theorem dX8_keep_17 : decode cX8_keep 17 = .ok (.getfield 19, 3) := by decide +kernel
theorem dX8_keep_20 : decode cX8_keep 20 = .ok (.bipush 87, 2) := by decide +kernel
theorem dX8_keep_22 : decode cX8_keep 22 = .ok (.iload_n 1, 1) := by decide +kernel
theorem dX8_keep_23 : decode cX8_keep 23 = .ok (.imul, 1) := by decide +kernel
theorem dX8_keep_24 : decode cX8_keep 24 = .ok (.invokestatic 45, 3) := by decide +kernel
theorem dX8_keep_27 : decode cX8_keep 27 = .ok (.aload_n 0, 1) := by decide +kernel
theorem dX8_keep_28 : decode cX8_keep 28 = .ok (.getfield 22, 3) := by decide +kernel
theorem dX8_keep_31 : decode cX8_keep 31 = .ok (.iload_n 1, 1) := by decide +kernel
theorem dX8_keep_32 : decode cX8_keep 32 = .ok (.iconst 1, 1) := by decide +kernel
theorem dX8_keep_33 : decode cX8_keep 33 = .ok (.bastore, 1) := by decide +kernel
theorem dX8_keep_34 : decode cX8_keep 34 = .ok (.aload_n 0, 1) := by decide +kernel
theorem dX8_keep_35 : decode cX8_keep 35 = .ok (.invokevirtual 178, 3) := by decide +kernel
theorem dX8_keep_38 : decode cX8_keep 38 = .ok (.ireturn, 1) := by decide +kernel
theorem dX8_back_0 : decode cX8_back 0 = .ok (.iload_n 1, 1) := by decide +kernel
theorem dX8_back_1 : decode cX8_back 1 = .ok (.iconst 0, 1) := by decide +kernel
theorem dX8_back_2 : decode cX8_back 2 = .ok (.iconst 1, 1) := by decide +kernel
theorem dX8_back_3 : decode cX8_back 3 = .ok (.invokestatic 55, 3) := by decide +kernel
theorem dX8_back_6 : decode cX8_back 6 = .ok (.ifCond .ne 5, 3) := by decide +kernel
theorem dX8_back_9 : decode cX8_back 9 = .ok (.iconst (-1), 1) := by decide +kernel
theorem dX8_back_10 : decode cX8_back 10 = .ok (.ireturn, 1) := by decide +kernel
theorem dX8_back_11 : decode cX8_back 11 = .ok (.aload_n 0, 1) := by decide +kernel
theorem dX8_back_12 : decode cX8_back 12 = .ok (.getfield 22, 3) := by decide +kernel
theorem dX8_back_15 : decode cX8_back 15 = .ok (.iload_n 1, 1) := by decide +kernel
theorem dX8_back_16 : decode cX8_back 16 = .ok (.baload, 1) := by decide +kernel
theorem dX8_back_17 : decode cX8_back 17 = .ok (.ifCond .ne 6, 3) := by decide +kernel
theorem dX8_back_20 : decode cX8_back 20 = .ok (.bipush (-2), 2) := by decide +kernel
theorem dX8_back_22 : decode cX8_back 22 = .ok (.ireturn, 1) := by decide +kernel
theorem dX8_back_23 : decode cX8_back 23 = .ok (.aload_n 0, 1) := by decide +kernel
theorem dX8_back_24 : decode cX8_back 24 = .ok (.getfield 19, 3) := by decide +kernel
theorem dX8_back_27 : decode cX8_back 27 = .ok (.bipush 87, 2) := by decide +kernel
theorem dX8_back_29 : decode cX8_back 29 = .ok (.iload_n 1, 1) := by decide +kernel
theorem dX8_back_30 : decode cX8_back 30 = .ok (.imul, 1) := by decide +kernel
theorem dX8_back_31 : decode cX8_back 31 = .ok (.aload_n 0, 1) := by decide +kernel
theorem dX8_back_32 : decode cX8_back 32 = .ok (.getfield 7, 3) := by decide +kernel
theorem dX8_back_35 : decode cX8_back 35 = .ok (.iconst 0, 1) := by decide +kernel
theorem dX8_back_36 : decode cX8_back 36 = .ok (.invokestatic 45, 3) := by decide +kernel
theorem dX8_back_39 : decode cX8_back 39 = .ok (.aload_n 0, 1) := by decide +kernel
theorem dX8_back_40 : decode cX8_back 40 = .ok (.iconst 0, 1) := by decide +kernel
theorem dX8_back_41 : decode cX8_back 41 = .ok (.putfield 41, 3) := by decide +kernel
theorem dX8_back_44 : decode cX8_back 44 = .ok (.aload_n 0, 1) := by decide +kernel
theorem dX8_back_45 : decode cX8_back 45 = .ok (.invokevirtual 178, 3) := by decide +kernel
theorem dX8_back_48 : decode cX8_back 48 = .ok (.ireturn, 1) := by decide +kernel
theorem dX8_sumOf_0 : decode cX8_sumOf 0 = .ok (.iconst 0, 1) := by decide +kernel
theorem dX8_sumOf_1 : decode cX8_sumOf 1 = .ok (.istore 4, 2) := by decide +kernel
theorem dX8_sumOf_3 : decode cX8_sumOf 3 = .ok (.iconst 0, 1) := by decide +kernel
theorem dX8_sumOf_4 : decode cX8_sumOf 4 = .ok (.istore 5, 2) := by decide +kernel
theorem dX8_sumOf_6 : decode cX8_sumOf 6 = .ok (.iload 5, 2) := by decide +kernel
theorem dX8_sumOf_8 : decode cX8_sumOf 8 = .ok (.iload_n 2, 1) := by decide +kernel
theorem dX8_sumOf_9 : decode cX8_sumOf 9 = .ok (.if_icmp .ge 42, 3) := by decide +kernel
theorem dX8_sumOf_12 : decode cX8_sumOf 12 = .ok (.iload 4, 2) := by decide +kernel
theorem dX8_sumOf_14 : decode cX8_sumOf 14 = .ok (.iload_n 3, 1) := by decide +kernel
theorem dX8_sumOf_15 : decode cX8_sumOf 15 = .ok (.ifCond .eq 18, 3) := by decide +kernel
theorem dX8_sumOf_18 : decode cX8_sumOf 18 = .ok (.aload_n 0, 1) := by decide +kernel
theorem dX8_sumOf_19 : decode cX8_sumOf 19 = .ok (.getfield 7, 3) := by decide +kernel
theorem dX8_sumOf_22 : decode cX8_sumOf 22 = .ok (.iload_n 1, 1) := by decide +kernel
theorem dX8_sumOf_23 : decode cX8_sumOf 23 = .ok (.iload 5, 2) := by decide +kernel
theorem dX8_sumOf_25 : decode cX8_sumOf 25 = .ok (.iadd, 1) := by decide +kernel
theorem dX8_sumOf_26 : decode cX8_sumOf 26 = .ok (.iaload, 1) := by decide +kernel
theorem dX8_sumOf_27 : decode cX8_sumOf 27 = .ok (.invokestatic 143, 3) := by decide +kernel
theorem dX8_sumOf_30 : decode cX8_sumOf 30 = .ok (.goto 12, 3) := by decide +kernel
theorem dX8_sumOf_33 : decode cX8_sumOf 33 = .ok (.aload_n 0, 1) := by decide +kernel
theorem dX8_sumOf_34 : decode cX8_sumOf 34 = .ok (.getfield 7, 3) := by decide +kernel
theorem dX8_sumOf_37 : decode cX8_sumOf 37 = .ok (.iload_n 1, 1) := by decide +kernel
theorem dX8_sumOf_38 : decode cX8_sumOf 38 = .ok (.iload 5, 2) := by decide +kernel
theorem dX8_sumOf_40 : decode cX8_sumOf 40 = .ok (.iadd, 1) := by decide +kernel
theorem dX8_sumOf_41 : decode cX8_sumOf 41 = .ok (.iaload, 1) := by decide +kernel
theorem dX8_sumOf_42 : decode cX8_sumOf 42 = .ok (.iadd, 1) := by decide +kernel
theorem dX8_sumOf_43 : decode cX8_sumOf 43 = .ok (.istore 4, 2) := by decide +kernel
theorem dX8_sumOf_45 : decode cX8_sumOf 45 = .ok (.iinc 5 1, 3) := by decide +kernel
theorem dX8_sumOf_48 : decode cX8_sumOf 48 = .ok (.goto (-42), 3) := by decide +kernel
theorem dX8_sumOf_51 : decode cX8_sumOf 51 = .ok (.iload 4, 2) := by decide +kernel
theorem dX8_sumOf_53 : decode cX8_sumOf 53 = .ok (.ireturn, 1) := by decide +kernel
theorem dX8_count_0 : decode cX8_count 0 = .ok (.iload_n 1, 1) := by decide +kernel
theorem dX8_count_1 : decode cX8_count 1 = .ok (.tableswitch 143 0 10 #[59, 66, 73, 78, 90, 102, 109, 123, 128, 133, 138], 59) := by decide +kernel
theorem dX8_count_60 : decode cX8_count 60 = .ok (.aload_n 0, 1) := by decide +kernel
theorem dX8_count_61 : decode cX8_count 61 = .ok (.getfield 7, 3) := by decide +kernel
theorem dX8_count_64 : decode cX8_count 64 = .ok (.iconst 0, 1) := by decide +kernel
theorem dX8_count_65 : decode cX8_count 65 = .ok (.iaload, 1) := by decide +kernel
theorem dX8_count_66 : decode cX8_count 66 = .ok (.ireturn, 1) := by decide +kernel
theorem dX8_count_67 : decode cX8_count 67 = .ok (.aload_n 0, 1) := by decide +kernel
theorem dX8_count_68 : decode cX8_count 68 = .ok (.getfield 7, 3) := by decide +kernel
theorem dX8_count_71 : decode cX8_count 71 = .ok (.iconst 1, 1) := by decide +kernel
theorem dX8_count_72 : decode cX8_count 72 = .ok (.iaload, 1) := by decide +kernel
theorem dX8_count_73 : decode cX8_count 73 = .ok (.ireturn, 1) := by decide +kernel
theorem dX8_count_74 : decode cX8_count 74 = .ok (.aload_n 0, 1) := by decide +kernel
theorem dX8_count_75 : decode cX8_count 75 = .ok (.invokevirtual 178, 3) := by decide +kernel
theorem dX8_count_78 : decode cX8_count 78 = .ok (.ireturn, 1) := by decide +kernel
theorem dX8_count_79 : decode cX8_count 79 = .ok (.aload_n 0, 1) := by decide +kernel
theorem dX8_count_80 : decode cX8_count 80 = .ok (.bipush 35, 2) := by decide +kernel
theorem dX8_count_82 : decode cX8_count 82 = .ok (.bipush 6, 2) := by decide +kernel
theorem dX8_count_84 : decode cX8_count 84 = .ok (.iconst 1, 1) := by decide +kernel
theorem dX8_count_85 : decode cX8_count 85 = .ok (.invokevirtual 208, 3) := by decide +kernel
theorem dX8_count_88 : decode cX8_count 88 = .ok (.iconst 2, 1) := by decide +kernel
theorem dX8_count_89 : decode cX8_count 89 = .ok (.idiv, 1) := by decide +kernel
theorem dX8_count_90 : decode cX8_count 90 = .ok (.ireturn, 1) := by decide +kernel
theorem dX8_count_91 : decode cX8_count 91 = .ok (.aload_n 0, 1) := by decide +kernel
theorem dX8_count_92 : decode cX8_count 92 = .ok (.bipush 41, 2) := by decide +kernel
theorem dX8_count_94 : decode cX8_count 94 = .ok (.bipush 6, 2) := by decide +kernel
theorem dX8_count_96 : decode cX8_count 96 = .ok (.iconst 1, 1) := by decide +kernel
theorem dX8_count_97 : decode cX8_count 97 = .ok (.invokevirtual 208, 3) := by decide +kernel
theorem dX8_count_100 : decode cX8_count 100 = .ok (.iconst 2, 1) := by decide +kernel
theorem dX8_count_101 : decode cX8_count 101 = .ok (.idiv, 1) := by decide +kernel
theorem dX8_count_102 : decode cX8_count 102 = .ok (.ireturn, 1) := by decide +kernel
theorem dX8_count_103 : decode cX8_count 103 = .ok (.aload_n 0, 1) := by decide +kernel
theorem dX8_count_104 : decode cX8_count 104 = .ok (.getfield 7, 3) := by decide +kernel
theorem dX8_count_107 : decode cX8_count 107 = .ok (.iconst 2, 1) := by decide +kernel
theorem dX8_count_108 : decode cX8_count 108 = .ok (.iaload, 1) := by decide +kernel
theorem dX8_count_109 : decode cX8_count 109 = .ok (.ireturn, 1) := by decide +kernel
theorem dX8_count_110 : decode cX8_count 110 = .ok (.aload_n 0, 1) := by decide +kernel
theorem dX8_count_111 : decode cX8_count 111 = .ok (.bipush 71, 2) := by decide +kernel
theorem dX8_count_113 : decode cX8_count 113 = .ok (.aload_n 0, 1) := by decide +kernel
theorem dX8_count_114 : decode cX8_count 114 = .ok (.getfield 7, 3) := by decide +kernel
theorem dX8_count_117 : decode cX8_count 117 = .ok (.iconst 1, 1) := by decide +kernel
theorem dX8_count_118 : decode cX8_count 118 = .ok (.iaload, 1) := by decide +kernel
theorem dX8_count_119 : decode cX8_count 119 = .ok (.iconst 0, 1) := by decide +kernel
theorem dX8_count_120 : decode cX8_count 120 = .ok (.invokevirtual 208, 3) := by decide +kernel
theorem dX8_count_123 : decode cX8_count 123 = .ok (.ireturn, 1) := by decide +kernel
theorem dX8_count_124 : decode cX8_count 124 = .ok (.aload_n 0, 1) := by decide +kernel
theorem dX8_count_125 : decode cX8_count 125 = .ok (.invokevirtual 193, 3) := by decide +kernel
theorem dX8_count_128 : decode cX8_count 128 = .ok (.ireturn, 1) := by decide +kernel
theorem dX8_count_129 : decode cX8_count 129 = .ok (.aload_n 0, 1) := by decide +kernel
theorem dX8_count_130 : decode cX8_count 130 = .ok (.getfield 96, 3) := by decide +kernel
theorem dX8_count_133 : decode cX8_count 133 = .ok (.ireturn, 1) := by decide +kernel
theorem dX8_count_134 : decode cX8_count 134 = .ok (.aload_n 0, 1) := by decide +kernel
theorem dX8_count_135 : decode cX8_count 135 = .ok (.getfield 52, 3) := by decide +kernel
theorem dX8_count_138 : decode cX8_count 138 = .ok (.ireturn, 1) := by decide +kernel
theorem dX8_count_139 : decode cX8_count 139 = .ok (.aload_n 0, 1) := by decide +kernel
theorem dX8_count_140 : decode cX8_count 140 = .ok (.getfield 41, 3) := by decide +kernel
theorem dX8_count_143 : decode cX8_count 143 = .ok (.ireturn, 1) := by decide +kernel
theorem dX8_count_144 : decode cX8_count 144 = .ok (.iconst (-1), 1) := by decide +kernel
theorem dX8_count_145 : decode cX8_count 145 = .ok (.ireturn, 1) := by decide +kernel
