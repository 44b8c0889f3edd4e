theorem dX8_init_0 : decode cX8_init 0 = .ok (.aload_n 0, 1) := by decide +kernel
theorem dX8_init_1 : decode cX8_init 1 = .ok (.invokespecial 1, 3) := by decide +kernel
theorem dX8_init_4 : decode cX8_init 4 = .ok (.aload_n 0, 1) := by decide +kernel
theorem dX8_init_5 : decode cX8_init 5 = .ok (.bipush 87, 2) := by decide +kernel
theorem dX8_init_7 : decode cX8_init 7 = .ok (.newarray .int, 2) := by decide +kernel
theorem dX8_init_9 : decode cX8_init 9 = .ok (.putfield 7, 3) := by decide +kernel
theorem dX8_init_12 : decode cX8_init 12 = .ok (.aload_n 0, 1) := by decide +kernel
theorem dX8_init_13 : decode cX8_init 13 = .ok (.bipush 87, 2) := by decide +kernel
theorem dX8_init_15 : decode cX8_init 15 = .ok (.newarray .int, 2) := by decide +kernel
theorem dX8_init_17 : decode cX8_init 17 = .ok (.putfield 13, 3) := by decide +kernel
theorem dX8_init_20 : decode cX8_init 20 = .ok (.aload_n 0, 1) := by decide +kernel
theorem dX8_init_21 : decode cX8_init 21 = .ok (.sipush 435, 3) := by decide +kernel
theorem dX8_init_24 : decode cX8_init 24 = .ok (.newarray .int, 2) := by decide +kernel
theorem dX8_init_26 : decode cX8_init 26 = .ok (.putfield 16, 3) := by decide +kernel
theorem dX8_init_29 : decode cX8_init 29 = .ok (.aload_n 0, 1) := by decide +kernel
theorem dX8_init_30 : decode cX8_init 30 = .ok (.sipush 174, 3) := by decide +kernel
theorem dX8_init_33 : decode cX8_init 33 = .ok (.newarray .int, 2) := by decide +kernel
theorem dX8_init_35 : decode cX8_init 35 = .ok (.putfield 19, 3) := by decide +kernel
theorem dX8_init_38 : decode cX8_init 38 = .ok (.aload_n 0, 1) := by decide +kernel
theorem dX8_init_39 : decode cX8_init 39 = .ok (.iconst 2, 1) := by decide +kernel
theorem dX8_init_40 : decode cX8_init 40 = .ok (.newarray .boolean, 2) := by decide +kernel
theorem dX8_init_42 : decode cX8_init 42 = .ok (.putfield 22, 3) := by decide +kernel
theorem dX8_init_45 : decode cX8_init 45 = .ok (.aload_n 0, 1) := by decide +kernel
theorem dX8_init_46 : decode cX8_init 46 = .ok (.bipush 100, 2) := by decide +kernel
theorem dX8_init_48 : decode cX8_init 48 = .ok (.newarray .int, 2) := by decide +kernel
theorem dX8_init_50 : decode cX8_init 50 = .ok (.putfield 26, 3) := by decide +kernel
theorem dX8_init_53 : decode cX8_init 53 = .ok (.aload_n 0, 1) := by decide +kernel
theorem dX8_init_54 : decode cX8_init 54 = .ok (.bipush 18, 2) := by decide +kernel
theorem dX8_init_56 : decode cX8_init 56 = .ok (.newarray .int, 2) := by decide +kernel
theorem dX8_init_58 : decode cX8_init 58 = .ok (.putfield 29, 3) := by decide +kernel
theorem dX8_init_61 : decode cX8_init 61 = .ok (.aload_n 0, 1) := by decide +kernel
theorem dX8_init_62 : decode cX8_init 62 = .ok (.bipush 8, 2) := by decide +kernel
theorem dX8_init_64 : decode cX8_init 64 = .ok (.newarray .int, 2) := by decide +kernel
theorem dX8_init_66 : decode cX8_init 66 = .ok (.putfield 32, 3) := by decide +kernel
theorem dX8_init_69 : decode cX8_init 69 = .ok (.aload_n 0, 1) := by decide +kernel
theorem dX8_init_70 : decode cX8_init 70 = .ok (.bipush 15, 2) := by decide +kernel
theorem dX8_init_72 : decode cX8_init 72 = .ok (.newarray .int, 2) := by decide +kernel
theorem dX8_init_74 : decode cX8_init 74 = .ok (.putfield 35, 3) := by decide +kernel
theorem dX8_init_77 : decode cX8_init 77 = .ok (.aload_n 0, 1) := by decide +kernel
theorem dX8_init_78 : decode cX8_init 78 = .ok (.bipush 120, 2) := by decide +kernel
theorem dX8_init_80 : decode cX8_init 80 = .ok (.newarray .int, 2) := by decide +kernel
theorem dX8_init_82 : decode cX8_init 82 = .ok (.putfield 38, 3) := by decide +kernel
theorem dX8_init_85 : decode cX8_init 85 = .ok (.aload_n 0, 1) := by decide +kernel
theorem dX8_init_86 : decode cX8_init 86 = .ok (.getfield 7, 3) := by decide +kernel
theorem dX8_init_89 : decode cX8_init 89 = .ok (.iconst 0, 1) := by decide +kernel
theorem dX8_init_90 : decode cX8_init 90 = .ok (.iconst 1, 1) := by decide +kernel
theorem dX8_init_91 : decode cX8_init 91 = .ok (.iastore, 1) := by decide +kernel
theorem dX8_init_92 : decode cX8_init 92 = .ok (.aload_n 0, 1) := by decide +kernel
theorem dX8_init_93 : decode cX8_init 93 = .ok (.getfield 7, 3) := by decide +kernel
theorem dX8_init_96 : decode cX8_init 96 = .ok (.iconst 3, 1) := by decide +kernel
theorem dX8_init_97 : decode cX8_init 97 = .ok (.iconst 5, 1) := by decide +kernel
theorem dX8_init_98 : decode cX8_init 98 = .ok (.iastore, 1) := by decide +kernel
theorem dX8_init_99 : decode cX8_init 99 = .ok (.aload_n 0, 1) := by decide +kernel
theorem dX8_init_100 : decode cX8_init 100 = .ok (.getfield 7, 3) := by decide +kernel
theorem dX8_init_103 : decode cX8_init 103 = .ok (.bipush 6, 2) := by decide +kernel
theorem dX8_init_105 : decode cX8_init 105 = .ok (.iconst 1, 1) := by decide +kernel
theorem dX8_init_106 : decode cX8_init 106 = .ok (.iastore, 1) := by decide +kernel
theorem dX8_init_107 : decode cX8_init 107 = .ok (.iconst 0, 1) := by decide +kernel
theorem dX8_init_108 : decode cX8_init 108 = .ok (.istore_n 1, 1) := by decide +kernel
theorem dX8_init_109 : decode cX8_init 109 = .ok (.iload_n 1, 1) := by decide +kernel
theorem dX8_init_110 : decode cX8_init 110 = .ok (.bipush 8, 2) := by decide +kernel
theorem dX8_init_112 : decode cX8_init 112 = .ok (.if_icmp .ge 20, 3) := by decide +kernel
theorem dX8_init_115 : decode cX8_init 115 = .ok (.aload_n 0, 1) := by decide +kernel
theorem dX8_init_116 : decode cX8_init 116 = .ok (.getfield 7, 3) := by decide +kernel
theorem dX8_init_119 : decode cX8_init 119 = .ok (.bipush 27, 2) := by decide +kernel
theorem dX8_init_121 : decode cX8_init 121 = .ok (.iload_n 1, 1) := by decide +kernel
theorem dX8_init_122 : decode cX8_init 122 = .ok (.iadd, 1) := by decide +kernel
theorem dX8_init_123 : decode cX8_init 123 = .ok (.bipush (-9), 2) := by decide +kernel
theorem dX8_init_125 : decode cX8_init 125 = .ok (.iastore, 1) := by decide +kernel
theorem dX8_init_126 : decode cX8_init 126 = .ok (.iinc 1 1, 3) := by decide +kernel
theorem dX8_init_129 : decode cX8_init 129 = .ok (.goto (-20), 3) := by decide +kernel
theorem dX8_init_132 : decode cX8_init 132 = .ok (.return_, 1) := by decide +kernel
theorem dX8_in_0 : decode cX8_in 0 = .ok (.iload_n 0, 1) := by decide +kernel
theorem dX8_in_1 : decode cX8_in 1 = .ok (.iload_n 1, 1) := by decide +kernel
theorem dX8_in_2 : decode cX8_in 2 = .ok (.if_icmp .lt 12, 3) := by decide +kernel
theorem dX8_in_5 : decode cX8_in 5 = .ok (.iload_n 0, 1) := by decide +kernel
theorem dX8_in_6 : decode cX8_in 6 = .ok (.iload_n 2, 1) := by decide +kernel
theorem dX8_in_7 : decode cX8_in 7 = .ok (.if_icmp .gt 7, 3) := by decide +kernel
theorem dX8_in_10 : decode cX8_in 10 = .ok (.iconst 1, 1) := by decide +kernel
theorem dX8_in_11 : decode cX8_in 11 = .ok (.goto 4, 3) := by decide +kernel
theorem dX8_in_14 : decode cX8_in 14 = .ok (.iconst 0, 1) := by decide +kernel
theorem dX8_in_15 : decode cX8_in 15 = .ok (.ireturn, 1) := by decide +kernel
theorem dX8_has_0 : decode cX8_has 0 = .ok (.iload_n 0, 1) := by decide +kernel
theorem dX8_has_1 : decode cX8_has 1 = .ok (.iload_n 1, 1) := by decide +kernel
theorem dX8_has_2 : decode cX8_has 2 = .ok (.ishr, 1) := by decide +kernel
theorem dX8_has_3 : decode cX8_has 3 = .ok (.iconst 1, 1) := by decide +kernel
theorem dX8_has_4 : decode cX8_has 4 = .ok (.iand, 1) := by decide +kernel
theorem dX8_has_5 : decode cX8_has 5 = .ok (.iconst 1, 1) := by decide +kernel
theorem dX8_has_6 : decode cX8_has 6 = .ok (.if_icmp .ne 7, 3) := by decide +kernel
theorem dX8_has_9 : decode cX8_has 9 = .ok (.iconst 1, 1) := by decide +kernel
theorem dX8_has_10 : decode cX8_has 10 = .ok (.goto 4, 3) := by decide +kernel
theorem dX8_has_13 : decode cX8_has 13 = .ok (.iconst 0, 1) := by decide +kernel
theorem dX8_has_14 : decode cX8_has 14 = .ok (.ireturn, 1) := by decide +kernel
theorem dX8_ones_0 : decode cX8_ones 0 = .ok (.iconst 0, 1) := by decide +kernel
theorem dX8_ones_1 : decode cX8_ones 1 = .ok (.istore_n 1, 1) := by decide +kernel
theorem dX8_ones_2 : decode cX8_ones 2 = .ok (.iconst 0, 1) := by decide +kernel
theorem dX8_ones_3 : decode cX8_ones 3 = .ok (.istore_n 2, 1) := by decide +kernel
theorem dX8_ones_4 : decode cX8_ones 4 = .ok (.iload_n 2, 1) := by decide +kernel
theorem dX8_ones_5 : decode cX8_ones 5 = .ok (.bipush 8, 2) := by decide +kernel
theorem dX8_ones_7 : decode cX8_ones 7 = .ok (.if_icmp .ge 17, 3) := by decide +kernel
theorem dX8_ones_10 : decode cX8_ones 10 = .ok (.iload_n 1, 1) := by decide +kernel
theorem dX8_ones_11 : decode cX8_ones 11 = .ok (.iload_n 0, 1) := by decide +kernel
theorem dX8_ones_12 : decode cX8_ones 12 = .ok (.iload_n 2, 1) := by decide +kernel
theorem dX8_ones_13 : decode cX8_ones 13 = .ok (.ishr, 1) := by decide +kernel
theorem dX8_ones_14 : decode cX8_ones 14 = .ok (.iconst 1, 1) := by decide +kernel
theorem dX8_ones_15 : decode cX8_ones 15 = .ok (.iand, 1) := by decide +kernel
theorem dX8_ones_16 : decode cX8_ones 16 = .ok (.iadd, 1) := by decide +kernel
theorem dX8_ones_17 : decode cX8_ones 17 = .ok (.istore_n 1, 1) := by decide +kernel
theorem dX8_ones_18 : decode cX8_ones 18 = .ok (.iinc 2 1, 3) := by decide +kernel
theorem dX8_ones_21 : decode cX8_ones 21 = .ok (.goto (-17), 3) := by decide +kernel
theorem dX8_ones_24 : decode cX8_ones 24 = .ok (.iload_n 1, 1) := by decide +kernel
theorem dX8_ones_25 : decode cX8_ones 25 = .ok (.ireturn, 1) := by decide +kernel
theorem dX8_bring_0 : decode cX8_bring 0 = .ok (.iconst 0, 1) := by decide +kernel
theorem dX8_bring_1 : decode cX8_bring 1 = .ok (.istore 4, 2) := by decide +kernel
theorem dX8_bring_3 : decode cX8_bring 3 = .ok (.iload 4, 2) := by decide +kernel
theorem dX8_bring_5 : decode cX8_bring 5 = .ok (.bipush 87, 2) := by decide +kernel
theorem dX8_bring_7 : decode cX8_bring 7 = .ok (.if_icmp .ge 21, 3) := by decide +kernel
theorem dX8_bring_10 : decode cX8_bring 10 = .ok (.aload_n 2, 1) := by decide +kernel
theorem dX8_bring_11 : decode cX8_bring 11 = .ok (.iload_n 3, 1) := by decide +kernel
theorem dX8_bring_12 : decode cX8_bring 12 = .ok (.iload 4, 2) := by decide +kernel
theorem dX8_bring_14 : decode cX8_bring 14 = .ok (.iadd, 1) := by decide +kernel
theorem dX8_bring_15 : decode cX8_bring 15 = .ok (.aload_n 0, 1) := by decide +kernel
theorem dX8_bring_16 : decode cX8_bring 16 = .ok (.iload_n 1, 1) := by decide +kernel
theorem dX8_bring_17 : decode cX8_bring 17 = .ok (.iload 4, 2) := by decide +kernel
theorem dX8_bring_19 : decode cX8_bring 19 = .ok (.iadd, 1) := by decide +kernel
theorem dX8_bring_20 : decode cX8_bring 20 = .ok (.iaload, 1) := by decide +kernel
theorem dX8_bring_21 : decode cX8_bring 21 = .ok (.iastore, 1) := by decide +kernel
theorem dX8_bring_22 : decode cX8_bring 22 = .ok (.iinc 4 1, 3) := by decide +kernel
theorem dX8_bring_25 : decode cX8_bring 25 = .ok (.goto (-22), 3) := by decide +kernel
theorem dX8_bring_28 : decode cX8_bring 28 = .ok (.return_, 1) := by decide +kernel
theorem dX8_note_0 : decode cX8_note 0 = .ok (.aload_n 0, 1) := by decide +kernel
theorem dX8_note_1 : decode cX8_note 1 = .ok (.getfield 41, 3) := by decide +kernel
theorem dX8_note_4 : decode cX8_note 4 = .ok (.iconst 5, 1) := by decide +kernel
theorem dX8_note_5 : decode cX8_note 5 = .ok (.if_icmp .ne 43, 3) := by decide +kernel
theorem dX8_note_8 : decode cX8_note 8 = .ok (.iconst 0, 1) := by decide +kernel
theorem dX8_note_9 : decode cX8_note 9 = .ok (.istore_n 1, 1) := by decide +kernel
theorem dX8_note_10 : decode cX8_note 10 = .ok (.iload_n 1, 1) := by decide +kernel
theorem dX8_note_11 : decode cX8_note 11 = .ok (.sipush 348, 3) := by decide +kernel
theorem dX8_note_14 : decode cX8_note 14 = .ok (.if_icmp .ge 24, 3) := by decide +kernel
theorem dX8_note_17 : decode cX8_note 17 = .ok (.aload_n 0, 1) := by decide +kernel
theorem dX8_note_18 : decode cX8_note 18 = .ok (.getfield 16, 3) := by decide +kernel
theorem dX8_note_21 : decode cX8_note 21 = .ok (.iload_n 1, 1) := by decide +kernel
theorem dX8_note_22 : decode cX8_note 22 = .ok (.aload_n 0, 1) := by decide +kernel
theorem dX8_note_23 : decode cX8_note 23 = .ok (.getfield 16, 3) := by decide +kernel
theorem dX8_note_26 : decode cX8_note 26 = .ok (.iload_n 1, 1) := by decide +kernel
theorem dX8_note_27 : decode cX8_note 27 = .ok (.bipush 87, 2) := by decide +kernel
theorem dX8_note_29 : decode cX8_note 29 = .ok (.iadd, 1) := by decide +kernel
theorem dX8_note_30 : decode cX8_note 30 = .ok (.iaload, 1) := by decide +kernel
theorem dX8_note_31 : decode cX8_note 31 = .ok (.iastore, 1) := by decide +kernel
theorem dX8_note_32 : decode cX8_note 32 = .ok (.iinc 1 1, 3) := by decide +kernel
theorem dX8_note_35 : decode cX8_note 35 = .ok (.goto (-25), 3) := by decide +kernel
theorem dX8_note_38 : decode cX8_note 38 = .ok (.aload_n 0, 1) := by decide +kernel
theorem dX8_note_39 : decode cX8_note 39 = .ok (.dup, 1) := by decide +kernel
theorem dX8_note_40 : decode cX8_note 40 = .ok (.getfield 41, 3) := by decide +kernel
theorem dX8_note_43 : decode cX8_note 43 = .ok (.iconst 1, 1) := by decide +kernel
theorem dX8_note_44 : decode cX8_note 44 = .ok (.isub, 1) := by decide +kernel
theorem dX8_note_45 : decode cX8_note 45 = .ok (.putfield 41, 3) := by decide +kernel
theorem dX8_note_48 : decode cX8_note 48 = .ok (.aload_n 0, 1) := by decide +kernel
theorem dX8_note_49 : decode cX8_note 49 = .ok (.getfield 7, 3) := by decide +kernel
theorem dX8_note_52 : decode cX8_note 52 = .ok (.iconst 0, 1) := by decide +kernel
theorem dX8_note_53 : decode cX8_note 53 = .ok (.aload_n 0, 1) := by decide +kernel
theorem dX8_note_54 : decode cX8_note 54 = .ok (.getfield 16, 3) := by decide +kernel
theorem dX8_note_57 : decode cX8_note 57 = .ok (.bipush 87, 2) := by decide +kernel
theorem dX8_note_59 : decode cX8_note 59 = .ok (.aload_n 0, 1) := by decide +kernel
theorem dX8_note_60 : decode cX8_note 60 = .ok (.getfield 41, 3) := by decide +kernel
theorem dX8_note_63 : decode cX8_note 63 = .ok (.imul, 1) := by decide +kernel
theorem dX8_note_64 : decode cX8_note 64 = .ok (.invokestatic 45, 3) := by decide +kernel
theorem dX8_note_67 : decode cX8_note 67 = .ok (.aload_n 0, 1) := by decide +kernel
theorem dX8_note_68 : decode cX8_note 68 = .ok (.dup, 1) := by decide +kernel
theorem dX8_note_69 : decode cX8_note 69 = .ok (.getfield 41, 3) := by decide +kernel
theorem dX8_note_72 : decode cX8_note 72 = .ok (.iconst 1, 1) := by decide +kernel
theorem dX8_note_73 : decode cX8_note 73 = .ok (.iadd, 1) := by decide +kernel
theorem dX8_note_74 : decode cX8_note 74 = .ok (.putfield 41, 3) := by decide +kernel
theorem dX8_note_77 : decode cX8_note 77 = .ok (.return_, 1) := by decide +kernel
theorem dX8_isFigure_0 : decode cX8_isFigure 0 = .ok (.aload_n 0, 1) := by decide +kernel
theorem dX8_isFigure_1 : decode cX8_isFigure 1 = .ok (.getfield 49, 3) := by decide +kernel
theorem dX8_isFigure_4 : decode cX8_isFigure 4 = .ok (.aload_n 0, 1) := by decide +kernel
theorem dX8_isFigure_5 : decode cX8_isFigure 5 = .ok (.getfield 52, 3) := by decide +kernel
theorem dX8_isFigure_8 : decode cX8_isFigure 8 = .ok (.if_icmp .ge 26, 3) := by decide +kernel
theorem dX8_isFigure_11 : decode cX8_isFigure 11 = .ok (.aload_n 0, 1) := by decide +kernel
theorem dX8_isFigure_12 : decode cX8_isFigure 12 = .ok (.getfield 26, 3) := by decide +kernel
theorem dX8_isFigure_15 : decode cX8_isFigure 15 = .ok (.aload_n 0, 1) := by decide +kernel
theorem dX8_isFigure_16 : decode cX8_isFigure 16 = .ok (.getfield 49, 3) := by decide +kernel
theorem dX8_isFigure_19 : decode cX8_isFigure 19 = .ok (.iaload, 1) := by decide +kernel
theorem dX8_isFigure_20 : decode cX8_isFigure 20 = .ok (.bipush 48, 2) := by decide +kernel
theorem dX8_isFigure_22 : decode cX8_isFigure 22 = .ok (.bipush 57, 2) := by decide +kernel
theorem dX8_isFigure_24 : decode cX8_isFigure 24 = .ok (.invokestatic 55, 3) := by decide +kernel
theorem dX8_isFigure_27 : decode cX8_isFigure 27 = .ok (.ifCond .eq 7, 3) := by decide +kernel
theorem dX8_isFigure_30 : decode cX8_isFigure 30 = .ok (.iconst 1, 1) := by decide +kernel
theorem dX8_isFigure_31 : decode cX8_isFigure 31 = .ok (.goto 4, 3) := by decide +kernel
theorem dX8_isFigure_34 : decode cX8_isFigure 34 = .ok (.iconst 0, 1) := by decide +kernel
theorem dX8_isFigure_35 : decode cX8_isFigure 35 = .ok (.ireturn, 1) := by decide +kernel
theorem dX8_next_0 : decode cX8_next 0 = .ok (.aload_n 0, 1) := by decide +kernel
theorem dX8_next_1 : decode cX8_next 1 = .ok (.getfield 49, 3) := by decide +kernel
theorem dX8_next_4 : decode cX8_next 4 = .ok (.aload_n 0, 1) := by decide +kernel
theorem dX8_next_5 : decode cX8_next 5 = .ok (.getfield 52, 3) := by decide +kernel
theorem dX8_next_8 : decode cX8_next 8 = .ok (.if_icmp .ge 30, 3) := by decide +kernel
theorem dX8_next_11 : decode cX8_next 11 = .ok (.aload_n 0, 1) := by decide +kernel
theorem dX8_next_12 : decode cX8_next 12 = .ok (.getfield 26, 3) := by decide +kernel
theorem dX8_next_15 : decode cX8_next 15 = .ok (.aload_n 0, 1) := by decide +kernel
theorem dX8_next_16 : decode cX8_next 16 = .ok (.getfield 49, 3) := by decide +kernel
theorem dX8_next_19 : decode cX8_next 19 = .ok (.iaload, 1) := by decide +kernel
theorem dX8_next_20 : decode cX8_next 20 = .ok (.bipush 32, 2) := by decide +kernel
theorem dX8_next_22 : decode cX8_next 22 = .ok (.if_icmp .ne 16, 3) := by decide +kernel
theorem dX8_next_25 : decode cX8_next 25 = .ok (.aload_n 0, 1) := by decide +kernel
theorem dX8_next_26 : decode cX8_next 26 = .ok (.dup, 1) := by decide +kernel
theorem dX8_next_27 : decode cX8_next 27 = .ok (.getfield 49, 3) := by decide +kernel
theorem dX8_next_30 : decode cX8_next 30 = .ok (.iconst 1, 1) := by decide +kernel
theorem dX8_next_31 : decode cX8_next 31 = .ok (.iadd, 1) := by decide +kernel
theorem dX8_next_32 : decode cX8_next 32 = .ok (.putfield 49, 3) := by decide +kernel
theorem dX8_next_35 : decode cX8_next 35 = .ok (.goto (-35), 3) := by decide +kernel
theorem dX8_next_38 : decode cX8_next 38 = .ok (.aload_n 0, 1) := by decide +kernel
theorem dX8_next_39 : decode cX8_next 39 = .ok (.aload_n 0, 1) := by decide +kernel
theorem dX8_next_40 : decode cX8_next 40 = .ok (.getfield 49, 3) := by decide +kernel
theorem dX8_next_43 : decode cX8_next 43 = .ok (.putfield 59, 3) := by decide +kernel
theorem dX8_next_46 : decode cX8_next 46 = .ok (.aload_n 0, 1) := by decide +kernel
theorem dX8_next_47 : decode cX8_next 47 = .ok (.getfield 49, 3) := by decide +kernel
theorem dX8_next_50 : decode cX8_next 50 = .ok (.aload_n 0, 1) := by decide +kernel
theorem dX8_next_51 : decode cX8_next 51 = .ok (.getfield 52, 3) := by decide +kernel
theorem dX8_next_54 : decode cX8_next 54 = .ok (.if_icmp .ne 11, 3) := by decide +kernel
theorem dX8_next_57 : decode cX8_next 57 = .ok (.aload_n 0, 1) := by decide +kernel
theorem dX8_next_58 : decode cX8_next 58 = .ok (.sipush 1000, 3) := by decide +kernel
theorem dX8_next_61 : decode cX8_next 61 = .ok (.putfield 62, 3) := by decide +kernel
theorem dX8_next_64 : decode cX8_next 64 = .ok (.return_, 1) := by decide +kernel
theorem dX8_next_65 : decode cX8_next 65 = .ok (.aload_n 0, 1) := by decide +kernel
theorem dX8_next_66 : decode cX8_next 66 = .ok (.invokevirtual 65, 3) := by decide +kernel
theorem dX8_next_69 : decode cX8_next 69 = .ok (.ifCond .ne 59, 3) := by decide +kernel
theorem dX8_next_72 : decode cX8_next 72 = .ok (.aload_n 0, 1) := by decide +kernel
theorem dX8_next_73 : decode cX8_next 73 = .ok (.getfield 26, 3) := by decide +kernel
theorem dX8_next_76 : decode cX8_next 76 = .ok (.aload_n 0, 1) := by decide +kernel
theorem dX8_next_77 : decode cX8_next 77 = .ok (.getfield 49, 3) := by decide +kernel
theorem dX8_next_80 : decode cX8_next 80 = .ok (.iaload, 1) := by decide +kernel
theorem dX8_next_81 : decode cX8_next 81 = .ok (.istore_n 1, 1) := by decide +kernel
theorem dX8_next_82 : decode cX8_next 82 = .ok (.aload_n 0, 1) := by decide +kernel
theorem dX8_next_83 : decode cX8_next 83 = .ok (.iload_n 1, 1) := by decide +kernel
theorem dX8_next_84 : decode cX8_next 84 = .ok (.bipush 115, 2) := by decide +kernel
theorem dX8_next_86 : decode cX8_next 86 = .ok (.if_icmp .eq 21, 3) := by decide +kernel
theorem dX8_next_89 : decode cX8_next 89 = .ok (.iload_n 1, 1) := by decide +kernel
theorem dX8_next_90 : decode cX8_next 90 = .ok (.bipush 104, 2) := by decide +kernel
theorem dX8_next_92 : decode cX8_next 92 = .ok (.if_icmp .eq 15, 3) := by decide +kernel
theorem dX8_next_95 : decode cX8_next 95 = .ok (.iload_n 1, 1) := by decide +kernel
theorem dX8_next_96 : decode cX8_next 96 = .ok (.bipush 45, 2) := by decide +kernel
theorem dX8_next_98 : decode cX8_next 98 = .ok (.if_icmp .eq 9, 3) := by decide +kernel
theorem dX8_next_101 : decode cX8_next 101 = .ok (.iload_n 1, 1) := by decide +kernel
theorem dX8_next_102 : decode cX8_next 102 = .ok (.bipush 59, 2) := by decide +kernel
theorem dX8_next_104 : decode cX8_next 104 = .ok (.if_icmp .ne 7, 3) := by decide +kernel
theorem dX8_next_107 : decode cX8_next 107 = .ok (.iload_n 1, 1) := by decide +kernel
theorem dX8_next_108 : decode cX8_next 108 = .ok (.goto 6, 3) := by decide +kernel
theorem dX8_next_111 : decode cX8_next 111 = .ok (.sipush 1002, 3) := by decide +kernel
theorem dX8_next_114 : decode cX8_next 114 = .ok (.putfield 62, 3) := by decide +kernel
theorem dX8_next_117 : decode cX8_next 117 = .ok (.aload_n 0, 1) := by decide +kernel
theorem dX8_next_118 : decode cX8_next 118 = .ok (.dup, 1) := by decide +kernel
theorem dX8_next_119 : decode cX8_next 119 = .ok (.getfield 49, 3) := by decide +kernel
theorem dX8_next_122 : decode cX8_next 122 = .ok (.iconst 1, 1) := by decide +kernel
theorem dX8_next_123 : decode cX8_next 123 = .ok (.iadd, 1) := by decide +kernel
theorem dX8_next_124 : decode cX8_next 124 = .ok (.putfield 49, 3) := by decide +kernel
theorem dX8_next_127 : decode cX8_next 127 = .ok (.return_, 1) := by decide +kernel
theorem dX8_next_128 : decode cX8_next 128 = .ok (.aload_n 0, 1) := by decide +kernel
theorem dX8_next_129 : decode cX8_next 129 = .ok (.iconst 0, 1) := by decide +kernel
theorem dX8_next_130 : decode cX8_next 130 = .ok (.putfield 69, 3) := by decide +kernel
theorem dX8_next_133 : decode cX8_next 133 = .ok (.aload_n 0, 1) := by decide +kernel
theorem dX8_next_134 : decode cX8_next 134 = .ok (.invokevirtual 65, 3) := by decide +kernel
theorem dX8_next_137 : decode cX8_next 137 = .ok (.ifCond .eq 56, 3) := by decide +kernel
theorem dX8_next_140 : decode cX8_next 140 = .ok (.aload_n 0, 1) := by decide +kernel
theorem dX8_next_141 : decode cX8_next 141 = .ok (.aload_n 0, 1) := by decide +kernel
theorem dX8_next_142 : decode cX8_next 142 = .ok (.getfield 69, 3) := by decide +kernel
theorem dX8_next_145 : decode cX8_next 145 = .ok (.bipush 99, 2) := by decide +kernel
theorem dX8_next_147 : decode cX8_next 147 = .ok (.if_icmp .le 10, 3) := by decide +kernel
theorem dX8_next_150 : decode cX8_next 150 = .ok (.aload_n 0, 1) := by decide +kernel
theorem dX8_next_151 : decode cX8_next 151 = .ok (.getfield 69, 3) := by decide +kernel
theorem dX8_next_154 : decode cX8_next 154 = .ok (.goto 23, 3) := by decide +kernel
theorem dX8_next_157 : decode cX8_next 157 = .ok (.bipush 10, 2) := by decide +kernel
theorem dX8_next_159 : decode cX8_next 159 = .ok (.aload_n 0, 1) := by decide +kernel
theorem dX8_next_160 : decode cX8_next 160 = .ok (.getfield 69, 3) := by decide +kernel
theorem dX8_next_163 : decode cX8_next 163 = .ok (.imul, 1) := by decide +kernel
theorem dX8_next_164 : decode cX8_next 164 = .ok (.aload_n 0, 1) := by decide +kernel
theorem dX8_next_165 : decode cX8_next 165 = .ok (.getfield 26, 3) := by decide +kernel
theorem dX8_next_168 : decode cX8_next 168 = .ok (.aload_n 0, 1) := by decide +kernel
theorem dX8_next_169 : decode cX8_next 169 = .ok (.getfield 49, 3) := by decide +kernel
theorem dX8_next_172 : decode cX8_next 172 = .ok (.iaload, 1) := by decide +kernel
theorem dX8_next_173 : decode cX8_next 173 = .ok (.iadd, 1) := by decide +kernel
theorem dX8_next_174 : decode cX8_next 174 = .ok (.bipush 48, 2) := by decide +kernel
theorem dX8_next_176 : decode cX8_next 176 = .ok (.isub, 1) := by decide +kernel
theorem dX8_next_177 : decode cX8_next 177 = .ok (.putfield 69, 3) := by decide +kernel
theorem dX8_next_180 : decode cX8_next 180 = .ok (.aload_n 0, 1) := by decide +kernel
theorem dX8_next_181 : decode cX8_next 181 = .ok (.dup, 1) := by decide +kernel
theorem dX8_next_182 : decode cX8_next 182 = .ok (.getfield 49, 3) := by decide +kernel
theorem dX8_next_185 : decode cX8_next 185 = .ok (.iconst 1, 1) := by decide +kernel
theorem dX8_next_186 : decode cX8_next 186 = .ok (.iadd, 1) := by decide +kernel
theorem dX8_next_187 : decode cX8_next 187 = .ok (.putfield 49, 3) := by decide +kernel
theorem dX8_next_190 : decode cX8_next 190 = .ok (.goto (-57), 3) := by decide +kernel
theorem dX8_next_193 : decode cX8_next 193 = .ok (.aload_n 0, 1) := by decide +kernel
theorem dX8_next_194 : decode cX8_next 194 = .ok (.aload_n 0, 1) := by decide +kernel
theorem dX8_next_195 : decode cX8_next 195 = .ok (.getfield 69, 3) := by decide +kernel
theorem dX8_next_198 : decode cX8_next 198 = .ok (.bipush 99, 2) := by decide +kernel
theorem dX8_next_200 : decode cX8_next 200 = .ok (.if_icmp .gt 30, 3) := by decide +kernel
theorem dX8_next_203 : decode cX8_next 203 = .ok (.aload_n 0, 1) := by decide +kernel
theorem dX8_next_204 : decode cX8_next 204 = .ok (.getfield 26, 3) := by decide +kernel
theorem dX8_next_207 : decode cX8_next 207 = .ok (.aload_n 0, 1) := by decide +kernel
theorem dX8_next_208 : decode cX8_next 208 = .ok (.getfield 59, 3) := by decide +kernel
theorem dX8_next_211 : decode cX8_next 211 = .ok (.iaload, 1) := by decide +kernel
theorem dX8_next_212 : decode cX8_next 212 = .ok (.bipush 48, 2) := by decide +kernel
theorem dX8_next_214 : decode cX8_next 214 = .ok (.if_icmp .ne 22, 3) := by decide +kernel
theorem dX8_next_217 : decode cX8_next 217 = .ok (.aload_n 0, 1) := by decide +kernel
theorem dX8_next_218 : decode cX8_next 218 = .ok (.getfield 49, 3) := by decide +kernel
theorem dX8_next_221 : decode cX8_next 221 = .ok (.aload_n 0, 1) := by decide +kernel
theorem dX8_next_222 : decode cX8_next 222 = .ok (.getfield 59, 3) := by decide +kernel
theorem dX8_next_225 : decode cX8_next 225 = .ok (.iconst 1, 1) := by decide +kernel
theorem dX8_next_226 : decode cX8_next 226 = .ok (.iadd, 1) := by decide +kernel
theorem dX8_next_227 : decode cX8_next 227 = .ok (.if_icmp .le 9, 3) := by decide +kernel
theorem dX8_next_230 : decode cX8_next 230 = .ok (.sipush 1002, 3) := by decide +kernel
theorem dX8_next_233 : decode cX8_next 233 = .ok (.goto 6, 3) := by decide +kernel
theorem dX8_next_236 : decode cX8_next 236 = .ok (.sipush 1001, 3) := by decide +kernel
theorem dX8_next_239 : decode cX8_next 239 = .ok (.putfield 62, 3) := by decide +kernel
theorem dX8_next_242 : decode cX8_next 242 = .ok (.return_, 1) := by decide +kernel
theorem dX8_isNumber_0 : decode cX8_isNumber 0 = .ok (.aload_n 0, 1) := by decide +kernel
theorem dX8_isNumber_1 : decode cX8_isNumber 1 = .ok (.getfield 62, 3) := by decide +kernel
theorem dX8_isNumber_4 : decode cX8_isNumber 4 = .ok (.sipush 1001, 3) := by decide +kernel
theorem dX8_isNumber_7 : decode cX8_isNumber 7 = .ok (.if_icmp .ne 19, 3) := by decide +kernel
theorem dX8_isNumber_10 : decode cX8_isNumber 10 = .ok (.aload_n 0, 1) := by decide +kernel
theorem dX8_isNumber_11 : decode cX8_isNumber 11 = .ok (.getfield 69, 3) := by decide +kernel
theorem dX8_isNumber_14 : decode cX8_isNumber 14 = .ok (.iload_n 1, 1) := by decide +kernel
theorem dX8_isNumber_15 : decode cX8_isNumber 15 = .ok (.iload_n 2, 1) := by decide +kernel
theorem dX8_isNumber_16 : decode cX8_isNumber 16 = .ok (.invokestatic 55, 3) := by decide +kernel
theorem dX8_isNumber_19 : decode cX8_isNumber 19 = .ok (.ifCond .eq 7, 3) := by decide +kernel
theorem dX8_isNumber_22 : decode cX8_isNumber 22 = .ok (.iconst 1, 1) := by decide +kernel
theorem dX8_isNumber_23 : decode cX8_isNumber 23 = .ok (.goto 4, 3) := by decide +kernel
theorem dX8_isNumber_26 : decode cX8_isNumber 26 = .ok (.iconst 0, 1) := by decide +kernel
theorem dX8_isNumber_27 : decode cX8_isNumber 27 = .ok (.ireturn, 1) := by decide +kernel
theorem dX8_isNamed_0 : decode cX8_isNamed 0 = .ok (.iconst 0, 1) := by decide +kernel
theorem dX8_isNamed_1 : decode cX8_isNamed 1 = .ok (.istore_n 2, 1) := by decide +kernel
theorem dX8_isNamed_2 : decode cX8_isNamed 2 = .ok (.iconst 0, 1) := by decide +kernel
theorem dX8_isNamed_3 : decode cX8_isNamed 3 = .ok (.istore_n 3, 1) := by decide +kernel
theorem dX8_isNamed_4 : decode cX8_isNamed 4 = .ok (.iload_n 3, 1) := by decide +kernel
theorem dX8_isNamed_5 : decode cX8_isNamed 5 = .ok (.aload_n 0, 1) := by decide +kernel
theorem dX8_isNamed_6 : decode cX8_isNamed 6 = .ok (.getfield 13, 3) := by decide +kernel
theorem dX8_isNamed_9 : decode cX8_isNamed 9 = .ok (.iconst 0, 1) := by decide +kernel
theorem dX8_isNamed_10 : decode cX8_isNamed 10 = .ok (.iaload, 1) := by decide +kernel
theorem dX8_isNamed_11 : decode cX8_isNamed 11 = .ok (.if_icmp .ge 35, 3) := by decide +kernel
theorem dX8_isNamed_14 : decode cX8_isNamed 14 = .ok (.iload_n 2, 1) := by decide +kernel
theorem dX8_isNamed_15 : decode cX8_isNamed 15 = .ok (.ifCond .ne 19, 3) := by decide +kernel
theorem dX8_isNamed_18 : decode cX8_isNamed 18 = .ok (.aload_n 0, 1) := by decide +kernel
theorem dX8_isNamed_19 : decode cX8_isNamed 19 = .ok (.getfield 13, 3) := by decide +kernel
theorem dX8_isNamed_22 : decode cX8_isNamed 22 = .ok (.iconst 3, 1) := by decide +kernel
theorem dX8_isNamed_23 : decode cX8_isNamed 23 = .ok (.iconst 4, 1) := by decide +kernel
theorem dX8_isNamed_24 : decode cX8_isNamed 24 = .ok (.iload_n 3, 1) := by decide +kernel
theorem dX8_isNamed_25 : decode cX8_isNamed 25 = .ok (.imul, 1) := by decide +kernel
theorem dX8_isNamed_26 : decode cX8_isNamed 26 = .ok (.iadd, 1) := by decide +kernel
theorem dX8_isNamed_27 : decode cX8_isNamed 27 = .ok (.iconst 1, 1) := by decide +kernel
theorem dX8_isNamed_28 : decode cX8_isNamed 28 = .ok (.iadd, 1) := by decide +kernel
theorem dX8_isNamed_29 : decode cX8_isNamed 29 = .ok (.iaload, 1) := by decide +kernel
theorem dX8_isNamed_30 : decode cX8_isNamed 30 = .ok (.iload_n 1, 1) := by decide +kernel
theorem dX8_isNamed_31 : decode cX8_isNamed 31 = .ok (.if_icmp .ne 7, 3) := by decide +kernel
theorem dX8_isNamed_34 : decode cX8_isNamed 34 = .ok (.iconst 1, 1) := by decide +kernel
theorem dX8_isNamed_35 : decode cX8_isNamed 35 = .ok (.goto 4, 3) := by decide +kernel
theorem dX8_isNamed_38 : decode cX8_isNamed 38 = .ok (.iconst 0, 1) := by decide +kernel
theorem dX8_isNamed_39 : decode cX8_isNamed 39 = .ok (.istore_n 2, 1) := by decide +kernel
theorem dX8_isNamed_40 : decode cX8_isNamed 40 = .ok (.iinc 3 1, 3) := by decide +kernel
theorem dX8_isNamed_43 : decode cX8_isNamed 43 = .ok (.goto (-39), 3) := by decide +kernel
theorem dX8_isNamed_46 : decode cX8_isNamed 46 = .ok (.iload_n 2, 1) := by decide +kernel
theorem dX8_isNamed_47 : decode cX8_isNamed 47 = .ok (.ireturn, 1) := by decide +kernel
theorem dX8_readSwitch_0 : decode cX8_readSwitch 0 = .ok (.aload_n 0, 1) := by decide +kernel
theorem dX8_readSwitch_1 : decode cX8_readSwitch 1 = .ok (.getfield 13, 3) := by decide +kernel
theorem dX8_readSwitch_4 : decode cX8_readSwitch 4 = .ok (.iconst 0, 1) := by decide +kernel
theorem dX8_readSwitch_5 : decode cX8_readSwitch 5 = .ok (.iaload, 1) := by decide +kernel
theorem dX8_readSwitch_6 : decode cX8_readSwitch 6 = .ok (.bipush 6, 2) := by decide +kernel
theorem dX8_readSwitch_8 : decode cX8_readSwitch 8 = .ok (.if_icmp .eq 12, 3) := by decide +kernel
theorem dX8_readSwitch_11 : decode cX8_readSwitch 11 = .ok (.aload_n 0, 1) := by decide +kernel
theorem dX8_readSwitch_12 : decode cX8_readSwitch 12 = .ok (.getfield 13, 3) := by decide +kernel
theorem dX8_readSwitch_15 : decode cX8_readSwitch 15 = .ok (.iconst 1, 1) := by decide +kernel
theorem dX8_readSwitch_16 : decode cX8_readSwitch 16 = .ok (.iaload, 1) := by decide +kernel
theorem dX8_readSwitch_17 : decode cX8_readSwitch 17 = .ok (.ifCond .le 5, 3) := by decide +kernel
theorem dX8_readSwitch_20 : decode cX8_readSwitch 20 = .ok (.iconst 0, 1) := by decide +kernel
theorem dX8_readSwitch_21 : decode cX8_readSwitch 21 = .ok (.ireturn, 1) := by decide +kernel
theorem dX8_readSwitch_22 : decode cX8_readSwitch 22 = .ok (.iconst 3, 1) := by decide +kernel
theorem dX8_readSwitch_23 : decode cX8_readSwitch 23 = .ok (.iconst 4, 1) := by decide +kernel
theorem dX8_readSwitch_24 : decode cX8_readSwitch 24 = .ok (.aload_n 0, 1) := by decide +kernel
theorem dX8_readSwitch_25 : decode cX8_readSwitch 25 = .ok (.getfield 13, 3) := by decide +kernel
theorem dX8_readSwitch_28 : decode cX8_readSwitch 28 = .ok (.iconst 0, 1) := by decide +kernel
theorem dX8_readSwitch_29 : decode cX8_readSwitch 29 = .ok (.iaload, 1) := by decide +kernel
theorem dX8_readSwitch_30 : decode cX8_readSwitch 30 = .ok (.imul, 1) := by decide +kernel
theorem dX8_readSwitch_31 : decode cX8_readSwitch 31 = .ok (.iadd, 1) := by decide +kernel
theorem dX8_readSwitch_32 : decode cX8_readSwitch 32 = .ok (.istore_n 1, 1) := by decide +kernel
theorem dX8_readSwitch_33 : decode cX8_readSwitch 33 = .ok (.aload_n 0, 1) := by decide +kernel
theorem dX8_readSwitch_34 : decode cX8_readSwitch 34 = .ok (.invokevirtual 72, 3) := by decide +kernel
theorem dX8_readSwitch_37 : decode cX8_readSwitch 37 = .ok (.aload_n 0, 1) := by decide +kernel
theorem dX8_readSwitch_38 : decode cX8_readSwitch 38 = .ok (.iconst 1, 1) := by decide +kernel
theorem dX8_readSwitch_39 : decode cX8_readSwitch 39 = .ok (.bipush 9, 2) := by decide +kernel
theorem dX8_readSwitch_41 : decode cX8_readSwitch 41 = .ok (.invokevirtual 75, 3) := by decide +kernel
theorem dX8_readSwitch_44 : decode cX8_readSwitch 44 = .ok (.ifCond .ne 5, 3) := by decide +kernel
theorem dX8_readSwitch_47 : decode cX8_readSwitch 47 = .ok (.iconst 0, 1) := by decide +kernel
theorem dX8_readSwitch_48 : decode cX8_readSwitch 48 = .ok (.ireturn, 1) := by decide +kernel
theorem dX8_readSwitch_49 : decode cX8_readSwitch 49 = .ok (.aload_n 0, 1) := by decide +kernel
theorem dX8_readSwitch_50 : decode cX8_readSwitch 50 = .ok (.getfield 13, 3) := by decide +kernel
theorem dX8_readSwitch_53 : decode cX8_readSwitch 53 = .ok (.iload_n 1, 1) := by decide +kernel
theorem dX8_readSwitch_54 : decode cX8_readSwitch 54 = .ok (.iconst 0, 1) := by decide +kernel
theorem dX8_readSwitch_55 : decode cX8_readSwitch 55 = .ok (.iadd, 1) := by decide +kernel
theorem dX8_readSwitch_56 : decode cX8_readSwitch 56 = .ok (.aload_n 0, 1) := by decide +kernel
theorem dX8_readSwitch_57 : decode cX8_readSwitch 57 = .ok (.getfield 69, 3) := by decide +kernel
theorem dX8_readSwitch_60 : decode cX8_readSwitch 60 = .ok (.iastore, 1) := by decide +kernel
theorem dX8_readSwitch_61 : decode cX8_readSwitch 61 = .ok (.aload_n 0, 1) := by decide +kernel
theorem dX8_readSwitch_62 : decode cX8_readSwitch 62 = .ok (.invokevirtual 72, 3) := by decide +kernel
theorem dX8_readSwitch_65 : decode cX8_readSwitch 65 = .ok (.aload_n 0, 1) := by decide +kernel
theorem dX8_readSwitch_66 : decode cX8_readSwitch 66 = .ok (.iconst 0, 1) := by decide +kernel
theorem dX8_readSwitch_67 : decode cX8_readSwitch 67 = .ok (.bipush 99, 2) := by decide +kernel
theorem dX8_readSwitch_69 : decode cX8_readSwitch 69 = .ok (.invokevirtual 75, 3) := by decide +kernel
theorem dX8_readSwitch_72 : decode cX8_readSwitch 72 = .ok (.ifCond .eq 14, 3) := by decide +kernel
theorem dX8_readSwitch_75 : decode cX8_readSwitch 75 = .ok (.aload_n 0, 1) := by decide +kernel
theorem dX8_readSwitch_76 : decode cX8_readSwitch 76 = .ok (.aload_n 0, 1) := by decide +kernel
theorem dX8_readSwitch_77 : decode cX8_readSwitch 77 = .ok (.getfield 69, 3) := by decide +kernel
theorem dX8_readSwitch_80 : decode cX8_readSwitch 80 = .ok (.invokevirtual 79, 3) := by decide +kernel
theorem dX8_readSwitch_83 : decode cX8_readSwitch 83 = .ok (.ifCond .eq 5, 3) := by decide +kernel
theorem dX8_readSwitch_86 : decode cX8_readSwitch 86 = .ok (.iconst 0, 1) := by decide +kernel
theorem dX8_readSwitch_87 : decode cX8_readSwitch 87 = .ok (.ireturn, 1) := by decide +kernel
theorem dX8_readSwitch_88 : decode cX8_readSwitch 88 = .ok (.aload_n 0, 1) := by decide +kernel
theorem dX8_readSwitch_89 : decode cX8_readSwitch 89 = .ok (.getfield 13, 3) := by decide +kernel
theorem dX8_readSwitch_92 : decode cX8_readSwitch 92 = .ok (.iload_n 1, 1) := by decide +kernel
theorem dX8_readSwitch_93 : decode cX8_readSwitch 93 = .ok (.iconst 1, 1) := by decide +kernel
theorem dX8_readSwitch_94 : decode cX8_readSwitch 94 = .ok (.iadd, 1) := by decide +kernel
theorem dX8_readSwitch_95 : decode cX8_readSwitch 95 = .ok (.aload_n 0, 1) := by decide +kernel
theorem dX8_readSwitch_96 : decode cX8_readSwitch 96 = .ok (.getfield 69, 3) := by decide +kernel
theorem dX8_readSwitch_99 : decode cX8_readSwitch 99 = .ok (.iastore, 1) := by decide +kernel
theorem dX8_readSwitch_100 : decode cX8_readSwitch 100 = .ok (.aload_n 0, 1) := by decide +kernel
theorem dX8_readSwitch_101 : decode cX8_readSwitch 101 = .ok (.invokevirtual 72, 3) := by decide +kernel
theorem dX8_readSwitch_104 : decode cX8_readSwitch 104 = .ok (.aload_n 0, 1) := by decide +kernel
theorem dX8_readSwitch_105 : decode cX8_readSwitch 105 = .ok (.iconst 0, 1) := by decide +kernel
theorem dX8_readSwitch_106 : decode cX8_readSwitch 106 = .ok (.bipush 8, 2) := by decide +kernel
theorem dX8_readSwitch_108 : decode cX8_readSwitch 108 = .ok (.invokevirtual 75, 3) := by decide +kernel
theorem dX8_readSwitch_111 : decode cX8_readSwitch 111 = .ok (.ifCond .ne 5, 3) := by decide +kernel
theorem dX8_readSwitch_114 : decode cX8_readSwitch 114 = .ok (.iconst 0, 1) := by decide +kernel
theorem dX8_readSwitch_115 : decode cX8_readSwitch 115 = .ok (.ireturn, 1) := by decide +kernel
theorem dX8_readSwitch_116 : decode cX8_readSwitch 116 = .ok (.aload_n 0, 1) := by decide +kernel
theorem dX8_readSwitch_117 : decode cX8_readSwitch 117 = .ok (.getfield 13, 3) := by decide +kernel
theorem dX8_readSwitch_120 : decode cX8_readSwitch 120 = .ok (.iload_n 1, 1) := by decide +kernel
theorem dX8_readSwitch_121 : decode cX8_readSwitch 121 = .ok (.iconst 2, 1) := by decide +kernel
theorem dX8_readSwitch_122 : decode cX8_readSwitch 122 = .ok (.iadd, 1) := by decide +kernel
theorem dX8_readSwitch_123 : decode cX8_readSwitch 123 = .ok (.aload_n 0, 1) := by decide +kernel
theorem dX8_readSwitch_124 : decode cX8_readSwitch 124 = .ok (.getfield 69, 3) := by decide +kernel
theorem dX8_readSwitch_127 : decode cX8_readSwitch 127 = .ok (.iastore, 1) := by decide +kernel
theorem dX8_readSwitch_128 : decode cX8_readSwitch 128 = .ok (.aload_n 0, 1) := by decide +kernel
theorem dX8_readSwitch_129 : decode cX8_readSwitch 129 = .ok (.getfield 13, 3) := by decide +kernel
theorem dX8_readSwitch_132 : decode cX8_readSwitch 132 = .ok (.iload_n 1, 1) := by decide +kernel
theorem dX8_readSwitch_133 : decode cX8_readSwitch 133 = .ok (.iconst 3, 1) := by decide +kernel
theorem dX8_readSwitch_134 : decode cX8_readSwitch 134 = .ok (.iadd, 1) := by decide +kernel
theorem dX8_readSwitch_135 : decode cX8_readSwitch 135 = .ok (.aload_n 0, 1) := by decide +kernel
theorem dX8_readSwitch_136 : decode cX8_readSwitch 136 = .ok (.getfield 69, 3) := by decide +kernel
theorem dX8_readSwitch_139 : decode cX8_readSwitch 139 = .ok (.ifCond .ne 7, 3) := by decide +kernel
theorem dX8_readSwitch_142 : decode cX8_readSwitch 142 = .ok (.iconst 1, 1) := by decide +kernel
theorem dX8_readSwitch_143 : decode cX8_readSwitch 143 = .ok (.goto 7, 3) := by decide +kernel
theorem dX8_readSwitch_146 : decode cX8_readSwitch 146 = .ok (.aload_n 0, 1) := by decide +kernel
theorem dX8_readSwitch_147 : decode cX8_readSwitch 147 = .ok (.getfield 69, 3) := by decide +kernel
theorem dX8_readSwitch_150 : decode cX8_readSwitch 150 = .ok (.iastore, 1) := by decide +kernel
theorem dX8_readSwitch_151 : decode cX8_readSwitch 151 = .ok (.aload_n 0, 1) := by decide +kernel
theorem dX8_readSwitch_152 : decode cX8_readSwitch 152 = .ok (.getfield 13, 3) := by decide +kernel
theorem dX8_readSwitch_155 : decode cX8_readSwitch 155 = .ok (.iconst 0, 1) := by decide +kernel
theorem dX8_readSwitch_156 : decode cX8_readSwitch 156 = .ok (.dup2, 1) := by decide +kernel
theorem dX8_readSwitch_157 : decode cX8_readSwitch 157 = .ok (.iaload, 1) := by decide +kernel
theorem dX8_readSwitch_158 : decode cX8_readSwitch 158 = .ok (.iconst 1, 1) := by decide +kernel
theorem dX8_readSwitch_159 : decode cX8_readSwitch 159 = .ok (.iadd, 1) := by decide +kernel
theorem dX8_readSwitch_160 : decode cX8_readSwitch 160 = .ok (.iastore, 1) := by decide +kernel
theorem dX8_readSwitch_161 : decode cX8_readSwitch 161 = .ok (.aload_n 0, 1) := by decide +kernel
theorem dX8_readSwitch_162 : decode cX8_readSwitch 162 = .ok (.invokevirtual 72, 3) := by decide +kernel
theorem dX8_readSwitch_165 : decode cX8_readSwitch 165 = .ok (.aload_n 0, 1) := by decide +kernel
theorem dX8_readSwitch_166 : decode cX8_readSwitch 166 = .ok (.getfield 62, 3) := by decide +kernel
theorem dX8_readSwitch_169 : decode cX8_readSwitch 169 = .ok (.bipush 59, 2) := by decide +kernel
theorem dX8_readSwitch_171 : decode cX8_readSwitch 171 = .ok (.if_icmp .ne 7, 3) := by decide +kernel
theorem dX8_readSwitch_174 : decode cX8_readSwitch 174 = .ok (.iconst 1, 1) := by decide +kernel
theorem dX8_readSwitch_175 : decode cX8_readSwitch 175 = .ok (.goto 4, 3) := by decide +kernel
theorem dX8_readSwitch_178 : decode cX8_readSwitch 178 = .ok (.iconst 0, 1) := by decide +kernel
theorem dX8_readSwitch_179 : decode cX8_readSwitch 179 = .ok (.ireturn, 1) := by decide +kernel
theorem dX8_readHost_0 : decode cX8_readHost 0 = .ok (.aload_n 0, 1) := by decide +kernel
theorem dX8_readHost_1 : decode cX8_readHost 1 = .ok (.getfield 13, 3) := by decide +kernel
theorem dX8_readHost_4 : decode cX8_readHost 4 = .ok (.iconst 1, 1) := by decide +kernel
theorem dX8_readHost_5 : decode cX8_readHost 5 = .ok (.iaload, 1) := by decide +kernel
theorem dX8_readHost_6 : decode cX8_readHost 6 = .ok (.bipush 8, 2) := by decide +kernel
theorem dX8_readHost_8 : decode cX8_readHost 8 = .ok (.if_icmp .eq 12, 3) := by decide +kernel
theorem dX8_readHost_11 : decode cX8_readHost 11 = .ok (.aload_n 0, 1) := by decide +kernel
theorem dX8_readHost_12 : decode cX8_readHost 12 = .ok (.getfield 13, 3) := by decide +kernel
theorem dX8_readHost_15 : decode cX8_readHost 15 = .ok (.iconst 0, 1) := by decide +kernel
theorem dX8_readHost_16 : decode cX8_readHost 16 = .ok (.iaload, 1) := by decide +kernel
theorem dX8_readHost_17 : decode cX8_readHost 17 = .ok (.ifCond .ne 5, 3) := by decide +kernel
theorem dX8_readHost_20 : decode cX8_readHost 20 = .ok (.iconst 0, 1) := by decide +kernel
theorem dX8_readHost_21 : decode cX8_readHost 21 = .ok (.ireturn, 1) := by decide +kernel
theorem dX8_readHost_22 : decode cX8_readHost 22 = .ok (.aload_n 0, 1) := by decide +kernel
theorem dX8_readHost_23 : decode cX8_readHost 23 = .ok (.invokevirtual 72, 3) := by decide +kernel
theorem dX8_readHost_26 : decode cX8_readHost 26 = .ok (.aload_n 0, 1) := by decide +kernel
theorem dX8_readHost_27 : decode cX8_readHost 27 = .ok (.getfield 62, 3) := by decide +kernel
theorem dX8_readHost_30 : decode cX8_readHost 30 = .ok (.bipush 45, 2) := by decide +kernel
theorem dX8_readHost_32 : decode cX8_readHost 32 = .ok (.if_icmp .eq 21, 3) := by decide +kernel
theorem dX8_readHost_35 : decode cX8_readHost 35 = .ok (.aload_n 0, 1) := by decide +kernel
theorem dX8_readHost_36 : decode cX8_readHost 36 = .ok (.iconst 0, 1) := by decide +kernel
theorem dX8_readHost_37 : decode cX8_readHost 37 = .ok (.aload_n 0, 1) := by decide +kernel
theorem dX8_readHost_38 : decode cX8_readHost 38 = .ok (.getfield 13, 3) := by decide +kernel
theorem dX8_readHost_41 : decode cX8_readHost 41 = .ok (.iconst 0, 1) := by decide +kernel
theorem dX8_readHost_42 : decode cX8_readHost 42 = .ok (.iaload, 1) := by decide +kernel
theorem dX8_readHost_43 : decode cX8_readHost 43 = .ok (.iconst 1, 1) := by decide +kernel
theorem dX8_readHost_44 : decode cX8_readHost 44 = .ok (.isub, 1) := by decide +kernel
theorem dX8_readHost_45 : decode cX8_readHost 45 = .ok (.invokevirtual 75, 3) := by decide +kernel
theorem dX8_readHost_48 : decode cX8_readHost 48 = .ok (.ifCond .ne 5, 3) := by decide +kernel
theorem dX8_readHost_51 : decode cX8_readHost 51 = .ok (.iconst 0, 1) := by decide +kernel
theorem dX8_readHost_52 : decode cX8_readHost 52 = .ok (.ireturn, 1) := by decide +kernel
theorem dX8_readHost_53 : decode cX8_readHost 53 = .ok (.aload_n 0, 1) := by decide +kernel
theorem dX8_readHost_54 : decode cX8_readHost 54 = .ok (.getfield 13, 3) := by decide +kernel
theorem dX8_readHost_57 : decode cX8_readHost 57 = .ok (.bipush 27, 2) := by decide +kernel
theorem dX8_readHost_59 : decode cX8_readHost 59 = .ok (.aload_n 0, 1) := by decide +kernel
theorem dX8_readHost_60 : decode cX8_readHost 60 = .ok (.getfield 13, 3) := by decide +kernel
theorem dX8_readHost_63 : decode cX8_readHost 63 = .ok (.iconst 1, 1) := by decide +kernel
theorem dX8_readHost_64 : decode cX8_readHost 64 = .ok (.iaload, 1) := by decide +kernel
theorem dX8_readHost_65 : decode cX8_readHost 65 = .ok (.iadd, 1) := by decide +kernel
theorem dX8_readHost_66 : decode cX8_readHost 66 = .ok (.aload_n 0, 1) := by decide +kernel
theorem dX8_readHost_67 : decode cX8_readHost 67 = .ok (.getfield 62, 3) := by decide +kernel
theorem dX8_readHost_70 : decode cX8_readHost 70 = .ok (.bipush 45, 2) := by decide +kernel
theorem dX8_readHost_72 : decode cX8_readHost 72 = .ok (.if_icmp .ne 8, 3) := by decide +kernel
theorem dX8_readHost_75 : decode cX8_readHost 75 = .ok (.bipush (-9), 2) := by decide +kernel
theorem dX8_readHost_77 : decode cX8_readHost 77 = .ok (.goto 7, 3) := by decide +kernel
theorem dX8_readHost_80 : decode cX8_readHost 80 = .ok (.aload_n 0, 1) := by decide +kernel
theorem dX8_readHost_81 : decode cX8_readHost 81 = .ok (.getfield 69, 3) := by decide +kernel
theorem dX8_readHost_84 : decode cX8_readHost 84 = .ok (.iastore, 1) := by decide +kernel
theorem dX8_readHost_85 : decode cX8_readHost 85 = .ok (.aload_n 0, 1) := by decide +kernel
theorem dX8_readHost_86 : decode cX8_readHost 86 = .ok (.getfield 13, 3) := by decide +kernel
theorem dX8_readHost_89 : decode cX8_readHost 89 = .ok (.iconst 1, 1) := by decide +kernel
theorem dX8_readHost_90 : decode cX8_readHost 90 = .ok (.dup2, 1) := by decide +kernel
theorem dX8_readHost_91 : decode cX8_readHost 91 = .ok (.iaload, 1) := by decide +kernel
theorem dX8_readHost_92 : decode cX8_readHost 92 = .ok (.iconst 1, 1) := by decide +kernel
theorem dX8_readHost_93 : decode cX8_readHost 93 = .ok (.iadd, 1) := by decide +kernel
theorem dX8_readHost_94 : decode cX8_readHost 94 = .ok (.iastore, 1) := by decide +kernel
theorem dX8_readHost_95 : decode cX8_readHost 95 = .ok (.aload_n 0, 1) := by decide +kernel
theorem dX8_readHost_96 : decode cX8_readHost 96 = .ok (.invokevirtual 72, 3) := by decide +kernel
theorem dX8_readHost_99 : decode cX8_readHost 99 = .ok (.aload_n 0, 1) := by decide +kernel
theorem dX8_readHost_100 : decode cX8_readHost 100 = .ok (.getfield 62, 3) := by decide +kernel
theorem dX8_readHost_103 : decode cX8_readHost 103 = .ok (.bipush 59, 2) := by decide +kernel
theorem dX8_readHost_105 : decode cX8_readHost 105 = .ok (.if_icmp .ne 7, 3) := by decide +kernel
theorem dX8_readHost_108 : decode cX8_readHost 108 = .ok (.iconst 1, 1) := by decide +kernel
theorem dX8_readHost_109 : decode cX8_readHost 109 = .ok (.goto 4, 3) := by decide +kernel
theorem dX8_readHost_112 : decode cX8_readHost 112 = .ok (.iconst 0, 1) := by decide +kernel
theorem dX8_readHost_113 : decode cX8_readHost 113 = .ok (.ireturn, 1) := by decide +kernel
theorem dX8_readText_0 : decode cX8_readText 0 = .ok (.iconst 0, 1) := by decide +kernel
theorem dX8_readText_1 : decode cX8_readText 1 = .ok (.istore_n 1, 1) := by decide +kernel
theorem dX8_readText_2 : decode cX8_readText 2 = .ok (.iload_n 1, 1) := by decide +kernel
theorem dX8_readText_3 : decode cX8_readText 3 = .ok (.bipush 87, 2) := by decide +kernel
theorem dX8_readText_5 : decode cX8_readText 5 = .ok (.if_icmp .ge 33, 3) := by decide +kernel
theorem dX8_readText_8 : decode cX8_readText 8 = .ok (.aload_n 0, 1) := by decide +kernel
theorem dX8_readText_9 : decode cX8_readText 9 = .ok (.getfield 13, 3) := by decide +kernel
theorem dX8_readText_12 : decode cX8_readText 12 = .ok (.iload_n 1, 1) := by decide +kernel
theorem dX8_readText_13 : decode cX8_readText 13 = .ok (.iload_n 1, 1) := by decide +kernel
theorem dX8_readText_14 : decode cX8_readText 14 = .ok (.bipush 27, 2) := by decide +kernel
theorem dX8_readText_16 : decode cX8_readText 16 = .ok (.if_icmp .lt 14, 3) := by decide +kernel
theorem dX8_readText_19 : decode cX8_readText 19 = .ok (.iload_n 1, 1) := by decide +kernel
theorem dX8_readText_20 : decode cX8_readText 20 = .ok (.bipush 35, 2) := by decide +kernel
theorem dX8_readText_22 : decode cX8_readText 22 = .ok (.if_icmp .ge 8, 3) := by decide +kernel
theorem dX8_readText_25 : decode cX8_readText 25 = .ok (.bipush (-9), 2) := by decide +kernel
theorem dX8_readText_27 : decode cX8_readText 27 = .ok (.goto 4, 3) := by decide +kernel
theorem dX8_readText_30 : decode cX8_readText 30 = .ok (.iconst 0, 1) := by decide +kernel
theorem dX8_readText_31 : decode cX8_readText 31 = .ok (.iastore, 1) := by decide +kernel
theorem dX8_readText_32 : decode cX8_readText 32 = .ok (.iinc 1 1, 3) := by decide +kernel
theorem dX8_readText_35 : decode cX8_readText 35 = .ok (.goto (-33), 3) := by decide +kernel
theorem dX8_readText_38 : decode cX8_readText 38 = .ok (.aload_n 0, 1) := by decide +kernel
theorem dX8_readText_39 : decode cX8_readText 39 = .ok (.iconst 0, 1) := by decide +kernel
theorem dX8_readText_40 : decode cX8_readText 40 = .ok (.putfield 49, 3) := by decide +kernel
theorem dX8_readText_43 : decode cX8_readText 43 = .ok (.aload_n 0, 1) := by decide +kernel
theorem dX8_readText_44 : decode cX8_readText 44 = .ok (.invokevirtual 72, 3) := by decide +kernel
theorem dX8_readText_47 : decode cX8_readText 47 = .ok (.aload_n 0, 1) := by decide +kernel
theorem dX8_readText_48 : decode cX8_readText 48 = .ok (.getfield 62, 3) := by decide +kernel
theorem dX8_readText_51 : decode cX8_readText 51 = .ok (.sipush 1000, 3) := by decide +kernel
theorem dX8_readText_54 : decode cX8_readText 54 = .ok (.if_icmp .eq 57, 3) := by decide +kernel
theorem dX8_readText_57 : decode cX8_readText 57 = .ok (.aload_n 0, 1) := by decide +kernel
theorem dX8_readText_58 : decode cX8_readText 58 = .ok (.getfield 62, 3) := by decide +kernel
theorem dX8_readText_61 : decode cX8_readText 61 = .ok (.bipush 115, 2) := by decide +kernel
theorem dX8_readText_63 : decode cX8_readText 63 = .ok (.if_icmp .ne 10, 3) := by decide +kernel
theorem dX8_readText_66 : decode cX8_readText 66 = .ok (.aload_n 0, 1) := by decide +kernel
theorem dX8_readText_67 : decode cX8_readText 67 = .ok (.invokevirtual 83, 3) := by decide +kernel
theorem dX8_readText_70 : decode cX8_readText 70 = .ok (.goto 24, 3) := by decide +kernel
theorem dX8_readText_73 : decode cX8_readText 73 = .ok (.aload_n 0, 1) := by decide +kernel
theorem dX8_readText_74 : decode cX8_readText 74 = .ok (.getfield 62, 3) := by decide +kernel
theorem dX8_readText_77 : decode cX8_readText 77 = .ok (.bipush 104, 2) := by decide +kernel
theorem dX8_readText_79 : decode cX8_readText 79 = .ok (.if_icmp .ne 14, 3) := by decide +kernel
theorem dX8_readText_82 : decode cX8_readText 82 = .ok (.aload_n 0, 1) := by decide +kernel
theorem dX8_readText_83 : decode cX8_readText 83 = .ok (.invokevirtual 86, 3) := by decide +kernel
theorem dX8_readText_86 : decode cX8_readText 86 = .ok (.ifCond .eq 7, 3) := by decide +kernel
theorem dX8_readText_89 : decode cX8_readText 89 = .ok (.iconst 1, 1) := by decide +kernel
theorem dX8_readText_90 : decode cX8_readText 90 = .ok (.goto 4, 3) := by decide +kernel
theorem dX8_readText_93 : decode cX8_readText 93 = .ok (.iconst 0, 1) := by decide +kernel
theorem dX8_readText_94 : decode cX8_readText 94 = .ok (.istore_n 1, 1) := by decide +kernel
theorem dX8_readText_95 : decode cX8_readText 95 = .ok (.iload_n 1, 1) := by decide +kernel
theorem dX8_readText_96 : decode cX8_readText 96 = .ok (.ifCond .ne 8, 3) := by decide +kernel
theorem dX8_readText_99 : decode cX8_readText 99 = .ok (.aload_n 0, 1) := by decide +kernel
theorem dX8_readText_100 : decode cX8_readText 100 = .ok (.getfield 59, 3) := by decide +kernel
theorem dX8_readText_103 : decode cX8_readText 103 = .ok (.ireturn, 1) := by decide +kernel
theorem dX8_readText_104 : decode cX8_readText 104 = .ok (.aload_n 0, 1) := by decide +kernel
theorem dX8_readText_105 : decode cX8_readText 105 = .ok (.invokevirtual 72, 3) := by decide +kernel
theorem dX8_readText_108 : decode cX8_readText 108 = .ok (.goto (-61), 3) := by decide +kernel
theorem dX8_readText_111 : decode cX8_readText 111 = .ok (.aload_n 0, 1) := by decide +kernel
theorem dX8_readText_112 : decode cX8_readText 112 = .ok (.getfield 13, 3) := by decide +kernel
theorem dX8_readText_115 : decode cX8_readText 115 = .ok (.iconst 0, 1) := by decide +kernel
theorem dX8_readText_116 : decode cX8_readText 116 = .ok (.iaload, 1) := by decide +kernel
theorem dX8_readText_117 : decode cX8_readText 117 = .ok (.ifCond .ne 10, 3) := by decide +kernel
theorem dX8_readText_120 : decode cX8_readText 120 = .ok (.aload_n 0, 1) := by decide +kernel
theorem dX8_readText_121 : decode cX8_readText 121 = .ok (.getfield 52, 3) := by decide +kernel
theorem dX8_readText_124 : decode cX8_readText 124 = .ok (.goto 5, 3) := by decide +kernel
theorem dX8_readText_127 : decode cX8_readText 127 = .ok (.bipush (-9), 2) := by decide +kernel
theorem dX8_readText_129 : decode cX8_readText 129 = .ok (.ireturn, 1) := by decide +kernel
theorem dX8_type_0 : decode cX8_type 0 = .ok (.iload_n 1, 1) := by decide +kernel
theorem dX8_type_1 : decode cX8_type 1 = .ok (.iconst 0, 1) := by decide +kernel
theorem dX8_type_2 : decode cX8_type 2 = .ok (.sipush 255, 3) := by decide +kernel
theorem dX8_type_5 : decode cX8_type 5 = .ok (.invokestatic 55, 3) := by decide +kernel
theorem dX8_type_8 : decode cX8_type 8 = .ok (.ifCond .ne 5, 3) := by decide +kernel
theorem dX8_type_11 : decode cX8_type 11 = .ok (.iconst (-1), 1) := by decide +kernel
theorem dX8_type_12 : decode cX8_type 12 = .ok (.ireturn, 1) := by decide +kernel
theorem dX8_type_13 : decode cX8_type 13 = .ok (.aload_n 0, 1) := by decide +kernel
theorem dX8_type_14 : decode cX8_type 14 = .ok (.getfield 52, 3) := by decide +kernel
theorem dX8_type_17 : decode cX8_type 17 = .ok (.bipush 100, 2) := by decide +kernel
theorem dX8_type_19 : decode cX8_type 19 = .ok (.if_icmp .ne 6, 3) := by decide +kernel
theorem dX8_type_22 : decode cX8_type 22 = .ok (.bipush (-3), 2) := by decide +kernel
theorem dX8_type_24 : decode cX8_type 24 = .ok (.ireturn, 1) := by decide +kernel
theorem dX8_type_25 : decode cX8_type 25 = .ok (.aload_n 0, 1) := by decide +kernel
theorem dX8_type_26 : decode cX8_type 26 = .ok (.getfield 26, 3) := by decide +kernel
theorem dX8_type_29 : decode cX8_type 29 = .ok (.aload_n 0, 1) := by decide +kernel
theorem dX8_type_30 : decode cX8_type 30 = .ok (.getfield 52, 3) := by decide +kernel
theorem dX8_type_33 : decode cX8_type 33 = .ok (.iload_n 1, 1) := by decide +kernel
theorem dX8_type_34 : decode cX8_type 34 = .ok (.iastore, 1) := by decide +kernel
theorem dX8_type_35 : decode cX8_type 35 = .ok (.aload_n 0, 1) := by decide +kernel
theorem dX8_type_36 : decode cX8_type 36 = .ok (.dup, 1) := by decide +kernel
theorem dX8_type_37 : decode cX8_type 37 = .ok (.getfield 52, 3) := by decide +kernel
theorem dX8_type_40 : decode cX8_type 40 = .ok (.iconst 1, 1) := by decide +kernel
theorem dX8_type_41 : decode cX8_type 41 = .ok (.iadd, 1) := by decide +kernel
theorem dX8_type_42 : decode cX8_type 42 = .ok (.putfield 52, 3) := by decide +kernel
theorem dX8_type_45 : decode cX8_type 45 = .ok (.aload_n 0, 1) := by decide +kernel
theorem dX8_type_46 : decode cX8_type 46 = .ok (.getfield 52, 3) := by decide +kernel
theorem dX8_type_49 : decode cX8_type 49 = .ok (.ireturn, 1) := by decide +kernel
theorem dX8_clear_0 : decode cX8_clear 0 = .ok (.aload_n 0, 1) := by decide +kernel
theorem dX8_clear_1 : decode cX8_clear 1 = .ok (.getfield 52, 3) := by decide +kernel
theorem dX8_clear_4 : decode cX8_clear 4 = .ok (.istore_n 1, 1) := by decide +kernel
theorem dX8_clear_5 : decode cX8_clear 5 = .ok (.aload_n 0, 1) := by decide +kernel
theorem dX8_clear_6 : decode cX8_clear 6 = .ok (.iconst 0, 1) := by decide +kernel
theorem dX8_clear_7 : decode cX8_clear 7 = .ok (.putfield 52, 3) := by decide +kernel
theorem dX8_clear_10 : decode cX8_clear 10 = .ok (.iload_n 1, 1) := by decide +kernel
theorem dX8_clear_11 : decode cX8_clear 11 = .ok (.ireturn, 1) := by decide +kernel
theorem dX8_tells_0 : decode cX8_tells 0 = .ok (.aload_n 0, 1) := by decide +kernel
theorem dX8_tells_1 : decode cX8_tells 1 = .ok (.invokevirtual 89, 3) := by decide +kernel
theorem dX8_tells_4 : decode cX8_tells 4 = .ok (.istore_n 1, 1) := by decide +kernel
theorem dX8_tells_5 : decode cX8_tells 5 = .ok (.iload_n 1, 1) := by decide +kernel
theorem dX8_tells_6 : decode cX8_tells 6 = .ok (.bipush (-9), 2) := by decide +kernel
theorem dX8_tells_8 : decode cX8_tells 8 = .ok (.if_icmp .eq 8, 3) := by decide +kernel
theorem dX8_tells_11 : decode cX8_tells 11 = .ok (.bipush (-10), 2) := by decide +kernel
theorem dX8_tells_13 : decode cX8_tells 13 = .ok (.iload_n 1, 1) := by decide +kernel
theorem dX8_tells_14 : decode cX8_tells 14 = .ok (.isub, 1) := by decide +kernel
theorem dX8_tells_15 : decode cX8_tells 15 = .ok (.ireturn, 1) := by decide +kernel
theorem dX8_tells_16 : decode cX8_tells 16 = .ok (.aload_n 0, 1) := by decide +kernel
theorem dX8_tells_17 : decode cX8_tells 17 = .ok (.invokevirtual 93, 3) := by decide +kernel
theorem dX8_tells_20 : decode cX8_tells 20 = .ok (.aload_n 0, 1) := by decide +kernel
theorem dX8_tells_21 : decode cX8_tells 21 = .ok (.getfield 13, 3) := by decide +kernel
theorem dX8_tells_24 : decode cX8_tells 24 = .ok (.iconst 0, 1) := by decide +kernel
theorem dX8_tells_25 : decode cX8_tells 25 = .ok (.aload_n 0, 1) := by decide +kernel
theorem dX8_tells_26 : decode cX8_tells 26 = .ok (.getfield 7, 3) := by decide +kernel
theorem dX8_tells_29 : decode cX8_tells 29 = .ok (.iconst 0, 1) := by decide +kernel
theorem dX8_tells_30 : decode cX8_tells 30 = .ok (.invokestatic 45, 3) := by decide +kernel
theorem dX8_tells_33 : decode cX8_tells 33 = .ok (.aload_n 0, 1) := by decide +kernel
theorem dX8_tells_34 : decode cX8_tells 34 = .ok (.iconst 0, 1) := by decide +kernel
theorem dX8_tells_35 : decode cX8_tells 35 = .ok (.putfield 52, 3) := by decide +kernel
theorem dX8_tells_38 : decode cX8_tells 38 = .ok (.aload_n 0, 1) := by decide +kernel
theorem dX8_tells_39 : decode cX8_tells 39 = .ok (.iconst 0, 1) := by decide +kernel
theorem dX8_tells_40 : decode cX8_tells 40 = .ok (.putfield 96, 3) := by decide +kernel
theorem dX8_tells_43 : decode cX8_tells 43 = .ok (.aload_n 0, 1) := by decide +kernel
theorem dX8_tells_44 : decode cX8_tells 44 = .ok (.getfield 22, 3) := by decide +kernel
theorem dX8_tells_47 : decode cX8_tells 47 = .ok (.iconst 0, 1) := by decide +kernel
theorem dX8_tells_48 : decode cX8_tells 48 = .ok (.iconst 0, 1) := by decide +kernel
theorem dX8_tells_49 : decode cX8_tells 49 = .ok (.bastore, 1) := by decide +kernel
theorem dX8_tells_50 : decode cX8_tells 50 = .ok (.aload_n 0, 1) := by decide +kernel
theorem dX8_tells_51 : decode cX8_tells 51 = .ok (.getfield 22, 3) := by decide +kernel
theorem dX8_tells_54 : decode cX8_tells 54 = .ok (.iconst 1, 1) := by decide +kernel
theorem dX8_tells_55 : decode cX8_tells 55 = .ok (.iconst 0, 1) := by decide +kernel
theorem dX8_tells_56 : decode cX8_tells 56 = .ok (.bastore, 1) := by decide +kernel
theorem dX8_tells_57 : decode cX8_tells 57 = .ok (.aload_n 0, 1) := by decide +kernel
theorem dX8_tells_58 : decode cX8_tells 58 = .ok (.getfield 7, 3) := by decide +kernel
theorem dX8_tells_61 : decode cX8_tells 61 = .ok (.iconst 0, 1) := by decide +kernel
theorem dX8_tells_62 : decode cX8_tells 62 = .ok (.iaload, 1) := by decide +kernel
theorem dX8_tells_63 : decode cX8_tells 63 = .ok (.aload_n 0, 1) := by decide +kernel
theorem dX8_tells_64 : decode cX8_tells 64 = .ok (.getfield 7, 3) := by decide +kernel
theorem dX8_tells_67 : decode cX8_tells 67 = .ok (.iconst 1, 1) := by decide +kernel
theorem dX8_tells_68 : decode cX8_tells 68 = .ok (.iaload, 1) := by decide +kernel
theorem dX8_tells_69 : decode cX8_tells 69 = .ok (.iadd, 1) := by decide +kernel
theorem dX8_tells_70 : decode cX8_tells 70 = .ok (.ireturn, 1) := by decide +kernel
theorem dX8_isSwitch_0 : decode cX8_isSwitch 0 = .ok (.iload_n 1, 1) := by decide +kernel
theorem dX8_isSwitch_1 : decode cX8_isSwitch 1 = .ok (.iconst 0, 1) := by decide +kernel
theorem dX8_isSwitch_2 : decode cX8_isSwitch 2 = .ok (.aload_n 0, 1) := by decide +kernel
theorem dX8_isSwitch_3 : decode cX8_isSwitch 3 = .ok (.getfield 7, 3) := by decide +kernel
theorem dX8_isSwitch_6 : decode cX8_isSwitch 6 = .ok (.iconst 0, 1) := by decide +kernel
theorem dX8_isSwitch_7 : decode cX8_isSwitch 7 = .ok (.iaload, 1) := by decide +kernel
theorem dX8_isSwitch_8 : decode cX8_isSwitch 8 = .ok (.iconst 1, 1) := by decide +kernel
theorem dX8_isSwitch_9 : decode cX8_isSwitch 9 = .ok (.isub, 1) := by decide +kernel
theorem dX8_isSwitch_10 : decode cX8_isSwitch 10 = .ok (.invokestatic 55, 3) := by decide +kernel
theorem dX8_isSwitch_13 : decode cX8_isSwitch 13 = .ok (.ireturn, 1) := by decide +kernel
theorem dX8_isHost_0 : decode cX8_isHost 0 = .ok (.iload_n 1, 1) := by decide +kernel
theorem dX8_isHost_1 : decode cX8_isHost 1 = .ok (.iconst 0, 1) := by decide +kernel
theorem dX8_isHost_2 : decode cX8_isHost 2 = .ok (.aload_n 0, 1) := by decide +kernel
theorem dX8_isHost_3 : decode cX8_isHost 3 = .ok (.getfield 7, 3) := by decide +kernel
theorem dX8_isHost_6 : decode cX8_isHost 6 = .ok (.iconst 1, 1) := by decide +kernel
theorem dX8_isHost_7 : decode cX8_isHost 7 = .ok (.iaload, 1) := by decide +kernel
theorem dX8_isHost_8 : decode cX8_isHost 8 = .ok (.iconst 1, 1) := by decide +kernel
theorem dX8_isHost_9 : decode cX8_isHost 9 = .ok (.isub, 1) := by decide +kernel
theorem dX8_isHost_10 : decode cX8_isHost 10 = .ok (.invokestatic 55, 3) := by decide +kernel
theorem dX8_isHost_13 : decode cX8_isHost 13 = .ok (.ireturn, 1) := by decide +kernel
theorem dX8_areTwo_0 : decode cX8_areTwo 0 = .ok (.aload_n 0, 1) := by decide +kernel
theorem dX8_areTwo_1 : decode cX8_areTwo 1 = .ok (.iload_n 1, 1) := by decide +kernel
theorem dX8_areTwo_2 : decode cX8_areTwo 2 = .ok (.invokevirtual 99, 3) := by decide +kernel
theorem dX8_areTwo_5 : decode cX8_areTwo 5 = .ok (.ifCond .eq 20, 3) := by decide +kernel
theorem dX8_areTwo_8 : decode cX8_areTwo 8 = .ok (.aload_n 0, 1) := by decide +kernel
theorem dX8_areTwo_9 : decode cX8_areTwo 9 = .ok (.iload_n 2, 1) := by decide +kernel
theorem dX8_areTwo_10 : decode cX8_areTwo 10 = .ok (.invokevirtual 99, 3) := by decide +kernel
theorem dX8_areTwo_13 : decode cX8_areTwo 13 = .ok (.ifCond .eq 12, 3) := by decide +kernel
theorem dX8_areTwo_16 : decode cX8_areTwo 16 = .ok (.iload_n 1, 1) := by decide +kernel
theorem dX8_areTwo_17 : decode cX8_areTwo 17 = .ok (.iload_n 2, 1) := by decide +kernel
theorem dX8_areTwo_18 : decode cX8_areTwo 18 = .ok (.if_icmp .eq 7, 3) := by decide +kernel
theorem dX8_areTwo_21 : decode cX8_areTwo 21 = .ok (.iconst 1, 1) := by decide +kernel
theorem dX8_areTwo_22 : decode cX8_areTwo 22 = .ok (.goto 4, 3) := by decide +kernel
theorem dX8_areTwo_25 : decode cX8_areTwo 25 = .ok (.iconst 0, 1) := by decide +kernel
theorem dX8_areTwo_26 : decode cX8_areTwo 26 = .ok (.ireturn, 1) := by decide +kernel
theorem dX8_of_0 : decode cX8_of 0 = .ok (.aload_n 0, 1) := by decide +kernel
theorem dX8_of_1 : decode cX8_of 1 = .ok (.getfield 7, 3) := by decide +kernel
theorem dX8_of_4 : decode cX8_of 4 = .ok (.iconst 3, 1) := by decide +kernel
theorem dX8_of_5 : decode cX8_of 5 = .ok (.iconst 4, 1) := by decide +kernel
theorem dX8_of_6 : decode cX8_of 6 = .ok (.iload_n 1, 1) := by decide +kernel
theorem dX8_of_7 : decode cX8_of 7 = .ok (.imul, 1) := by decide +kernel
theorem dX8_of_8 : decode cX8_of 8 = .ok (.iadd, 1) := by decide +kernel
theorem dX8_of_9 : decode cX8_of 9 = .ok (.iload_n 2, 1) := by decide +kernel
theorem dX8_of_10 : decode cX8_of 10 = .ok (.iadd, 1) := by decide +kernel
theorem dX8_of_11 : decode cX8_of 11 = .ok (.iaload, 1) := by decide +kernel
theorem dX8_of_12 : decode cX8_of 12 = .ok (.ireturn, 1) := by decide +kernel
theorem dX8_besides_0 : decode cX8_besides 0 = .ok (.iload_n 1, 1) := by decide +kernel
theorem dX8_besides_1 : decode cX8_besides 1 = .ok (.istore_n 2, 1) := by decide +kernel
theorem dX8_besides_2 : decode cX8_besides 2 = .ok (.iconst 0, 1) := by decide +kernel
theorem dX8_besides_3 : decode cX8_besides 3 = .ok (.istore_n 3, 1) := by decide +kernel
theorem dX8_besides_4 : decode cX8_besides 4 = .ok (.iload_n 3, 1) := by decide +kernel
theorem dX8_besides_5 : decode cX8_besides 5 = .ok (.aload_n 0, 1) := by decide +kernel
theorem dX8_besides_6 : decode cX8_besides 6 = .ok (.getfield 7, 3) := by decide +kernel
theorem dX8_besides_9 : decode cX8_besides 9 = .ok (.iconst 0, 1) := by decide +kernel
theorem dX8_besides_10 : decode cX8_besides 10 = .ok (.iaload, 1) := by decide +kernel
theorem dX8_besides_11 : decode cX8_besides 11 = .ok (.if_icmp .ge 33, 3) := by decide +kernel
theorem dX8_besides_14 : decode cX8_besides 14 = .ok (.iload_n 2, 1) := by decide +kernel
theorem dX8_besides_15 : decode cX8_besides 15 = .ok (.iload_n 1, 1) := by decide +kernel
theorem dX8_besides_16 : decode cX8_besides 16 = .ok (.iload_n 3, 1) := by decide +kernel
theorem dX8_besides_17 : decode cX8_besides 17 = .ok (.invokestatic 102, 3) := by decide +kernel
theorem dX8_besides_20 : decode cX8_besides 20 = .ok (.ifCond .eq 15, 3) := by decide +kernel
theorem dX8_besides_23 : decode cX8_besides 23 = .ok (.aload_n 0, 1) := by decide +kernel
theorem dX8_besides_24 : decode cX8_besides 24 = .ok (.getfield 7, 3) := by decide +kernel
theorem dX8_besides_27 : decode cX8_besides 27 = .ok (.bipush 35, 2) := by decide +kernel
theorem dX8_besides_29 : decode cX8_besides 29 = .ok (.iload_n 3, 1) := by decide +kernel
theorem dX8_besides_30 : decode cX8_besides 30 = .ok (.iadd, 1) := by decide +kernel
theorem dX8_besides_31 : decode cX8_besides 31 = .ok (.iaload, 1) := by decide +kernel
theorem dX8_besides_32 : decode cX8_besides 32 = .ok (.goto 4, 3) := by decide +kernel
theorem dX8_besides_35 : decode cX8_besides 35 = .ok (.iconst 0, 1) := by decide +kernel
theorem dX8_besides_36 : decode cX8_besides 36 = .ok (.ior, 1) := by decide +kernel
theorem dX8_besides_37 : decode cX8_besides 37 = .ok (.istore_n 2, 1) := by decide +kernel
theorem dX8_besides_38 : decode cX8_besides 38 = .ok (.iinc 3 1, 3) := by decide +kernel
theorem dX8_besides_41 : decode cX8_besides 41 = .ok (.goto (-37), 3) := by decide +kernel
theorem dX8_besides_44 : decode cX8_besides 44 = .ok (.iload_n 2, 1) := by decide +kernel
theorem dX8_besides_45 : decode cX8_besides 45 = .ok (.ireturn, 1) := by decide +kernel
theorem dX8_fabricOf_0 : decode cX8_fabricOf 0 = .ok (.iconst 1, 1) := by decide +kernel
theorem dX8_fabricOf_1 : decode cX8_fabricOf 1 = .ok (.iload_n 1, 1) := by decide +kernel
theorem dX8_fabricOf_2 : decode cX8_fabricOf 2 = .ok (.ishl, 1) := by decide +kernel
theorem dX8_fabricOf_3 : decode cX8_fabricOf 3 = .ok (.istore_n 2, 1) := by decide +kernel
theorem dX8_fabricOf_4 : decode cX8_fabricOf 4 = .ok (.iconst 0, 1) := by decide +kernel
theorem dX8_fabricOf_5 : decode cX8_fabricOf 5 = .ok (.istore_n 3, 1) := by decide +kernel
theorem dX8_fabricOf_6 : decode cX8_fabricOf 6 = .ok (.iload_n 3, 1) := by decide +kernel
theorem dX8_fabricOf_7 : decode cX8_fabricOf 7 = .ok (.bipush 6, 2) := by decide +kernel
theorem dX8_fabricOf_9 : decode cX8_fabricOf 9 = .ok (.if_icmp .ge 15, 3) := by decide +kernel
theorem dX8_fabricOf_12 : decode cX8_fabricOf 12 = .ok (.aload_n 0, 1) := by decide +kernel
theorem dX8_fabricOf_13 : decode cX8_fabricOf 13 = .ok (.iload_n 2, 1) := by decide +kernel
theorem dX8_fabricOf_14 : decode cX8_fabricOf 14 = .ok (.invokevirtual 105, 3) := by decide +kernel
theorem dX8_fabricOf_17 : decode cX8_fabricOf 17 = .ok (.istore_n 2, 1) := by decide +kernel
theorem dX8_fabricOf_18 : decode cX8_fabricOf 18 = .ok (.iinc 3 1, 3) := by decide +kernel
theorem dX8_fabricOf_21 : decode cX8_fabricOf 21 = .ok (.goto (-15), 3) := by decide +kernel
theorem dX8_fabricOf_24 : decode cX8_fabricOf 24 = .ok (.iload_n 2, 1) := by decide +kernel
theorem dX8_fabricOf_25 : decode cX8_fabricOf 25 = .ok (.ireturn, 1) := by decide +kernel
theorem dX8_isLowest_0 : decode cX8_isLowest 0 = .ok (.aload_n 0, 1) := by decide +kernel
theorem dX8_isLowest_1 : decode cX8_isLowest 1 = .ok (.iload_n 1, 1) := by decide +kernel
theorem dX8_isLowest_2 : decode cX8_isLowest 2 = .ok (.invokevirtual 109, 3) := by decide +kernel
theorem dX8_isLowest_5 : decode cX8_isLowest 5 = .ok (.iconst 1, 1) := by decide +kernel
theorem dX8_isLowest_6 : decode cX8_isLowest 6 = .ok (.iload_n 1, 1) := by decide +kernel
theorem dX8_isLowest_7 : decode cX8_isLowest 7 = .ok (.ishl, 1) := by decide +kernel
theorem dX8_isLowest_8 : decode cX8_isLowest 8 = .ok (.iconst 1, 1) := by decide +kernel
theorem dX8_isLowest_9 : decode cX8_isLowest 9 = .ok (.isub, 1) := by decide +kernel
theorem dX8_isLowest_10 : decode cX8_isLowest 10 = .ok (.iand, 1) := by decide +kernel
theorem dX8_isLowest_11 : decode cX8_isLowest 11 = .ok (.ifCond .ne 7, 3) := by decide +kernel
theorem dX8_isLowest_14 : decode cX8_isLowest 14 = .ok (.iconst 1, 1) := by decide +kernel
theorem dX8_isLowest_15 : decode cX8_isLowest 15 = .ok (.goto 4, 3) := by decide +kernel
theorem dX8_isLowest_18 : decode cX8_isLowest 18 = .ok (.iconst 0, 1) := by decide +kernel
theorem dX8_isLowest_19 : decode cX8_isLowest 19 = .ok (.ireturn, 1) := by decide +kernel
theorem dX8_fabrics_0 : decode cX8_fabrics 0 = .ok (.iconst 0, 1) := by decide +kernel
theorem dX8_fabrics_1 : decode cX8_fabrics 1 = .ok (.istore_n 1, 1) := by decide +kernel
theorem dX8_fabrics_2 : decode cX8_fabrics 2 = .ok (.iconst 0, 1) := by decide +kernel
theorem dX8_fabrics_3 : decode cX8_fabrics 3 = .ok (.istore_n 2, 1) := by decide +kernel
theorem dX8_fabrics_4 : decode cX8_fabrics 4 = .ok (.iload_n 2, 1) := by decide +kernel
theorem dX8_fabrics_5 : decode cX8_fabrics 5 = .ok (.aload_n 0, 1) := by decide +kernel
theorem dX8_fabrics_6 : decode cX8_fabrics 6 = .ok (.getfield 7, 3) := by decide +kernel
theorem dX8_fabrics_9 : decode cX8_fabrics 9 = .ok (.iconst 0, 1) := by decide +kernel
theorem dX8_fabrics_10 : decode cX8_fabrics 10 = .ok (.iaload, 1) := by decide +kernel
theorem dX8_fabrics_11 : decode cX8_fabrics 11 = .ok (.if_icmp .ge 25, 3) := by decide +kernel
theorem dX8_fabrics_14 : decode cX8_fabrics 14 = .ok (.iload_n 1, 1) := by decide +kernel
theorem dX8_fabrics_15 : decode cX8_fabrics 15 = .ok (.aload_n 0, 1) := by decide +kernel
theorem dX8_fabrics_16 : decode cX8_fabrics 16 = .ok (.iload_n 2, 1) := by decide +kernel
theorem dX8_fabrics_17 : decode cX8_fabrics 17 = .ok (.invokevirtual 112, 3) := by decide +kernel
theorem dX8_fabrics_20 : decode cX8_fabrics 20 = .ok (.ifCond .eq 7, 3) := by decide +kernel
theorem dX8_fabrics_23 : decode cX8_fabrics 23 = .ok (.iconst 1, 1) := by decide +kernel
theorem dX8_fabrics_24 : decode cX8_fabrics 24 = .ok (.goto 4, 3) := by decide +kernel
theorem dX8_fabrics_27 : decode cX8_fabrics 27 = .ok (.iconst 0, 1) := by decide +kernel
theorem dX8_fabrics_28 : decode cX8_fabrics 28 = .ok (.iadd, 1) := by decide +kernel
theorem dX8_fabrics_29 : decode cX8_fabrics 29 = .ok (.istore_n 1, 1) := by decide +kernel
theorem dX8_fabrics_30 : decode cX8_fabrics 30 = .ok (.iinc 2 1, 3) := by decide +kernel
theorem dX8_fabrics_33 : decode cX8_fabrics 33 = .ok (.goto (-29), 3) := by decide +kernel
theorem dX8_fabrics_36 : decode cX8_fabrics 36 = .ok (.iload_n 1, 1) := by decide +kernel
theorem dX8_fabrics_37 : decode cX8_fabrics 37 = .ok (.ireturn, 1) := by decide +kernel
theorem dX8_principalOf_0 : decode cX8_principalOf 0 = .ok (.bipush (-9), 2) := by decide +kernel
theorem dX8_principalOf_2 : decode cX8_principalOf 2 = .ok (.istore_n 2, 1) := by decide +kernel
theorem dX8_principalOf_3 : decode cX8_principalOf 3 = .ok (.iconst 0, 1) := by decide +kernel
theorem dX8_principalOf_4 : decode cX8_principalOf 4 = .ok (.istore_n 3, 1) := by decide +kernel
theorem dX8_principalOf_5 : decode cX8_principalOf 5 = .ok (.iload_n 3, 1) := by decide +kernel
theorem dX8_principalOf_6 : decode cX8_principalOf 6 = .ok (.aload_n 0, 1) := by decide +kernel
theorem dX8_principalOf_7 : decode cX8_principalOf 7 = .ok (.getfield 7, 3) := by decide +kernel
theorem dX8_principalOf_10 : decode cX8_principalOf 10 = .ok (.iconst 0, 1) := by decide +kernel
theorem dX8_principalOf_11 : decode cX8_principalOf 11 = .ok (.iaload, 1) := by decide +kernel
theorem dX8_principalOf_12 : decode cX8_principalOf 12 = .ok (.if_icmp .ge 68, 3) := by decide +kernel
theorem dX8_principalOf_15 : decode cX8_principalOf 15 = .ok (.iload_n 1, 1) := by decide +kernel
theorem dX8_principalOf_16 : decode cX8_principalOf 16 = .ok (.iload_n 3, 1) := by decide +kernel
theorem dX8_principalOf_17 : decode cX8_principalOf 17 = .ok (.invokestatic 102, 3) := by decide +kernel
theorem dX8_principalOf_20 : decode cX8_principalOf 20 = .ok (.ifCond .eq 54, 3) := by decide +kernel
theorem dX8_principalOf_23 : decode cX8_principalOf 23 = .ok (.bipush 100, 2) := by decide +kernel
theorem dX8_principalOf_25 : decode cX8_principalOf 25 = .ok (.aload_n 0, 1) := by decide +kernel
theorem dX8_principalOf_26 : decode cX8_principalOf 26 = .ok (.iload_n 3, 1) := by decide +kernel
theorem dX8_principalOf_27 : decode cX8_principalOf 27 = .ok (.iconst 0, 1) := by decide +kernel
theorem dX8_principalOf_28 : decode cX8_principalOf 28 = .ok (.invokevirtual 115, 3) := by decide +kernel
theorem dX8_principalOf_31 : decode cX8_principalOf 31 = .ok (.imul, 1) := by decide +kernel
theorem dX8_principalOf_32 : decode cX8_principalOf 32 = .ok (.aload_n 0, 1) := by decide +kernel
theorem dX8_principalOf_33 : decode cX8_principalOf 33 = .ok (.iload_n 3, 1) := by decide +kernel
theorem dX8_principalOf_34 : decode cX8_principalOf 34 = .ok (.iconst 1, 1) := by decide +kernel
theorem dX8_principalOf_35 : decode cX8_principalOf 35 = .ok (.invokevirtual 115, 3) := by decide +kernel
theorem dX8_principalOf_38 : decode cX8_principalOf 38 = .ok (.iadd, 1) := by decide +kernel
theorem dX8_principalOf_39 : decode cX8_principalOf 39 = .ok (.istore 4, 2) := by decide +kernel
theorem dX8_principalOf_41 : decode cX8_principalOf 41 = .ok (.iload_n 2, 1) := by decide +kernel
theorem dX8_principalOf_42 : decode cX8_principalOf 42 = .ok (.bipush (-9), 2) := by decide +kernel
theorem dX8_principalOf_44 : decode cX8_principalOf 44 = .ok (.if_icmp .eq 24, 3) := by decide +kernel
theorem dX8_principalOf_47 : decode cX8_principalOf 47 = .ok (.iload 4, 2) := by decide +kernel
theorem dX8_principalOf_49 : decode cX8_principalOf 49 = .ok (.bipush 100, 2) := by decide +kernel
theorem dX8_principalOf_51 : decode cX8_principalOf 51 = .ok (.aload_n 0, 1) := by decide +kernel
theorem dX8_principalOf_52 : decode cX8_principalOf 52 = .ok (.iload_n 2, 1) := by decide +kernel
theorem dX8_principalOf_53 : decode cX8_principalOf 53 = .ok (.iconst 0, 1) := by decide +kernel
theorem dX8_principalOf_54 : decode cX8_principalOf 54 = .ok (.invokevirtual 115, 3) := by decide +kernel
theorem dX8_principalOf_57 : decode cX8_principalOf 57 = .ok (.imul, 1) := by decide +kernel
theorem dX8_principalOf_58 : decode cX8_principalOf 58 = .ok (.aload_n 0, 1) := by decide +kernel
theorem dX8_principalOf_59 : decode cX8_principalOf 59 = .ok (.iload_n 2, 1) := by decide +kernel
theorem dX8_principalOf_60 : decode cX8_principalOf 60 = .ok (.iconst 1, 1) := by decide +kernel
theorem dX8_principalOf_61 : decode cX8_principalOf 61 = .ok (.invokevirtual 115, 3) := by decide +kernel
theorem dX8_principalOf_64 : decode cX8_principalOf 64 = .ok (.iadd, 1) := by decide +kernel
theorem dX8_principalOf_65 : decode cX8_principalOf 65 = .ok (.if_icmp .ge 7, 3) := by decide +kernel
theorem dX8_principalOf_68 : decode cX8_principalOf 68 = .ok (.iload_n 3, 1) := by decide +kernel
theorem dX8_principalOf_69 : decode cX8_principalOf 69 = .ok (.goto 4, 3) := by decide +kernel
theorem dX8_principalOf_72 : decode cX8_principalOf 72 = .ok (.iload_n 2, 1) := by decide +kernel
theorem dX8_principalOf_73 : decode cX8_principalOf 73 = .ok (.istore_n 2, 1) := by decide +kernel
theorem dX8_principalOf_74 : decode cX8_principalOf 74 = .ok (.iinc 3 1, 3) := by decide +kernel
theorem dX8_principalOf_77 : decode cX8_principalOf 77 = .ok (.goto (-72), 3) := by decide +kernel
theorem dX8_principalOf_80 : decode cX8_principalOf 80 = .ok (.iload_n 2, 1) := by decide +kernel
theorem dX8_principalOf_81 : decode cX8_principalOf 81 = .ok (.ireturn, 1) := by decide +kernel
theorem dX8_farOf_0 : decode cX8_farOf 0 = .ok (.iconst 1, 1) := by decide +kernel
theorem dX8_farOf_1 : decode cX8_farOf 1 = .ok (.aload_n 0, 1) := by decide +kernel
theorem dX8_farOf_2 : decode cX8_farOf 2 = .ok (.aload_n 0, 1) := by decide +kernel
theorem dX8_farOf_3 : decode cX8_farOf 3 = .ok (.iload_n 1, 1) := by decide +kernel
theorem dX8_farOf_4 : decode cX8_farOf 4 = .ok (.invokevirtual 109, 3) := by decide +kernel
theorem dX8_farOf_7 : decode cX8_farOf 7 = .ok (.invokevirtual 119, 3) := by decide +kernel
theorem dX8_farOf_10 : decode cX8_farOf 10 = .ok (.ishl, 1) := by decide +kernel
theorem dX8_farOf_11 : decode cX8_farOf 11 = .ok (.istore_n 2, 1) := by decide +kernel
theorem dX8_farOf_12 : decode cX8_farOf 12 = .ok (.iconst 0, 1) := by decide +kernel
theorem dX8_farOf_13 : decode cX8_farOf 13 = .ok (.istore_n 3, 1) := by decide +kernel
theorem dX8_farOf_14 : decode cX8_farOf 14 = .ok (.iload_n 2, 1) := by decide +kernel
theorem dX8_farOf_15 : decode cX8_farOf 15 = .ok (.iload_n 1, 1) := by decide +kernel
theorem dX8_farOf_16 : decode cX8_farOf 16 = .ok (.invokestatic 102, 3) := by decide +kernel
theorem dX8_farOf_19 : decode cX8_farOf 19 = .ok (.ifCond .ne 15, 3) := by decide +kernel
theorem dX8_farOf_22 : decode cX8_farOf 22 = .ok (.aload_n 0, 1) := by decide +kernel
theorem dX8_farOf_23 : decode cX8_farOf 23 = .ok (.iload_n 2, 1) := by decide +kernel
theorem dX8_farOf_24 : decode cX8_farOf 24 = .ok (.invokevirtual 105, 3) := by decide +kernel
theorem dX8_farOf_27 : decode cX8_farOf 27 = .ok (.istore_n 2, 1) := by decide +kernel
theorem dX8_farOf_28 : decode cX8_farOf 28 = .ok (.iinc 3 1, 3) := by decide +kernel
theorem dX8_farOf_31 : decode cX8_farOf 31 = .ok (.goto (-17), 3) := by decide +kernel
theorem dX8_farOf_34 : decode cX8_farOf 34 = .ok (.iload_n 3, 1) := by decide +kernel
theorem dX8_farOf_35 : decode cX8_farOf 35 = .ok (.ireturn, 1) := by decide +kernel
theorem dX8_handOut_0 : decode cX8_handOut 0 = .ok (.iconst 0, 1) := by decide +kernel
theorem dX8_handOut_1 : decode cX8_handOut 1 = .ok (.istore_n 2, 1) := by decide +kernel
theorem dX8_handOut_2 : decode cX8_handOut 2 = .ok (.iload_n 1, 1) := by decide +kernel
theorem dX8_handOut_3 : decode cX8_handOut 3 = .ok (.istore_n 3, 1) := by decide +kernel
theorem dX8_handOut_4 : decode cX8_handOut 4 = .ok (.iconst 0, 1) := by decide +kernel
theorem dX8_handOut_5 : decode cX8_handOut 5 = .ok (.istore 4, 2) := by decide +kernel
theorem dX8_handOut_7 : decode cX8_handOut 7 = .ok (.iload_n 3, 1) := by decide +kernel
theorem dX8_handOut_8 : decode cX8_handOut 8 = .ok (.ifCond .eq 190, 3) := by decide +kernel
theorem dX8_handOut_11 : decode cX8_handOut 11 = .ok (.bipush (-9), 2) := by decide +kernel
theorem dX8_handOut_13 : decode cX8_handOut 13 = .ok (.istore 5, 2) := by decide +kernel
theorem dX8_handOut_15 : decode cX8_handOut 15 = .ok (.iconst 0, 1) := by decide +kernel
theorem dX8_handOut_16 : decode cX8_handOut 16 = .ok (.istore 6, 2) := by decide +kernel
theorem dX8_handOut_18 : decode cX8_handOut 18 = .ok (.iload 6, 2) := by decide +kernel
theorem dX8_handOut_20 : decode cX8_handOut 20 = .ok (.aload_n 0, 1) := by decide +kernel
theorem dX8_handOut_21 : decode cX8_handOut 21 = .ok (.getfield 7, 3) := by decide +kernel
theorem dX8_handOut_24 : decode cX8_handOut 24 = .ok (.iconst 0, 1) := by decide +kernel
theorem dX8_handOut_25 : decode cX8_handOut 25 = .ok (.iaload, 1) := by decide +kernel
theorem dX8_handOut_26 : decode cX8_handOut 26 = .ok (.if_icmp .ge 75, 3) := by decide +kernel
theorem dX8_handOut_29 : decode cX8_handOut 29 = .ok (.iload_n 3, 1) := by decide +kernel
theorem dX8_handOut_30 : decode cX8_handOut 30 = .ok (.iload 6, 2) := by decide +kernel
theorem dX8_handOut_32 : decode cX8_handOut 32 = .ok (.invokestatic 102, 3) := by decide +kernel
theorem dX8_handOut_35 : decode cX8_handOut 35 = .ok (.ifCond .eq 60, 3) := by decide +kernel
theorem dX8_handOut_38 : decode cX8_handOut 38 = .ok (.bipush 100, 2) := by decide +kernel
theorem dX8_handOut_40 : decode cX8_handOut 40 = .ok (.aload_n 0, 1) := by decide +kernel
theorem dX8_handOut_41 : decode cX8_handOut 41 = .ok (.iload 6, 2) := by decide +kernel
theorem dX8_handOut_43 : decode cX8_handOut 43 = .ok (.invokevirtual 122, 3) := by decide +kernel
theorem dX8_handOut_46 : decode cX8_handOut 46 = .ok (.imul, 1) := by decide +kernel
theorem dX8_handOut_47 : decode cX8_handOut 47 = .ok (.aload_n 0, 1) := by decide +kernel
theorem dX8_handOut_48 : decode cX8_handOut 48 = .ok (.iload 6, 2) := by decide +kernel
theorem dX8_handOut_50 : decode cX8_handOut 50 = .ok (.iconst 1, 1) := by decide +kernel
theorem dX8_handOut_51 : decode cX8_handOut 51 = .ok (.invokevirtual 115, 3) := by decide +kernel
theorem dX8_handOut_54 : decode cX8_handOut 54 = .ok (.iadd, 1) := by decide +kernel
theorem dX8_handOut_55 : decode cX8_handOut 55 = .ok (.istore 7, 2) := by decide +kernel
theorem dX8_handOut_57 : decode cX8_handOut 57 = .ok (.iload 5, 2) := by decide +kernel
theorem dX8_handOut_59 : decode cX8_handOut 59 = .ok (.bipush (-9), 2) := by decide +kernel
theorem dX8_handOut_61 : decode cX8_handOut 61 = .ok (.if_icmp .eq 25, 3) := by decide +kernel
theorem dX8_handOut_64 : decode cX8_handOut 64 = .ok (.iload 7, 2) := by decide +kernel
theorem dX8_handOut_66 : decode cX8_handOut 66 = .ok (.bipush 100, 2) := by decide +kernel
theorem dX8_handOut_68 : decode cX8_handOut 68 = .ok (.aload_n 0, 1) := by decide +kernel
theorem dX8_handOut_69 : decode cX8_handOut 69 = .ok (.iload 5, 2) := by decide +kernel
theorem dX8_handOut_71 : decode cX8_handOut 71 = .ok (.invokevirtual 122, 3) := by decide +kernel
theorem dX8_handOut_74 : decode cX8_handOut 74 = .ok (.imul, 1) := by decide +kernel
theorem dX8_handOut_75 : decode cX8_handOut 75 = .ok (.aload_n 0, 1) := by decide +kernel
theorem dX8_handOut_76 : decode cX8_handOut 76 = .ok (.iload 5, 2) := by decide +kernel
theorem dX8_handOut_78 : decode cX8_handOut 78 = .ok (.iconst 1, 1) := by decide +kernel
theorem dX8_handOut_79 : decode cX8_handOut 79 = .ok (.invokevirtual 115, 3) := by decide +kernel
theorem dX8_handOut_82 : decode cX8_handOut 82 = .ok (.iadd, 1) := by decide +kernel
theorem dX8_handOut_83 : decode cX8_handOut 83 = .ok (.if_icmp .ge 8, 3) := by decide +kernel
theorem dX8_handOut_86 : decode cX8_handOut 86 = .ok (.iload 6, 2) := by decide +kernel
theorem dX8_handOut_88 : decode cX8_handOut 88 = .ok (.goto 5, 3) := by decide +kernel
theorem dX8_handOut_91 : decode cX8_handOut 91 = .ok (.iload 5, 2) := by decide +kernel
theorem dX8_handOut_93 : decode cX8_handOut 93 = .ok (.istore 5, 2) := by decide +kernel
theorem dX8_handOut_95 : decode cX8_handOut 95 = .ok (.iinc 6 1, 3) := by decide +kernel
theorem dX8_handOut_98 : decode cX8_handOut 98 = .ok (.goto (-80), 3) := by decide +kernel
theorem dX8_handOut_101 : decode cX8_handOut 101 = .ok (.aload_n 0, 1) := by decide +kernel
theorem dX8_handOut_102 : decode cX8_handOut 102 = .ok (.iload 5, 2) := by decide +kernel
theorem dX8_handOut_104 : decode cX8_handOut 104 = .ok (.iconst 2, 1) := by decide +kernel
theorem dX8_handOut_105 : decode cX8_handOut 105 = .ok (.invokevirtual 115, 3) := by decide +kernel
theorem dX8_handOut_108 : decode cX8_handOut 108 = .ok (.istore 6, 2) := by decide +kernel
theorem dX8_handOut_110 : decode cX8_handOut 110 = .ok (.iload 6, 2) := by decide +kernel
theorem dX8_handOut_112 : decode cX8_handOut 112 = .ok (.ifCond .eq 12, 3) := by decide +kernel
theorem dX8_handOut_115 : decode cX8_handOut 115 = .ok (.iload_n 2, 1) := by decide +kernel
theorem dX8_handOut_116 : decode cX8_handOut 116 = .ok (.iload 6, 2) := by decide +kernel
theorem dX8_handOut_118 : decode cX8_handOut 118 = .ok (.invokestatic 102, 3) := by decide +kernel
theorem dX8_handOut_121 : decode cX8_handOut 121 = .ok (.ifCond .eq 21, 3) := by decide +kernel
theorem dX8_handOut_124 : decode cX8_handOut 124 = .ok (.iconst 1, 1) := by decide +kernel
theorem dX8_handOut_125 : decode cX8_handOut 125 = .ok (.istore 6, 2) := by decide +kernel
theorem dX8_handOut_127 : decode cX8_handOut 127 = .ok (.iload_n 2, 1) := by decide +kernel
theorem dX8_handOut_128 : decode cX8_handOut 128 = .ok (.iload 6, 2) := by decide +kernel
theorem dX8_handOut_130 : decode cX8_handOut 130 = .ok (.invokestatic 102, 3) := by decide +kernel
theorem dX8_handOut_133 : decode cX8_handOut 133 = .ok (.ifCond .eq 9, 3) := by decide +kernel
theorem dX8_handOut_136 : decode cX8_handOut 136 = .ok (.iinc 6 1, 3) := by decide +kernel
theorem dX8_handOut_139 : decode cX8_handOut 139 = .ok (.goto (-12), 3) := by decide +kernel
theorem dX8_handOut_142 : decode cX8_handOut 142 = .ok (.iload 4, 2) := by decide +kernel
theorem dX8_handOut_144 : decode cX8_handOut 144 = .ok (.iload 6, 2) := by decide +kernel
theorem dX8_handOut_146 : decode cX8_handOut 146 = .ok (.aload_n 0, 1) := by decide +kernel
theorem dX8_handOut_147 : decode cX8_handOut 147 = .ok (.iload 5, 2) := by decide +kernel
theorem dX8_handOut_149 : decode cX8_handOut 149 = .ok (.iconst 3, 1) := by decide +kernel
theorem dX8_handOut_150 : decode cX8_handOut 150 = .ok (.invokevirtual 115, 3) := by decide +kernel
theorem dX8_handOut_153 : decode cX8_handOut 153 = .ok (.if_icmp .ne 7, 3) := by decide +kernel
theorem dX8_handOut_156 : decode cX8_handOut 156 = .ok (.iconst 0, 1) := by decide +kernel
theorem dX8_handOut_157 : decode cX8_handOut 157 = .ok (.goto 4, 3) := by decide +kernel
theorem dX8_handOut_160 : decode cX8_handOut 160 = .ok (.iconst 1, 1) := by decide +kernel
theorem dX8_handOut_161 : decode cX8_handOut 161 = .ok (.iadd, 1) := by decide +kernel
theorem dX8_handOut_162 : decode cX8_handOut 162 = .ok (.istore 4, 2) := by decide +kernel
theorem dX8_handOut_164 : decode cX8_handOut 164 = .ok (.aload_n 0, 1) := by decide +kernel
theorem dX8_handOut_165 : decode cX8_handOut 165 = .ok (.getfield 7, 3) := by decide +kernel
theorem dX8_handOut_168 : decode cX8_handOut 168 = .ok (.iconst 3, 1) := by decide +kernel
theorem dX8_handOut_169 : decode cX8_handOut 169 = .ok (.iconst 4, 1) := by decide +kernel
theorem dX8_handOut_170 : decode cX8_handOut 170 = .ok (.iload 5, 2) := by decide +kernel
theorem dX8_handOut_172 : decode cX8_handOut 172 = .ok (.imul, 1) := by decide +kernel
theorem dX8_handOut_173 : decode cX8_handOut 173 = .ok (.iadd, 1) := by decide +kernel
theorem dX8_handOut_174 : decode cX8_handOut 174 = .ok (.iconst 3, 1) := by decide +kernel
theorem dX8_handOut_175 : decode cX8_handOut 175 = .ok (.iadd, 1) := by decide +kernel
theorem dX8_handOut_176 : decode cX8_handOut 176 = .ok (.iload 6, 2) := by decide +kernel
theorem dX8_handOut_178 : decode cX8_handOut 178 = .ok (.iastore, 1) := by decide +kernel
theorem dX8_handOut_179 : decode cX8_handOut 179 = .ok (.iload_n 2, 1) := by decide +kernel
theorem dX8_handOut_180 : decode cX8_handOut 180 = .ok (.iconst 1, 1) := by decide +kernel
theorem dX8_handOut_181 : decode cX8_handOut 181 = .ok (.iload 6, 2) := by decide +kernel
theorem dX8_handOut_183 : decode cX8_handOut 183 = .ok (.ishl, 1) := by decide +kernel
theorem dX8_handOut_184 : decode cX8_handOut 184 = .ok (.ior, 1) := by decide +kernel
theorem dX8_handOut_185 : decode cX8_handOut 185 = .ok (.istore_n 2, 1) := by decide +kernel
theorem dX8_handOut_186 : decode cX8_handOut 186 = .ok (.iload_n 3, 1) := by decide +kernel
theorem dX8_handOut_187 : decode cX8_handOut 187 = .ok (.iconst 1, 1) := by decide +kernel
theorem dX8_handOut_188 : decode cX8_handOut 188 = .ok (.iload 5, 2) := by decide +kernel
theorem dX8_handOut_190 : decode cX8_handOut 190 = .ok (.ishl, 1) := by decide +kernel
theorem dX8_handOut_191 : decode cX8_handOut 191 = .ok (.iconst (-1), 1) := by decide +kernel
theorem dX8_handOut_192 : decode cX8_handOut 192 = .ok (.ixor, 1) := by decide +kernel
theorem dX8_handOut_193 : decode cX8_handOut 193 = .ok (.iand, 1) := by decide +kernel
theorem dX8_handOut_194 : decode cX8_handOut 194 = .ok (.istore_n 3, 1) := by decide +kernel
theorem dX8_handOut_195 : decode cX8_handOut 195 = .ok (.goto (-188), 3) := by decide +kernel
theorem dX8_handOut_198 : decode cX8_handOut 198 = .ok (.iload 4, 2) := by decide +kernel
theorem dX8_handOut_200 : decode cX8_handOut 200 = .ok (.ireturn, 1) := by decide +kernel
theorem dX8_zoneOf_0 : decode cX8_zoneOf 0 = .ok (.aload_n 0, 1) := by decide +kernel
theorem dX8_zoneOf_1 : decode cX8_zoneOf 1 = .ok (.getfield 7, 3) := by decide +kernel
theorem dX8_zoneOf_4 : decode cX8_zoneOf 4 = .ok (.bipush 47, 2) := by decide +kernel
theorem dX8_zoneOf_6 : decode cX8_zoneOf 6 = .ok (.iconst 4, 1) := by decide +kernel
theorem dX8_zoneOf_7 : decode cX8_zoneOf 7 = .ok (.iload_n 1, 1) := by decide +kernel
theorem dX8_zoneOf_8 : decode cX8_zoneOf 8 = .ok (.imul, 1) := by decide +kernel
theorem dX8_zoneOf_9 : decode cX8_zoneOf 9 = .ok (.iadd, 1) := by decide +kernel
theorem dX8_zoneOf_10 : decode cX8_zoneOf 10 = .ok (.iload_n 2, 1) := by decide +kernel
theorem dX8_zoneOf_11 : decode cX8_zoneOf 11 = .ok (.iadd, 1) := by decide +kernel
theorem dX8_zoneOf_12 : decode cX8_zoneOf 12 = .ok (.iaload, 1) := by decide +kernel
theorem dX8_zoneOf_13 : decode cX8_zoneOf 13 = .ok (.ireturn, 1) := by decide +kernel
theorem dX8_doZonesClash_0 : decode cX8_doZonesClash 0 = .ok (.iconst 0, 1) := by decide +kernel
theorem dX8_doZonesClash_1 : decode cX8_doZonesClash 1 = .ok (.istore_n 3, 1) := by decide +kernel
theorem dX8_doZonesClash_2 : decode cX8_doZonesClash 2 = .ok (.iconst 0, 1) := by decide +kernel
theorem dX8_doZonesClash_3 : decode cX8_doZonesClash 3 = .ok (.istore 4, 2) := by decide +kernel
theorem dX8_doZonesClash_5 : decode cX8_doZonesClash 5 = .ok (.iload 4, 2) := by decide +kernel
theorem dX8_doZonesClash_7 : decode cX8_doZonesClash 7 = .ok (.iconst 4, 1) := by decide +kernel
theorem dX8_doZonesClash_8 : decode cX8_doZonesClash 8 = .ok (.if_icmp .ge 56, 3) := by decide +kernel
theorem dX8_doZonesClash_11 : decode cX8_doZonesClash 11 = .ok (.iload_n 3, 1) := by decide +kernel
theorem dX8_doZonesClash_12 : decode cX8_doZonesClash 12 = .ok (.ifCond .ne 40, 3) := by decide +kernel
theorem dX8_doZonesClash_15 : decode cX8_doZonesClash 15 = .ok (.aload_n 0, 1) := by decide +kernel
theorem dX8_doZonesClash_16 : decode cX8_doZonesClash 16 = .ok (.iload_n 1, 1) := by decide +kernel
theorem dX8_doZonesClash_17 : decode cX8_doZonesClash 17 = .ok (.iload 4, 2) := by decide +kernel
theorem dX8_doZonesClash_19 : decode cX8_doZonesClash 19 = .ok (.invokevirtual 125, 3) := by decide +kernel
theorem dX8_doZonesClash_22 : decode cX8_doZonesClash 22 = .ok (.ifCond .eq 34, 3) := by decide +kernel
theorem dX8_doZonesClash_25 : decode cX8_doZonesClash 25 = .ok (.aload_n 0, 1) := by decide +kernel
theorem dX8_doZonesClash_26 : decode cX8_doZonesClash 26 = .ok (.iload_n 2, 1) := by decide +kernel
theorem dX8_doZonesClash_27 : decode cX8_doZonesClash 27 = .ok (.iload 4, 2) := by decide +kernel
theorem dX8_doZonesClash_29 : decode cX8_doZonesClash 29 = .ok (.invokevirtual 125, 3) := by decide +kernel
theorem dX8_doZonesClash_32 : decode cX8_doZonesClash 32 = .ok (.ifCond .eq 24, 3) := by decide +kernel
theorem dX8_doZonesClash_35 : decode cX8_doZonesClash 35 = .ok (.aload_n 0, 1) := by decide +kernel
theorem dX8_doZonesClash_36 : decode cX8_doZonesClash 36 = .ok (.iload_n 1, 1) := by decide +kernel
theorem dX8_doZonesClash_37 : decode cX8_doZonesClash 37 = .ok (.iload 4, 2) := by decide +kernel
theorem dX8_doZonesClash_39 : decode cX8_doZonesClash 39 = .ok (.invokevirtual 125, 3) := by decide +kernel
theorem dX8_doZonesClash_42 : decode cX8_doZonesClash 42 = .ok (.aload_n 0, 1) := by decide +kernel
theorem dX8_doZonesClash_43 : decode cX8_doZonesClash 43 = .ok (.iload_n 2, 1) := by decide +kernel
theorem dX8_doZonesClash_44 : decode cX8_doZonesClash 44 = .ok (.iload 4, 2) := by decide +kernel
theorem dX8_doZonesClash_46 : decode cX8_doZonesClash 46 = .ok (.invokevirtual 125, 3) := by decide +kernel
theorem dX8_doZonesClash_49 : decode cX8_doZonesClash 49 = .ok (.if_icmp .eq 7, 3) := by decide +kernel
theorem dX8_doZonesClash_52 : decode cX8_doZonesClash 52 = .ok (.iconst 1, 1) := by decide +kernel
theorem dX8_doZonesClash_53 : decode cX8_doZonesClash 53 = .ok (.goto 4, 3) := by decide +kernel
theorem dX8_doZonesClash_56 : decode cX8_doZonesClash 56 = .ok (.iconst 0, 1) := by decide +kernel
theorem dX8_doZonesClash_57 : decode cX8_doZonesClash 57 = .ok (.istore_n 3, 1) := by decide +kernel
theorem dX8_doZonesClash_58 : decode cX8_doZonesClash 58 = .ok (.iinc 4 1, 3) := by decide +kernel
theorem dX8_doZonesClash_61 : decode cX8_doZonesClash 61 = .ok (.goto (-56), 3) := by decide +kernel
theorem dX8_doZonesClash_64 : decode cX8_doZonesClash 64 = .ok (.iload_n 3, 1) := by decide +kernel
theorem dX8_doZonesClash_65 : decode cX8_doZonesClash 65 = .ok (.ireturn, 1) := by decide +kernel
theorem dX8_blocksOf_0 : decode cX8_blocksOf 0 = .ok (.iconst 0, 1) := by decide +kernel
theorem dX8_blocksOf_1 : decode cX8_blocksOf 1 = .ok (.istore_n 2, 1) := by decide +kernel
theorem dX8_blocksOf_2 : decode cX8_blocksOf 2 = .ok (.iconst 0, 1) := by decide +kernel
theorem dX8_blocksOf_3 : decode cX8_blocksOf 3 = .ok (.istore_n 3, 1) := by decide +kernel
theorem dX8_blocksOf_4 : decode cX8_blocksOf 4 = .ok (.iload_n 3, 1) := by decide +kernel
theorem dX8_blocksOf_5 : decode cX8_blocksOf 5 = .ok (.aload_n 0, 1) := by decide +kernel
theorem dX8_blocksOf_6 : decode cX8_blocksOf 6 = .ok (.getfield 7, 3) := by decide +kernel
theorem dX8_blocksOf_9 : decode cX8_blocksOf 9 = .ok (.iconst 0, 1) := by decide +kernel
theorem dX8_blocksOf_10 : decode cX8_blocksOf 10 = .ok (.iaload, 1) := by decide +kernel
theorem dX8_blocksOf_11 : decode cX8_blocksOf 11 = .ok (.if_icmp .ge 32, 3) := by decide +kernel
theorem dX8_blocksOf_14 : decode cX8_blocksOf 14 = .ok (.iload_n 2, 1) := by decide +kernel
theorem dX8_blocksOf_15 : decode cX8_blocksOf 15 = .ok (.iload_n 1, 1) := by decide +kernel
theorem dX8_blocksOf_16 : decode cX8_blocksOf 16 = .ok (.iload_n 3, 1) := by decide +kernel
theorem dX8_blocksOf_17 : decode cX8_blocksOf 17 = .ok (.invokestatic 102, 3) := by decide +kernel
theorem dX8_blocksOf_20 : decode cX8_blocksOf 20 = .ok (.ifCond .eq 14, 3) := by decide +kernel
theorem dX8_blocksOf_23 : decode cX8_blocksOf 23 = .ok (.iconst 1, 1) := by decide +kernel
theorem dX8_blocksOf_24 : decode cX8_blocksOf 24 = .ok (.aload_n 0, 1) := by decide +kernel
theorem dX8_blocksOf_25 : decode cX8_blocksOf 25 = .ok (.iload_n 3, 1) := by decide +kernel
theorem dX8_blocksOf_26 : decode cX8_blocksOf 26 = .ok (.iconst 3, 1) := by decide +kernel
theorem dX8_blocksOf_27 : decode cX8_blocksOf 27 = .ok (.invokevirtual 115, 3) := by decide +kernel
theorem dX8_blocksOf_30 : decode cX8_blocksOf 30 = .ok (.ishl, 1) := by decide +kernel
theorem dX8_blocksOf_31 : decode cX8_blocksOf 31 = .ok (.goto 4, 3) := by decide +kernel
theorem dX8_blocksOf_34 : decode cX8_blocksOf 34 = .ok (.iconst 0, 1) := by decide +kernel
theorem dX8_blocksOf_35 : decode cX8_blocksOf 35 = .ok (.ior, 1) := by decide +kernel
theorem dX8_blocksOf_36 : decode cX8_blocksOf 36 = .ok (.istore_n 2, 1) := by decide +kernel
theorem dX8_blocksOf_37 : decode cX8_blocksOf 37 = .ok (.iinc 3 1, 3) := by decide +kernel
theorem dX8_blocksOf_40 : decode cX8_blocksOf 40 = .ok (.goto (-36), 3) := by decide +kernel
theorem dX8_blocksOf_43 : decode cX8_blocksOf 43 = .ok (.iload_n 2, 1) := by decide +kernel
theorem dX8_blocksOf_44 : decode cX8_blocksOf 44 = .ok (.ireturn, 1) := by decide +kernel
theorem dX8_doBlocksClash_0 : decode cX8_doBlocksClash 0 = .ok (.aload_n 0, 1) := by decide +kernel
theorem dX8_doBlocksClash_1 : decode cX8_doBlocksClash 1 = .ok (.aload_n 0, 1) := by decide +kernel
theorem dX8_doBlocksClash_2 : decode cX8_doBlocksClash 2 = .ok (.iload_n 1, 1) := by decide +kernel
theorem dX8_doBlocksClash_3 : decode cX8_doBlocksClash 3 = .ok (.invokevirtual 109, 3) := by decide +kernel
theorem dX8_doBlocksClash_6 : decode cX8_doBlocksClash 6 = .ok (.invokevirtual 128, 3) := by decide +kernel
theorem dX8_doBlocksClash_9 : decode cX8_doBlocksClash 9 = .ok (.aload_n 0, 1) := by decide +kernel
theorem dX8_doBlocksClash_10 : decode cX8_doBlocksClash 10 = .ok (.aload_n 0, 1) := by decide +kernel
theorem dX8_doBlocksClash_11 : decode cX8_doBlocksClash 11 = .ok (.iload_n 2, 1) := by decide +kernel
theorem dX8_doBlocksClash_12 : decode cX8_doBlocksClash 12 = .ok (.invokevirtual 109, 3) := by decide +kernel
theorem dX8_doBlocksClash_15 : decode cX8_doBlocksClash 15 = .ok (.invokevirtual 128, 3) := by decide +kernel
theorem dX8_doBlocksClash_18 : decode cX8_doBlocksClash 18 = .ok (.iand, 1) := by decide +kernel
theorem dX8_doBlocksClash_19 : decode cX8_doBlocksClash 19 = .ok (.ifCond .eq 7, 3) := by decide +kernel
theorem dX8_doBlocksClash_22 : decode cX8_doBlocksClash 22 = .ok (.iconst 1, 1) := by decide +kernel
theorem dX8_doBlocksClash_23 : decode cX8_doBlocksClash 23 = .ok (.goto 4, 3) := by decide +kernel
theorem dX8_doBlocksClash_26 : decode cX8_doBlocksClash 26 = .ok (.iconst 0, 1) := by decide +kernel
theorem dX8_doBlocksClash_27 : decode cX8_doBlocksClash 27 = .ok (.ireturn, 1) := by decide +kernel
theorem dX8_isUp_0 : decode cX8_isUp 0 = .ok (.aload_n 0, 1) := by decide +kernel
theorem dX8_isUp_1 : decode cX8_isUp 1 = .ok (.getfield 7, 3) := by decide +kernel
theorem dX8_isUp_4 : decode cX8_isUp 4 = .ok (.bipush 35, 2) := by decide +kernel
theorem dX8_isUp_6 : decode cX8_isUp 6 = .ok (.iload_n 1, 1) := by decide +kernel
theorem dX8_isUp_7 : decode cX8_isUp 7 = .ok (.iadd, 1) := by decide +kernel
theorem dX8_isUp_8 : decode cX8_isUp 8 = .ok (.iaload, 1) := by decide +kernel
theorem dX8_isUp_9 : decode cX8_isUp 9 = .ok (.iload_n 2, 1) := by decide +kernel
theorem dX8_isUp_10 : decode cX8_isUp 10 = .ok (.invokestatic 102, 3) := by decide +kernel
theorem dX8_isUp_13 : decode cX8_isUp 13 = .ok (.ireturn, 1) := by decide +kernel
theorem dX8_putLink_0 : decode cX8_putLink 0 = .ok (.aload_n 0, 1) := by decide +kernel
theorem dX8_putLink_1 : decode cX8_putLink 1 = .ok (.getfield 7, 3) := by decide +kernel
theorem dX8_putLink_4 : decode cX8_putLink 4 = .ok (.bipush 35, 2) := by decide +kernel
theorem dX8_putLink_6 : decode cX8_putLink 6 = .ok (.iload_n 1, 1) := by decide +kernel
theorem dX8_putLink_7 : decode cX8_putLink 7 = .ok (.iadd, 1) := by decide +kernel
theorem dX8_putLink_8 : decode cX8_putLink 8 = .ok (.aload_n 0, 1) := by decide +kernel
theorem dX8_putLink_9 : decode cX8_putLink 9 = .ok (.getfield 7, 3) := by decide +kernel
theorem dX8_putLink_12 : decode cX8_putLink 12 = .ok (.bipush 35, 2) := by decide +kernel
theorem dX8_putLink_14 : decode cX8_putLink 14 = .ok (.iload_n 1, 1) := by decide +kernel
theorem dX8_putLink_15 : decode cX8_putLink 15 = .ok (.iadd, 1) := by decide +kernel
theorem dX8_putLink_16 : decode cX8_putLink 16 = .ok (.iaload, 1) := by decide +kernel
theorem dX8_putLink_17 : decode cX8_putLink 17 = .ok (.iconst 1, 1) := by decide +kernel
theorem dX8_putLink_18 : decode cX8_putLink 18 = .ok (.iload_n 2, 1) := by decide +kernel
theorem dX8_putLink_19 : decode cX8_putLink 19 = .ok (.ishl, 1) := by decide +kernel
theorem dX8_putLink_20 : decode cX8_putLink 20 = .ok (.iconst (-1), 1) := by decide +kernel
theorem dX8_putLink_21 : decode cX8_putLink 21 = .ok (.ixor, 1) := by decide +kernel
theorem dX8_putLink_22 : decode cX8_putLink 22 = .ok (.iand, 1) := by decide +kernel
theorem dX8_putLink_23 : decode cX8_putLink 23 = .ok (.iload_n 3, 1) := by decide +kernel
theorem dX8_putLink_24 : decode cX8_putLink 24 = .ok (.iload_n 2, 1) := by decide +kernel
theorem dX8_putLink_25 : decode cX8_putLink 25 = .ok (.ishl, 1) := by decide +kernel
theorem dX8_putLink_26 : decode cX8_putLink 26 = .ok (.ior, 1) := by decide +kernel
theorem dX8_putLink_27 : decode cX8_putLink 27 = .ok (.iastore, 1) := by decide +kernel
theorem dX8_putLink_28 : decode cX8_putLink 28 = .ok (.aload_n 0, 1) := by decide +kernel
theorem dX8_putLink_29 : decode cX8_putLink 29 = .ok (.getfield 7, 3) := by decide +kernel
theorem dX8_putLink_32 : decode cX8_putLink 32 = .ok (.bipush 35, 2) := by decide +kernel
theorem dX8_putLink_34 : decode cX8_putLink 34 = .ok (.iload_n 2, 1) := by decide +kernel
theorem dX8_putLink_35 : decode cX8_putLink 35 = .ok (.iadd, 1) := by decide +kernel
theorem dX8_putLink_36 : decode cX8_putLink 36 = .ok (.aload_n 0, 1) := by decide +kernel
theorem dX8_putLink_37 : decode cX8_putLink 37 = .ok (.getfield 7, 3) := by decide +kernel
theorem dX8_putLink_40 : decode cX8_putLink 40 = .ok (.bipush 35, 2) := by decide +kernel
theorem dX8_putLink_42 : decode cX8_putLink 42 = .ok (.iload_n 2, 1) := by decide +kernel
theorem dX8_putLink_43 : decode cX8_putLink 43 = .ok (.iadd, 1) := by decide +kernel
theorem dX8_putLink_44 : decode cX8_putLink 44 = .ok (.iaload, 1) := by decide +kernel
theorem dX8_putLink_45 : decode cX8_putLink 45 = .ok (.iconst 1, 1) := by decide +kernel
theorem dX8_putLink_46 : decode cX8_putLink 46 = .ok (.iload_n 1, 1) := by decide +kernel
theorem dX8_putLink_47 : decode cX8_putLink 47 = .ok (.ishl, 1) := by decide +kernel
theorem dX8_putLink_48 : decode cX8_putLink 48 = .ok (.iconst (-1), 1) := by decide +kernel
theorem dX8_putLink_49 : decode cX8_putLink 49 = .ok (.ixor, 1) := by decide +kernel
theorem dX8_putLink_50 : decode cX8_putLink 50 = .ok (.iand, 1) := by decide +kernel
theorem dX8_putLink_51 : decode cX8_putLink 51 = .ok (.iload_n 3, 1) := by decide +kernel
theorem dX8_putLink_52 : decode cX8_putLink 52 = .ok (.iload_n 1, 1) := by decide +kernel
theorem dX8_putLink_53 : decode cX8_putLink 53 = .ok (.ishl, 1) := by decide +kernel
theorem dX8_putLink_54 : decode cX8_putLink 54 = .ok (.ior, 1) := by decide +kernel
theorem dX8_putLink_55 : decode cX8_putLink 55 = .ok (.iastore, 1) := by decide +kernel
theorem dX8_putLink_56 : decode cX8_putLink 56 = .ok (.aload_n 0, 1) := by decide +kernel
theorem dX8_putLink_57 : decode cX8_putLink 57 = .ok (.getfield 7, 3) := by decide +kernel
theorem dX8_putLink_60 : decode cX8_putLink 60 = .ok (.bipush 41, 2) := by decide +kernel
theorem dX8_putLink_62 : decode cX8_putLink 62 = .ok (.iload_n 1, 1) := by decide +kernel
theorem dX8_putLink_63 : decode cX8_putLink 63 = .ok (.iadd, 1) := by decide +kernel
theorem dX8_putLink_64 : decode cX8_putLink 64 = .ok (.aload_n 0, 1) := by decide +kernel
theorem dX8_putLink_65 : decode cX8_putLink 65 = .ok (.getfield 7, 3) := by decide +kernel
theorem dX8_putLink_68 : decode cX8_putLink 68 = .ok (.bipush 41, 2) := by decide +kernel
theorem dX8_putLink_70 : decode cX8_putLink 70 = .ok (.iload_n 1, 1) := by decide +kernel
theorem dX8_putLink_71 : decode cX8_putLink 71 = .ok (.iadd, 1) := by decide +kernel
theorem dX8_putLink_72 : decode cX8_putLink 72 = .ok (.iaload, 1) := by decide +kernel
theorem dX8_putLink_73 : decode cX8_putLink 73 = .ok (.iconst 1, 1) := by decide +kernel
theorem dX8_putLink_74 : decode cX8_putLink 74 = .ok (.iload_n 2, 1) := by decide +kernel
theorem dX8_putLink_75 : decode cX8_putLink 75 = .ok (.ishl, 1) := by decide +kernel
theorem dX8_putLink_76 : decode cX8_putLink 76 = .ok (.iconst (-1), 1) := by decide +kernel
theorem dX8_putLink_77 : decode cX8_putLink 77 = .ok (.ixor, 1) := by decide +kernel
theorem dX8_putLink_78 : decode cX8_putLink 78 = .ok (.iand, 1) := by decide +kernel
theorem dX8_putLink_79 : decode cX8_putLink 79 = .ok (.iload 4, 2) := by decide +kernel
theorem dX8_putLink_81 : decode cX8_putLink 81 = .ok (.iload_n 2, 1) := by decide +kernel
theorem dX8_putLink_82 : decode cX8_putLink 82 = .ok (.ishl, 1) := by decide +kernel
theorem dX8_putLink_83 : decode cX8_putLink 83 = .ok (.ior, 1) := by decide +kernel
theorem dX8_putLink_84 : decode cX8_putLink 84 = .ok (.iastore, 1) := by decide +kernel
theorem dX8_putLink_85 : decode cX8_putLink 85 = .ok (.aload_n 0, 1) := by decide +kernel
theorem dX8_putLink_86 : decode cX8_putLink 86 = .ok (.getfield 7, 3) := by decide +kernel
theorem dX8_putLink_89 : decode cX8_putLink 89 = .ok (.bipush 41, 2) := by decide +kernel
theorem dX8_putLink_91 : decode cX8_putLink 91 = .ok (.iload_n 2, 1) := by decide +kernel
theorem dX8_putLink_92 : decode cX8_putLink 92 = .ok (.iadd, 1) := by decide +kernel
theorem dX8_putLink_93 : decode cX8_putLink 93 = .ok (.aload_n 0, 1) := by decide +kernel
theorem dX8_putLink_94 : decode cX8_putLink 94 = .ok (.getfield 7, 3) := by decide +kernel
theorem dX8_putLink_97 : decode cX8_putLink 97 = .ok (.bipush 41, 2) := by decide +kernel
theorem dX8_putLink_99 : decode cX8_putLink 99 = .ok (.iload_n 2, 1) := by decide +kernel
theorem dX8_putLink_100 : decode cX8_putLink 100 = .ok (.iadd, 1) := by decide +kernel
theorem dX8_putLink_101 : decode cX8_putLink 101 = .ok (.iaload, 1) := by decide +kernel
theorem dX8_putLink_102 : decode cX8_putLink 102 = .ok (.iconst 1, 1) := by decide +kernel
theorem dX8_putLink_103 : decode cX8_putLink 103 = .ok (.iload_n 1, 1) := by decide +kernel
theorem dX8_putLink_104 : decode cX8_putLink 104 = .ok (.ishl, 1) := by decide +kernel
theorem dX8_putLink_105 : decode cX8_putLink 105 = .ok (.iconst (-1), 1) := by decide +kernel
theorem dX8_putLink_106 : decode cX8_putLink 106 = .ok (.ixor, 1) := by decide +kernel
theorem dX8_putLink_107 : decode cX8_putLink 107 = .ok (.iand, 1) := by decide +kernel
theorem dX8_putLink_108 : decode cX8_putLink 108 = .ok (.iload 4, 2) := by decide +kernel
theorem dX8_putLink_110 : decode cX8_putLink 110 = .ok (.iload_n 1, 1) := by decide +kernel
theorem dX8_putLink_111 : decode cX8_putLink 111 = .ok (.ishl, 1) := by decide +kernel
theorem dX8_putLink_112 : decode cX8_putLink 112 = .ok (.ior, 1) := by decide +kernel
theorem dX8_putLink_113 : decode cX8_putLink 113 = .ok (.iastore, 1) := by decide +kernel
theorem dX8_putLink_114 : decode cX8_putLink 114 = .ok (.return_, 1) := by decide +kernel
theorem dX8_zonesOf_0 : decode cX8_zonesOf 0 = .ok (.iconst 0, 1) := by decide +kernel
theorem dX8_zonesOf_1 : decode cX8_zonesOf 1 = .ok (.istore_n 2, 1) := by decide +kernel
theorem dX8_zonesOf_2 : decode cX8_zonesOf 2 = .ok (.iconst 0, 1) := by decide +kernel
theorem dX8_zonesOf_3 : decode cX8_zonesOf 3 = .ok (.istore_n 3, 1) := by decide +kernel
theorem dX8_zonesOf_4 : decode cX8_zonesOf 4 = .ok (.iload_n 3, 1) := by decide +kernel
theorem dX8_zonesOf_5 : decode cX8_zonesOf 5 = .ok (.iconst 4, 1) := by decide +kernel
theorem dX8_zonesOf_6 : decode cX8_zonesOf 6 = .ok (.if_icmp .ge 18, 3) := by decide +kernel
theorem dX8_zonesOf_9 : decode cX8_zonesOf 9 = .ok (.iload_n 2, 1) := by decide +kernel
theorem dX8_zonesOf_10 : decode cX8_zonesOf 10 = .ok (.aload_n 0, 1) := by decide +kernel
theorem dX8_zonesOf_11 : decode cX8_zonesOf 11 = .ok (.iload_n 1, 1) := by decide +kernel
theorem dX8_zonesOf_12 : decode cX8_zonesOf 12 = .ok (.iload_n 3, 1) := by decide +kernel
theorem dX8_zonesOf_13 : decode cX8_zonesOf 13 = .ok (.invokevirtual 125, 3) := by decide +kernel
theorem dX8_zonesOf_16 : decode cX8_zonesOf 16 = .ok (.ior, 1) := by decide +kernel
theorem dX8_zonesOf_17 : decode cX8_zonesOf 17 = .ok (.istore_n 2, 1) := by decide +kernel
theorem dX8_zonesOf_18 : decode cX8_zonesOf 18 = .ok (.iinc 3 1, 3) := by decide +kernel
theorem dX8_zonesOf_21 : decode cX8_zonesOf 21 = .ok (.goto (-17), 3) := by decide +kernel
theorem dX8_zonesOf_24 : decode cX8_zonesOf 24 = .ok (.iload_n 2, 1) := by decide +kernel
theorem dX8_zonesOf_25 : decode cX8_zonesOf 25 = .ok (.ireturn, 1) := by decide +kernel
theorem dX8_areInOne_0 : decode cX8_areInOne 0 = .ok (.aload_n 0, 1) := by decide +kernel
theorem dX8_areInOne_1 : decode cX8_areInOne 1 = .ok (.iload_n 1, 1) := by decide +kernel
theorem dX8_areInOne_2 : decode cX8_areInOne 2 = .ok (.invokevirtual 131, 3) := by decide +kernel
theorem dX8_areInOne_5 : decode cX8_areInOne 5 = .ok (.ifCond .ne 7, 3) := by decide +kernel
theorem dX8_areInOne_8 : decode cX8_areInOne 8 = .ok (.iconst 1, 1) := by decide +kernel
theorem dX8_areInOne_9 : decode cX8_areInOne 9 = .ok (.goto 4, 3) := by decide +kernel
theorem dX8_areInOne_12 : decode cX8_areInOne 12 = .ok (.iconst 0, 1) := by decide +kernel
theorem dX8_areInOne_13 : decode cX8_areInOne 13 = .ok (.istore 4, 2) := by decide +kernel
theorem dX8_areInOne_15 : decode cX8_areInOne 15 = .ok (.iconst 0, 1) := by decide +kernel
theorem dX8_areInOne_16 : decode cX8_areInOne 16 = .ok (.istore 5, 2) := by decide +kernel
theorem dX8_areInOne_18 : decode cX8_areInOne 18 = .ok (.iload 5, 2) := by decide +kernel
theorem dX8_areInOne_20 : decode cX8_areInOne 20 = .ok (.iconst 4, 1) := by decide +kernel
theorem dX8_areInOne_21 : decode cX8_areInOne 21 = .ok (.if_icmp .ge 49, 3) := by decide +kernel
theorem dX8_areInOne_24 : decode cX8_areInOne 24 = .ok (.iload 4, 2) := by decide +kernel
theorem dX8_areInOne_26 : decode cX8_areInOne 26 = .ok (.ifCond .ne 31, 3) := by decide +kernel
theorem dX8_areInOne_29 : decode cX8_areInOne 29 = .ok (.aload_n 0, 1) := by decide +kernel
theorem dX8_areInOne_30 : decode cX8_areInOne 30 = .ok (.iload_n 1, 1) := by decide +kernel
theorem dX8_areInOne_31 : decode cX8_areInOne 31 = .ok (.iload 5, 2) := by decide +kernel
theorem dX8_areInOne_33 : decode cX8_areInOne 33 = .ok (.invokevirtual 125, 3) := by decide +kernel
theorem dX8_areInOne_36 : decode cX8_areInOne 36 = .ok (.iload_n 2, 1) := by decide +kernel
theorem dX8_areInOne_37 : decode cX8_areInOne 37 = .ok (.invokestatic 102, 3) := by decide +kernel
theorem dX8_areInOne_40 : decode cX8_areInOne 40 = .ok (.ifCond .eq 21, 3) := by decide +kernel
theorem dX8_areInOne_43 : decode cX8_areInOne 43 = .ok (.aload_n 0, 1) := by decide +kernel
theorem dX8_areInOne_44 : decode cX8_areInOne 44 = .ok (.iload_n 1, 1) := by decide +kernel
theorem dX8_areInOne_45 : decode cX8_areInOne 45 = .ok (.iload 5, 2) := by decide +kernel
theorem dX8_areInOne_47 : decode cX8_areInOne 47 = .ok (.invokevirtual 125, 3) := by decide +kernel
theorem dX8_areInOne_50 : decode cX8_areInOne 50 = .ok (.iload_n 3, 1) := by decide +kernel
theorem dX8_areInOne_51 : decode cX8_areInOne 51 = .ok (.invokestatic 102, 3) := by decide +kernel
theorem dX8_areInOne_54 : decode cX8_areInOne 54 = .ok (.ifCond .eq 7, 3) := by decide +kernel
theorem dX8_areInOne_57 : decode cX8_areInOne 57 = .ok (.iconst 1, 1) := by decide +kernel
theorem dX8_areInOne_58 : decode cX8_areInOne 58 = .ok (.goto 4, 3) := by decide +kernel
theorem dX8_areInOne_61 : decode cX8_areInOne 61 = .ok (.iconst 0, 1) := by decide +kernel
theorem dX8_areInOne_62 : decode cX8_areInOne 62 = .ok (.istore 4, 2) := by decide +kernel
theorem dX8_areInOne_64 : decode cX8_areInOne 64 = .ok (.iinc 5 1, 3) := by decide +kernel
theorem dX8_areInOne_67 : decode cX8_areInOne 67 = .ok (.goto (-49), 3) := by decide +kernel
theorem dX8_areInOne_70 : decode cX8_areInOne 70 = .ok (.iload 4, 2) := by decide +kernel
theorem dX8_areInOne_72 : decode cX8_areInOne 72 = .ok (.ireturn, 1) := by decide +kernel
theorem dX8_doesSee_0 : decode cX8_doesSee 0 = .ok (.aload_n 0, 1) := by decide +kernel
theorem dX8_doesSee_1 : decode cX8_doesSee 1 = .ok (.getfield 7, 3) := by decide +kernel
theorem dX8_doesSee_4 : decode cX8_doesSee 4 = .ok (.bipush 27, 2) := by decide +kernel
theorem dX8_doesSee_6 : decode cX8_doesSee 6 = .ok (.iload_n 1, 1) := by decide +kernel
theorem dX8_doesSee_7 : decode cX8_doesSee 7 = .ok (.iadd, 1) := by decide +kernel
theorem dX8_doesSee_8 : decode cX8_doesSee 8 = .ok (.iaload, 1) := by decide +kernel
theorem dX8_doesSee_9 : decode cX8_doesSee 9 = .ok (.istore_n 3, 1) := by decide +kernel
theorem dX8_doesSee_10 : decode cX8_doesSee 10 = .ok (.aload_n 0, 1) := by decide +kernel
theorem dX8_doesSee_11 : decode cX8_doesSee 11 = .ok (.getfield 7, 3) := by decide +kernel
theorem dX8_doesSee_14 : decode cX8_doesSee 14 = .ok (.bipush 27, 2) := by decide +kernel
theorem dX8_doesSee_16 : decode cX8_doesSee 16 = .ok (.iload_n 2, 1) := by decide +kernel
theorem dX8_doesSee_17 : decode cX8_doesSee 17 = .ok (.iadd, 1) := by decide +kernel
theorem dX8_doesSee_18 : decode cX8_doesSee 18 = .ok (.iaload, 1) := by decide +kernel
theorem dX8_doesSee_19 : decode cX8_doesSee 19 = .ok (.istore 4, 2) := by decide +kernel
theorem dX8_doesSee_21 : decode cX8_doesSee 21 = .ok (.iload_n 1, 1) := by decide +kernel
theorem dX8_doesSee_22 : decode cX8_doesSee 22 = .ok (.iload_n 2, 1) := by decide +kernel
theorem dX8_doesSee_23 : decode cX8_doesSee 23 = .ok (.if_icmp .eq 43, 3) := by decide +kernel
theorem dX8_doesSee_26 : decode cX8_doesSee 26 = .ok (.iload_n 3, 1) := by decide +kernel
