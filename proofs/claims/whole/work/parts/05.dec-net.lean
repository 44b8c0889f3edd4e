theorem dX3_init_0 : decode cX3_init 0 = .ok (.aload_n 0, 1) := by decide +kernel
theorem dX3_init_1 : decode cX3_init 1 = .ok (.invokespecial 3, 3) := by decide +kernel
theorem dX3_init_4 : decode cX3_init 4 = .ok (.aload_n 0, 1) := by decide +kernel
theorem dX3_init_5 : decode cX3_init 5 = .ok (.bipush 6, 2) := by decide +kernel
theorem dX3_init_7 : decode cX3_init 7 = .ok (.newarray .int, 2) := by decide +kernel
theorem dX3_init_9 : decode cX3_init 9 = .ok (.putfield 9, 3) := by decide +kernel
theorem dX3_init_12 : decode cX3_init 12 = .ok (.aload_n 0, 1) := by decide +kernel
theorem dX3_init_13 : decode cX3_init 13 = .ok (.bipush 6, 2) := by decide +kernel
theorem dX3_init_15 : decode cX3_init 15 = .ok (.newarray .int, 2) := by decide +kernel
theorem dX3_init_17 : decode cX3_init 17 = .ok (.putfield 15, 3) := by decide +kernel
theorem dX3_init_20 : decode cX3_init 20 = .ok (.aload_n 0, 1) := by decide +kernel
theorem dX3_init_21 : decode cX3_init 21 = .ok (.bipush 6, 2) := by decide +kernel
theorem dX3_init_23 : decode cX3_init 23 = .ok (.newarray .int, 2) := by decide +kernel
theorem dX3_init_25 : decode cX3_init 25 = .ok (.putfield 18, 3) := by decide +kernel
theorem dX3_init_28 : decode cX3_init 28 = .ok (.aload_n 0, 1) := by decide +kernel
theorem dX3_init_29 : decode cX3_init 29 = .ok (.bipush 6, 2) := by decide +kernel
theorem dX3_init_31 : decode cX3_init 31 = .ok (.newarray .int, 2) := by decide +kernel
theorem dX3_init_33 : decode cX3_init 33 = .ok (.putfield 21, 3) := by decide +kernel
theorem dX3_init_36 : decode cX3_init 36 = .ok (.aload_n 0, 1) := by decide +kernel
theorem dX3_init_37 : decode cX3_init 37 = .ok (.bipush 6, 2) := by decide +kernel
theorem dX3_init_39 : decode cX3_init 39 = .ok (.newarray .int, 2) := by decide +kernel
theorem dX3_init_41 : decode cX3_init 41 = .ok (.putfield 24, 3) := by decide +kernel
theorem dX3_init_44 : decode cX3_init 44 = .ok (.aload_n 0, 1) := by decide +kernel
theorem dX3_init_45 : decode cX3_init 45 = .ok (.bipush 6, 2) := by decide +kernel
theorem dX3_init_47 : decode cX3_init 47 = .ok (.newarray .int, 2) := by decide +kernel
theorem dX3_init_49 : decode cX3_init 49 = .ok (.putfield 27, 3) := by decide +kernel
theorem dX3_init_52 : decode cX3_init 52 = .ok (.aload_n 0, 1) := by decide +kernel
theorem dX3_init_53 : decode cX3_init 53 = .ok (.bipush 24, 2) := by decide +kernel
theorem dX3_init_55 : decode cX3_init 55 = .ok (.newarray .int, 2) := by decide +kernel
theorem dX3_init_57 : decode cX3_init 57 = .ok (.putfield 30, 3) := by decide +kernel
theorem dX3_init_60 : decode cX3_init 60 = .ok (.aload_n 0, 1) := by decide +kernel
theorem dX3_init_61 : decode cX3_init 61 = .ok (.bipush 8, 2) := by decide +kernel
theorem dX3_init_63 : decode cX3_init 63 = .ok (.newarray .int, 2) := by decide +kernel
theorem dX3_init_65 : decode cX3_init 65 = .ok (.putfield 33, 3) := by decide +kernel
theorem dX3_init_68 : decode cX3_init 68 = .ok (.aload_n 0, 1) := by decide +kernel
theorem dX3_init_69 : decode cX3_init 69 = .ok (.bipush 8, 2) := by decide +kernel
theorem dX3_init_71 : decode cX3_init 71 = .ok (.newarray .int, 2) := by decide +kernel
theorem dX3_init_73 : decode cX3_init 73 = .ok (.putfield 36, 3) := by decide +kernel
theorem dX3_init_76 : decode cX3_init 76 = .ok (.aload_n 0, 1) := by decide +kernel
theorem dX3_init_77 : decode cX3_init 77 = .ok (.bipush 8, 2) := by decide +kernel
theorem dX3_init_79 : decode cX3_init 79 = .ok (.newarray .int, 2) := by decide +kernel
theorem dX3_init_81 : decode cX3_init 81 = .ok (.putfield 39, 3) := by decide +kernel
theorem dX3_init_84 : decode cX3_init 84 = .ok (.return_, 1) := by decide +kernel
theorem dX3_empty_0 : decode cX3_empty 0 = .ok (.aload_n 0, 1) := by decide +kernel
theorem dX3_empty_1 : decode cX3_empty 1 = .ok (.iconst 0, 1) := by decide +kernel
theorem dX3_empty_2 : decode cX3_empty 2 = .ok (.putfield 42, 3) := by decide +kernel
theorem dX3_empty_5 : decode cX3_empty 5 = .ok (.aload_n 0, 1) := by decide +kernel
theorem dX3_empty_6 : decode cX3_empty 6 = .ok (.iconst 0, 1) := by decide +kernel
theorem dX3_empty_7 : decode cX3_empty 7 = .ok (.putfield 46, 3) := by decide +kernel
theorem dX3_empty_10 : decode cX3_empty 10 = .ok (.aload_n 0, 1) := by decide +kernel
theorem dX3_empty_11 : decode cX3_empty 11 = .ok (.iconst 0, 1) := by decide +kernel
theorem dX3_empty_12 : decode cX3_empty 12 = .ok (.putfield 49, 3) := by decide +kernel
theorem dX3_empty_15 : decode cX3_empty 15 = .ok (.return_, 1) := by decide +kernel
theorem dX3_copyFrom_0 : decode cX3_copyFrom 0 = .ok (.aload_n 0, 1) := by decide +kernel
theorem dX3_copyFrom_1 : decode cX3_copyFrom 1 = .ok (.aload_n 1, 1) := by decide +kernel
theorem dX3_copyFrom_2 : decode cX3_copyFrom 2 = .ok (.getfield 42, 3) := by decide +kernel
theorem dX3_copyFrom_5 : decode cX3_copyFrom 5 = .ok (.putfield 42, 3) := by decide +kernel
theorem dX3_copyFrom_8 : decode cX3_copyFrom 8 = .ok (.aload_n 0, 1) := by decide +kernel
theorem dX3_copyFrom_9 : decode cX3_copyFrom 9 = .ok (.aload_n 1, 1) := by decide +kernel
theorem dX3_copyFrom_10 : decode cX3_copyFrom 10 = .ok (.getfield 46, 3) := by decide +kernel
theorem dX3_copyFrom_13 : decode cX3_copyFrom 13 = .ok (.putfield 46, 3) := by decide +kernel
theorem dX3_copyFrom_16 : decode cX3_copyFrom 16 = .ok (.aload_n 0, 1) := by decide +kernel
theorem dX3_copyFrom_17 : decode cX3_copyFrom 17 = .ok (.aload_n 1, 1) := by decide +kernel
theorem dX3_copyFrom_18 : decode cX3_copyFrom 18 = .ok (.getfield 49, 3) := by decide +kernel
theorem dX3_copyFrom_21 : decode cX3_copyFrom 21 = .ok (.putfield 49, 3) := by decide +kernel
theorem dX3_copyFrom_24 : decode cX3_copyFrom 24 = .ok (.aload_n 1, 1) := by decide +kernel
theorem dX3_copyFrom_25 : decode cX3_copyFrom 25 = .ok (.getfield 9, 3) := by decide +kernel
theorem dX3_copyFrom_28 : decode cX3_copyFrom 28 = .ok (.aload_n 0, 1) := by decide +kernel
theorem dX3_copyFrom_29 : decode cX3_copyFrom 29 = .ok (.getfield 9, 3) := by decide +kernel
theorem dX3_copyFrom_32 : decode cX3_copyFrom 32 = .ok (.invokestatic 53, 3) := by decide +kernel
theorem dX3_copyFrom_35 : decode cX3_copyFrom 35 = .ok (.aload_n 1, 1) := by decide +kernel
theorem dX3_copyFrom_36 : decode cX3_copyFrom 36 = .ok (.getfield 15, 3) := by decide +kernel
theorem dX3_copyFrom_39 : decode cX3_copyFrom 39 = .ok (.aload_n 0, 1) := by decide +kernel
theorem dX3_copyFrom_40 : decode cX3_copyFrom 40 = .ok (.getfield 15, 3) := by decide +kernel
theorem dX3_copyFrom_43 : decode cX3_copyFrom 43 = .ok (.invokestatic 53, 3) := by decide +kernel
theorem dX3_copyFrom_46 : decode cX3_copyFrom 46 = .ok (.aload_n 1, 1) := by decide +kernel
theorem dX3_copyFrom_47 : decode cX3_copyFrom 47 = .ok (.getfield 18, 3) := by decide +kernel
theorem dX3_copyFrom_50 : decode cX3_copyFrom 50 = .ok (.aload_n 0, 1) := by decide +kernel
theorem dX3_copyFrom_51 : decode cX3_copyFrom 51 = .ok (.getfield 18, 3) := by decide +kernel
theorem dX3_copyFrom_54 : decode cX3_copyFrom 54 = .ok (.invokestatic 53, 3) := by decide +kernel
theorem dX3_copyFrom_57 : decode cX3_copyFrom 57 = .ok (.aload_n 1, 1) := by decide +kernel
theorem dX3_copyFrom_58 : decode cX3_copyFrom 58 = .ok (.getfield 21, 3) := by decide +kernel
theorem dX3_copyFrom_61 : decode cX3_copyFrom 61 = .ok (.aload_n 0, 1) := by decide +kernel
theorem dX3_copyFrom_62 : decode cX3_copyFrom 62 = .ok (.getfield 21, 3) := by decide +kernel
theorem dX3_copyFrom_65 : decode cX3_copyFrom 65 = .ok (.invokestatic 53, 3) := by decide +kernel
theorem dX3_copyFrom_68 : decode cX3_copyFrom 68 = .ok (.aload_n 1, 1) := by decide +kernel
theorem dX3_copyFrom_69 : decode cX3_copyFrom 69 = .ok (.getfield 24, 3) := by decide +kernel
theorem dX3_copyFrom_72 : decode cX3_copyFrom 72 = .ok (.aload_n 0, 1) := by decide +kernel
theorem dX3_copyFrom_73 : decode cX3_copyFrom 73 = .ok (.getfield 24, 3) := by decide +kernel
theorem dX3_copyFrom_76 : decode cX3_copyFrom 76 = .ok (.invokestatic 53, 3) := by decide +kernel
theorem dX3_copyFrom_79 : decode cX3_copyFrom 79 = .ok (.aload_n 1, 1) := by decide +kernel
theorem dX3_copyFrom_80 : decode cX3_copyFrom 80 = .ok (.getfield 27, 3) := by decide +kernel
theorem dX3_copyFrom_83 : decode cX3_copyFrom 83 = .ok (.aload_n 0, 1) := by decide +kernel
theorem dX3_copyFrom_84 : decode cX3_copyFrom 84 = .ok (.getfield 27, 3) := by decide +kernel
theorem dX3_copyFrom_87 : decode cX3_copyFrom 87 = .ok (.invokestatic 53, 3) := by decide +kernel
theorem dX3_copyFrom_90 : decode cX3_copyFrom 90 = .ok (.aload_n 1, 1) := by decide +kernel
theorem dX3_copyFrom_91 : decode cX3_copyFrom 91 = .ok (.getfield 30, 3) := by decide +kernel
theorem dX3_copyFrom_94 : decode cX3_copyFrom 94 = .ok (.aload_n 0, 1) := by decide +kernel
theorem dX3_copyFrom_95 : decode cX3_copyFrom 95 = .ok (.getfield 30, 3) := by decide +kernel
theorem dX3_copyFrom_98 : decode cX3_copyFrom 98 = .ok (.invokestatic 53, 3) := by decide +kernel
theorem dX3_copyFrom_101 : decode cX3_copyFrom 101 = .ok (.aload_n 1, 1) := by decide +kernel
theorem dX3_copyFrom_102 : decode cX3_copyFrom 102 = .ok (.getfield 33, 3) := by decide +kernel
theorem dX3_copyFrom_105 : decode cX3_copyFrom 105 = .ok (.aload_n 0, 1) := by decide +kernel
theorem dX3_copyFrom_106 : decode cX3_copyFrom 106 = .ok (.getfield 33, 3) := by decide +kernel
theorem dX3_copyFrom_109 : decode cX3_copyFrom 109 = .ok (.invokestatic 53, 3) := by decide +kernel
theorem dX3_copyFrom_112 : decode cX3_copyFrom 112 = .ok (.aload_n 1, 1) := by decide +kernel
theorem dX3_copyFrom_113 : decode cX3_copyFrom 113 = .ok (.getfield 36, 3) := by decide +kernel
theorem dX3_copyFrom_116 : decode cX3_copyFrom 116 = .ok (.aload_n 0, 1) := by decide +kernel
theorem dX3_copyFrom_117 : decode cX3_copyFrom 117 = .ok (.getfield 36, 3) := by decide +kernel
theorem dX3_copyFrom_120 : decode cX3_copyFrom 120 = .ok (.invokestatic 53, 3) := by decide +kernel
theorem dX3_copyFrom_123 : decode cX3_copyFrom 123 = .ok (.aload_n 1, 1) := by decide +kernel
theorem dX3_copyFrom_124 : decode cX3_copyFrom 124 = .ok (.getfield 39, 3) := by decide +kernel
theorem dX3_copyFrom_127 : decode cX3_copyFrom 127 = .ok (.aload_n 0, 1) := by decide +kernel
theorem dX3_copyFrom_128 : decode cX3_copyFrom 128 = .ok (.getfield 39, 3) := by decide +kernel
theorem dX3_copyFrom_131 : decode cX3_copyFrom 131 = .ok (.invokestatic 53, 3) := by decide +kernel
theorem dX3_copyFrom_134 : decode cX3_copyFrom 134 = .ok (.return_, 1) := by decide +kernel
theorem dX3_copyRow_0 : decode cX3_copyRow 0 = .ok (.iconst 0, 1) := by decide +kernel
theorem dX3_copyRow_1 : decode cX3_copyRow 1 = .ok (.istore_n 2, 1) := by decide +kernel
theorem dX3_copyRow_2 : decode cX3_copyRow 2 = .ok (.iload_n 2, 1) := by decide +kernel
theorem dX3_copyRow_3 : decode cX3_copyRow 3 = .ok (.aload_n 0, 1) := by decide +kernel
theorem dX3_copyRow_4 : decode cX3_copyRow 4 = .ok (.arraylength, 1) := by decide +kernel
theorem dX3_copyRow_5 : decode cX3_copyRow 5 = .ok (.if_icmp .ge 21, 3) := by decide +kernel
theorem dX3_copyRow_8 : decode cX3_copyRow 8 = .ok (.iload_n 2, 1) := by decide +kernel
theorem dX3_copyRow_9 : decode cX3_copyRow 9 = .ok (.aload_n 1, 1) := by decide +kernel
theorem dX3_copyRow_10 : decode cX3_copyRow 10 = .ok (.arraylength, 1) := by decide +kernel
theorem dX3_copyRow_11 : decode cX3_copyRow 11 = .ok (.if_icmp .ge 15, 3) := by decide +kernel
theorem dX3_copyRow_14 : decode cX3_copyRow 14 = .ok (.aload_n 1, 1) := by decide +kernel
theorem dX3_copyRow_15 : decode cX3_copyRow 15 = .ok (.iload_n 2, 1) := by decide +kernel
theorem dX3_copyRow_16 : decode cX3_copyRow 16 = .ok (.aload_n 0, 1) := by decide +kernel
theorem dX3_copyRow_17 : decode cX3_copyRow 17 = .ok (.iload_n 2, 1) := by decide +kernel
theorem dX3_copyRow_18 : decode cX3_copyRow 18 = .ok (.iaload, 1) := by decide +kernel
theorem dX3_copyRow_19 : decode cX3_copyRow 19 = .ok (.iastore, 1) := by decide +kernel
theorem dX3_copyRow_20 : decode cX3_copyRow 20 = .ok (.iinc 2 1, 3) := by decide +kernel
theorem dX3_copyRow_23 : decode cX3_copyRow 23 = .ok (.goto (-21), 3) := by decide +kernel
theorem dX3_copyRow_26 : decode cX3_copyRow 26 = .ok (.return_, 1) := by decide +kernel
theorem dX3_addSwitch_0 : decode cX3_addSwitch 0 = .ok (.aload_n 0, 1) := by decide +kernel
theorem dX3_addSwitch_1 : decode cX3_addSwitch 1 = .ok (.getfield 42, 3) := by decide +kernel
theorem dX3_addSwitch_4 : decode cX3_addSwitch 4 = .ok (.bipush 6, 2) := by decide +kernel
theorem dX3_addSwitch_6 : decode cX3_addSwitch 6 = .ok (.if_icmp .lt 4, 3) := by decide +kernel
theorem dX3_addSwitch_9 : decode cX3_addSwitch 9 = .ok (.return_, 1) := by decide +kernel
theorem dX3_addSwitch_10 : decode cX3_addSwitch 10 = .ok (.aload_n 0, 1) := by decide +kernel
theorem dX3_addSwitch_11 : decode cX3_addSwitch 11 = .ok (.getfield 9, 3) := by decide +kernel
theorem dX3_addSwitch_14 : decode cX3_addSwitch 14 = .ok (.aload_n 0, 1) := by decide +kernel
theorem dX3_addSwitch_15 : decode cX3_addSwitch 15 = .ok (.getfield 42, 3) := by decide +kernel
theorem dX3_addSwitch_18 : decode cX3_addSwitch 18 = .ok (.iload_n 1, 1) := by decide +kernel
theorem dX3_addSwitch_19 : decode cX3_addSwitch 19 = .ok (.iastore, 1) := by decide +kernel
theorem dX3_addSwitch_20 : decode cX3_addSwitch 20 = .ok (.aload_n 0, 1) := by decide +kernel
theorem dX3_addSwitch_21 : decode cX3_addSwitch 21 = .ok (.getfield 15, 3) := by decide +kernel
theorem dX3_addSwitch_24 : decode cX3_addSwitch 24 = .ok (.aload_n 0, 1) := by decide +kernel
theorem dX3_addSwitch_25 : decode cX3_addSwitch 25 = .ok (.getfield 42, 3) := by decide +kernel
theorem dX3_addSwitch_28 : decode cX3_addSwitch 28 = .ok (.iload_n 2, 1) := by decide +kernel
theorem dX3_addSwitch_29 : decode cX3_addSwitch 29 = .ok (.iastore, 1) := by decide +kernel
theorem dX3_addSwitch_30 : decode cX3_addSwitch 30 = .ok (.aload_n 0, 1) := by decide +kernel
theorem dX3_addSwitch_31 : decode cX3_addSwitch 31 = .ok (.getfield 18, 3) := by decide +kernel
theorem dX3_addSwitch_34 : decode cX3_addSwitch 34 = .ok (.aload_n 0, 1) := by decide +kernel
theorem dX3_addSwitch_35 : decode cX3_addSwitch 35 = .ok (.getfield 42, 3) := by decide +kernel
theorem dX3_addSwitch_38 : decode cX3_addSwitch 38 = .ok (.iload_n 3, 1) := by decide +kernel
theorem dX3_addSwitch_39 : decode cX3_addSwitch 39 = .ok (.iastore, 1) := by decide +kernel
theorem dX3_addSwitch_40 : decode cX3_addSwitch 40 = .ok (.aload_n 0, 1) := by decide +kernel
theorem dX3_addSwitch_41 : decode cX3_addSwitch 41 = .ok (.getfield 21, 3) := by decide +kernel
theorem dX3_addSwitch_44 : decode cX3_addSwitch 44 = .ok (.aload_n 0, 1) := by decide +kernel
theorem dX3_addSwitch_45 : decode cX3_addSwitch 45 = .ok (.getfield 42, 3) := by decide +kernel
theorem dX3_addSwitch_48 : decode cX3_addSwitch 48 = .ok (.iload_n 3, 1) := by decide +kernel
theorem dX3_addSwitch_49 : decode cX3_addSwitch 49 = .ok (.ifCond .ne 7, 3) := by decide +kernel
theorem dX3_addSwitch_52 : decode cX3_addSwitch 52 = .ok (.iconst 1, 1) := by decide +kernel
theorem dX3_addSwitch_53 : decode cX3_addSwitch 53 = .ok (.goto 4, 3) := by decide +kernel
theorem dX3_addSwitch_56 : decode cX3_addSwitch 56 = .ok (.iload_n 3, 1) := by decide +kernel
theorem dX3_addSwitch_57 : decode cX3_addSwitch 57 = .ok (.iastore, 1) := by decide +kernel
theorem dX3_addSwitch_58 : decode cX3_addSwitch 58 = .ok (.aload_n 0, 1) := by decide +kernel
theorem dX3_addSwitch_59 : decode cX3_addSwitch 59 = .ok (.getfield 24, 3) := by decide +kernel
theorem dX3_addSwitch_62 : decode cX3_addSwitch 62 = .ok (.aload_n 0, 1) := by decide +kernel
theorem dX3_addSwitch_63 : decode cX3_addSwitch 63 = .ok (.getfield 42, 3) := by decide +kernel
theorem dX3_addSwitch_66 : decode cX3_addSwitch 66 = .ok (.iconst 0, 1) := by decide +kernel
theorem dX3_addSwitch_67 : decode cX3_addSwitch 67 = .ok (.iastore, 1) := by decide +kernel
theorem dX3_addSwitch_68 : decode cX3_addSwitch 68 = .ok (.aload_n 0, 1) := by decide +kernel
theorem dX3_addSwitch_69 : decode cX3_addSwitch 69 = .ok (.getfield 27, 3) := by decide +kernel
theorem dX3_addSwitch_72 : decode cX3_addSwitch 72 = .ok (.aload_n 0, 1) := by decide +kernel
theorem dX3_addSwitch_73 : decode cX3_addSwitch 73 = .ok (.getfield 42, 3) := by decide +kernel
theorem dX3_addSwitch_76 : decode cX3_addSwitch 76 = .ok (.iconst 0, 1) := by decide +kernel
theorem dX3_addSwitch_77 : decode cX3_addSwitch 77 = .ok (.iastore, 1) := by decide +kernel
theorem dX3_addSwitch_78 : decode cX3_addSwitch 78 = .ok (.iconst 0, 1) := by decide +kernel
theorem dX3_addSwitch_79 : decode cX3_addSwitch 79 = .ok (.istore 4, 2) := by decide +kernel
theorem dX3_addSwitch_81 : decode cX3_addSwitch 81 = .ok (.iload 4, 2) := by decide +kernel
theorem dX3_addSwitch_83 : decode cX3_addSwitch 83 = .ok (.iconst 4, 1) := by decide +kernel
theorem dX3_addSwitch_84 : decode cX3_addSwitch 84 = .ok (.if_icmp .ge 24, 3) := by decide +kernel
theorem dX3_addSwitch_87 : decode cX3_addSwitch 87 = .ok (.aload_n 0, 1) := by decide +kernel
theorem dX3_addSwitch_88 : decode cX3_addSwitch 88 = .ok (.getfield 30, 3) := by decide +kernel
theorem dX3_addSwitch_91 : decode cX3_addSwitch 91 = .ok (.aload_n 0, 1) := by decide +kernel
theorem dX3_addSwitch_92 : decode cX3_addSwitch 92 = .ok (.getfield 42, 3) := by decide +kernel
theorem dX3_addSwitch_95 : decode cX3_addSwitch 95 = .ok (.iconst 4, 1) := by decide +kernel
theorem dX3_addSwitch_96 : decode cX3_addSwitch 96 = .ok (.imul, 1) := by decide +kernel
theorem dX3_addSwitch_97 : decode cX3_addSwitch 97 = .ok (.iload 4, 2) := by decide +kernel
theorem dX3_addSwitch_99 : decode cX3_addSwitch 99 = .ok (.iadd, 1) := by decide +kernel
theorem dX3_addSwitch_100 : decode cX3_addSwitch 100 = .ok (.iconst 0, 1) := by decide +kernel
theorem dX3_addSwitch_101 : decode cX3_addSwitch 101 = .ok (.iastore, 1) := by decide +kernel
theorem dX3_addSwitch_102 : decode cX3_addSwitch 102 = .ok (.iinc 4 1, 3) := by decide +kernel
theorem dX3_addSwitch_105 : decode cX3_addSwitch 105 = .ok (.goto (-24), 3) := by decide +kernel
theorem dX3_addSwitch_108 : decode cX3_addSwitch 108 = .ok (.aload_n 0, 1) := by decide +kernel
theorem dX3_addSwitch_109 : decode cX3_addSwitch 109 = .ok (.dup, 1) := by decide +kernel
theorem dX3_addSwitch_110 : decode cX3_addSwitch 110 = .ok (.getfield 42, 3) := by decide +kernel
theorem dX3_addSwitch_113 : decode cX3_addSwitch 113 = .ok (.iconst 1, 1) := by decide +kernel
theorem dX3_addSwitch_114 : decode cX3_addSwitch 114 = .ok (.iadd, 1) := by decide +kernel
theorem dX3_addSwitch_115 : decode cX3_addSwitch 115 = .ok (.putfield 42, 3) := by decide +kernel
theorem dX3_addSwitch_118 : decode cX3_addSwitch 118 = .ok (.return_, 1) := by decide +kernel
theorem dX3_addHost_0 : decode cX3_addHost 0 = .ok (.aload_n 0, 1) := by decide +kernel
theorem dX3_addHost_1 : decode cX3_addHost 1 = .ok (.getfield 46, 3) := by decide +kernel
theorem dX3_addHost_4 : decode cX3_addHost 4 = .ok (.bipush 8, 2) := by decide +kernel
theorem dX3_addHost_6 : decode cX3_addHost 6 = .ok (.if_icmp .lt 4, 3) := by decide +kernel
theorem dX3_addHost_9 : decode cX3_addHost 9 = .ok (.return_, 1) := by decide +kernel
theorem dX3_addHost_10 : decode cX3_addHost 10 = .ok (.aload_n 0, 1) := by decide +kernel
theorem dX3_addHost_11 : decode cX3_addHost 11 = .ok (.getfield 33, 3) := by decide +kernel
theorem dX3_addHost_14 : decode cX3_addHost 14 = .ok (.aload_n 0, 1) := by decide +kernel
theorem dX3_addHost_15 : decode cX3_addHost 15 = .ok (.getfield 46, 3) := by decide +kernel
theorem dX3_addHost_18 : decode cX3_addHost 18 = .ok (.iload_n 1, 1) := by decide +kernel
theorem dX3_addHost_19 : decode cX3_addHost 19 = .ok (.iastore, 1) := by decide +kernel
theorem dX3_addHost_20 : decode cX3_addHost 20 = .ok (.aload_n 0, 1) := by decide +kernel
theorem dX3_addHost_21 : decode cX3_addHost 21 = .ok (.getfield 36, 3) := by decide +kernel
theorem dX3_addHost_24 : decode cX3_addHost 24 = .ok (.aload_n 0, 1) := by decide +kernel
theorem dX3_addHost_25 : decode cX3_addHost 25 = .ok (.getfield 46, 3) := by decide +kernel
theorem dX3_addHost_28 : decode cX3_addHost 28 = .ok (.iconst 0, 1) := by decide +kernel
theorem dX3_addHost_29 : decode cX3_addHost 29 = .ok (.iastore, 1) := by decide +kernel
theorem dX3_addHost_30 : decode cX3_addHost 30 = .ok (.aload_n 0, 1) := by decide +kernel
theorem dX3_addHost_31 : decode cX3_addHost 31 = .ok (.getfield 39, 3) := by decide +kernel
theorem dX3_addHost_34 : decode cX3_addHost 34 = .ok (.aload_n 0, 1) := by decide +kernel
theorem dX3_addHost_35 : decode cX3_addHost 35 = .ok (.getfield 46, 3) := by decide +kernel
theorem dX3_addHost_38 : decode cX3_addHost 38 = .ok (.iconst 0, 1) := by decide +kernel
theorem dX3_addHost_39 : decode cX3_addHost 39 = .ok (.iastore, 1) := by decide +kernel
theorem dX3_addHost_40 : decode cX3_addHost 40 = .ok (.aload_n 0, 1) := by decide +kernel
theorem dX3_addHost_41 : decode cX3_addHost 41 = .ok (.dup, 1) := by decide +kernel
theorem dX3_addHost_42 : decode cX3_addHost 42 = .ok (.getfield 46, 3) := by decide +kernel
theorem dX3_addHost_45 : decode cX3_addHost 45 = .ok (.iconst 1, 1) := by decide +kernel
theorem dX3_addHost_46 : decode cX3_addHost 46 = .ok (.iadd, 1) := by decide +kernel
theorem dX3_addHost_47 : decode cX3_addHost 47 = .ok (.putfield 46, 3) := by decide +kernel
theorem dX3_addHost_50 : decode cX3_addHost 50 = .ok (.return_, 1) := by decide +kernel
theorem dX3_switchTotal_0 : decode cX3_switchTotal 0 = .ok (.aload_n 0, 1) := by decide +kernel
theorem dX3_switchTotal_1 : decode cX3_switchTotal 1 = .ok (.getfield 42, 3) := by decide +kernel
theorem dX3_switchTotal_4 : decode cX3_switchTotal 4 = .ok (.ireturn, 1) := by decide +kernel
theorem dX3_hostTotal_0 : decode cX3_hostTotal 0 = .ok (.aload_n 0, 1) := by decide +kernel
theorem dX3_hostTotal_1 : decode cX3_hostTotal 1 = .ok (.getfield 46, 3) := by decide +kernel
theorem dX3_hostTotal_4 : decode cX3_hostTotal 4 = .ok (.ireturn, 1) := by decide +kernel
theorem dX3_everyHost_0 : decode cX3_everyHost 0 = .ok (.iconst 1, 1) := by decide +kernel
theorem dX3_everyHost_1 : decode cX3_everyHost 1 = .ok (.aload_n 0, 1) := by decide +kernel
theorem dX3_everyHost_2 : decode cX3_everyHost 2 = .ok (.getfield 46, 3) := by decide +kernel
theorem dX3_everyHost_5 : decode cX3_everyHost 5 = .ok (.ishl, 1) := by decide +kernel
theorem dX3_everyHost_6 : decode cX3_everyHost 6 = .ok (.iconst 1, 1) := by decide +kernel
theorem dX3_everyHost_7 : decode cX3_everyHost 7 = .ok (.isub, 1) := by decide +kernel
theorem dX3_everyHost_8 : decode cX3_everyHost 8 = .ok (.ireturn, 1) := by decide +kernel
theorem dX3_hasSwitch_0 : decode cX3_hasSwitch 0 = .ok (.iload_n 1, 1) := by decide +kernel
theorem dX3_hasSwitch_1 : decode cX3_hasSwitch 1 = .ok (.ifCond .lt 15, 3) := by decide +kernel
theorem dX3_hasSwitch_4 : decode cX3_hasSwitch 4 = .ok (.iload_n 1, 1) := by decide +kernel
theorem dX3_hasSwitch_5 : decode cX3_hasSwitch 5 = .ok (.aload_n 0, 1) := by decide +kernel
theorem dX3_hasSwitch_6 : decode cX3_hasSwitch 6 = .ok (.getfield 42, 3) := by decide +kernel
theorem dX3_hasSwitch_9 : decode cX3_hasSwitch 9 = .ok (.if_icmp .ge 7, 3) := by decide +kernel
theorem dX3_hasSwitch_12 : decode cX3_hasSwitch 12 = .ok (.iconst 1, 1) := by decide +kernel
theorem dX3_hasSwitch_13 : decode cX3_hasSwitch 13 = .ok (.goto 4, 3) := by decide +kernel
theorem dX3_hasSwitch_16 : decode cX3_hasSwitch 16 = .ok (.iconst 0, 1) := by decide +kernel
theorem dX3_hasSwitch_17 : decode cX3_hasSwitch 17 = .ok (.ireturn, 1) := by decide +kernel
theorem dX3_hasTwo_0 : decode cX3_hasTwo 0 = .ok (.iload_n 1, 1) := by decide +kernel
theorem dX3_hasTwo_1 : decode cX3_hasTwo 1 = .ok (.iload_n 2, 1) := by decide +kernel
theorem dX3_hasTwo_2 : decode cX3_hasTwo 2 = .ok (.if_icmp .eq 23, 3) := by decide +kernel
theorem dX3_hasTwo_5 : decode cX3_hasTwo 5 = .ok (.aload_n 0, 1) := by decide +kernel
theorem dX3_hasTwo_6 : decode cX3_hasTwo 6 = .ok (.iload_n 1, 1) := by decide +kernel
theorem dX3_hasTwo_7 : decode cX3_hasTwo 7 = .ok (.invokevirtual 57, 3) := by decide +kernel
theorem dX3_hasTwo_10 : decode cX3_hasTwo 10 = .ok (.ifCond .eq 15, 3) := by decide +kernel
theorem dX3_hasTwo_13 : decode cX3_hasTwo 13 = .ok (.aload_n 0, 1) := by decide +kernel
theorem dX3_hasTwo_14 : decode cX3_hasTwo 14 = .ok (.iload_n 2, 1) := by decide +kernel
theorem dX3_hasTwo_15 : decode cX3_hasTwo 15 = .ok (.invokevirtual 57, 3) := by decide +kernel
theorem dX3_hasTwo_18 : decode cX3_hasTwo 18 = .ok (.ifCond .eq 7, 3) := by decide +kernel
theorem dX3_hasTwo_21 : decode cX3_hasTwo 21 = .ok (.iconst 1, 1) := by decide +kernel
theorem dX3_hasTwo_22 : decode cX3_hasTwo 22 = .ok (.goto 4, 3) := by decide +kernel
theorem dX3_hasTwo_25 : decode cX3_hasTwo 25 = .ok (.iconst 0, 1) := by decide +kernel
theorem dX3_hasTwo_26 : decode cX3_hasTwo 26 = .ok (.ireturn, 1) := by decide +kernel
theorem dX3_hasHost_0 : decode cX3_hasHost 0 = .ok (.iload_n 1, 1) := by decide +kernel
theorem dX3_hasHost_1 : decode cX3_hasHost 1 = .ok (.ifCond .lt 15, 3) := by decide +kernel
theorem dX3_hasHost_4 : decode cX3_hasHost 4 = .ok (.iload_n 1, 1) := by decide +kernel
theorem dX3_hasHost_5 : decode cX3_hasHost 5 = .ok (.aload_n 0, 1) := by decide +kernel
theorem dX3_hasHost_6 : decode cX3_hasHost 6 = .ok (.getfield 46, 3) := by decide +kernel
theorem dX3_hasHost_9 : decode cX3_hasHost 9 = .ok (.if_icmp .ge 7, 3) := by decide +kernel
theorem dX3_hasHost_12 : decode cX3_hasHost 12 = .ok (.iconst 1, 1) := by decide +kernel
theorem dX3_hasHost_13 : decode cX3_hasHost 13 = .ok (.goto 4, 3) := by decide +kernel
theorem dX3_hasHost_16 : decode cX3_hasHost 16 = .ok (.iconst 0, 1) := by decide +kernel
theorem dX3_hasHost_17 : decode cX3_hasHost 17 = .ok (.ireturn, 1) := by decide +kernel
theorem dX3_hasName_0 : decode cX3_hasName 0 = .ok (.iconst 0, 1) := by decide +kernel
theorem dX3_hasName_1 : decode cX3_hasName 1 = .ok (.istore_n 2, 1) := by decide +kernel
theorem dX3_hasName_2 : decode cX3_hasName 2 = .ok (.iload_n 2, 1) := by decide +kernel
theorem dX3_hasName_3 : decode cX3_hasName 3 = .ok (.aload_n 0, 1) := by decide +kernel
theorem dX3_hasName_4 : decode cX3_hasName 4 = .ok (.getfield 42, 3) := by decide +kernel
theorem dX3_hasName_7 : decode cX3_hasName 7 = .ok (.if_icmp .ge 21, 3) := by decide +kernel
theorem dX3_hasName_10 : decode cX3_hasName 10 = .ok (.aload_n 0, 1) := by decide +kernel
theorem dX3_hasName_11 : decode cX3_hasName 11 = .ok (.getfield 15, 3) := by decide +kernel
theorem dX3_hasName_14 : decode cX3_hasName 14 = .ok (.iload_n 2, 1) := by decide +kernel
theorem dX3_hasName_15 : decode cX3_hasName 15 = .ok (.iaload, 1) := by decide +kernel
theorem dX3_hasName_16 : decode cX3_hasName 16 = .ok (.iload_n 1, 1) := by decide +kernel
theorem dX3_hasName_17 : decode cX3_hasName 17 = .ok (.if_icmp .ne 5, 3) := by decide +kernel
theorem dX3_hasName_20 : decode cX3_hasName 20 = .ok (.iconst 1, 1) := by decide +kernel
theorem dX3_hasName_21 : decode cX3_hasName 21 = .ok (.ireturn, 1) := by decide +kernel
theorem dX3_hasName_22 : decode cX3_hasName 22 = .ok (.iinc 2 1, 3) := by decide +kernel
theorem dX3_hasName_25 : decode cX3_hasName 25 = .ok (.goto (-23), 3) := by decide +kernel
theorem dX3_hasName_28 : decode cX3_hasName 28 = .ok (.iconst 0, 1) := by decide +kernel
theorem dX3_hasName_29 : decode cX3_hasName 29 = .ok (.ireturn, 1) := by decide +kernel
theorem dX3_isRenewing_0 : decode cX3_isRenewing 0 = .ok (.aload_n 0, 1) := by decide +kernel
theorem dX3_isRenewing_1 : decode cX3_isRenewing 1 = .ok (.getfield 49, 3) := by decide +kernel
theorem dX3_isRenewing_4 : decode cX3_isRenewing 4 = .ok (.ireturn, 1) := by decide +kernel
theorem dX3_setRenewing_0 : decode cX3_setRenewing 0 = .ok (.aload_n 0, 1) := by decide +kernel
theorem dX3_setRenewing_1 : decode cX3_setRenewing 1 = .ok (.iload_n 1, 1) := by decide +kernel
theorem dX3_setRenewing_2 : decode cX3_setRenewing 2 = .ok (.putfield 49, 3) := by decide +kernel
theorem dX3_setRenewing_5 : decode cX3_setRenewing 5 = .ok (.return_, 1) := by decide +kernel
theorem dX3_priorityOf_0 : decode cX3_priorityOf 0 = .ok (.aload_n 0, 1) := by decide +kernel
theorem dX3_priorityOf_1 : decode cX3_priorityOf 1 = .ok (.iload_n 1, 1) := by decide +kernel
theorem dX3_priorityOf_2 : decode cX3_priorityOf 2 = .ok (.invokevirtual 57, 3) := by decide +kernel
theorem dX3_priorityOf_5 : decode cX3_priorityOf 5 = .ok (.ifCond .eq 12, 3) := by decide +kernel
theorem dX3_priorityOf_8 : decode cX3_priorityOf 8 = .ok (.aload_n 0, 1) := by decide +kernel
theorem dX3_priorityOf_9 : decode cX3_priorityOf 9 = .ok (.getfield 9, 3) := by decide +kernel
theorem dX3_priorityOf_12 : decode cX3_priorityOf 12 = .ok (.iload_n 1, 1) := by decide +kernel
theorem dX3_priorityOf_13 : decode cX3_priorityOf 13 = .ok (.iaload, 1) := by decide +kernel
theorem dX3_priorityOf_14 : decode cX3_priorityOf 14 = .ok (.goto 4, 3) := by decide +kernel
theorem dX3_priorityOf_17 : decode cX3_priorityOf 17 = .ok (.iconst (-1), 1) := by decide +kernel
theorem dX3_priorityOf_18 : decode cX3_priorityOf 18 = .ok (.ireturn, 1) := by decide +kernel
theorem dX3_setPriority_0 : decode cX3_setPriority 0 = .ok (.aload_n 0, 1) := by decide +kernel
theorem dX3_setPriority_1 : decode cX3_setPriority 1 = .ok (.iload_n 1, 1) := by decide +kernel
theorem dX3_setPriority_2 : decode cX3_setPriority 2 = .ok (.invokevirtual 57, 3) := by decide +kernel
theorem dX3_setPriority_5 : decode cX3_setPriority 5 = .ok (.ifCond .eq 10, 3) := by decide +kernel
theorem dX3_setPriority_8 : decode cX3_setPriority 8 = .ok (.aload_n 0, 1) := by decide +kernel
theorem dX3_setPriority_9 : decode cX3_setPriority 9 = .ok (.getfield 9, 3) := by decide +kernel
theorem dX3_setPriority_12 : decode cX3_setPriority 12 = .ok (.iload_n 1, 1) := by decide +kernel
theorem dX3_setPriority_13 : decode cX3_setPriority 13 = .ok (.iload_n 2, 1) := by decide +kernel
theorem dX3_setPriority_14 : decode cX3_setPriority 14 = .ok (.iastore, 1) := by decide +kernel
theorem dX3_setPriority_15 : decode cX3_setPriority 15 = .ok (.return_, 1) := by decide +kernel
theorem dX3_nameOf_0 : decode cX3_nameOf 0 = .ok (.aload_n 0, 1) := by decide +kernel
theorem dX3_nameOf_1 : decode cX3_nameOf 1 = .ok (.iload_n 1, 1) := by decide +kernel
theorem dX3_nameOf_2 : decode cX3_nameOf 2 = .ok (.invokevirtual 57, 3) := by decide +kernel
theorem dX3_nameOf_5 : decode cX3_nameOf 5 = .ok (.ifCond .eq 12, 3) := by decide +kernel
theorem dX3_nameOf_8 : decode cX3_nameOf 8 = .ok (.aload_n 0, 1) := by decide +kernel
theorem dX3_nameOf_9 : decode cX3_nameOf 9 = .ok (.getfield 15, 3) := by decide +kernel
theorem dX3_nameOf_12 : decode cX3_nameOf 12 = .ok (.iload_n 1, 1) := by decide +kernel
theorem dX3_nameOf_13 : decode cX3_nameOf 13 = .ok (.iaload, 1) := by decide +kernel
theorem dX3_nameOf_14 : decode cX3_nameOf 14 = .ok (.goto 4, 3) := by decide +kernel
theorem dX3_nameOf_17 : decode cX3_nameOf 17 = .ok (.iconst (-1), 1) := by decide +kernel
theorem dX3_nameOf_18 : decode cX3_nameOf 18 = .ok (.ireturn, 1) := by decide +kernel
theorem dX3_wantOf_0 : decode cX3_wantOf 0 = .ok (.aload_n 0, 1) := by decide +kernel
theorem dX3_wantOf_1 : decode cX3_wantOf 1 = .ok (.iload_n 1, 1) := by decide +kernel
theorem dX3_wantOf_2 : decode cX3_wantOf 2 = .ok (.invokevirtual 57, 3) := by decide +kernel
theorem dX3_wantOf_5 : decode cX3_wantOf 5 = .ok (.ifCond .eq 12, 3) := by decide +kernel
theorem dX3_wantOf_8 : decode cX3_wantOf 8 = .ok (.aload_n 0, 1) := by decide +kernel
theorem dX3_wantOf_9 : decode cX3_wantOf 9 = .ok (.getfield 18, 3) := by decide +kernel
theorem dX3_wantOf_12 : decode cX3_wantOf 12 = .ok (.iload_n 1, 1) := by decide +kernel
theorem dX3_wantOf_13 : decode cX3_wantOf 13 = .ok (.iaload, 1) := by decide +kernel
theorem dX3_wantOf_14 : decode cX3_wantOf 14 = .ok (.goto 4, 3) := by decide +kernel
theorem dX3_wantOf_17 : decode cX3_wantOf 17 = .ok (.iconst (-1), 1) := by decide +kernel
theorem dX3_wantOf_18 : decode cX3_wantOf 18 = .ok (.ireturn, 1) := by decide +kernel
theorem dX3_blockOf_0 : decode cX3_blockOf 0 = .ok (.aload_n 0, 1) := by decide +kernel
theorem dX3_blockOf_1 : decode cX3_blockOf 1 = .ok (.iload_n 1, 1) := by decide +kernel
theorem dX3_blockOf_2 : decode cX3_blockOf 2 = .ok (.invokevirtual 57, 3) := by decide +kernel
theorem dX3_blockOf_5 : decode cX3_blockOf 5 = .ok (.ifCond .eq 12, 3) := by decide +kernel
theorem dX3_blockOf_8 : decode cX3_blockOf 8 = .ok (.aload_n 0, 1) := by decide +kernel
theorem dX3_blockOf_9 : decode cX3_blockOf 9 = .ok (.getfield 21, 3) := by decide +kernel
theorem dX3_blockOf_12 : decode cX3_blockOf 12 = .ok (.iload_n 1, 1) := by decide +kernel
theorem dX3_blockOf_13 : decode cX3_blockOf 13 = .ok (.iaload, 1) := by decide +kernel
theorem dX3_blockOf_14 : decode cX3_blockOf 14 = .ok (.goto 4, 3) := by decide +kernel
theorem dX3_blockOf_17 : decode cX3_blockOf 17 = .ok (.iconst (-1), 1) := by decide +kernel
theorem dX3_blockOf_18 : decode cX3_blockOf 18 = .ok (.ireturn, 1) := by decide +kernel
theorem dX3_placeOf_0 : decode cX3_placeOf 0 = .ok (.aload_n 0, 1) := by decide +kernel
theorem dX3_placeOf_1 : decode cX3_placeOf 1 = .ok (.iload_n 1, 1) := by decide +kernel
theorem dX3_placeOf_2 : decode cX3_placeOf 2 = .ok (.invokevirtual 61, 3) := by decide +kernel
theorem dX3_placeOf_5 : decode cX3_placeOf 5 = .ok (.ifCond .eq 12, 3) := by decide +kernel
theorem dX3_placeOf_8 : decode cX3_placeOf 8 = .ok (.aload_n 0, 1) := by decide +kernel
theorem dX3_placeOf_9 : decode cX3_placeOf 9 = .ok (.getfield 33, 3) := by decide +kernel
theorem dX3_placeOf_12 : decode cX3_placeOf 12 = .ok (.iload_n 1, 1) := by decide +kernel
theorem dX3_placeOf_13 : decode cX3_placeOf 13 = .ok (.iaload, 1) := by decide +kernel
theorem dX3_placeOf_14 : decode cX3_placeOf 14 = .ok (.goto 5, 3) := by decide +kernel
theorem dX3_placeOf_17 : decode cX3_placeOf 17 = .ok (.bipush (-9), 2) := by decide +kernel
theorem dX3_placeOf_19 : decode cX3_placeOf 19 = .ok (.ireturn, 1) := by decide +kernel
theorem dX3_setPlace_0 : decode cX3_setPlace 0 = .ok (.aload_n 0, 1) := by decide +kernel
theorem dX3_setPlace_1 : decode cX3_setPlace 1 = .ok (.iload_n 1, 1) := by decide +kernel
theorem dX3_setPlace_2 : decode cX3_setPlace 2 = .ok (.invokevirtual 61, 3) := by decide +kernel
theorem dX3_setPlace_5 : decode cX3_setPlace 5 = .ok (.ifCond .eq 10, 3) := by decide +kernel
theorem dX3_setPlace_8 : decode cX3_setPlace 8 = .ok (.aload_n 0, 1) := by decide +kernel
theorem dX3_setPlace_9 : decode cX3_setPlace 9 = .ok (.getfield 33, 3) := by decide +kernel
theorem dX3_setPlace_12 : decode cX3_setPlace 12 = .ok (.iload_n 1, 1) := by decide +kernel
theorem dX3_setPlace_13 : decode cX3_setPlace 13 = .ok (.iload_n 2, 1) := by decide +kernel
theorem dX3_setPlace_14 : decode cX3_setPlace 14 = .ok (.iastore, 1) := by decide +kernel
theorem dX3_setPlace_15 : decode cX3_setPlace 15 = .ok (.return_, 1) := by decide +kernel
theorem dX3_noticesOf_0 : decode cX3_noticesOf 0 = .ok (.aload_n 0, 1) := by decide +kernel
theorem dX3_noticesOf_1 : decode cX3_noticesOf 1 = .ok (.iload_n 1, 1) := by decide +kernel
theorem dX3_noticesOf_2 : decode cX3_noticesOf 2 = .ok (.invokevirtual 61, 3) := by decide +kernel
theorem dX3_noticesOf_5 : decode cX3_noticesOf 5 = .ok (.ifCond .eq 12, 3) := by decide +kernel
theorem dX3_noticesOf_8 : decode cX3_noticesOf 8 = .ok (.aload_n 0, 1) := by decide +kernel
theorem dX3_noticesOf_9 : decode cX3_noticesOf 9 = .ok (.getfield 36, 3) := by decide +kernel
theorem dX3_noticesOf_12 : decode cX3_noticesOf 12 = .ok (.iload_n 1, 1) := by decide +kernel
theorem dX3_noticesOf_13 : decode cX3_noticesOf 13 = .ok (.iaload, 1) := by decide +kernel
theorem dX3_noticesOf_14 : decode cX3_noticesOf 14 = .ok (.goto 4, 3) := by decide +kernel
theorem dX3_noticesOf_17 : decode cX3_noticesOf 17 = .ok (.iconst (-1), 1) := by decide +kernel
theorem dX3_noticesOf_18 : decode cX3_noticesOf 18 = .ok (.ireturn, 1) := by decide +kernel
theorem dX3_newsOf_0 : decode cX3_newsOf 0 = .ok (.aload_n 0, 1) := by decide +kernel
theorem dX3_newsOf_1 : decode cX3_newsOf 1 = .ok (.iload_n 1, 1) := by decide +kernel
theorem dX3_newsOf_2 : decode cX3_newsOf 2 = .ok (.invokevirtual 61, 3) := by decide +kernel
theorem dX3_newsOf_5 : decode cX3_newsOf 5 = .ok (.ifCond .eq 12, 3) := by decide +kernel
theorem dX3_newsOf_8 : decode cX3_newsOf 8 = .ok (.aload_n 0, 1) := by decide +kernel
theorem dX3_newsOf_9 : decode cX3_newsOf 9 = .ok (.getfield 39, 3) := by decide +kernel
theorem dX3_newsOf_12 : decode cX3_newsOf 12 = .ok (.iload_n 1, 1) := by decide +kernel
theorem dX3_newsOf_13 : decode cX3_newsOf 13 = .ok (.iaload, 1) := by decide +kernel
theorem dX3_newsOf_14 : decode cX3_newsOf 14 = .ok (.goto 4, 3) := by decide +kernel
theorem dX3_newsOf_17 : decode cX3_newsOf 17 = .ok (.iconst (-1), 1) := by decide +kernel
theorem dX3_newsOf_18 : decode cX3_newsOf 18 = .ok (.ireturn, 1) := by decide +kernel
theorem dX3_noticeTotal_0 : decode cX3_noticeTotal 0 = .ok (.iconst 0, 1) := by decide +kernel
theorem dX3_noticeTotal_1 : decode cX3_noticeTotal 1 = .ok (.istore_n 1, 1) := by decide +kernel
theorem dX3_noticeTotal_2 : decode cX3_noticeTotal 2 = .ok (.iconst 0, 1) := by decide +kernel
theorem dX3_noticeTotal_3 : decode cX3_noticeTotal 3 = .ok (.istore_n 2, 1) := by decide +kernel
theorem dX3_noticeTotal_4 : decode cX3_noticeTotal 4 = .ok (.iload_n 2, 1) := by decide +kernel
theorem dX3_noticeTotal_5 : decode cX3_noticeTotal 5 = .ok (.aload_n 0, 1) := by decide +kernel
theorem dX3_noticeTotal_6 : decode cX3_noticeTotal 6 = .ok (.getfield 46, 3) := by decide +kernel
theorem dX3_noticeTotal_9 : decode cX3_noticeTotal 9 = .ok (.if_icmp .ge 18, 3) := by decide +kernel
theorem dX3_noticeTotal_12 : decode cX3_noticeTotal 12 = .ok (.iload_n 1, 1) := by decide +kernel
theorem dX3_noticeTotal_13 : decode cX3_noticeTotal 13 = .ok (.aload_n 0, 1) := by decide +kernel
theorem dX3_noticeTotal_14 : decode cX3_noticeTotal 14 = .ok (.getfield 36, 3) := by decide +kernel
theorem dX3_noticeTotal_17 : decode cX3_noticeTotal 17 = .ok (.iload_n 2, 1) := by decide +kernel
theorem dX3_noticeTotal_18 : decode cX3_noticeTotal 18 = .ok (.iaload, 1) := by decide +kernel
theorem dX3_noticeTotal_19 : decode cX3_noticeTotal 19 = .ok (.iadd, 1) := by decide +kernel
theorem dX3_noticeTotal_20 : decode cX3_noticeTotal 20 = .ok (.istore_n 1, 1) := by decide +kernel
theorem dX3_noticeTotal_21 : decode cX3_noticeTotal 21 = .ok (.iinc 2 1, 3) := by decide +kernel
theorem dX3_noticeTotal_24 : decode cX3_noticeTotal 24 = .ok (.goto (-20), 3) := by decide +kernel
theorem dX3_noticeTotal_27 : decode cX3_noticeTotal 27 = .ok (.iload_n 1, 1) := by decide +kernel
theorem dX3_noticeTotal_28 : decode cX3_noticeTotal 28 = .ok (.ireturn, 1) := by decide +kernel
theorem dX3_isUp_0 : decode cX3_isUp 0 = .ok (.aload_n 0, 1) := by decide +kernel
theorem dX3_isUp_1 : decode cX3_isUp 1 = .ok (.iload_n 1, 1) := by decide +kernel
theorem dX3_isUp_2 : decode cX3_isUp 2 = .ok (.iload_n 2, 1) := by decide +kernel
theorem dX3_isUp_3 : decode cX3_isUp 3 = .ok (.invokevirtual 64, 3) := by decide +kernel
theorem dX3_isUp_6 : decode cX3_isUp 6 = .ok (.iconst 1, 1) := by decide +kernel
theorem dX3_isUp_7 : decode cX3_isUp 7 = .ok (.if_icmp .ne 7, 3) := by decide +kernel
theorem dX3_isUp_10 : decode cX3_isUp 10 = .ok (.iconst 1, 1) := by decide +kernel
theorem dX3_isUp_11 : decode cX3_isUp 11 = .ok (.goto 4, 3) := by decide +kernel
theorem dX3_isUp_14 : decode cX3_isUp 14 = .ok (.iconst 0, 1) := by decide +kernel
theorem dX3_isUp_15 : decode cX3_isUp 15 = .ok (.ireturn, 1) := by decide +kernel
theorem dX3_linkState_0 : decode cX3_linkState 0 = .ok (.aload_n 0, 1) := by decide +kernel
theorem dX3_linkState_1 : decode cX3_linkState 1 = .ok (.iload_n 1, 1) := by decide +kernel
theorem dX3_linkState_2 : decode cX3_linkState 2 = .ok (.iload_n 2, 1) := by decide +kernel
theorem dX3_linkState_3 : decode cX3_linkState 3 = .ok (.invokevirtual 68, 3) := by decide +kernel
theorem dX3_linkState_6 : decode cX3_linkState 6 = .ok (.ifCond .ne 5, 3) := by decide +kernel
theorem dX3_linkState_9 : decode cX3_linkState 9 = .ok (.iconst 0, 1) := by decide +kernel
theorem dX3_linkState_10 : decode cX3_linkState 10 = .ok (.ireturn, 1) := by decide +kernel
theorem dX3_linkState_11 : decode cX3_linkState 11 = .ok (.aload_n 0, 1) := by decide +kernel
theorem dX3_linkState_12 : decode cX3_linkState 12 = .ok (.getfield 24, 3) := by decide +kernel
theorem dX3_linkState_15 : decode cX3_linkState 15 = .ok (.iload_n 1, 1) := by decide +kernel
theorem dX3_linkState_16 : decode cX3_linkState 16 = .ok (.iaload, 1) := by decide +kernel
theorem dX3_linkState_17 : decode cX3_linkState 17 = .ok (.iload_n 2, 1) := by decide +kernel
theorem dX3_linkState_18 : decode cX3_linkState 18 = .ok (.invokestatic 72, 3) := by decide +kernel
theorem dX3_linkState_21 : decode cX3_linkState 21 = .ok (.ifCond .eq 5, 3) := by decide +kernel
theorem dX3_linkState_24 : decode cX3_linkState 24 = .ok (.iconst 1, 1) := by decide +kernel
theorem dX3_linkState_25 : decode cX3_linkState 25 = .ok (.ireturn, 1) := by decide +kernel
theorem dX3_linkState_26 : decode cX3_linkState 26 = .ok (.aload_n 0, 1) := by decide +kernel
theorem dX3_linkState_27 : decode cX3_linkState 27 = .ok (.getfield 27, 3) := by decide +kernel
theorem dX3_linkState_30 : decode cX3_linkState 30 = .ok (.iload_n 1, 1) := by decide +kernel
theorem dX3_linkState_31 : decode cX3_linkState 31 = .ok (.iaload, 1) := by decide +kernel
theorem dX3_linkState_32 : decode cX3_linkState 32 = .ok (.iload_n 2, 1) := by decide +kernel
theorem dX3_linkState_33 : decode cX3_linkState 33 = .ok (.invokestatic 72, 3) := by decide +kernel
theorem dX3_linkState_36 : decode cX3_linkState 36 = .ok (.ifCond .eq 7, 3) := by decide +kernel
theorem dX3_linkState_39 : decode cX3_linkState 39 = .ok (.iconst 2, 1) := by decide +kernel
theorem dX3_linkState_40 : decode cX3_linkState 40 = .ok (.goto 4, 3) := by decide +kernel
theorem dX3_linkState_43 : decode cX3_linkState 43 = .ok (.iconst 0, 1) := by decide +kernel
theorem dX3_linkState_44 : decode cX3_linkState 44 = .ok (.ireturn, 1) := by decide +kernel
theorem dX3_setLink_0 : decode cX3_setLink 0 = .ok (.aload_n 0, 1) := by decide +kernel
theorem dX3_setLink_1 : decode cX3_setLink 1 = .ok (.iload_n 1, 1) := by decide +kernel
theorem dX3_setLink_2 : decode cX3_setLink 2 = .ok (.iload_n 2, 1) := by decide +kernel
theorem dX3_setLink_3 : decode cX3_setLink 3 = .ok (.invokevirtual 68, 3) := by decide +kernel
theorem dX3_setLink_6 : decode cX3_setLink 6 = .ok (.ifCond .ne 4, 3) := by decide +kernel
theorem dX3_setLink_9 : decode cX3_setLink 9 = .ok (.return_, 1) := by decide +kernel
theorem dX3_setLink_10 : decode cX3_setLink 10 = .ok (.aload_n 0, 1) := by decide +kernel
theorem dX3_setLink_11 : decode cX3_setLink 11 = .ok (.iload_n 1, 1) := by decide +kernel
theorem dX3_setLink_12 : decode cX3_setLink 12 = .ok (.iconst 1, 1) := by decide +kernel
theorem dX3_setLink_13 : decode cX3_setLink 13 = .ok (.iload_n 2, 1) := by decide +kernel
theorem dX3_setLink_14 : decode cX3_setLink 14 = .ok (.ishl, 1) := by decide +kernel
theorem dX3_setLink_15 : decode cX3_setLink 15 = .ok (.iload_n 3, 1) := by decide +kernel
theorem dX3_setLink_16 : decode cX3_setLink 16 = .ok (.invokevirtual 75, 3) := by decide +kernel
theorem dX3_setLink_19 : decode cX3_setLink 19 = .ok (.aload_n 0, 1) := by decide +kernel
theorem dX3_setLink_20 : decode cX3_setLink 20 = .ok (.iload_n 2, 1) := by decide +kernel
theorem dX3_setLink_21 : decode cX3_setLink 21 = .ok (.iconst 1, 1) := by decide +kernel
theorem dX3_setLink_22 : decode cX3_setLink 22 = .ok (.iload_n 1, 1) := by decide +kernel
theorem dX3_setLink_23 : decode cX3_setLink 23 = .ok (.ishl, 1) := by decide +kernel
theorem dX3_setLink_24 : decode cX3_setLink 24 = .ok (.iload_n 3, 1) := by decide +kernel
theorem dX3_setLink_25 : decode cX3_setLink 25 = .ok (.invokevirtual 75, 3) := by decide +kernel
theorem dX3_setLink_28 : decode cX3_setLink 28 = .ok (.return_, 1) := by decide +kernel
theorem dX3_setEnd_0 : decode cX3_setEnd 0 = .ok (.aload_n 0, 1) := by decide +kernel
theorem dX3_setEnd_1 : decode cX3_setEnd 1 = .ok (.getfield 24, 3) := by decide +kernel
theorem dX3_setEnd_4 : decode cX3_setEnd 4 = .ok (.iload_n 1, 1) := by decide +kernel
theorem dX3_setEnd_5 : decode cX3_setEnd 5 = .ok (.iload_n 3, 1) := by decide +kernel
theorem dX3_setEnd_6 : decode cX3_setEnd 6 = .ok (.iconst 1, 1) := by decide +kernel
theorem dX3_setEnd_7 : decode cX3_setEnd 7 = .ok (.if_icmp .ne 14, 3) := by decide +kernel
theorem dX3_setEnd_10 : decode cX3_setEnd 10 = .ok (.aload_n 0, 1) := by decide +kernel
theorem dX3_setEnd_11 : decode cX3_setEnd 11 = .ok (.getfield 24, 3) := by decide +kernel
theorem dX3_setEnd_14 : decode cX3_setEnd 14 = .ok (.iload_n 1, 1) := by decide +kernel
theorem dX3_setEnd_15 : decode cX3_setEnd 15 = .ok (.iaload, 1) := by decide +kernel
theorem dX3_setEnd_16 : decode cX3_setEnd 16 = .ok (.iload_n 2, 1) := by decide +kernel
theorem dX3_setEnd_17 : decode cX3_setEnd 17 = .ok (.ior, 1) := by decide +kernel
theorem dX3_setEnd_18 : decode cX3_setEnd 18 = .ok (.goto 13, 3) := by decide +kernel
theorem dX3_setEnd_21 : decode cX3_setEnd 21 = .ok (.aload_n 0, 1) := by decide +kernel
theorem dX3_setEnd_22 : decode cX3_setEnd 22 = .ok (.getfield 24, 3) := by decide +kernel
theorem dX3_setEnd_25 : decode cX3_setEnd 25 = .ok (.iload_n 1, 1) := by decide +kernel
theorem dX3_setEnd_26 : decode cX3_setEnd 26 = .ok (.iaload, 1) := by decide +kernel
theorem dX3_setEnd_27 : decode cX3_setEnd 27 = .ok (.iload_n 2, 1) := by decide +kernel
theorem dX3_setEnd_28 : decode cX3_setEnd 28 = .ok (.iconst (-1), 1) := by decide +kernel
theorem dX3_setEnd_29 : decode cX3_setEnd 29 = .ok (.ixor, 1) := by decide +kernel
theorem dX3_setEnd_30 : decode cX3_setEnd 30 = .ok (.iand, 1) := by decide +kernel
theorem dX3_setEnd_31 : decode cX3_setEnd 31 = .ok (.iastore, 1) := by decide +kernel
theorem dX3_setEnd_32 : decode cX3_setEnd 32 = .ok (.aload_n 0, 1) := by decide +kernel
theorem dX3_setEnd_33 : decode cX3_setEnd 33 = .ok (.getfield 27, 3) := by decide +kernel
theorem dX3_setEnd_36 : decode cX3_setEnd 36 = .ok (.iload_n 1, 1) := by decide +kernel
theorem dX3_setEnd_37 : decode cX3_setEnd 37 = .ok (.iload_n 3, 1) := by decide +kernel
theorem dX3_setEnd_38 : decode cX3_setEnd 38 = .ok (.iconst 2, 1) := by decide +kernel
theorem dX3_setEnd_39 : decode cX3_setEnd 39 = .ok (.if_icmp .ne 14, 3) := by decide +kernel
theorem dX3_setEnd_42 : decode cX3_setEnd 42 = .ok (.aload_n 0, 1) := by decide +kernel
theorem dX3_setEnd_43 : decode cX3_setEnd 43 = .ok (.getfield 27, 3) := by decide +kernel
theorem dX3_setEnd_46 : decode cX3_setEnd 46 = .ok (.iload_n 1, 1) := by decide +kernel
theorem dX3_setEnd_47 : decode cX3_setEnd 47 = .ok (.iaload, 1) := by decide +kernel
theorem dX3_setEnd_48 : decode cX3_setEnd 48 = .ok (.iload_n 2, 1) := by decide +kernel
theorem dX3_setEnd_49 : decode cX3_setEnd 49 = .ok (.ior, 1) := by decide +kernel
theorem dX3_setEnd_50 : decode cX3_setEnd 50 = .ok (.goto 13, 3) := by decide +kernel
theorem dX3_setEnd_53 : decode cX3_setEnd 53 = .ok (.aload_n 0, 1) := by decide +kernel
theorem dX3_setEnd_54 : decode cX3_setEnd 54 = .ok (.getfield 27, 3) := by decide +kernel
theorem dX3_setEnd_57 : decode cX3_setEnd 57 = .ok (.iload_n 1, 1) := by decide +kernel
theorem dX3_setEnd_58 : decode cX3_setEnd 58 = .ok (.iaload, 1) := by decide +kernel
theorem dX3_setEnd_59 : decode cX3_setEnd 59 = .ok (.iload_n 2, 1) := by decide +kernel
theorem dX3_setEnd_60 : decode cX3_setEnd 60 = .ok (.iconst (-1), 1) := by decide +kernel
theorem dX3_setEnd_61 : decode cX3_setEnd 61 = .ok (.ixor, 1) := by decide +kernel
theorem dX3_setEnd_62 : decode cX3_setEnd 62 = .ok (.iand, 1) := by decide +kernel
theorem dX3_setEnd_63 : decode cX3_setEnd 63 = .ok (.iastore, 1) := by decide +kernel
theorem dX3_setEnd_64 : decode cX3_setEnd 64 = .ok (.return_, 1) := by decide +kernel
theorem dX3_linkTotal_0 : decode cX3_linkTotal 0 = .ok (.iconst 0, 1) := by decide +kernel
theorem dX3_linkTotal_1 : decode cX3_linkTotal 1 = .ok (.istore_n 2, 1) := by decide +kernel
theorem dX3_linkTotal_2 : decode cX3_linkTotal 2 = .ok (.iconst 0, 1) := by decide +kernel
theorem dX3_linkTotal_3 : decode cX3_linkTotal 3 = .ok (.istore_n 3, 1) := by decide +kernel
theorem dX3_linkTotal_4 : decode cX3_linkTotal 4 = .ok (.iload_n 3, 1) := by decide +kernel
theorem dX3_linkTotal_5 : decode cX3_linkTotal 5 = .ok (.aload_n 0, 1) := by decide +kernel
theorem dX3_linkTotal_6 : decode cX3_linkTotal 6 = .ok (.getfield 42, 3) := by decide +kernel
theorem dX3_linkTotal_9 : decode cX3_linkTotal 9 = .ok (.if_icmp .ge 35, 3) := by decide +kernel
theorem dX3_linkTotal_12 : decode cX3_linkTotal 12 = .ok (.iload_n 2, 1) := by decide +kernel
theorem dX3_linkTotal_13 : decode cX3_linkTotal 13 = .ok (.iload_n 1, 1) := by decide +kernel
theorem dX3_linkTotal_14 : decode cX3_linkTotal 14 = .ok (.iconst 1, 1) := by decide +kernel
theorem dX3_linkTotal_15 : decode cX3_linkTotal 15 = .ok (.if_icmp .ne 12, 3) := by decide +kernel
theorem dX3_linkTotal_18 : decode cX3_linkTotal 18 = .ok (.aload_n 0, 1) := by decide +kernel
theorem dX3_linkTotal_19 : decode cX3_linkTotal 19 = .ok (.getfield 24, 3) := by decide +kernel
theorem dX3_linkTotal_22 : decode cX3_linkTotal 22 = .ok (.iload_n 3, 1) := by decide +kernel
theorem dX3_linkTotal_23 : decode cX3_linkTotal 23 = .ok (.iaload, 1) := by decide +kernel
theorem dX3_linkTotal_24 : decode cX3_linkTotal 24 = .ok (.goto 9, 3) := by decide +kernel
theorem dX3_linkTotal_27 : decode cX3_linkTotal 27 = .ok (.aload_n 0, 1) := by decide +kernel
theorem dX3_linkTotal_28 : decode cX3_linkTotal 28 = .ok (.getfield 27, 3) := by decide +kernel
theorem dX3_linkTotal_31 : decode cX3_linkTotal 31 = .ok (.iload_n 3, 1) := by decide +kernel
theorem dX3_linkTotal_32 : decode cX3_linkTotal 32 = .ok (.iaload, 1) := by decide +kernel
theorem dX3_linkTotal_33 : decode cX3_linkTotal 33 = .ok (.invokestatic 79, 3) := by decide +kernel
theorem dX3_linkTotal_36 : decode cX3_linkTotal 36 = .ok (.iadd, 1) := by decide +kernel
theorem dX3_linkTotal_37 : decode cX3_linkTotal 37 = .ok (.istore_n 2, 1) := by decide +kernel
theorem dX3_linkTotal_38 : decode cX3_linkTotal 38 = .ok (.iinc 3 1, 3) := by decide +kernel
theorem dX3_linkTotal_41 : decode cX3_linkTotal 41 = .ok (.goto (-37), 3) := by decide +kernel
theorem dX3_linkTotal_44 : decode cX3_linkTotal 44 = .ok (.iload_n 2, 1) := by decide +kernel
theorem dX3_linkTotal_45 : decode cX3_linkTotal 45 = .ok (.iconst 2, 1) := by decide +kernel
theorem dX3_linkTotal_46 : decode cX3_linkTotal 46 = .ok (.idiv, 1) := by decide +kernel
theorem dX3_linkTotal_47 : decode cX3_linkTotal 47 = .ok (.ireturn, 1) := by decide +kernel
theorem dX3_spread_0 : decode cX3_spread 0 = .ok (.iload_n 1, 1) := by decide +kernel
theorem dX3_spread_1 : decode cX3_spread 1 = .ok (.istore_n 2, 1) := by decide +kernel
theorem dX3_spread_2 : decode cX3_spread 2 = .ok (.iconst 0, 1) := by decide +kernel
theorem dX3_spread_3 : decode cX3_spread 3 = .ok (.istore_n 3, 1) := by decide +kernel
theorem dX3_spread_4 : decode cX3_spread 4 = .ok (.iload_n 3, 1) := by decide +kernel
theorem dX3_spread_5 : decode cX3_spread 5 = .ok (.aload_n 0, 1) := by decide +kernel
theorem dX3_spread_6 : decode cX3_spread 6 = .ok (.getfield 42, 3) := by decide +kernel
theorem dX3_spread_9 : decode cX3_spread 9 = .ok (.if_icmp .ge 26, 3) := by decide +kernel
theorem dX3_spread_12 : decode cX3_spread 12 = .ok (.iload_n 1, 1) := by decide +kernel
theorem dX3_spread_13 : decode cX3_spread 13 = .ok (.iload_n 3, 1) := by decide +kernel
theorem dX3_spread_14 : decode cX3_spread 14 = .ok (.invokestatic 72, 3) := by decide +kernel
theorem dX3_spread_17 : decode cX3_spread 17 = .ok (.ifCond .eq 12, 3) := by decide +kernel
theorem dX3_spread_20 : decode cX3_spread 20 = .ok (.iload_n 2, 1) := by decide +kernel
theorem dX3_spread_21 : decode cX3_spread 21 = .ok (.aload_n 0, 1) := by decide +kernel
theorem dX3_spread_22 : decode cX3_spread 22 = .ok (.getfield 24, 3) := by decide +kernel
theorem dX3_spread_25 : decode cX3_spread 25 = .ok (.iload_n 3, 1) := by decide +kernel
theorem dX3_spread_26 : decode cX3_spread 26 = .ok (.iaload, 1) := by decide +kernel
theorem dX3_spread_27 : decode cX3_spread 27 = .ok (.ior, 1) := by decide +kernel
theorem dX3_spread_28 : decode cX3_spread 28 = .ok (.istore_n 2, 1) := by decide +kernel
theorem dX3_spread_29 : decode cX3_spread 29 = .ok (.iinc 3 1, 3) := by decide +kernel
theorem dX3_spread_32 : decode cX3_spread 32 = .ok (.goto (-28), 3) := by decide +kernel
theorem dX3_spread_35 : decode cX3_spread 35 = .ok (.iload_n 2, 1) := by decide +kernel
theorem dX3_spread_36 : decode cX3_spread 36 = .ok (.ireturn, 1) := by decide +kernel
theorem dX3_fabricOf_0 : decode cX3_fabricOf 0 = .ok (.iconst 1, 1) := by decide +kernel
theorem dX3_fabricOf_1 : decode cX3_fabricOf 1 = .ok (.iload_n 1, 1) := by decide +kernel
theorem dX3_fabricOf_2 : decode cX3_fabricOf 2 = .ok (.ishl, 1) := by decide +kernel
theorem dX3_fabricOf_3 : decode cX3_fabricOf 3 = .ok (.istore_n 2, 1) := by decide +kernel
theorem dX3_fabricOf_4 : decode cX3_fabricOf 4 = .ok (.iconst 1, 1) := by decide +kernel
theorem dX3_fabricOf_5 : decode cX3_fabricOf 5 = .ok (.istore_n 3, 1) := by decide +kernel
theorem dX3_fabricOf_6 : decode cX3_fabricOf 6 = .ok (.iload_n 3, 1) := by decide +kernel
theorem dX3_fabricOf_7 : decode cX3_fabricOf 7 = .ok (.aload_n 0, 1) := by decide +kernel
theorem dX3_fabricOf_8 : decode cX3_fabricOf 8 = .ok (.getfield 42, 3) := by decide +kernel
theorem dX3_fabricOf_11 : decode cX3_fabricOf 11 = .ok (.if_icmp .ge 15, 3) := by decide +kernel
theorem dX3_fabricOf_14 : decode cX3_fabricOf 14 = .ok (.aload_n 0, 1) := by decide +kernel
theorem dX3_fabricOf_15 : decode cX3_fabricOf 15 = .ok (.iload_n 2, 1) := by decide +kernel
theorem dX3_fabricOf_16 : decode cX3_fabricOf 16 = .ok (.invokevirtual 85, 3) := by decide +kernel
theorem dX3_fabricOf_19 : decode cX3_fabricOf 19 = .ok (.istore_n 2, 1) := by decide +kernel
theorem dX3_fabricOf_20 : decode cX3_fabricOf 20 = .ok (.iinc 3 1, 3) := by decide +kernel
theorem dX3_fabricOf_23 : decode cX3_fabricOf 23 = .ok (.goto (-17), 3) := by decide +kernel
theorem dX3_fabricOf_26 : decode cX3_fabricOf 26 = .ok (.iload_n 2, 1) := by decide +kernel
theorem dX3_fabricOf_27 : decode cX3_fabricOf 27 = .ok (.ireturn, 1) := by decide +kernel
theorem dX3_fabricTotal_0 : decode cX3_fabricTotal 0 = .ok (.iconst 0, 1) := by decide +kernel
theorem dX3_fabricTotal_1 : decode cX3_fabricTotal 1 = .ok (.istore_n 1, 1) := by decide +kernel
theorem dX3_fabricTotal_2 : decode cX3_fabricTotal 2 = .ok (.iconst 0, 1) := by decide +kernel
theorem dX3_fabricTotal_3 : decode cX3_fabricTotal 3 = .ok (.istore_n 2, 1) := by decide +kernel
theorem dX3_fabricTotal_4 : decode cX3_fabricTotal 4 = .ok (.iconst 0, 1) := by decide +kernel
theorem dX3_fabricTotal_5 : decode cX3_fabricTotal 5 = .ok (.istore_n 3, 1) := by decide +kernel
theorem dX3_fabricTotal_6 : decode cX3_fabricTotal 6 = .ok (.iload_n 3, 1) := by decide +kernel
theorem dX3_fabricTotal_7 : decode cX3_fabricTotal 7 = .ok (.aload_n 0, 1) := by decide +kernel
theorem dX3_fabricTotal_8 : decode cX3_fabricTotal 8 = .ok (.getfield 42, 3) := by decide +kernel
theorem dX3_fabricTotal_11 : decode cX3_fabricTotal 11 = .ok (.if_icmp .ge 28, 3) := by decide +kernel
theorem dX3_fabricTotal_14 : decode cX3_fabricTotal 14 = .ok (.iload_n 2, 1) := by decide +kernel
theorem dX3_fabricTotal_15 : decode cX3_fabricTotal 15 = .ok (.iload_n 3, 1) := by decide +kernel
theorem dX3_fabricTotal_16 : decode cX3_fabricTotal 16 = .ok (.invokestatic 72, 3) := by decide +kernel
theorem dX3_fabricTotal_19 : decode cX3_fabricTotal 19 = .ok (.ifCond .ne 14, 3) := by decide +kernel
theorem dX3_fabricTotal_22 : decode cX3_fabricTotal 22 = .ok (.iload_n 2, 1) := by decide +kernel
theorem dX3_fabricTotal_23 : decode cX3_fabricTotal 23 = .ok (.aload_n 0, 1) := by decide +kernel
theorem dX3_fabricTotal_24 : decode cX3_fabricTotal 24 = .ok (.iload_n 3, 1) := by decide +kernel
theorem dX3_fabricTotal_25 : decode cX3_fabricTotal 25 = .ok (.invokevirtual 88, 3) := by decide +kernel
theorem dX3_fabricTotal_28 : decode cX3_fabricTotal 28 = .ok (.ior, 1) := by decide +kernel
theorem dX3_fabricTotal_29 : decode cX3_fabricTotal 29 = .ok (.istore_n 2, 1) := by decide +kernel
theorem dX3_fabricTotal_30 : decode cX3_fabricTotal 30 = .ok (.iinc 1 1, 3) := by decide +kernel
theorem dX3_fabricTotal_33 : decode cX3_fabricTotal 33 = .ok (.iinc 3 1, 3) := by decide +kernel
theorem dX3_fabricTotal_36 : decode cX3_fabricTotal 36 = .ok (.goto (-30), 3) := by decide +kernel
theorem dX3_fabricTotal_39 : decode cX3_fabricTotal 39 = .ok (.iload_n 1, 1) := by decide +kernel
theorem dX3_fabricTotal_40 : decode cX3_fabricTotal 40 = .ok (.ireturn, 1) := by decide +kernel
theorem dX3_principalOf_0 : decode cX3_principalOf 0 = .ok (.bipush (-9), 2) := by decide +kernel
theorem dX3_principalOf_2 : decode cX3_principalOf 2 = .ok (.istore_n 2, 1) := by decide +kernel
theorem dX3_principalOf_3 : decode cX3_principalOf 3 = .ok (.iconst 0, 1) := by decide +kernel
theorem dX3_principalOf_4 : decode cX3_principalOf 4 = .ok (.istore_n 3, 1) := by decide +kernel
theorem dX3_principalOf_5 : decode cX3_principalOf 5 = .ok (.iload_n 3, 1) := by decide +kernel
theorem dX3_principalOf_6 : decode cX3_principalOf 6 = .ok (.aload_n 0, 1) := by decide +kernel
theorem dX3_principalOf_7 : decode cX3_principalOf 7 = .ok (.getfield 42, 3) := by decide +kernel
theorem dX3_principalOf_10 : decode cX3_principalOf 10 = .ok (.if_icmp .ge 34, 3) := by decide +kernel
theorem dX3_principalOf_13 : decode cX3_principalOf 13 = .ok (.iload_n 1, 1) := by decide +kernel
theorem dX3_principalOf_14 : decode cX3_principalOf 14 = .ok (.iload_n 3, 1) := by decide +kernel
theorem dX3_principalOf_15 : decode cX3_principalOf 15 = .ok (.invokestatic 72, 3) := by decide +kernel
theorem dX3_principalOf_18 : decode cX3_principalOf 18 = .ok (.ifCond .eq 20, 3) := by decide +kernel
theorem dX3_principalOf_21 : decode cX3_principalOf 21 = .ok (.iload_n 2, 1) := by decide +kernel
theorem dX3_principalOf_22 : decode cX3_principalOf 22 = .ok (.bipush (-9), 2) := by decide +kernel
theorem dX3_principalOf_24 : decode cX3_principalOf 24 = .ok (.if_icmp .eq 12, 3) := by decide +kernel
theorem dX3_principalOf_27 : decode cX3_principalOf 27 = .ok (.aload_n 0, 1) := by decide +kernel
theorem dX3_principalOf_28 : decode cX3_principalOf 28 = .ok (.iload_n 3, 1) := by decide +kernel
theorem dX3_principalOf_29 : decode cX3_principalOf 29 = .ok (.iload_n 2, 1) := by decide +kernel
theorem dX3_principalOf_30 : decode cX3_principalOf 30 = .ok (.invokevirtual 91, 3) := by decide +kernel
theorem dX3_principalOf_33 : decode cX3_principalOf 33 = .ok (.ifCond .eq 5, 3) := by decide +kernel
theorem dX3_principalOf_36 : decode cX3_principalOf 36 = .ok (.iload_n 3, 1) := by decide +kernel
theorem dX3_principalOf_37 : decode cX3_principalOf 37 = .ok (.istore_n 2, 1) := by decide +kernel
theorem dX3_principalOf_38 : decode cX3_principalOf 38 = .ok (.iinc 3 1, 3) := by decide +kernel
theorem dX3_principalOf_41 : decode cX3_principalOf 41 = .ok (.goto (-36), 3) := by decide +kernel
theorem dX3_principalOf_44 : decode cX3_principalOf 44 = .ok (.iload_n 2, 1) := by decide +kernel
theorem dX3_principalOf_45 : decode cX3_principalOf 45 = .ok (.ireturn, 1) := by decide +kernel
theorem dX3_goesAhead_0 : decode cX3_goesAhead 0 = .ok (.aload_n 0, 1) := by decide +kernel
theorem dX3_goesAhead_1 : decode cX3_goesAhead 1 = .ok (.iload_n 1, 1) := by decide +kernel
theorem dX3_goesAhead_2 : decode cX3_goesAhead 2 = .ok (.invokevirtual 94, 3) := by decide +kernel
theorem dX3_goesAhead_5 : decode cX3_goesAhead 5 = .ok (.aload_n 0, 1) := by decide +kernel
theorem dX3_goesAhead_6 : decode cX3_goesAhead 6 = .ok (.iload_n 2, 1) := by decide +kernel
theorem dX3_goesAhead_7 : decode cX3_goesAhead 7 = .ok (.invokevirtual 94, 3) := by decide +kernel
theorem dX3_goesAhead_10 : decode cX3_goesAhead 10 = .ok (.if_icmp .eq 22, 3) := by decide +kernel
theorem dX3_goesAhead_13 : decode cX3_goesAhead 13 = .ok (.aload_n 0, 1) := by decide +kernel
theorem dX3_goesAhead_14 : decode cX3_goesAhead 14 = .ok (.iload_n 1, 1) := by decide +kernel
theorem dX3_goesAhead_15 : decode cX3_goesAhead 15 = .ok (.invokevirtual 94, 3) := by decide +kernel
theorem dX3_goesAhead_18 : decode cX3_goesAhead 18 = .ok (.aload_n 0, 1) := by decide +kernel
theorem dX3_goesAhead_19 : decode cX3_goesAhead 19 = .ok (.iload_n 2, 1) := by decide +kernel
theorem dX3_goesAhead_20 : decode cX3_goesAhead 20 = .ok (.invokevirtual 94, 3) := by decide +kernel
theorem dX3_goesAhead_23 : decode cX3_goesAhead 23 = .ok (.if_icmp .ge 7, 3) := by decide +kernel
theorem dX3_goesAhead_26 : decode cX3_goesAhead 26 = .ok (.iconst 1, 1) := by decide +kernel
theorem dX3_goesAhead_27 : decode cX3_goesAhead 27 = .ok (.goto 4, 3) := by decide +kernel
theorem dX3_goesAhead_30 : decode cX3_goesAhead 30 = .ok (.iconst 0, 1) := by decide +kernel
theorem dX3_goesAhead_31 : decode cX3_goesAhead 31 = .ok (.ireturn, 1) := by decide +kernel
theorem dX3_goesAhead_32 : decode cX3_goesAhead 32 = .ok (.aload_n 0, 1) := by decide +kernel
theorem dX3_goesAhead_33 : decode cX3_goesAhead 33 = .ok (.iload_n 1, 1) := by decide +kernel
theorem dX3_goesAhead_34 : decode cX3_goesAhead 34 = .ok (.invokevirtual 97, 3) := by decide +kernel
theorem dX3_goesAhead_37 : decode cX3_goesAhead 37 = .ok (.aload_n 0, 1) := by decide +kernel
theorem dX3_goesAhead_38 : decode cX3_goesAhead 38 = .ok (.iload_n 2, 1) := by decide +kernel
theorem dX3_goesAhead_39 : decode cX3_goesAhead 39 = .ok (.invokevirtual 97, 3) := by decide +kernel
theorem dX3_goesAhead_42 : decode cX3_goesAhead 42 = .ok (.if_icmp .ge 7, 3) := by decide +kernel
theorem dX3_goesAhead_45 : decode cX3_goesAhead 45 = .ok (.iconst 1, 1) := by decide +kernel
theorem dX3_goesAhead_46 : decode cX3_goesAhead 46 = .ok (.goto 4, 3) := by decide +kernel
theorem dX3_goesAhead_49 : decode cX3_goesAhead 49 = .ok (.iconst 0, 1) := by decide +kernel
theorem dX3_goesAhead_50 : decode cX3_goesAhead 50 = .ok (.ireturn, 1) := by decide +kernel
theorem dX3_farOf_0 : decode cX3_farOf 0 = .ok (.iconst 1, 1) := by decide +kernel
theorem dX3_farOf_1 : decode cX3_farOf 1 = .ok (.aload_n 0, 1) := by decide +kernel
theorem dX3_farOf_2 : decode cX3_farOf 2 = .ok (.aload_n 0, 1) := by decide +kernel
theorem dX3_farOf_3 : decode cX3_farOf 3 = .ok (.iload_n 1, 1) := by decide +kernel
theorem dX3_farOf_4 : decode cX3_farOf 4 = .ok (.invokevirtual 88, 3) := by decide +kernel
theorem dX3_farOf_7 : decode cX3_farOf 7 = .ok (.invokevirtual 100, 3) := by decide +kernel
theorem dX3_farOf_10 : decode cX3_farOf 10 = .ok (.ishl, 1) := by decide +kernel
theorem dX3_farOf_11 : decode cX3_farOf 11 = .ok (.istore_n 2, 1) := by decide +kernel
theorem dX3_farOf_12 : decode cX3_farOf 12 = .ok (.iconst 0, 1) := by decide +kernel
theorem dX3_farOf_13 : decode cX3_farOf 13 = .ok (.istore_n 3, 1) := by decide +kernel
theorem dX3_farOf_14 : decode cX3_farOf 14 = .ok (.iload_n 3, 1) := by decide +kernel
theorem dX3_farOf_15 : decode cX3_farOf 15 = .ok (.aload_n 0, 1) := by decide +kernel
theorem dX3_farOf_16 : decode cX3_farOf 16 = .ok (.getfield 42, 3) := by decide +kernel
theorem dX3_farOf_19 : decode cX3_farOf 19 = .ok (.if_icmp .ge 23, 3) := by decide +kernel
theorem dX3_farOf_22 : decode cX3_farOf 22 = .ok (.iload_n 2, 1) := by decide +kernel
theorem dX3_farOf_23 : decode cX3_farOf 23 = .ok (.iload_n 1, 1) := by decide +kernel
theorem dX3_farOf_24 : decode cX3_farOf 24 = .ok (.invokestatic 72, 3) := by decide +kernel
theorem dX3_farOf_27 : decode cX3_farOf 27 = .ok (.ifCond .ne 15, 3) := by decide +kernel
theorem dX3_farOf_30 : decode cX3_farOf 30 = .ok (.aload_n 0, 1) := by decide +kernel
theorem dX3_farOf_31 : decode cX3_farOf 31 = .ok (.iload_n 2, 1) := by decide +kernel
theorem dX3_farOf_32 : decode cX3_farOf 32 = .ok (.invokevirtual 85, 3) := by decide +kernel
theorem dX3_farOf_35 : decode cX3_farOf 35 = .ok (.istore_n 2, 1) := by decide +kernel
theorem dX3_farOf_36 : decode cX3_farOf 36 = .ok (.iinc 3 1, 3) := by decide +kernel
theorem dX3_farOf_39 : decode cX3_farOf 39 = .ok (.goto (-25), 3) := by decide +kernel
theorem dX3_farOf_42 : decode cX3_farOf 42 = .ok (.iload_n 3, 1) := by decide +kernel
theorem dX3_farOf_43 : decode cX3_farOf 43 = .ok (.ireturn, 1) := by decide +kernel
theorem dX3_handOut_0 : decode cX3_handOut 0 = .ok (.iconst 0, 1) := by decide +kernel
theorem dX3_handOut_1 : decode cX3_handOut 1 = .ok (.istore_n 2, 1) := by decide +kernel
theorem dX3_handOut_2 : decode cX3_handOut 2 = .ok (.iconst 0, 1) := by decide +kernel
theorem dX3_handOut_3 : decode cX3_handOut 3 = .ok (.istore_n 3, 1) := by decide +kernel
theorem dX3_handOut_4 : decode cX3_handOut 4 = .ok (.iconst 0, 1) := by decide +kernel
theorem dX3_handOut_5 : decode cX3_handOut 5 = .ok (.istore 4, 2) := by decide +kernel
theorem dX3_handOut_7 : decode cX3_handOut 7 = .ok (.iconst 1, 1) := by decide +kernel
theorem dX3_handOut_8 : decode cX3_handOut 8 = .ok (.aload_n 0, 1) := by decide +kernel
theorem dX3_handOut_9 : decode cX3_handOut 9 = .ok (.iload_n 1, 1) := by decide +kernel
theorem dX3_handOut_10 : decode cX3_handOut 10 = .ok (.invokevirtual 100, 3) := by decide +kernel
theorem dX3_handOut_13 : decode cX3_handOut 13 = .ok (.ishl, 1) := by decide +kernel
theorem dX3_handOut_14 : decode cX3_handOut 14 = .ok (.istore 5, 2) := by decide +kernel
theorem dX3_handOut_16 : decode cX3_handOut 16 = .ok (.iconst 0, 1) := by decide +kernel
theorem dX3_handOut_17 : decode cX3_handOut 17 = .ok (.istore 6, 2) := by decide +kernel
theorem dX3_handOut_19 : decode cX3_handOut 19 = .ok (.iload 6, 2) := by decide +kernel
theorem dX3_handOut_21 : decode cX3_handOut 21 = .ok (.aload_n 0, 1) := by decide +kernel
theorem dX3_handOut_22 : decode cX3_handOut 22 = .ok (.getfield 42, 3) := by decide +kernel
theorem dX3_handOut_25 : decode cX3_handOut 25 = .ok (.if_icmp .ge 88, 3) := by decide +kernel
theorem dX3_handOut_28 : decode cX3_handOut 28 = .ok (.iload_n 3, 1) := by decide +kernel
theorem dX3_handOut_29 : decode cX3_handOut 29 = .ok (.iload_n 1, 1) := by decide +kernel
theorem dX3_handOut_30 : decode cX3_handOut 30 = .ok (.if_icmp .eq 83, 3) := by decide +kernel
theorem dX3_handOut_33 : decode cX3_handOut 33 = .ok (.iload_n 3, 1) := by decide +kernel
theorem dX3_handOut_34 : decode cX3_handOut 34 = .ok (.iload 5, 2) := by decide +kernel
theorem dX3_handOut_36 : decode cX3_handOut 36 = .ok (.if_icmp .ne 11, 3) := by decide +kernel
theorem dX3_handOut_39 : decode cX3_handOut 39 = .ok (.aload_n 0, 1) := by decide +kernel
theorem dX3_handOut_40 : decode cX3_handOut 40 = .ok (.iload 5, 2) := by decide +kernel
theorem dX3_handOut_42 : decode cX3_handOut 42 = .ok (.invokevirtual 85, 3) := by decide +kernel
theorem dX3_handOut_45 : decode cX3_handOut 45 = .ok (.istore 5, 2) := by decide +kernel
theorem dX3_handOut_47 : decode cX3_handOut 47 = .ok (.aload_n 0, 1) := by decide +kernel
theorem dX3_handOut_48 : decode cX3_handOut 48 = .ok (.iload 5, 2) := by decide +kernel
theorem dX3_handOut_50 : decode cX3_handOut 50 = .ok (.iload_n 3, 1) := by decide +kernel
theorem dX3_handOut_51 : decode cX3_handOut 51 = .ok (.iconst (-1), 1) := by decide +kernel
theorem dX3_handOut_52 : decode cX3_handOut 52 = .ok (.ixor, 1) := by decide +kernel
theorem dX3_handOut_53 : decode cX3_handOut 53 = .ok (.iand, 1) := by decide +kernel
theorem dX3_handOut_54 : decode cX3_handOut 54 = .ok (.invokevirtual 103, 3) := by decide +kernel
theorem dX3_handOut_57 : decode cX3_handOut 57 = .ok (.istore 7, 2) := by decide +kernel
theorem dX3_handOut_59 : decode cX3_handOut 59 = .ok (.aload_n 0, 1) := by decide +kernel
theorem dX3_handOut_60 : decode cX3_handOut 60 = .ok (.iload 7, 2) := by decide +kernel
theorem dX3_handOut_62 : decode cX3_handOut 62 = .ok (.iload 4, 2) := by decide +kernel
theorem dX3_handOut_64 : decode cX3_handOut 64 = .ok (.invokevirtual 106, 3) := by decide +kernel
theorem dX3_handOut_67 : decode cX3_handOut 67 = .ok (.istore 8, 2) := by decide +kernel
theorem dX3_handOut_69 : decode cX3_handOut 69 = .ok (.aload_n 0, 1) := by decide +kernel
theorem dX3_handOut_70 : decode cX3_handOut 70 = .ok (.iload 7, 2) := by decide +kernel
theorem dX3_handOut_72 : decode cX3_handOut 72 = .ok (.invokevirtual 109, 3) := by decide +kernel
theorem dX3_handOut_75 : decode cX3_handOut 75 = .ok (.iload 8, 2) := by decide +kernel
theorem dX3_handOut_77 : decode cX3_handOut 77 = .ok (.if_icmp .eq 6, 3) := by decide +kernel
theorem dX3_handOut_80 : decode cX3_handOut 80 = .ok (.iinc 2 1, 3) := by decide +kernel
theorem dX3_handOut_83 : decode cX3_handOut 83 = .ok (.aload_n 0, 1) := by decide +kernel
theorem dX3_handOut_84 : decode cX3_handOut 84 = .ok (.iload 7, 2) := by decide +kernel
theorem dX3_handOut_86 : decode cX3_handOut 86 = .ok (.iload 8, 2) := by decide +kernel
theorem dX3_handOut_88 : decode cX3_handOut 88 = .ok (.invokevirtual 112, 3) := by decide +kernel
theorem dX3_handOut_91 : decode cX3_handOut 91 = .ok (.iload 4, 2) := by decide +kernel
theorem dX3_handOut_93 : decode cX3_handOut 93 = .ok (.iconst 1, 1) := by decide +kernel
theorem dX3_handOut_94 : decode cX3_handOut 94 = .ok (.iload 8, 2) := by decide +kernel
theorem dX3_handOut_96 : decode cX3_handOut 96 = .ok (.ishl, 1) := by decide +kernel
theorem dX3_handOut_97 : decode cX3_handOut 97 = .ok (.ior, 1) := by decide +kernel
theorem dX3_handOut_98 : decode cX3_handOut 98 = .ok (.istore 4, 2) := by decide +kernel
theorem dX3_handOut_100 : decode cX3_handOut 100 = .ok (.iload_n 3, 1) := by decide +kernel
theorem dX3_handOut_101 : decode cX3_handOut 101 = .ok (.iconst 1, 1) := by decide +kernel
theorem dX3_handOut_102 : decode cX3_handOut 102 = .ok (.iload 7, 2) := by decide +kernel
theorem dX3_handOut_104 : decode cX3_handOut 104 = .ok (.ishl, 1) := by decide +kernel
theorem dX3_handOut_105 : decode cX3_handOut 105 = .ok (.ior, 1) := by decide +kernel
theorem dX3_handOut_106 : decode cX3_handOut 106 = .ok (.istore_n 3, 1) := by decide +kernel
theorem dX3_handOut_107 : decode cX3_handOut 107 = .ok (.iinc 6 1, 3) := by decide +kernel
theorem dX3_handOut_110 : decode cX3_handOut 110 = .ok (.goto (-91), 3) := by decide +kernel
theorem dX3_handOut_113 : decode cX3_handOut 113 = .ok (.iload_n 2, 1) := by decide +kernel
theorem dX3_handOut_114 : decode cX3_handOut 114 = .ok (.ireturn, 1) := by decide +kernel
theorem dX3_setBlock_0 : decode cX3_setBlock 0 = .ok (.aload_n 0, 1) := by decide +kernel
theorem dX3_setBlock_1 : decode cX3_setBlock 1 = .ok (.iload_n 1, 1) := by decide +kernel
theorem dX3_setBlock_2 : decode cX3_setBlock 2 = .ok (.invokevirtual 57, 3) := by decide +kernel
theorem dX3_setBlock_5 : decode cX3_setBlock 5 = .ok (.ifCond .eq 10, 3) := by decide +kernel
theorem dX3_setBlock_8 : decode cX3_setBlock 8 = .ok (.aload_n 0, 1) := by decide +kernel
theorem dX3_setBlock_9 : decode cX3_setBlock 9 = .ok (.getfield 21, 3) := by decide +kernel
theorem dX3_setBlock_12 : decode cX3_setBlock 12 = .ok (.iload_n 1, 1) := by decide +kernel
theorem dX3_setBlock_13 : decode cX3_setBlock 13 = .ok (.iload_n 2, 1) := by decide +kernel
theorem dX3_setBlock_14 : decode cX3_setBlock 14 = .ok (.iastore, 1) := by decide +kernel
theorem dX3_setBlock_15 : decode cX3_setBlock 15 = .ok (.return_, 1) := by decide +kernel
theorem dX3_lowestNameOf_0 : decode cX3_lowestNameOf 0 = .ok (.bipush (-9), 2) := by decide +kernel
theorem dX3_lowestNameOf_2 : decode cX3_lowestNameOf 2 = .ok (.istore_n 2, 1) := by decide +kernel
theorem dX3_lowestNameOf_3 : decode cX3_lowestNameOf 3 = .ok (.iconst 0, 1) := by decide +kernel
theorem dX3_lowestNameOf_4 : decode cX3_lowestNameOf 4 = .ok (.istore_n 3, 1) := by decide +kernel
theorem dX3_lowestNameOf_5 : decode cX3_lowestNameOf 5 = .ok (.iload_n 3, 1) := by decide +kernel
theorem dX3_lowestNameOf_6 : decode cX3_lowestNameOf 6 = .ok (.aload_n 0, 1) := by decide +kernel
theorem dX3_lowestNameOf_7 : decode cX3_lowestNameOf 7 = .ok (.getfield 42, 3) := by decide +kernel
theorem dX3_lowestNameOf_10 : decode cX3_lowestNameOf 10 = .ok (.if_icmp .ge 39, 3) := by decide +kernel
theorem dX3_lowestNameOf_13 : decode cX3_lowestNameOf 13 = .ok (.iload_n 1, 1) := by decide +kernel
theorem dX3_lowestNameOf_14 : decode cX3_lowestNameOf 14 = .ok (.iload_n 3, 1) := by decide +kernel
theorem dX3_lowestNameOf_15 : decode cX3_lowestNameOf 15 = .ok (.invokestatic 72, 3) := by decide +kernel
theorem dX3_lowestNameOf_18 : decode cX3_lowestNameOf 18 = .ok (.ifCond .eq 25, 3) := by decide +kernel
theorem dX3_lowestNameOf_21 : decode cX3_lowestNameOf 21 = .ok (.iload_n 2, 1) := by decide +kernel
theorem dX3_lowestNameOf_22 : decode cX3_lowestNameOf 22 = .ok (.bipush (-9), 2) := by decide +kernel
theorem dX3_lowestNameOf_24 : decode cX3_lowestNameOf 24 = .ok (.if_icmp .eq 17, 3) := by decide +kernel
theorem dX3_lowestNameOf_27 : decode cX3_lowestNameOf 27 = .ok (.aload_n 0, 1) := by decide +kernel
theorem dX3_lowestNameOf_28 : decode cX3_lowestNameOf 28 = .ok (.getfield 15, 3) := by decide +kernel
theorem dX3_lowestNameOf_31 : decode cX3_lowestNameOf 31 = .ok (.iload_n 3, 1) := by decide +kernel
theorem dX3_lowestNameOf_32 : decode cX3_lowestNameOf 32 = .ok (.iaload, 1) := by decide +kernel
theorem dX3_lowestNameOf_33 : decode cX3_lowestNameOf 33 = .ok (.aload_n 0, 1) := by decide +kernel
theorem dX3_lowestNameOf_34 : decode cX3_lowestNameOf 34 = .ok (.iload_n 2, 1) := by decide +kernel
theorem dX3_lowestNameOf_35 : decode cX3_lowestNameOf 35 = .ok (.invokevirtual 97, 3) := by decide +kernel
theorem dX3_lowestNameOf_38 : decode cX3_lowestNameOf 38 = .ok (.if_icmp .ge 5, 3) := by decide +kernel
theorem dX3_lowestNameOf_41 : decode cX3_lowestNameOf 41 = .ok (.iload_n 3, 1) := by decide +kernel
theorem dX3_lowestNameOf_42 : decode cX3_lowestNameOf 42 = .ok (.istore_n 2, 1) := by decide +kernel
theorem dX3_lowestNameOf_43 : decode cX3_lowestNameOf 43 = .ok (.iinc 3 1, 3) := by decide +kernel
theorem dX3_lowestNameOf_46 : decode cX3_lowestNameOf 46 = .ok (.goto (-41), 3) := by decide +kernel
theorem dX3_lowestNameOf_49 : decode cX3_lowestNameOf 49 = .ok (.iload_n 2, 1) := by decide +kernel
theorem dX3_lowestNameOf_50 : decode cX3_lowestNameOf 50 = .ok (.ireturn, 1) := by decide +kernel
theorem dX3_blockFor_0 : decode cX3_blockFor 0 = .ok (.aload_n 0, 1) := by decide +kernel
theorem dX3_blockFor_1 : decode cX3_blockFor 1 = .ok (.iload_n 1, 1) := by decide +kernel
theorem dX3_blockFor_2 : decode cX3_blockFor 2 = .ok (.invokevirtual 116, 3) := by decide +kernel
theorem dX3_blockFor_5 : decode cX3_blockFor 5 = .ok (.istore_n 3, 1) := by decide +kernel
theorem dX3_blockFor_6 : decode cX3_blockFor 6 = .ok (.iload_n 3, 1) := by decide +kernel
theorem dX3_blockFor_7 : decode cX3_blockFor 7 = .ok (.ifCond .le 13, 3) := by decide +kernel
theorem dX3_blockFor_10 : decode cX3_blockFor 10 = .ok (.iload_n 2, 1) := by decide +kernel
theorem dX3_blockFor_11 : decode cX3_blockFor 11 = .ok (.iload_n 3, 1) := by decide +kernel
theorem dX3_blockFor_12 : decode cX3_blockFor 12 = .ok (.invokestatic 72, 3) := by decide +kernel
theorem dX3_blockFor_15 : decode cX3_blockFor 15 = .ok (.ifCond .ne 5, 3) := by decide +kernel
theorem dX3_blockFor_18 : decode cX3_blockFor 18 = .ok (.iload_n 3, 1) := by decide +kernel
theorem dX3_blockFor_19 : decode cX3_blockFor 19 = .ok (.ireturn, 1) := by decide +kernel
theorem dX3_blockFor_20 : decode cX3_blockFor 20 = .ok (.iconst 1, 1) := by decide +kernel
theorem dX3_blockFor_21 : decode cX3_blockFor 21 = .ok (.istore 4, 2) := by decide +kernel
theorem dX3_blockFor_23 : decode cX3_blockFor 23 = .ok (.iload 4, 2) := by decide +kernel
theorem dX3_blockFor_25 : decode cX3_blockFor 25 = .ok (.bipush 8, 2) := by decide +kernel
theorem dX3_blockFor_27 : decode cX3_blockFor 27 = .ok (.if_icmp .ge 18, 3) := by decide +kernel
theorem dX3_blockFor_30 : decode cX3_blockFor 30 = .ok (.iload_n 2, 1) := by decide +kernel
theorem dX3_blockFor_31 : decode cX3_blockFor 31 = .ok (.iload 4, 2) := by decide +kernel
theorem dX3_blockFor_33 : decode cX3_blockFor 33 = .ok (.invokestatic 72, 3) := by decide +kernel
theorem dX3_blockFor_36 : decode cX3_blockFor 36 = .ok (.ifCond .eq 9, 3) := by decide +kernel
theorem dX3_blockFor_39 : decode cX3_blockFor 39 = .ok (.iinc 4 1, 3) := by decide +kernel
theorem dX3_blockFor_42 : decode cX3_blockFor 42 = .ok (.goto (-19), 3) := by decide +kernel
theorem dX3_blockFor_45 : decode cX3_blockFor 45 = .ok (.iload 4, 2) := by decide +kernel
theorem dX3_blockFor_47 : decode cX3_blockFor 47 = .ok (.ireturn, 1) := by decide +kernel
theorem dX3_blocksIn_0 : decode cX3_blocksIn 0 = .ok (.iconst 0, 1) := by decide +kernel
theorem dX3_blocksIn_1 : decode cX3_blocksIn 1 = .ok (.istore_n 2, 1) := by decide +kernel
theorem dX3_blocksIn_2 : decode cX3_blocksIn 2 = .ok (.iconst 0, 1) := by decide +kernel
theorem dX3_blocksIn_3 : decode cX3_blocksIn 3 = .ok (.istore_n 3, 1) := by decide +kernel
theorem dX3_blocksIn_4 : decode cX3_blocksIn 4 = .ok (.iload_n 3, 1) := by decide +kernel
theorem dX3_blocksIn_5 : decode cX3_blocksIn 5 = .ok (.aload_n 0, 1) := by decide +kernel
theorem dX3_blocksIn_6 : decode cX3_blocksIn 6 = .ok (.getfield 42, 3) := by decide +kernel
theorem dX3_blocksIn_9 : decode cX3_blocksIn 9 = .ok (.if_icmp .ge 28, 3) := by decide +kernel
theorem dX3_blocksIn_12 : decode cX3_blocksIn 12 = .ok (.iload_n 1, 1) := by decide +kernel
theorem dX3_blocksIn_13 : decode cX3_blocksIn 13 = .ok (.iload_n 3, 1) := by decide +kernel
theorem dX3_blocksIn_14 : decode cX3_blocksIn 14 = .ok (.invokestatic 72, 3) := by decide +kernel
theorem dX3_blocksIn_17 : decode cX3_blocksIn 17 = .ok (.ifCond .eq 14, 3) := by decide +kernel
theorem dX3_blocksIn_20 : decode cX3_blocksIn 20 = .ok (.iload_n 2, 1) := by decide +kernel
theorem dX3_blocksIn_21 : decode cX3_blocksIn 21 = .ok (.iconst 1, 1) := by decide +kernel
theorem dX3_blocksIn_22 : decode cX3_blocksIn 22 = .ok (.aload_n 0, 1) := by decide +kernel
theorem dX3_blocksIn_23 : decode cX3_blocksIn 23 = .ok (.getfield 21, 3) := by decide +kernel
theorem dX3_blocksIn_26 : decode cX3_blocksIn 26 = .ok (.iload_n 3, 1) := by decide +kernel
theorem dX3_blocksIn_27 : decode cX3_blocksIn 27 = .ok (.iaload, 1) := by decide +kernel
theorem dX3_blocksIn_28 : decode cX3_blocksIn 28 = .ok (.ishl, 1) := by decide +kernel
theorem dX3_blocksIn_29 : decode cX3_blocksIn 29 = .ok (.ior, 1) := by decide +kernel
theorem dX3_blocksIn_30 : decode cX3_blocksIn 30 = .ok (.istore_n 2, 1) := by decide +kernel
theorem dX3_blocksIn_31 : decode cX3_blocksIn 31 = .ok (.iinc 3 1, 3) := by decide +kernel
theorem dX3_blocksIn_34 : decode cX3_blocksIn 34 = .ok (.goto (-30), 3) := by decide +kernel
theorem dX3_blocksIn_37 : decode cX3_blocksIn 37 = .ok (.iload_n 2, 1) := by decide +kernel
theorem dX3_blocksIn_38 : decode cX3_blocksIn 38 = .ok (.ireturn, 1) := by decide +kernel
theorem dX3_zoneSet_0 : decode cX3_zoneSet 0 = .ok (.iload_n 1, 1) := by decide +kernel
theorem dX3_zoneSet_1 : decode cX3_zoneSet 1 = .ok (.ifCond .lt 24, 3) := by decide +kernel
theorem dX3_zoneSet_4 : decode cX3_zoneSet 4 = .ok (.iload_n 1, 1) := by decide +kernel
theorem dX3_zoneSet_5 : decode cX3_zoneSet 5 = .ok (.aload_n 0, 1) := by decide +kernel
theorem dX3_zoneSet_6 : decode cX3_zoneSet 6 = .ok (.getfield 42, 3) := by decide +kernel
theorem dX3_zoneSet_9 : decode cX3_zoneSet 9 = .ok (.if_icmp .ge 16, 3) := by decide +kernel
theorem dX3_zoneSet_12 : decode cX3_zoneSet 12 = .ok (.iload_n 2, 1) := by decide +kernel
theorem dX3_zoneSet_13 : decode cX3_zoneSet 13 = .ok (.ifCond .lt 12, 3) := by decide +kernel
theorem dX3_zoneSet_16 : decode cX3_zoneSet 16 = .ok (.iload_n 2, 1) := by decide +kernel
theorem dX3_zoneSet_17 : decode cX3_zoneSet 17 = .ok (.iconst 4, 1) := by decide +kernel
theorem dX3_zoneSet_18 : decode cX3_zoneSet 18 = .ok (.if_icmp .ge 7, 3) := by decide +kernel
theorem dX3_zoneSet_21 : decode cX3_zoneSet 21 = .ok (.iconst 1, 1) := by decide +kernel
theorem dX3_zoneSet_22 : decode cX3_zoneSet 22 = .ok (.goto 4, 3) := by decide +kernel
theorem dX3_zoneSet_25 : decode cX3_zoneSet 25 = .ok (.iconst 0, 1) := by decide +kernel
theorem dX3_zoneSet_26 : decode cX3_zoneSet 26 = .ok (.istore_n 3, 1) := by decide +kernel
theorem dX3_zoneSet_27 : decode cX3_zoneSet 27 = .ok (.iload_n 3, 1) := by decide +kernel
theorem dX3_zoneSet_28 : decode cX3_zoneSet 28 = .ok (.ifCond .eq 16, 3) := by decide +kernel
theorem dX3_zoneSet_31 : decode cX3_zoneSet 31 = .ok (.aload_n 0, 1) := by decide +kernel
theorem dX3_zoneSet_32 : decode cX3_zoneSet 32 = .ok (.getfield 30, 3) := by decide +kernel
theorem dX3_zoneSet_35 : decode cX3_zoneSet 35 = .ok (.iload_n 1, 1) := by decide +kernel
theorem dX3_zoneSet_36 : decode cX3_zoneSet 36 = .ok (.iconst 4, 1) := by decide +kernel
theorem dX3_zoneSet_37 : decode cX3_zoneSet 37 = .ok (.imul, 1) := by decide +kernel
theorem dX3_zoneSet_38 : decode cX3_zoneSet 38 = .ok (.iload_n 2, 1) := by decide +kernel
theorem dX3_zoneSet_39 : decode cX3_zoneSet 39 = .ok (.iadd, 1) := by decide +kernel
theorem dX3_zoneSet_40 : decode cX3_zoneSet 40 = .ok (.iaload, 1) := by decide +kernel
theorem dX3_zoneSet_41 : decode cX3_zoneSet 41 = .ok (.goto 4, 3) := by decide +kernel
theorem dX3_zoneSet_44 : decode cX3_zoneSet 44 = .ok (.iconst 0, 1) := by decide +kernel
theorem dX3_zoneSet_45 : decode cX3_zoneSet 45 = .ok (.ireturn, 1) := by decide +kernel
theorem dX3_setZone_0 : decode cX3_setZone 0 = .ok (.iload_n 2, 1) := by decide +kernel
theorem dX3_setZone_1 : decode cX3_setZone 1 = .ok (.ifCond .lt 8, 3) := by decide +kernel
theorem dX3_setZone_4 : decode cX3_setZone 4 = .ok (.iload_n 2, 1) := by decide +kernel
theorem dX3_setZone_5 : decode cX3_setZone 5 = .ok (.iconst 4, 1) := by decide +kernel
theorem dX3_setZone_6 : decode cX3_setZone 6 = .ok (.if_icmp .lt 4, 3) := by decide +kernel
theorem dX3_setZone_9 : decode cX3_setZone 9 = .ok (.return_, 1) := by decide +kernel
theorem dX3_setZone_10 : decode cX3_setZone 10 = .ok (.iconst 0, 1) := by decide +kernel
theorem dX3_setZone_11 : decode cX3_setZone 11 = .ok (.istore 4, 2) := by decide +kernel
theorem dX3_setZone_13 : decode cX3_setZone 13 = .ok (.iload 4, 2) := by decide +kernel
theorem dX3_setZone_15 : decode cX3_setZone 15 = .ok (.aload_n 0, 1) := by decide +kernel
theorem dX3_setZone_16 : decode cX3_setZone 16 = .ok (.getfield 42, 3) := by decide +kernel
theorem dX3_setZone_19 : decode cX3_setZone 19 = .ok (.if_icmp .ge 30, 3) := by decide +kernel
theorem dX3_setZone_22 : decode cX3_setZone 22 = .ok (.iload_n 1, 1) := by decide +kernel
theorem dX3_setZone_23 : decode cX3_setZone 23 = .ok (.iload 4, 2) := by decide +kernel
theorem dX3_setZone_25 : decode cX3_setZone 25 = .ok (.invokestatic 72, 3) := by decide +kernel
theorem dX3_setZone_28 : decode cX3_setZone 28 = .ok (.ifCond .eq 15, 3) := by decide +kernel
theorem dX3_setZone_31 : decode cX3_setZone 31 = .ok (.aload_n 0, 1) := by decide +kernel
theorem dX3_setZone_32 : decode cX3_setZone 32 = .ok (.getfield 30, 3) := by decide +kernel
theorem dX3_setZone_35 : decode cX3_setZone 35 = .ok (.iload 4, 2) := by decide +kernel
theorem dX3_setZone_37 : decode cX3_setZone 37 = .ok (.iconst 4, 1) := by decide +kernel
theorem dX3_setZone_38 : decode cX3_setZone 38 = .ok (.imul, 1) := by decide +kernel
theorem dX3_setZone_39 : decode cX3_setZone 39 = .ok (.iload_n 2, 1) := by decide +kernel
theorem dX3_setZone_40 : decode cX3_setZone 40 = .ok (.iadd, 1) := by decide +kernel
theorem dX3_setZone_41 : decode cX3_setZone 41 = .ok (.iload_n 3, 1) := by decide +kernel
theorem dX3_setZone_42 : decode cX3_setZone 42 = .ok (.iastore, 1) := by decide +kernel
theorem dX3_setZone_43 : decode cX3_setZone 43 = .ok (.iinc 4 1, 3) := by decide +kernel
theorem dX3_setZone_46 : decode cX3_setZone 46 = .ok (.goto (-33), 3) := by decide +kernel
theorem dX3_setZone_49 : decode cX3_setZone 49 = .ok (.return_, 1) := by decide +kernel
theorem dX3_zonesClash_0 : decode cX3_zonesClash 0 = .ok (.iconst 0, 1) := by decide +kernel
theorem dX3_zonesClash_1 : decode cX3_zonesClash 1 = .ok (.istore_n 3, 1) := by decide +kernel
theorem dX3_zonesClash_2 : decode cX3_zonesClash 2 = .ok (.iload_n 3, 1) := by decide +kernel
theorem dX3_zonesClash_3 : decode cX3_zonesClash 3 = .ok (.iconst 4, 1) := by decide +kernel
theorem dX3_zonesClash_4 : decode cX3_zonesClash 4 = .ok (.if_icmp .ge 44, 3) := by decide +kernel
theorem dX3_zonesClash_7 : decode cX3_zonesClash 7 = .ok (.aload_n 0, 1) := by decide +kernel
theorem dX3_zonesClash_8 : decode cX3_zonesClash 8 = .ok (.iload_n 1, 1) := by decide +kernel
theorem dX3_zonesClash_9 : decode cX3_zonesClash 9 = .ok (.iload_n 3, 1) := by decide +kernel
theorem dX3_zonesClash_10 : decode cX3_zonesClash 10 = .ok (.invokevirtual 119, 3) := by decide +kernel
theorem dX3_zonesClash_13 : decode cX3_zonesClash 13 = .ok (.istore 4, 2) := by decide +kernel
theorem dX3_zonesClash_15 : decode cX3_zonesClash 15 = .ok (.aload_n 0, 1) := by decide +kernel
theorem dX3_zonesClash_16 : decode cX3_zonesClash 16 = .ok (.iload_n 2, 1) := by decide +kernel
theorem dX3_zonesClash_17 : decode cX3_zonesClash 17 = .ok (.iload_n 3, 1) := by decide +kernel
theorem dX3_zonesClash_18 : decode cX3_zonesClash 18 = .ok (.invokevirtual 119, 3) := by decide +kernel
theorem dX3_zonesClash_21 : decode cX3_zonesClash 21 = .ok (.istore 5, 2) := by decide +kernel
theorem dX3_zonesClash_23 : decode cX3_zonesClash 23 = .ok (.iload 4, 2) := by decide +kernel
theorem dX3_zonesClash_25 : decode cX3_zonesClash 25 = .ok (.ifCond .eq 17, 3) := by decide +kernel
theorem dX3_zonesClash_28 : decode cX3_zonesClash 28 = .ok (.iload 5, 2) := by decide +kernel
theorem dX3_zonesClash_30 : decode cX3_zonesClash 30 = .ok (.ifCond .eq 12, 3) := by decide +kernel
theorem dX3_zonesClash_33 : decode cX3_zonesClash 33 = .ok (.iload 4, 2) := by decide +kernel
theorem dX3_zonesClash_35 : decode cX3_zonesClash 35 = .ok (.iload 5, 2) := by decide +kernel
theorem dX3_zonesClash_37 : decode cX3_zonesClash 37 = .ok (.if_icmp .eq 5, 3) := by decide +kernel
theorem dX3_zonesClash_40 : decode cX3_zonesClash 40 = .ok (.iconst 1, 1) := by decide +kernel
theorem dX3_zonesClash_41 : decode cX3_zonesClash 41 = .ok (.ireturn, 1) := by decide +kernel
theorem dX3_zonesClash_42 : decode cX3_zonesClash 42 = .ok (.iinc 3 1, 3) := by decide +kernel
theorem dX3_zonesClash_45 : decode cX3_zonesClash 45 = .ok (.goto (-43), 3) := by decide +kernel
theorem dX3_zonesClash_48 : decode cX3_zonesClash 48 = .ok (.iconst 0, 1) := by decide +kernel
theorem dX3_zonesClash_49 : decode cX3_zonesClash 49 = .ok (.ireturn, 1) := by decide +kernel
theorem dX3_outcomeOf_0 : decode cX3_outcomeOf 0 = .ok (.aload_n 0, 1) := by decide +kernel
theorem dX3_outcomeOf_1 : decode cX3_outcomeOf 1 = .ok (.iload_n 1, 1) := by decide +kernel
theorem dX3_outcomeOf_2 : decode cX3_outcomeOf 2 = .ok (.invokevirtual 88, 3) := by decide +kernel
theorem dX3_outcomeOf_5 : decode cX3_outcomeOf 5 = .ok (.istore_n 3, 1) := by decide +kernel
theorem dX3_outcomeOf_6 : decode cX3_outcomeOf 6 = .ok (.iload_n 3, 1) := by decide +kernel
theorem dX3_outcomeOf_7 : decode cX3_outcomeOf 7 = .ok (.iload_n 2, 1) := by decide +kernel
theorem dX3_outcomeOf_8 : decode cX3_outcomeOf 8 = .ok (.invokestatic 72, 3) := by decide +kernel
theorem dX3_outcomeOf_11 : decode cX3_outcomeOf 11 = .ok (.ifCond .eq 5, 3) := by decide +kernel
theorem dX3_outcomeOf_14 : decode cX3_outcomeOf 14 = .ok (.iconst 0, 1) := by decide +kernel
theorem dX3_outcomeOf_15 : decode cX3_outcomeOf 15 = .ok (.ireturn, 1) := by decide +kernel
theorem dX3_outcomeOf_16 : decode cX3_outcomeOf 16 = .ok (.aload_n 0, 1) := by decide +kernel
theorem dX3_outcomeOf_17 : decode cX3_outcomeOf 17 = .ok (.iload_n 3, 1) := by decide +kernel
theorem dX3_outcomeOf_18 : decode cX3_outcomeOf 18 = .ok (.invokevirtual 122, 3) := by decide +kernel
theorem dX3_outcomeOf_21 : decode cX3_outcomeOf 21 = .ok (.aload_n 0, 1) := by decide +kernel
theorem dX3_outcomeOf_22 : decode cX3_outcomeOf 22 = .ok (.aload_n 0, 1) := by decide +kernel
theorem dX3_outcomeOf_23 : decode cX3_outcomeOf 23 = .ok (.iload_n 2, 1) := by decide +kernel
theorem dX3_outcomeOf_24 : decode cX3_outcomeOf 24 = .ok (.invokevirtual 88, 3) := by decide +kernel
theorem dX3_outcomeOf_27 : decode cX3_outcomeOf 27 = .ok (.invokevirtual 122, 3) := by decide +kernel
theorem dX3_outcomeOf_30 : decode cX3_outcomeOf 30 = .ok (.iand, 1) := by decide +kernel
theorem dX3_outcomeOf_31 : decode cX3_outcomeOf 31 = .ok (.ifCond .eq 7, 3) := by decide +kernel
theorem dX3_outcomeOf_34 : decode cX3_outcomeOf 34 = .ok (.iconst 1, 1) := by decide +kernel
theorem dX3_outcomeOf_35 : decode cX3_outcomeOf 35 = .ok (.goto 4, 3) := by decide +kernel
theorem dX3_outcomeOf_38 : decode cX3_outcomeOf 38 = .ok (.iconst 0, 1) := by decide +kernel
theorem dX3_outcomeOf_39 : decode cX3_outcomeOf 39 = .ok (.istore 4, 2) := by decide +kernel
theorem dX3_outcomeOf_41 : decode cX3_outcomeOf 41 = .ok (.aload_n 0, 1) := by decide +kernel
theorem dX3_outcomeOf_42 : decode cX3_outcomeOf 42 = .ok (.iload_n 1, 1) := by decide +kernel
theorem dX3_outcomeOf_43 : decode cX3_outcomeOf 43 = .ok (.iload_n 2, 1) := by decide +kernel
theorem dX3_outcomeOf_44 : decode cX3_outcomeOf 44 = .ok (.invokevirtual 125, 3) := by decide +kernel
theorem dX3_outcomeOf_47 : decode cX3_outcomeOf 47 = .ok (.ifCond .eq 14, 3) := by decide +kernel
theorem dX3_outcomeOf_50 : decode cX3_outcomeOf 50 = .ok (.iload 4, 2) := by decide +kernel
theorem dX3_outcomeOf_52 : decode cX3_outcomeOf 52 = .ok (.ifCond .eq 7, 3) := by decide +kernel
theorem dX3_outcomeOf_55 : decode cX3_outcomeOf 55 = .ok (.iconst 5, 1) := by decide +kernel
theorem dX3_outcomeOf_56 : decode cX3_outcomeOf 56 = .ok (.goto 4, 3) := by decide +kernel
theorem dX3_outcomeOf_59 : decode cX3_outcomeOf 59 = .ok (.iconst 4, 1) := by decide +kernel
theorem dX3_outcomeOf_60 : decode cX3_outcomeOf 60 = .ok (.ireturn, 1) := by decide +kernel
theorem dX3_outcomeOf_61 : decode cX3_outcomeOf 61 = .ok (.iload 4, 2) := by decide +kernel
theorem dX3_outcomeOf_63 : decode cX3_outcomeOf 63 = .ok (.ifCond .eq 16, 3) := by decide +kernel
theorem dX3_outcomeOf_66 : decode cX3_outcomeOf 66 = .ok (.aload_n 0, 1) := by decide +kernel
theorem dX3_outcomeOf_67 : decode cX3_outcomeOf 67 = .ok (.getfield 49, 3) := by decide +kernel
theorem dX3_outcomeOf_70 : decode cX3_outcomeOf 70 = .ok (.ifCond .eq 7, 3) := by decide +kernel
theorem dX3_outcomeOf_73 : decode cX3_outcomeOf 73 = .ok (.iconst 2, 1) := by decide +kernel
theorem dX3_outcomeOf_74 : decode cX3_outcomeOf 74 = .ok (.goto 4, 3) := by decide +kernel
theorem dX3_outcomeOf_77 : decode cX3_outcomeOf 77 = .ok (.iconst 3, 1) := by decide +kernel
theorem dX3_outcomeOf_78 : decode cX3_outcomeOf 78 = .ok (.ireturn, 1) := by decide +kernel
theorem dX3_outcomeOf_79 : decode cX3_outcomeOf 79 = .ok (.iconst 1, 1) := by decide +kernel
theorem dX3_outcomeOf_80 : decode cX3_outcomeOf 80 = .ok (.ireturn, 1) := by decide +kernel
theorem dX3_join_0 : decode cX3_join 0 = .ok (.aload_n 0, 1) := by decide +kernel
theorem dX3_join_1 : decode cX3_join 1 = .ok (.iload_n 1, 1) := by decide +kernel
theorem dX3_join_2 : decode cX3_join 2 = .ok (.iload_n 2, 1) := by decide +kernel
theorem dX3_join_3 : decode cX3_join 3 = .ok (.invokevirtual 128, 3) := by decide +kernel
theorem dX3_join_6 : decode cX3_join 6 = .ok (.istore_n 3, 1) := by decide +kernel
theorem dX3_join_7 : decode cX3_join 7 = .ok (.iload_n 3, 1) := by decide +kernel
theorem dX3_join_8 : decode cX3_join 8 = .ok (.iconst 3, 1) := by decide +kernel
theorem dX3_join_9 : decode cX3_join 9 = .ok (.if_icmp .lt 12, 3) := by decide +kernel
theorem dX3_join_12 : decode cX3_join 12 = .ok (.aload_n 0, 1) := by decide +kernel
theorem dX3_join_13 : decode cX3_join 13 = .ok (.iload_n 1, 1) := by decide +kernel
theorem dX3_join_14 : decode cX3_join 14 = .ok (.iload_n 2, 1) := by decide +kernel
theorem dX3_join_15 : decode cX3_join 15 = .ok (.iconst 2, 1) := by decide +kernel
theorem dX3_join_16 : decode cX3_join 16 = .ok (.invokevirtual 131, 3) := by decide +kernel
theorem dX3_join_19 : decode cX3_join 19 = .ok (.iconst 0, 1) := by decide +kernel
theorem dX3_join_20 : decode cX3_join 20 = .ok (.ireturn, 1) := by decide +kernel
theorem dX3_join_21 : decode cX3_join 21 = .ok (.aload_n 0, 1) := by decide +kernel
theorem dX3_join_22 : decode cX3_join 22 = .ok (.iload_n 1, 1) := by decide +kernel
theorem dX3_join_23 : decode cX3_join 23 = .ok (.iload_n 2, 1) := by decide +kernel
theorem dX3_join_24 : decode cX3_join 24 = .ok (.iconst 1, 1) := by decide +kernel
theorem dX3_join_25 : decode cX3_join 25 = .ok (.invokevirtual 131, 3) := by decide +kernel
theorem dX3_join_28 : decode cX3_join 28 = .ok (.iload_n 3, 1) := by decide +kernel
theorem dX3_join_29 : decode cX3_join 29 = .ok (.ifCond .eq 9, 3) := by decide +kernel
theorem dX3_join_32 : decode cX3_join 32 = .ok (.aload_n 0, 1) := by decide +kernel
theorem dX3_join_33 : decode cX3_join 33 = .ok (.iload_n 1, 1) := by decide +kernel
theorem dX3_join_34 : decode cX3_join 34 = .ok (.iload_n 2, 1) := by decide +kernel
theorem dX3_join_35 : decode cX3_join 35 = .ok (.invokevirtual 134, 3) := by decide +kernel
theorem dX3_join_38 : decode cX3_join 38 = .ok (.iload_n 3, 1) := by decide +kernel
theorem dX3_join_39 : decode cX3_join 39 = .ok (.iconst 2, 1) := by decide +kernel
theorem dX3_join_40 : decode cX3_join 40 = .ok (.if_icmp .ne 13, 3) := by decide +kernel
theorem dX3_join_43 : decode cX3_join 43 = .ok (.aload_n 0, 1) := by decide +kernel
theorem dX3_join_44 : decode cX3_join 44 = .ok (.aload_n 0, 1) := by decide +kernel
theorem dX3_join_45 : decode cX3_join 45 = .ok (.iload_n 1, 1) := by decide +kernel
theorem dX3_join_46 : decode cX3_join 46 = .ok (.invokevirtual 88, 3) := by decide +kernel
theorem dX3_join_49 : decode cX3_join 49 = .ok (.invokevirtual 137, 3) := by decide +kernel
theorem dX3_join_52 : decode cX3_join 52 = .ok (.pop, 1) := by decide +kernel
theorem dX3_join_53 : decode cX3_join 53 = .ok (.iconst 1, 1) := by decide +kernel
theorem dX3_join_54 : decode cX3_join 54 = .ok (.ireturn, 1) := by decide +kernel
theorem dX3_shareZones_0 : decode cX3_shareZones 0 = .ok (.aload_n 0, 1) := by decide +kernel
theorem dX3_shareZones_1 : decode cX3_shareZones 1 = .ok (.iload_n 1, 1) := by decide +kernel
theorem dX3_shareZones_2 : decode cX3_shareZones 2 = .ok (.invokevirtual 88, 3) := by decide +kernel
theorem dX3_shareZones_5 : decode cX3_shareZones 5 = .ok (.istore_n 3, 1) := by decide +kernel
theorem dX3_shareZones_6 : decode cX3_shareZones 6 = .ok (.iconst 0, 1) := by decide +kernel
theorem dX3_shareZones_7 : decode cX3_shareZones 7 = .ok (.istore 4, 2) := by decide +kernel
theorem dX3_shareZones_9 : decode cX3_shareZones 9 = .ok (.iload 4, 2) := by decide +kernel
theorem dX3_shareZones_11 : decode cX3_shareZones 11 = .ok (.iconst 4, 1) := by decide +kernel
theorem dX3_shareZones_12 : decode cX3_shareZones 12 = .ok (.if_icmp .ge 31, 3) := by decide +kernel
theorem dX3_shareZones_15 : decode cX3_shareZones 15 = .ok (.aload_n 0, 1) := by decide +kernel
theorem dX3_shareZones_16 : decode cX3_shareZones 16 = .ok (.iload_n 3, 1) := by decide +kernel
theorem dX3_shareZones_17 : decode cX3_shareZones 17 = .ok (.iload 4, 2) := by decide +kernel
theorem dX3_shareZones_19 : decode cX3_shareZones 19 = .ok (.aload_n 0, 1) := by decide +kernel
theorem dX3_shareZones_20 : decode cX3_shareZones 20 = .ok (.iload_n 1, 1) := by decide +kernel
theorem dX3_shareZones_21 : decode cX3_shareZones 21 = .ok (.iload 4, 2) := by decide +kernel
theorem dX3_shareZones_23 : decode cX3_shareZones 23 = .ok (.invokevirtual 119, 3) := by decide +kernel
theorem dX3_shareZones_26 : decode cX3_shareZones 26 = .ok (.aload_n 0, 1) := by decide +kernel
theorem dX3_shareZones_27 : decode cX3_shareZones 27 = .ok (.iload_n 2, 1) := by decide +kernel
theorem dX3_shareZones_28 : decode cX3_shareZones 28 = .ok (.iload 4, 2) := by decide +kernel
theorem dX3_shareZones_30 : decode cX3_shareZones 30 = .ok (.invokevirtual 119, 3) := by decide +kernel
theorem dX3_shareZones_33 : decode cX3_shareZones 33 = .ok (.ior, 1) := by decide +kernel
theorem dX3_shareZones_34 : decode cX3_shareZones 34 = .ok (.invokevirtual 140, 3) := by decide +kernel
theorem dX3_shareZones_37 : decode cX3_shareZones 37 = .ok (.iinc 4 1, 3) := by decide +kernel
theorem dX3_shareZones_40 : decode cX3_shareZones 40 = .ok (.goto (-31), 3) := by decide +kernel
theorem dX3_shareZones_43 : decode cX3_shareZones 43 = .ok (.return_, 1) := by decide +kernel
theorem dX3_hostsAt_0 : decode cX3_hostsAt 0 = .ok (.iconst 0, 1) := by decide +kernel
theorem dX3_hostsAt_1 : decode cX3_hostsAt 1 = .ok (.istore_n 2, 1) := by decide +kernel
theorem dX3_hostsAt_2 : decode cX3_hostsAt 2 = .ok (.iconst 0, 1) := by decide +kernel
theorem dX3_hostsAt_3 : decode cX3_hostsAt 3 = .ok (.istore_n 3, 1) := by decide +kernel
theorem dX3_hostsAt_4 : decode cX3_hostsAt 4 = .ok (.iload_n 3, 1) := by decide +kernel
theorem dX3_hostsAt_5 : decode cX3_hostsAt 5 = .ok (.aload_n 0, 1) := by decide +kernel
theorem dX3_hostsAt_6 : decode cX3_hostsAt 6 = .ok (.getfield 46, 3) := by decide +kernel
theorem dX3_hostsAt_9 : decode cX3_hostsAt 9 = .ok (.if_icmp .ge 39, 3) := by decide +kernel
theorem dX3_hostsAt_12 : decode cX3_hostsAt 12 = .ok (.aload_n 0, 1) := by decide +kernel
theorem dX3_hostsAt_13 : decode cX3_hostsAt 13 = .ok (.getfield 33, 3) := by decide +kernel
theorem dX3_hostsAt_16 : decode cX3_hostsAt 16 = .ok (.iload_n 3, 1) := by decide +kernel
theorem dX3_hostsAt_17 : decode cX3_hostsAt 17 = .ok (.iaload, 1) := by decide +kernel
theorem dX3_hostsAt_18 : decode cX3_hostsAt 18 = .ok (.bipush (-9), 2) := by decide +kernel
theorem dX3_hostsAt_20 : decode cX3_hostsAt 20 = .ok (.if_icmp .eq 22, 3) := by decide +kernel
theorem dX3_hostsAt_23 : decode cX3_hostsAt 23 = .ok (.iload_n 1, 1) := by decide +kernel
theorem dX3_hostsAt_24 : decode cX3_hostsAt 24 = .ok (.aload_n 0, 1) := by decide +kernel
theorem dX3_hostsAt_25 : decode cX3_hostsAt 25 = .ok (.getfield 33, 3) := by decide +kernel
theorem dX3_hostsAt_28 : decode cX3_hostsAt 28 = .ok (.iload_n 3, 1) := by decide +kernel
theorem dX3_hostsAt_29 : decode cX3_hostsAt 29 = .ok (.iaload, 1) := by decide +kernel
theorem dX3_hostsAt_30 : decode cX3_hostsAt 30 = .ok (.invokestatic 72, 3) := by decide +kernel
theorem dX3_hostsAt_33 : decode cX3_hostsAt 33 = .ok (.ifCond .eq 9, 3) := by decide +kernel
theorem dX3_hostsAt_36 : decode cX3_hostsAt 36 = .ok (.iload_n 2, 1) := by decide +kernel
theorem dX3_hostsAt_37 : decode cX3_hostsAt 37 = .ok (.iconst 1, 1) := by decide +kernel
theorem dX3_hostsAt_38 : decode cX3_hostsAt 38 = .ok (.iload_n 3, 1) := by decide +kernel
theorem dX3_hostsAt_39 : decode cX3_hostsAt 39 = .ok (.ishl, 1) := by decide +kernel
theorem dX3_hostsAt_40 : decode cX3_hostsAt 40 = .ok (.ior, 1) := by decide +kernel
theorem dX3_hostsAt_41 : decode cX3_hostsAt 41 = .ok (.istore_n 2, 1) := by decide +kernel
theorem dX3_hostsAt_42 : decode cX3_hostsAt 42 = .ok (.iinc 3 1, 3) := by decide +kernel
theorem dX3_hostsAt_45 : decode cX3_hostsAt 45 = .ok (.goto (-41), 3) := by decide +kernel
theorem dX3_hostsAt_48 : decode cX3_hostsAt 48 = .ok (.iload_n 2, 1) := by decide +kernel
theorem dX3_hostsAt_49 : decode cX3_hostsAt 49 = .ok (.ireturn, 1) := by decide +kernel
theorem dX3_view_0 : decode cX3_view 0 = .ok (.lconst 0, 1) := by decide +kernel
theorem dX3_view_1 : decode cX3_view 1 = .ok (.lstore_n 1, 1) := by decide +kernel
theorem dX3_view_2 : decode cX3_view 2 = .ok (.iconst 0, 1) := by decide +kernel
theorem dX3_view_3 : decode cX3_view 3 = .ok (.istore_n 3, 1) := by decide +kernel
theorem dX3_view_4 : decode cX3_view 4 = .ok (.iconst 0, 1) := by decide +kernel
theorem dX3_view_5 : decode cX3_view 5 = .ok (.istore 4, 2) := by decide +kernel
theorem dX3_view_7 : decode cX3_view 7 = .ok (.iload 4, 2) := by decide +kernel
theorem dX3_view_9 : decode cX3_view 9 = .ok (.aload_n 0, 1) := by decide +kernel
theorem dX3_view_10 : decode cX3_view 10 = .ok (.getfield 42, 3) := by decide +kernel
theorem dX3_view_13 : decode cX3_view 13 = .ok (.if_icmp .ge 46, 3) := by decide +kernel
theorem dX3_view_16 : decode cX3_view 16 = .ok (.iload_n 3, 1) := by decide +kernel
theorem dX3_view_17 : decode cX3_view 17 = .ok (.iload 4, 2) := by decide +kernel
theorem dX3_view_19 : decode cX3_view 19 = .ok (.invokestatic 72, 3) := by decide +kernel
theorem dX3_view_22 : decode cX3_view 22 = .ok (.ifCond .ne 31, 3) := by decide +kernel
theorem dX3_view_25 : decode cX3_view 25 = .ok (.aload_n 0, 1) := by decide +kernel
theorem dX3_view_26 : decode cX3_view 26 = .ok (.iload 4, 2) := by decide +kernel
theorem dX3_view_28 : decode cX3_view 28 = .ok (.invokevirtual 88, 3) := by decide +kernel
theorem dX3_view_31 : decode cX3_view 31 = .ok (.istore 5, 2) := by decide +kernel
theorem dX3_view_33 : decode cX3_view 33 = .ok (.iload_n 3, 1) := by decide +kernel
theorem dX3_view_34 : decode cX3_view 34 = .ok (.iload 5, 2) := by decide +kernel
theorem dX3_view_36 : decode cX3_view 36 = .ok (.ior, 1) := by decide +kernel
theorem dX3_view_37 : decode cX3_view 37 = .ok (.istore_n 3, 1) := by decide +kernel
theorem dX3_view_38 : decode cX3_view 38 = .ok (.lload_n 1, 1) := by decide +kernel
theorem dX3_view_39 : decode cX3_view 39 = .ok (.aload_n 0, 1) := by decide +kernel
theorem dX3_view_40 : decode cX3_view 40 = .ok (.iload 4, 2) := by decide +kernel
theorem dX3_view_42 : decode cX3_view 42 = .ok (.aload_n 0, 1) := by decide +kernel
theorem dX3_view_43 : decode cX3_view 43 = .ok (.iload 5, 2) := by decide +kernel
theorem dX3_view_45 : decode cX3_view 45 = .ok (.invokevirtual 143, 3) := by decide +kernel
theorem dX3_view_48 : decode cX3_view 48 = .ok (.invokevirtual 146, 3) := by decide +kernel
theorem dX3_view_51 : decode cX3_view 51 = .ok (.lor, 1) := by decide +kernel
theorem dX3_view_52 : decode cX3_view 52 = .ok (.lstore_n 1, 1) := by decide +kernel
theorem dX3_view_53 : decode cX3_view 53 = .ok (.iinc 4 1, 3) := by decide +kernel
theorem dX3_view_56 : decode cX3_view 56 = .ok (.goto (-49), 3) := by decide +kernel
theorem dX3_view_59 : decode cX3_view 59 = .ok (.lload_n 1, 1) := by decide +kernel
theorem dX3_view_60 : decode cX3_view 60 = .ok (.lreturn, 1) := by decide +kernel
theorem dX3_viewWithin_0 : decode cX3_viewWithin 0 = .ok (.lconst 0, 1) := by decide +kernel
theorem dX3_viewWithin_1 : decode cX3_viewWithin 1 = .ok (.lstore_n 3, 1) := by decide +kernel
theorem dX3_viewWithin_2 : decode cX3_viewWithin 2 = .ok (.aload_n 0, 1) := by decide +kernel
theorem dX3_viewWithin_3 : decode cX3_viewWithin 3 = .ok (.iload_n 1, 1) := by decide +kernel
theorem dX3_viewWithin_4 : decode cX3_viewWithin 4 = .ok (.invokevirtual 150, 3) := by decide +kernel
theorem dX3_viewWithin_7 : decode cX3_viewWithin 7 = .ok (.istore 5, 2) := by decide +kernel
theorem dX3_viewWithin_9 : decode cX3_viewWithin 9 = .ok (.iconst 0, 1) := by decide +kernel
theorem dX3_viewWithin_10 : decode cX3_viewWithin 10 = .ok (.istore 6, 2) := by decide +kernel
theorem dX3_viewWithin_12 : decode cX3_viewWithin 12 = .ok (.iload 6, 2) := by decide +kernel
theorem dX3_viewWithin_14 : decode cX3_viewWithin 14 = .ok (.aload_n 0, 1) := by decide +kernel
theorem dX3_viewWithin_15 : decode cX3_viewWithin 15 = .ok (.getfield 46, 3) := by decide +kernel
theorem dX3_viewWithin_18 : decode cX3_viewWithin 18 = .ok (.if_icmp .ge 57, 3) := by decide +kernel
theorem dX3_viewWithin_21 : decode cX3_viewWithin 21 = .ok (.iload_n 2, 1) := by decide +kernel
theorem dX3_viewWithin_22 : decode cX3_viewWithin 22 = .ok (.iload 6, 2) := by decide +kernel
theorem dX3_viewWithin_24 : decode cX3_viewWithin 24 = .ok (.invokestatic 72, 3) := by decide +kernel
theorem dX3_viewWithin_27 : decode cX3_viewWithin 27 = .ok (.ifCond .eq 42, 3) := by decide +kernel
theorem dX3_viewWithin_30 : decode cX3_viewWithin 30 = .ok (.iload 5, 2) := by decide +kernel
theorem dX3_viewWithin_32 : decode cX3_viewWithin 32 = .ok (.ifCond .eq 7, 3) := by decide +kernel
theorem dX3_viewWithin_35 : decode cX3_viewWithin 35 = .ok (.iload_n 2, 1) := by decide +kernel
theorem dX3_viewWithin_36 : decode cX3_viewWithin 36 = .ok (.goto 12, 3) := by decide +kernel
theorem dX3_viewWithin_39 : decode cX3_viewWithin 39 = .ok (.iload_n 2, 1) := by decide +kernel
theorem dX3_viewWithin_40 : decode cX3_viewWithin 40 = .ok (.aload_n 0, 1) := by decide +kernel
theorem dX3_viewWithin_41 : decode cX3_viewWithin 41 = .ok (.iload_n 1, 1) := by decide +kernel
theorem dX3_viewWithin_42 : decode cX3_viewWithin 42 = .ok (.iload 6, 2) := by decide +kernel
theorem dX3_viewWithin_44 : decode cX3_viewWithin 44 = .ok (.invokevirtual 153, 3) := by decide +kernel
theorem dX3_viewWithin_47 : decode cX3_viewWithin 47 = .ok (.iand, 1) := by decide +kernel
theorem dX3_viewWithin_48 : decode cX3_viewWithin 48 = .ok (.istore 7, 2) := by decide +kernel
theorem dX3_viewWithin_50 : decode cX3_viewWithin 50 = .ok (.lload_n 3, 1) := by decide +kernel
theorem dX3_viewWithin_51 : decode cX3_viewWithin 51 = .ok (.iload 7, 2) := by decide +kernel
theorem dX3_viewWithin_53 : decode cX3_viewWithin 53 = .ok (.iconst 1, 1) := by decide +kernel
theorem dX3_viewWithin_54 : decode cX3_viewWithin 54 = .ok (.iload 6, 2) := by decide +kernel
theorem dX3_viewWithin_56 : decode cX3_viewWithin 56 = .ok (.ishl, 1) := by decide +kernel
theorem dX3_viewWithin_57 : decode cX3_viewWithin 57 = .ok (.iconst (-1), 1) := by decide +kernel
theorem dX3_viewWithin_58 : decode cX3_viewWithin 58 = .ok (.ixor, 1) := by decide +kernel
theorem dX3_viewWithin_59 : decode cX3_viewWithin 59 = .ok (.iand, 1) := by decide +kernel
theorem dX3_viewWithin_60 : decode cX3_viewWithin 60 = .ok (.i2l, 1) := by decide +kernel
theorem dX3_viewWithin_61 : decode cX3_viewWithin 61 = .ok (.bipush 8, 2) := by decide +kernel
theorem dX3_viewWithin_63 : decode cX3_viewWithin 63 = .ok (.iload 6, 2) := by decide +kernel
theorem dX3_viewWithin_65 : decode cX3_viewWithin 65 = .ok (.imul, 1) := by decide +kernel
theorem dX3_viewWithin_66 : decode cX3_viewWithin 66 = .ok (.lshl, 1) := by decide +kernel
theorem dX3_viewWithin_67 : decode cX3_viewWithin 67 = .ok (.lor, 1) := by decide +kernel
theorem dX3_viewWithin_68 : decode cX3_viewWithin 68 = .ok (.lstore_n 3, 1) := by decide +kernel
theorem dX3_viewWithin_69 : decode cX3_viewWithin 69 = .ok (.iinc 6 1, 3) := by decide +kernel
theorem dX3_viewWithin_72 : decode cX3_viewWithin 72 = .ok (.goto (-60), 3) := by decide +kernel
theorem dX3_viewWithin_75 : decode cX3_viewWithin 75 = .ok (.lload_n 3, 1) := by decide +kernel
theorem dX3_viewWithin_76 : decode cX3_viewWithin 76 = .ok (.lreturn, 1) := by decide +kernel
theorem dX3_zonesEmpty_0 : decode cX3_zonesEmpty 0 = .ok (.iconst 0, 1) := by decide +kernel
theorem dX3_zonesEmpty_1 : decode cX3_zonesEmpty 1 = .ok (.istore_n 2, 1) := by decide +kernel
theorem dX3_zonesEmpty_2 : decode cX3_zonesEmpty 2 = .ok (.iconst 0, 1) := by decide +kernel
theorem dX3_zonesEmpty_3 : decode cX3_zonesEmpty 3 = .ok (.istore_n 3, 1) := by decide +kernel
theorem dX3_zonesEmpty_4 : decode cX3_zonesEmpty 4 = .ok (.iload_n 3, 1) := by decide +kernel
theorem dX3_zonesEmpty_5 : decode cX3_zonesEmpty 5 = .ok (.iconst 4, 1) := by decide +kernel
theorem dX3_zonesEmpty_6 : decode cX3_zonesEmpty 6 = .ok (.if_icmp .ge 18, 3) := by decide +kernel
theorem dX3_zonesEmpty_9 : decode cX3_zonesEmpty 9 = .ok (.iload_n 2, 1) := by decide +kernel
theorem dX3_zonesEmpty_10 : decode cX3_zonesEmpty 10 = .ok (.aload_n 0, 1) := by decide +kernel
theorem dX3_zonesEmpty_11 : decode cX3_zonesEmpty 11 = .ok (.iload_n 1, 1) := by decide +kernel
theorem dX3_zonesEmpty_12 : decode cX3_zonesEmpty 12 = .ok (.iload_n 3, 1) := by decide +kernel
theorem dX3_zonesEmpty_13 : decode cX3_zonesEmpty 13 = .ok (.invokevirtual 119, 3) := by decide +kernel
theorem dX3_zonesEmpty_16 : decode cX3_zonesEmpty 16 = .ok (.ior, 1) := by decide +kernel
theorem dX3_zonesEmpty_17 : decode cX3_zonesEmpty 17 = .ok (.istore_n 2, 1) := by decide +kernel
theorem dX3_zonesEmpty_18 : decode cX3_zonesEmpty 18 = .ok (.iinc 3 1, 3) := by decide +kernel
theorem dX3_zonesEmpty_21 : decode cX3_zonesEmpty 21 = .ok (.goto (-17), 3) := by decide +kernel
theorem dX3_zonesEmpty_24 : decode cX3_zonesEmpty 24 = .ok (.iload_n 2, 1) := by decide +kernel
theorem dX3_zonesEmpty_25 : decode cX3_zonesEmpty 25 = .ok (.ifCond .ne 7, 3) := by decide +kernel
theorem dX3_zonesEmpty_28 : decode cX3_zonesEmpty 28 = .ok (.iconst 1, 1) := by decide +kernel
theorem dX3_zonesEmpty_29 : decode cX3_zonesEmpty 29 = .ok (.goto 4, 3) := by decide +kernel
theorem dX3_zonesEmpty_32 : decode cX3_zonesEmpty 32 = .ok (.iconst 0, 1) := by decide +kernel
theorem dX3_zonesEmpty_33 : decode cX3_zonesEmpty 33 = .ok (.ireturn, 1) := by decide +kernel
theorem dX3_sharingZone_0 : decode cX3_sharingZone 0 = .ok (.iconst 0, 1) := by decide +kernel
theorem dX3_sharingZone_1 : decode cX3_sharingZone 1 = .ok (.istore_n 3, 1) := by decide +kernel
theorem dX3_sharingZone_2 : decode cX3_sharingZone 2 = .ok (.iconst 0, 1) := by decide +kernel
theorem dX3_sharingZone_3 : decode cX3_sharingZone 3 = .ok (.istore 4, 2) := by decide +kernel
theorem dX3_sharingZone_5 : decode cX3_sharingZone 5 = .ok (.iload 4, 2) := by decide +kernel
theorem dX3_sharingZone_7 : decode cX3_sharingZone 7 = .ok (.iconst 4, 1) := by decide +kernel
theorem dX3_sharingZone_8 : decode cX3_sharingZone 8 = .ok (.if_icmp .ge 33, 3) := by decide +kernel
theorem dX3_sharingZone_11 : decode cX3_sharingZone 11 = .ok (.aload_n 0, 1) := by decide +kernel
theorem dX3_sharingZone_12 : decode cX3_sharingZone 12 = .ok (.iload_n 1, 1) := by decide +kernel
theorem dX3_sharingZone_13 : decode cX3_sharingZone 13 = .ok (.iload 4, 2) := by decide +kernel
theorem dX3_sharingZone_15 : decode cX3_sharingZone 15 = .ok (.invokevirtual 119, 3) := by decide +kernel
theorem dX3_sharingZone_18 : decode cX3_sharingZone 18 = .ok (.iload_n 2, 1) := by decide +kernel
theorem dX3_sharingZone_19 : decode cX3_sharingZone 19 = .ok (.invokestatic 72, 3) := by decide +kernel
theorem dX3_sharingZone_22 : decode cX3_sharingZone 22 = .ok (.ifCond .eq 13, 3) := by decide +kernel
theorem dX3_sharingZone_25 : decode cX3_sharingZone 25 = .ok (.iload_n 3, 1) := by decide +kernel
theorem dX3_sharingZone_26 : decode cX3_sharingZone 26 = .ok (.aload_n 0, 1) := by decide +kernel
theorem dX3_sharingZone_27 : decode cX3_sharingZone 27 = .ok (.iload_n 1, 1) := by decide +kernel
theorem dX3_sharingZone_28 : decode cX3_sharingZone 28 = .ok (.iload 4, 2) := by decide +kernel
theorem dX3_sharingZone_30 : decode cX3_sharingZone 30 = .ok (.invokevirtual 119, 3) := by decide +kernel
theorem dX3_sharingZone_33 : decode cX3_sharingZone 33 = .ok (.ior, 1) := by decide +kernel
theorem dX3_sharingZone_34 : decode cX3_sharingZone 34 = .ok (.istore_n 3, 1) := by decide +kernel
theorem dX3_sharingZone_35 : decode cX3_sharingZone 35 = .ok (.iinc 4 1, 3) := by decide +kernel
theorem dX3_sharingZone_38 : decode cX3_sharingZone 38 = .ok (.goto (-33), 3) := by decide +kernel
theorem dX3_sharingZone_41 : decode cX3_sharingZone 41 = .ok (.iload_n 3, 1) := by decide +kernel
theorem dX3_sharingZone_42 : decode cX3_sharingZone 42 = .ok (.ireturn, 1) := by decide +kernel
theorem dX3_viewWithout_0 : decode cX3_viewWithout 0 = .ok (.aload_n 0, 1) := by decide +kernel
theorem dX3_viewWithout_1 : decode cX3_viewWithout 1 = .ok (.iload_n 1, 1) := by decide +kernel
theorem dX3_viewWithout_2 : decode cX3_viewWithout 2 = .ok (.iload_n 2, 1) := by decide +kernel
theorem dX3_viewWithout_3 : decode cX3_viewWithout 3 = .ok (.iconst 0, 1) := by decide +kernel
theorem dX3_viewWithout_4 : decode cX3_viewWithout 4 = .ok (.invokevirtual 131, 3) := by decide +kernel
theorem dX3_viewWithout_7 : decode cX3_viewWithout 7 = .ok (.aload_n 0, 1) := by decide +kernel
theorem dX3_viewWithout_8 : decode cX3_viewWithout 8 = .ok (.invokevirtual 156, 3) := by decide +kernel
theorem dX3_viewWithout_11 : decode cX3_viewWithout 11 = .ok (.lstore_n 3, 1) := by decide +kernel
theorem dX3_viewWithout_12 : decode cX3_viewWithout 12 = .ok (.aload_n 0, 1) := by decide +kernel
theorem dX3_viewWithout_13 : decode cX3_viewWithout 13 = .ok (.iload_n 1, 1) := by decide +kernel
theorem dX3_viewWithout_14 : decode cX3_viewWithout 14 = .ok (.iload_n 2, 1) := by decide +kernel
theorem dX3_viewWithout_15 : decode cX3_viewWithout 15 = .ok (.iconst 1, 1) := by decide +kernel
theorem dX3_viewWithout_16 : decode cX3_viewWithout 16 = .ok (.invokevirtual 131, 3) := by decide +kernel
theorem dX3_viewWithout_19 : decode cX3_viewWithout 19 = .ok (.lload_n 3, 1) := by decide +kernel
theorem dX3_viewWithout_20 : decode cX3_viewWithout 20 = .ok (.lreturn, 1) := by decide +kernel
theorem dX3_noticeSince_0 : decode cX3_noticeSince 0 = .ok (.lload_n 1, 1) := by decide +kernel
theorem dX3_noticeSince_1 : decode cX3_noticeSince 1 = .ok (.aload_n 0, 1) := by decide +kernel
theorem dX3_noticeSince_2 : decode cX3_noticeSince 2 = .ok (.invokevirtual 156, 3) := by decide +kernel
theorem dX3_noticeSince_5 : decode cX3_noticeSince 5 = .ok (.lxor, 1) := by decide +kernel
theorem dX3_noticeSince_6 : decode cX3_noticeSince 6 = .ok (.lstore_n 3, 1) := by decide +kernel
theorem dX3_noticeSince_7 : decode cX3_noticeSince 7 = .ok (.iconst 0, 1) := by decide +kernel
theorem dX3_noticeSince_8 : decode cX3_noticeSince 8 = .ok (.istore 5, 2) := by decide +kernel
theorem dX3_noticeSince_10 : decode cX3_noticeSince 10 = .ok (.iload 5, 2) := by decide +kernel
theorem dX3_noticeSince_12 : decode cX3_noticeSince 12 = .ok (.aload_n 0, 1) := by decide +kernel
theorem dX3_noticeSince_13 : decode cX3_noticeSince 13 = .ok (.getfield 46, 3) := by decide +kernel
theorem dX3_noticeSince_16 : decode cX3_noticeSince 16 = .ok (.if_icmp .ge 42, 3) := by decide +kernel
theorem dX3_noticeSince_19 : decode cX3_noticeSince 19 = .ok (.lload_n 3, 1) := by decide +kernel
theorem dX3_noticeSince_20 : decode cX3_noticeSince 20 = .ok (.iload 5, 2) := by decide +kernel
theorem dX3_noticeSince_22 : decode cX3_noticeSince 22 = .ok (.invokestatic 160, 3) := by decide +kernel
theorem dX3_noticeSince_25 : decode cX3_noticeSince 25 = .ok (.istore 6, 2) := by decide +kernel
theorem dX3_noticeSince_27 : decode cX3_noticeSince 27 = .ok (.iload 6, 2) := by decide +kernel
theorem dX3_noticeSince_29 : decode cX3_noticeSince 29 = .ok (.ifCond .eq 23, 3) := by decide +kernel
theorem dX3_noticeSince_32 : decode cX3_noticeSince 32 = .ok (.aload_n 0, 1) := by decide +kernel
theorem dX3_noticeSince_33 : decode cX3_noticeSince 33 = .ok (.getfield 36, 3) := by decide +kernel
theorem dX3_noticeSince_36 : decode cX3_noticeSince 36 = .ok (.iload 5, 2) := by decide +kernel
theorem dX3_noticeSince_38 : decode cX3_noticeSince 38 = .ok (.dup2, 1) := by decide +kernel
theorem dX3_noticeSince_39 : decode cX3_noticeSince 39 = .ok (.iaload, 1) := by decide +kernel
theorem dX3_noticeSince_40 : decode cX3_noticeSince 40 = .ok (.iconst 1, 1) := by decide +kernel
theorem dX3_noticeSince_41 : decode cX3_noticeSince 41 = .ok (.iadd, 1) := by decide +kernel
theorem dX3_noticeSince_42 : decode cX3_noticeSince 42 = .ok (.iastore, 1) := by decide +kernel
theorem dX3_noticeSince_43 : decode cX3_noticeSince 43 = .ok (.aload_n 0, 1) := by decide +kernel
theorem dX3_noticeSince_44 : decode cX3_noticeSince 44 = .ok (.getfield 39, 3) := by decide +kernel
theorem dX3_noticeSince_47 : decode cX3_noticeSince 47 = .ok (.iload 5, 2) := by decide +kernel
theorem dX3_noticeSince_49 : decode cX3_noticeSince 49 = .ok (.iload 6, 2) := by decide +kernel
theorem dX3_noticeSince_51 : decode cX3_noticeSince 51 = .ok (.iastore, 1) := by decide +kernel
theorem dX3_noticeSince_52 : decode cX3_noticeSince 52 = .ok (.iinc 5 1, 3) := by decide +kernel
theorem dX3_noticeSince_55 : decode cX3_noticeSince 55 = .ok (.goto (-45), 3) := by decide +kernel
theorem dX3_noticeSince_58 : decode cX3_noticeSince 58 = .ok (.return_, 1) := by decide +kernel
