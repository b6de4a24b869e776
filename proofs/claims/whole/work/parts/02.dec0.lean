theorem dX0_init_0 : decode cX0_init 0 = .ok (.aload_n 0, 1) := by decide +kernel
theorem dX0_init_1 : decode cX0_init 1 = .ok (.invokespecial 3, 3) := by decide +kernel
theorem dX0_init_4 : decode cX0_init 4 = .ok (.aload_n 0, 1) := by decide +kernel
theorem dX0_init_5 : decode cX0_init 5 = .ok (.bipush 32, 2) := by decide +kernel
theorem dX0_init_7 : decode cX0_init 7 = .ok (.newarray .int, 2) := by decide +kernel
theorem dX0_init_9 : decode cX0_init 9 = .ok (.putfield 9, 3) := by decide +kernel
theorem dX0_init_12 : decode cX0_init 12 = .ok (.aload_n 0, 1) := by decide +kernel
theorem dX0_init_13 : decode cX0_init 13 = .ok (.bipush 32, 2) := by decide +kernel
theorem dX0_init_15 : decode cX0_init 15 = .ok (.newarray .int, 2) := by decide +kernel
theorem dX0_init_17 : decode cX0_init 17 = .ok (.putfield 15, 3) := by decide +kernel
theorem dX0_init_20 : decode cX0_init 20 = .ok (.aload_n 0, 1) := by decide +kernel
theorem dX0_init_21 : decode cX0_init 21 = .ok (.bipush 32, 2) := by decide +kernel
theorem dX0_init_23 : decode cX0_init 23 = .ok (.newarray .int, 2) := by decide +kernel
theorem dX0_init_25 : decode cX0_init 25 = .ok (.putfield 18, 3) := by decide +kernel
theorem dX0_init_28 : decode cX0_init 28 = .ok (.aload_n 0, 1) := by decide +kernel
theorem dX0_init_29 : decode cX0_init 29 = .ok (.bipush 32, 2) := by decide +kernel
theorem dX0_init_31 : decode cX0_init 31 = .ok (.newarray .int, 2) := by decide +kernel
theorem dX0_init_33 : decode cX0_init 33 = .ok (.putfield 21, 3) := by decide +kernel
theorem dX0_init_36 : decode cX0_init 36 = .ok (.aload_n 0, 1) := by decide +kernel
theorem dX0_init_37 : decode cX0_init 37 = .ok (.bipush 32, 2) := by decide +kernel
theorem dX0_init_39 : decode cX0_init 39 = .ok (.newarray .int, 2) := by decide +kernel
theorem dX0_init_41 : decode cX0_init 41 = .ok (.putfield 24, 3) := by decide +kernel
theorem dX0_init_44 : decode cX0_init 44 = .ok (.aload_n 0, 1) := by decide +kernel
theorem dX0_init_45 : decode cX0_init 45 = .ok (.bipush 32, 2) := by decide +kernel
theorem dX0_init_47 : decode cX0_init 47 = .ok (.newarray .int, 2) := by decide +kernel
theorem dX0_init_49 : decode cX0_init 49 = .ok (.putfield 27, 3) := by decide +kernel
theorem dX0_init_52 : decode cX0_init 52 = .ok (.aload_n 0, 1) := by decide +kernel
theorem dX0_init_53 : decode cX0_init 53 = .ok (.bipush 32, 2) := by decide +kernel
theorem dX0_init_55 : decode cX0_init 55 = .ok (.newarray .int, 2) := by decide +kernel
theorem dX0_init_57 : decode cX0_init 57 = .ok (.putfield 30, 3) := by decide +kernel
theorem dX0_init_60 : decode cX0_init 60 = .ok (.aload_n 0, 1) := by decide +kernel
theorem dX0_init_61 : decode cX0_init 61 = .ok (.bipush 32, 2) := by decide +kernel
theorem dX0_init_63 : decode cX0_init 63 = .ok (.newarray .int, 2) := by decide +kernel
theorem dX0_init_65 : decode cX0_init 65 = .ok (.putfield 33, 3) := by decide +kernel
theorem dX0_init_68 : decode cX0_init 68 = .ok (.aload_n 0, 1) := by decide +kernel
theorem dX0_init_69 : decode cX0_init 69 = .ok (.bipush 32, 2) := by decide +kernel
theorem dX0_init_71 : decode cX0_init 71 = .ok (.newarray .int, 2) := by decide +kernel
theorem dX0_init_73 : decode cX0_init 73 = .ok (.putfield 36, 3) := by decide +kernel
theorem dX0_init_76 : decode cX0_init 76 = .ok (.aload_n 0, 1) := by decide +kernel
theorem dX0_init_77 : decode cX0_init 77 = .ok (.bipush 32, 2) := by decide +kernel
theorem dX0_init_79 : decode cX0_init 79 = .ok (.newarray .int, 2) := by decide +kernel
theorem dX0_init_81 : decode cX0_init 81 = .ok (.putfield 39, 3) := by decide +kernel
theorem dX0_init_84 : decode cX0_init 84 = .ok (.aload_n 0, 1) := by decide +kernel
theorem dX0_init_85 : decode cX0_init 85 = .ok (.bipush 32, 2) := by decide +kernel
theorem dX0_init_87 : decode cX0_init 87 = .ok (.newarray .int, 2) := by decide +kernel
theorem dX0_init_89 : decode cX0_init 89 = .ok (.putfield 42, 3) := by decide +kernel
theorem dX0_init_92 : decode cX0_init 92 = .ok (.aload_n 0, 1) := by decide +kernel
theorem dX0_init_93 : decode cX0_init 93 = .ok (.iconst 0, 1) := by decide +kernel
theorem dX0_init_94 : decode cX0_init 94 = .ok (.putfield 45, 3) := by decide +kernel
theorem dX0_init_97 : decode cX0_init 97 = .ok (.aload_n 0, 1) := by decide +kernel
theorem dX0_init_98 : decode cX0_init 98 = .ok (.iconst 0, 1) := by decide +kernel
theorem dX0_init_99 : decode cX0_init 99 = .ok (.putfield 49, 3) := by decide +kernel
theorem dX0_init_102 : decode cX0_init 102 = .ok (.return_, 1) := by decide +kernel
theorem dX0_read_0 : decode cX0_read 0 = .ok (.aload_n 0, 1) := by decide +kernel
theorem dX0_read_1 : decode cX0_read 1 = .ok (.aload_n 1, 1) := by decide +kernel
theorem dX0_read_2 : decode cX0_read 2 = .ok (.getfield 52, 3) := by decide +kernel
theorem dX0_read_5 : decode cX0_read 5 = .ok (.putfield 49, 3) := by decide +kernel
theorem dX0_read_8 : decode cX0_read 8 = .ok (.iconst 0, 1) := by decide +kernel
theorem dX0_read_9 : decode cX0_read 9 = .ok (.istore_n 2, 1) := by decide +kernel
theorem dX0_read_10 : decode cX0_read 10 = .ok (.iload_n 2, 1) := by decide +kernel
theorem dX0_read_11 : decode cX0_read 11 = .ok (.aload_n 0, 1) := by decide +kernel
theorem dX0_read_12 : decode cX0_read 12 = .ok (.getfield 49, 3) := by decide +kernel
theorem dX0_read_15 : decode cX0_read 15 = .ok (.if_icmp .ge 58, 3) := by decide +kernel
theorem dX0_read_18 : decode cX0_read 18 = .ok (.aload_n 0, 1) := by decide +kernel
theorem dX0_read_19 : decode cX0_read 19 = .ok (.getfield 9, 3) := by decide +kernel
theorem dX0_read_22 : decode cX0_read 22 = .ok (.iload_n 2, 1) := by decide +kernel
theorem dX0_read_23 : decode cX0_read 23 = .ok (.iconst (-1), 1) := by decide +kernel
theorem dX0_read_24 : decode cX0_read 24 = .ok (.iastore, 1) := by decide +kernel
theorem dX0_read_25 : decode cX0_read 25 = .ok (.aload_n 0, 1) := by decide +kernel
theorem dX0_read_26 : decode cX0_read 26 = .ok (.getfield 15, 3) := by decide +kernel
theorem dX0_read_29 : decode cX0_read 29 = .ok (.iload_n 2, 1) := by decide +kernel
theorem dX0_read_30 : decode cX0_read 30 = .ok (.iconst (-1), 1) := by decide +kernel
theorem dX0_read_31 : decode cX0_read 31 = .ok (.iastore, 1) := by decide +kernel
theorem dX0_read_32 : decode cX0_read 32 = .ok (.aload_n 0, 1) := by decide +kernel
theorem dX0_read_33 : decode cX0_read 33 = .ok (.getfield 21, 3) := by decide +kernel
theorem dX0_read_36 : decode cX0_read 36 = .ok (.iload_n 2, 1) := by decide +kernel
theorem dX0_read_37 : decode cX0_read 37 = .ok (.iconst 0, 1) := by decide +kernel
theorem dX0_read_38 : decode cX0_read 38 = .ok (.iastore, 1) := by decide +kernel
theorem dX0_read_39 : decode cX0_read 39 = .ok (.aload_n 0, 1) := by decide +kernel
theorem dX0_read_40 : decode cX0_read 40 = .ok (.getfield 24, 3) := by decide +kernel
theorem dX0_read_43 : decode cX0_read 43 = .ok (.iload_n 2, 1) := by decide +kernel
theorem dX0_read_44 : decode cX0_read 44 = .ok (.iconst 0, 1) := by decide +kernel
theorem dX0_read_45 : decode cX0_read 45 = .ok (.iastore, 1) := by decide +kernel
theorem dX0_read_46 : decode cX0_read 46 = .ok (.aload_n 0, 1) := by decide +kernel
theorem dX0_read_47 : decode cX0_read 47 = .ok (.getfield 27, 3) := by decide +kernel
theorem dX0_read_50 : decode cX0_read 50 = .ok (.iload_n 2, 1) := by decide +kernel
theorem dX0_read_51 : decode cX0_read 51 = .ok (.iconst 0, 1) := by decide +kernel
theorem dX0_read_52 : decode cX0_read 52 = .ok (.iastore, 1) := by decide +kernel
theorem dX0_read_53 : decode cX0_read 53 = .ok (.aload_n 0, 1) := by decide +kernel
theorem dX0_read_54 : decode cX0_read 54 = .ok (.getfield 36, 3) := by decide +kernel
theorem dX0_read_57 : decode cX0_read 57 = .ok (.iload_n 2, 1) := by decide +kernel
theorem dX0_read_58 : decode cX0_read 58 = .ok (.iconst (-1), 1) := by decide +kernel
theorem dX0_read_59 : decode cX0_read 59 = .ok (.iastore, 1) := by decide +kernel
theorem dX0_read_60 : decode cX0_read 60 = .ok (.aload_n 0, 1) := by decide +kernel
theorem dX0_read_61 : decode cX0_read 61 = .ok (.getfield 39, 3) := by decide +kernel
theorem dX0_read_64 : decode cX0_read 64 = .ok (.iload_n 2, 1) := by decide +kernel
theorem dX0_read_65 : decode cX0_read 65 = .ok (.iconst (-1), 1) := by decide +kernel
theorem dX0_read_66 : decode cX0_read 66 = .ok (.iastore, 1) := by decide +kernel
theorem dX0_read_67 : decode cX0_read 67 = .ok (.iinc 2 1, 3) := by decide +kernel
theorem dX0_read_70 : decode cX0_read 70 = .ok (.goto (-60), 3) := by decide +kernel
theorem dX0_read_73 : decode cX0_read 73 = .ok (.aload_n 0, 1) := by decide +kernel
theorem dX0_read_74 : decode cX0_read 74 = .ok (.aload_n 1, 1) := by decide +kernel
theorem dX0_read_75 : decode cX0_read 75 = .ok (.invokevirtual 57, 3) := by decide +kernel
theorem dX0_read_78 : decode cX0_read 78 = .ok (.aload_n 0, 1) := by decide +kernel
theorem dX0_read_79 : decode cX0_read 79 = .ok (.invokevirtual 61, 3) := by decide +kernel
theorem dX0_read_82 : decode cX0_read 82 = .ok (.aload_n 0, 1) := by decide +kernel
theorem dX0_read_83 : decode cX0_read 83 = .ok (.aload_n 1, 1) := by decide +kernel
theorem dX0_read_84 : decode cX0_read 84 = .ok (.getfield 64, 3) := by decide +kernel
theorem dX0_read_87 : decode cX0_read 87 = .ok (.invokevirtual 68, 3) := by decide +kernel
theorem dX0_read_90 : decode cX0_read 90 = .ok (.aload_n 0, 1) := by decide +kernel
theorem dX0_read_91 : decode cX0_read 91 = .ok (.invokevirtual 72, 3) := by decide +kernel
theorem dX0_read_94 : decode cX0_read 94 = .ok (.return_, 1) := by decide +kernel
theorem dX0_readNodes_0 : decode cX0_readNodes 0 = .ok (.iconst 0, 1) := by decide +kernel
theorem dX0_readNodes_1 : decode cX0_readNodes 1 = .ok (.istore_n 2, 1) := by decide +kernel
theorem dX0_readNodes_2 : decode cX0_readNodes 2 = .ok (.iload_n 2, 1) := by decide +kernel
theorem dX0_readNodes_3 : decode cX0_readNodes 3 = .ok (.aload_n 0, 1) := by decide +kernel
theorem dX0_readNodes_4 : decode cX0_readNodes 4 = .ok (.getfield 49, 3) := by decide +kernel
theorem dX0_readNodes_7 : decode cX0_readNodes 7 = .ok (.if_icmp .ge 80, 3) := by decide +kernel
theorem dX0_readNodes_10 : decode cX0_readNodes 10 = .ok (.aload_n 1, 1) := by decide +kernel
theorem dX0_readNodes_11 : decode cX0_readNodes 11 = .ok (.getfield 64, 3) := by decide +kernel
theorem dX0_readNodes_14 : decode cX0_readNodes 14 = .ok (.getfield 75, 3) := by decide +kernel
theorem dX0_readNodes_17 : decode cX0_readNodes 17 = .ok (.iload_n 2, 1) := by decide +kernel
theorem dX0_readNodes_18 : decode cX0_readNodes 18 = .ok (.iaload, 1) := by decide +kernel
theorem dX0_readNodes_19 : decode cX0_readNodes 19 = .ok (.istore_n 3, 1) := by decide +kernel
theorem dX0_readNodes_20 : decode cX0_readNodes 20 = .ok (.aload_n 0, 1) := by decide +kernel
theorem dX0_readNodes_21 : decode cX0_readNodes 21 = .ok (.getfield 27, 3) := by decide +kernel
theorem dX0_readNodes_24 : decode cX0_readNodes 24 = .ok (.iload_n 3, 1) := by decide +kernel
theorem dX0_readNodes_25 : decode cX0_readNodes 25 = .ok (.dup2, 1) := by decide +kernel
theorem dX0_readNodes_26 : decode cX0_readNodes 26 = .ok (.iaload, 1) := by decide +kernel
theorem dX0_readNodes_27 : decode cX0_readNodes 27 = .ok (.iconst 1, 1) := by decide +kernel
theorem dX0_readNodes_28 : decode cX0_readNodes 28 = .ok (.iadd, 1) := by decide +kernel
theorem dX0_readNodes_29 : decode cX0_readNodes 29 = .ok (.iastore, 1) := by decide +kernel
theorem dX0_readNodes_30 : decode cX0_readNodes 30 = .ok (.aload_n 1, 1) := by decide +kernel
theorem dX0_readNodes_31 : decode cX0_readNodes 31 = .ok (.getfield 80, 3) := by decide +kernel
theorem dX0_readNodes_34 : decode cX0_readNodes 34 = .ok (.iload_n 2, 1) := by decide +kernel
theorem dX0_readNodes_35 : decode cX0_readNodes 35 = .ok (.iaload, 1) := by decide +kernel
theorem dX0_readNodes_36 : decode cX0_readNodes 36 = .ok (.istore 4, 2) := by decide +kernel
theorem dX0_readNodes_38 : decode cX0_readNodes 38 = .ok (.iload 4, 2) := by decide +kernel
theorem dX0_readNodes_40 : decode cX0_readNodes 40 = .ok (.iconst (-1), 1) := by decide +kernel
theorem dX0_readNodes_41 : decode cX0_readNodes 41 = .ok (.if_icmp .eq 40, 3) := by decide +kernel
theorem dX0_readNodes_44 : decode cX0_readNodes 44 = .ok (.aload_n 1, 1) := by decide +kernel
theorem dX0_readNodes_45 : decode cX0_readNodes 45 = .ok (.iload 4, 2) := by decide +kernel
theorem dX0_readNodes_47 : decode cX0_readNodes 47 = .ok (.invokevirtual 81, 3) := by decide +kernel
theorem dX0_readNodes_50 : decode cX0_readNodes 50 = .ok (.ifCond .eq 31, 3) := by decide +kernel
theorem dX0_readNodes_53 : decode cX0_readNodes 53 = .ok (.aload_n 0, 1) := by decide +kernel
theorem dX0_readNodes_54 : decode cX0_readNodes 54 = .ok (.getfield 9, 3) := by decide +kernel
theorem dX0_readNodes_57 : decode cX0_readNodes 57 = .ok (.iload_n 3, 1) := by decide +kernel
theorem dX0_readNodes_58 : decode cX0_readNodes 58 = .ok (.aload_n 1, 1) := by decide +kernel
theorem dX0_readNodes_59 : decode cX0_readNodes 59 = .ok (.getfield 64, 3) := by decide +kernel
theorem dX0_readNodes_62 : decode cX0_readNodes 62 = .ok (.getfield 75, 3) := by decide +kernel
theorem dX0_readNodes_65 : decode cX0_readNodes 65 = .ok (.aload_n 1, 1) := by decide +kernel
theorem dX0_readNodes_66 : decode cX0_readNodes 66 = .ok (.getfield 85, 3) := by decide +kernel
theorem dX0_readNodes_69 : decode cX0_readNodes 69 = .ok (.iload_n 2, 1) := by decide +kernel
theorem dX0_readNodes_70 : decode cX0_readNodes 70 = .ok (.iaload, 1) := by decide +kernel
theorem dX0_readNodes_71 : decode cX0_readNodes 71 = .ok (.iaload, 1) := by decide +kernel
theorem dX0_readNodes_72 : decode cX0_readNodes 72 = .ok (.iastore, 1) := by decide +kernel
theorem dX0_readNodes_73 : decode cX0_readNodes 73 = .ok (.aload_n 0, 1) := by decide +kernel
theorem dX0_readNodes_74 : decode cX0_readNodes 74 = .ok (.getfield 15, 3) := by decide +kernel
theorem dX0_readNodes_77 : decode cX0_readNodes 77 = .ok (.iload_n 3, 1) := by decide +kernel
theorem dX0_readNodes_78 : decode cX0_readNodes 78 = .ok (.iload 4, 2) := by decide +kernel
theorem dX0_readNodes_80 : decode cX0_readNodes 80 = .ok (.iastore, 1) := by decide +kernel
theorem dX0_readNodes_81 : decode cX0_readNodes 81 = .ok (.iinc 2 1, 3) := by decide +kernel
theorem dX0_readNodes_84 : decode cX0_readNodes 84 = .ok (.goto (-82), 3) := by decide +kernel
theorem dX0_readNodes_87 : decode cX0_readNodes 87 = .ok (.return_, 1) := by decide +kernel
theorem dX0_hangChildren_0 : decode cX0_hangChildren 0 = .ok (.iconst 0, 1) := by decide +kernel
theorem dX0_hangChildren_1 : decode cX0_hangChildren 1 = .ok (.istore_n 1, 1) := by decide +kernel
theorem dX0_hangChildren_2 : decode cX0_hangChildren 2 = .ok (.iload_n 1, 1) := by decide +kernel
theorem dX0_hangChildren_3 : decode cX0_hangChildren 3 = .ok (.aload_n 0, 1) := by decide +kernel
theorem dX0_hangChildren_4 : decode cX0_hangChildren 4 = .ok (.getfield 49, 3) := by decide +kernel
theorem dX0_hangChildren_7 : decode cX0_hangChildren 7 = .ok (.if_icmp .ge 70, 3) := by decide +kernel
theorem dX0_hangChildren_10 : decode cX0_hangChildren 10 = .ok (.aload_n 0, 1) := by decide +kernel
theorem dX0_hangChildren_11 : decode cX0_hangChildren 11 = .ok (.getfield 9, 3) := by decide +kernel
theorem dX0_hangChildren_14 : decode cX0_hangChildren 14 = .ok (.iload_n 1, 1) := by decide +kernel
theorem dX0_hangChildren_15 : decode cX0_hangChildren 15 = .ok (.iaload, 1) := by decide +kernel
theorem dX0_hangChildren_16 : decode cX0_hangChildren 16 = .ok (.istore_n 2, 1) := by decide +kernel
theorem dX0_hangChildren_17 : decode cX0_hangChildren 17 = .ok (.iload_n 2, 1) := by decide +kernel
theorem dX0_hangChildren_18 : decode cX0_hangChildren 18 = .ok (.iconst (-1), 1) := by decide +kernel
theorem dX0_hangChildren_19 : decode cX0_hangChildren 19 = .ok (.if_icmp .eq 52, 3) := by decide +kernel
theorem dX0_hangChildren_22 : decode cX0_hangChildren 22 = .ok (.aload_n 0, 1) := by decide +kernel
theorem dX0_hangChildren_23 : decode cX0_hangChildren 23 = .ok (.getfield 39, 3) := by decide +kernel
theorem dX0_hangChildren_26 : decode cX0_hangChildren 26 = .ok (.iload_n 1, 1) := by decide +kernel
theorem dX0_hangChildren_27 : decode cX0_hangChildren 27 = .ok (.aload_n 0, 1) := by decide +kernel
theorem dX0_hangChildren_28 : decode cX0_hangChildren 28 = .ok (.getfield 36, 3) := by decide +kernel
theorem dX0_hangChildren_31 : decode cX0_hangChildren 31 = .ok (.iload_n 2, 1) := by decide +kernel
theorem dX0_hangChildren_32 : decode cX0_hangChildren 32 = .ok (.iaload, 1) := by decide +kernel
theorem dX0_hangChildren_33 : decode cX0_hangChildren 33 = .ok (.iastore, 1) := by decide +kernel
theorem dX0_hangChildren_34 : decode cX0_hangChildren 34 = .ok (.aload_n 0, 1) := by decide +kernel
theorem dX0_hangChildren_35 : decode cX0_hangChildren 35 = .ok (.getfield 36, 3) := by decide +kernel
theorem dX0_hangChildren_38 : decode cX0_hangChildren 38 = .ok (.iload_n 2, 1) := by decide +kernel
theorem dX0_hangChildren_39 : decode cX0_hangChildren 39 = .ok (.iload_n 1, 1) := by decide +kernel
theorem dX0_hangChildren_40 : decode cX0_hangChildren 40 = .ok (.iastore, 1) := by decide +kernel
theorem dX0_hangChildren_41 : decode cX0_hangChildren 41 = .ok (.aload_n 0, 1) := by decide +kernel
theorem dX0_hangChildren_42 : decode cX0_hangChildren 42 = .ok (.getfield 21, 3) := by decide +kernel
theorem dX0_hangChildren_45 : decode cX0_hangChildren 45 = .ok (.iload_n 2, 1) := by decide +kernel
theorem dX0_hangChildren_46 : decode cX0_hangChildren 46 = .ok (.dup2, 1) := by decide +kernel
theorem dX0_hangChildren_47 : decode cX0_hangChildren 47 = .ok (.iaload, 1) := by decide +kernel
theorem dX0_hangChildren_48 : decode cX0_hangChildren 48 = .ok (.iconst 1, 1) := by decide +kernel
theorem dX0_hangChildren_49 : decode cX0_hangChildren 49 = .ok (.iadd, 1) := by decide +kernel
theorem dX0_hangChildren_50 : decode cX0_hangChildren 50 = .ok (.iastore, 1) := by decide +kernel
theorem dX0_hangChildren_51 : decode cX0_hangChildren 51 = .ok (.aload_n 0, 1) := by decide +kernel
theorem dX0_hangChildren_52 : decode cX0_hangChildren 52 = .ok (.getfield 24, 3) := by decide +kernel
theorem dX0_hangChildren_55 : decode cX0_hangChildren 55 = .ok (.iload_n 2, 1) := by decide +kernel
theorem dX0_hangChildren_56 : decode cX0_hangChildren 56 = .ok (.dup2, 1) := by decide +kernel
theorem dX0_hangChildren_57 : decode cX0_hangChildren 57 = .ok (.iaload, 1) := by decide +kernel
theorem dX0_hangChildren_58 : decode cX0_hangChildren 58 = .ok (.iconst 1, 1) := by decide +kernel
theorem dX0_hangChildren_59 : decode cX0_hangChildren 59 = .ok (.iadd, 1) := by decide +kernel
theorem dX0_hangChildren_60 : decode cX0_hangChildren 60 = .ok (.iastore, 1) := by decide +kernel
theorem dX0_hangChildren_61 : decode cX0_hangChildren 61 = .ok (.aload_n 0, 1) := by decide +kernel
theorem dX0_hangChildren_62 : decode cX0_hangChildren 62 = .ok (.getfield 24, 3) := by decide +kernel
theorem dX0_hangChildren_65 : decode cX0_hangChildren 65 = .ok (.iload_n 1, 1) := by decide +kernel
theorem dX0_hangChildren_66 : decode cX0_hangChildren 66 = .ok (.dup2, 1) := by decide +kernel
theorem dX0_hangChildren_67 : decode cX0_hangChildren 67 = .ok (.iaload, 1) := by decide +kernel
theorem dX0_hangChildren_68 : decode cX0_hangChildren 68 = .ok (.iconst 1, 1) := by decide +kernel
theorem dX0_hangChildren_69 : decode cX0_hangChildren 69 = .ok (.iadd, 1) := by decide +kernel
theorem dX0_hangChildren_70 : decode cX0_hangChildren 70 = .ok (.iastore, 1) := by decide +kernel
theorem dX0_hangChildren_71 : decode cX0_hangChildren 71 = .ok (.iinc 1 1, 3) := by decide +kernel
theorem dX0_hangChildren_74 : decode cX0_hangChildren 74 = .ok (.goto (-72), 3) := by decide +kernel
theorem dX0_hangChildren_77 : decode cX0_hangChildren 77 = .ok (.return_, 1) := by decide +kernel
theorem dX0_putInOrder_0 : decode cX0_putInOrder 0 = .ok (.aload_n 0, 1) := by decide +kernel
theorem dX0_putInOrder_1 : decode cX0_putInOrder 1 = .ok (.iconst 0, 1) := by decide +kernel
theorem dX0_putInOrder_2 : decode cX0_putInOrder 2 = .ok (.putfield 45, 3) := by decide +kernel
theorem dX0_putInOrder_5 : decode cX0_putInOrder 5 = .ok (.iconst 0, 1) := by decide +kernel
theorem dX0_putInOrder_6 : decode cX0_putInOrder 6 = .ok (.istore_n 2, 1) := by decide +kernel
theorem dX0_putInOrder_7 : decode cX0_putInOrder 7 = .ok (.aload_n 0, 1) := by decide +kernel
theorem dX0_putInOrder_8 : decode cX0_putInOrder 8 = .ok (.getfield 49, 3) := by decide +kernel
theorem dX0_putInOrder_11 : decode cX0_putInOrder 11 = .ok (.iconst 1, 1) := by decide +kernel
theorem dX0_putInOrder_12 : decode cX0_putInOrder 12 = .ok (.isub, 1) := by decide +kernel
theorem dX0_putInOrder_13 : decode cX0_putInOrder 13 = .ok (.istore_n 3, 1) := by decide +kernel
theorem dX0_putInOrder_14 : decode cX0_putInOrder 14 = .ok (.iload_n 3, 1) := by decide +kernel
theorem dX0_putInOrder_15 : decode cX0_putInOrder 15 = .ok (.ifCond .lt 37, 3) := by decide +kernel
theorem dX0_putInOrder_18 : decode cX0_putInOrder 18 = .ok (.aload_n 1, 1) := by decide +kernel
theorem dX0_putInOrder_19 : decode cX0_putInOrder 19 = .ok (.iload_n 3, 1) := by decide +kernel
theorem dX0_putInOrder_20 : decode cX0_putInOrder 20 = .ok (.invokevirtual 88, 3) := by decide +kernel
theorem dX0_putInOrder_23 : decode cX0_putInOrder 23 = .ok (.ifCond .eq 23, 3) := by decide +kernel
theorem dX0_putInOrder_26 : decode cX0_putInOrder 26 = .ok (.aload_n 0, 1) := by decide +kernel
theorem dX0_putInOrder_27 : decode cX0_putInOrder 27 = .ok (.getfield 9, 3) := by decide +kernel
theorem dX0_putInOrder_30 : decode cX0_putInOrder 30 = .ok (.iload_n 3, 1) := by decide +kernel
theorem dX0_putInOrder_31 : decode cX0_putInOrder 31 = .ok (.iaload, 1) := by decide +kernel
theorem dX0_putInOrder_32 : decode cX0_putInOrder 32 = .ok (.iconst (-1), 1) := by decide +kernel
theorem dX0_putInOrder_33 : decode cX0_putInOrder 33 = .ok (.if_icmp .ne 13, 3) := by decide +kernel
theorem dX0_putInOrder_36 : decode cX0_putInOrder 36 = .ok (.aload_n 0, 1) := by decide +kernel
theorem dX0_putInOrder_37 : decode cX0_putInOrder 37 = .ok (.getfield 42, 3) := by decide +kernel
theorem dX0_putInOrder_40 : decode cX0_putInOrder 40 = .ok (.iload_n 2, 1) := by decide +kernel
theorem dX0_putInOrder_41 : decode cX0_putInOrder 41 = .ok (.iload_n 3, 1) := by decide +kernel
theorem dX0_putInOrder_42 : decode cX0_putInOrder 42 = .ok (.iastore, 1) := by decide +kernel
theorem dX0_putInOrder_43 : decode cX0_putInOrder 43 = .ok (.iinc 2 1, 3) := by decide +kernel
theorem dX0_putInOrder_46 : decode cX0_putInOrder 46 = .ok (.iinc 3 (-1), 3) := by decide +kernel
theorem dX0_putInOrder_49 : decode cX0_putInOrder 49 = .ok (.goto (-35), 3) := by decide +kernel
theorem dX0_putInOrder_52 : decode cX0_putInOrder 52 = .ok (.iconst 0, 1) := by decide +kernel
theorem dX0_putInOrder_53 : decode cX0_putInOrder 53 = .ok (.istore_n 3, 1) := by decide +kernel
theorem dX0_putInOrder_54 : decode cX0_putInOrder 54 = .ok (.iload_n 3, 1) := by decide +kernel
theorem dX0_putInOrder_55 : decode cX0_putInOrder 55 = .ok (.aload_n 0, 1) := by decide +kernel
theorem dX0_putInOrder_56 : decode cX0_putInOrder 56 = .ok (.getfield 49, 3) := by decide +kernel
theorem dX0_putInOrder_59 : decode cX0_putInOrder 59 = .ok (.if_icmp .ge 134, 3) := by decide +kernel
theorem dX0_putInOrder_62 : decode cX0_putInOrder 62 = .ok (.iload_n 2, 1) := by decide +kernel
theorem dX0_putInOrder_63 : decode cX0_putInOrder 63 = .ok (.ifCond .le 130, 3) := by decide +kernel
theorem dX0_putInOrder_66 : decode cX0_putInOrder 66 = .ok (.iinc 2 (-1), 3) := by decide +kernel
theorem dX0_putInOrder_69 : decode cX0_putInOrder 69 = .ok (.aload_n 0, 1) := by decide +kernel
theorem dX0_putInOrder_70 : decode cX0_putInOrder 70 = .ok (.getfield 42, 3) := by decide +kernel
theorem dX0_putInOrder_73 : decode cX0_putInOrder 73 = .ok (.iload_n 2, 1) := by decide +kernel
theorem dX0_putInOrder_74 : decode cX0_putInOrder 74 = .ok (.iaload, 1) := by decide +kernel
theorem dX0_putInOrder_75 : decode cX0_putInOrder 75 = .ok (.istore 4, 2) := by decide +kernel
theorem dX0_putInOrder_77 : decode cX0_putInOrder 77 = .ok (.aload_n 0, 1) := by decide +kernel
theorem dX0_putInOrder_78 : decode cX0_putInOrder 78 = .ok (.getfield 18, 3) := by decide +kernel
theorem dX0_putInOrder_81 : decode cX0_putInOrder 81 = .ok (.iload 4, 2) := by decide +kernel
theorem dX0_putInOrder_83 : decode cX0_putInOrder 83 = .ok (.aload_n 0, 1) := by decide +kernel
theorem dX0_putInOrder_84 : decode cX0_putInOrder 84 = .ok (.getfield 9, 3) := by decide +kernel
theorem dX0_putInOrder_87 : decode cX0_putInOrder 87 = .ok (.iload 4, 2) := by decide +kernel
theorem dX0_putInOrder_89 : decode cX0_putInOrder 89 = .ok (.iaload, 1) := by decide +kernel
theorem dX0_putInOrder_90 : decode cX0_putInOrder 90 = .ok (.iconst (-1), 1) := by decide +kernel
theorem dX0_putInOrder_91 : decode cX0_putInOrder 91 = .ok (.if_icmp .ne 7, 3) := by decide +kernel
theorem dX0_putInOrder_94 : decode cX0_putInOrder 94 = .ok (.iconst 0, 1) := by decide +kernel
theorem dX0_putInOrder_95 : decode cX0_putInOrder 95 = .ok (.goto 17, 3) := by decide +kernel
theorem dX0_putInOrder_98 : decode cX0_putInOrder 98 = .ok (.aload_n 0, 1) := by decide +kernel
theorem dX0_putInOrder_99 : decode cX0_putInOrder 99 = .ok (.getfield 18, 3) := by decide +kernel
theorem dX0_putInOrder_102 : decode cX0_putInOrder 102 = .ok (.aload_n 0, 1) := by decide +kernel
theorem dX0_putInOrder_103 : decode cX0_putInOrder 103 = .ok (.getfield 9, 3) := by decide +kernel
theorem dX0_putInOrder_106 : decode cX0_putInOrder 106 = .ok (.iload 4, 2) := by decide +kernel
theorem dX0_putInOrder_108 : decode cX0_putInOrder 108 = .ok (.iaload, 1) := by decide +kernel
theorem dX0_putInOrder_109 : decode cX0_putInOrder 109 = .ok (.iaload, 1) := by decide +kernel
theorem dX0_putInOrder_110 : decode cX0_putInOrder 110 = .ok (.iconst 1, 1) := by decide +kernel
theorem dX0_putInOrder_111 : decode cX0_putInOrder 111 = .ok (.iadd, 1) := by decide +kernel
theorem dX0_putInOrder_112 : decode cX0_putInOrder 112 = .ok (.iastore, 1) := by decide +kernel
theorem dX0_putInOrder_113 : decode cX0_putInOrder 113 = .ok (.aload_n 0, 1) := by decide +kernel
theorem dX0_putInOrder_114 : decode cX0_putInOrder 114 = .ok (.getfield 33, 3) := by decide +kernel
theorem dX0_putInOrder_117 : decode cX0_putInOrder 117 = .ok (.aload_n 0, 1) := by decide +kernel
theorem dX0_putInOrder_118 : decode cX0_putInOrder 118 = .ok (.getfield 45, 3) := by decide +kernel
theorem dX0_putInOrder_121 : decode cX0_putInOrder 121 = .ok (.iload 4, 2) := by decide +kernel
theorem dX0_putInOrder_123 : decode cX0_putInOrder 123 = .ok (.iastore, 1) := by decide +kernel
theorem dX0_putInOrder_124 : decode cX0_putInOrder 124 = .ok (.aload_n 0, 1) := by decide +kernel
theorem dX0_putInOrder_125 : decode cX0_putInOrder 125 = .ok (.dup, 1) := by decide +kernel
theorem dX0_putInOrder_126 : decode cX0_putInOrder 126 = .ok (.getfield 45, 3) := by decide +kernel
theorem dX0_putInOrder_129 : decode cX0_putInOrder 129 = .ok (.iconst 1, 1) := by decide +kernel
theorem dX0_putInOrder_130 : decode cX0_putInOrder 130 = .ok (.iadd, 1) := by decide +kernel
theorem dX0_putInOrder_131 : decode cX0_putInOrder 131 = .ok (.putfield 45, 3) := by decide +kernel
theorem dX0_putInOrder_134 : decode cX0_putInOrder 134 = .ok (.aload_n 0, 1) := by decide +kernel
theorem dX0_putInOrder_135 : decode cX0_putInOrder 135 = .ok (.getfield 36, 3) := by decide +kernel
theorem dX0_putInOrder_138 : decode cX0_putInOrder 138 = .ok (.iload 4, 2) := by decide +kernel
theorem dX0_putInOrder_140 : decode cX0_putInOrder 140 = .ok (.iaload, 1) := by decide +kernel
theorem dX0_putInOrder_141 : decode cX0_putInOrder 141 = .ok (.istore 5, 2) := by decide +kernel
theorem dX0_putInOrder_143 : decode cX0_putInOrder 143 = .ok (.iconst 0, 1) := by decide +kernel
theorem dX0_putInOrder_144 : decode cX0_putInOrder 144 = .ok (.istore 6, 2) := by decide +kernel
theorem dX0_putInOrder_146 : decode cX0_putInOrder 146 = .ok (.iload 6, 2) := by decide +kernel
theorem dX0_putInOrder_148 : decode cX0_putInOrder 148 = .ok (.aload_n 0, 1) := by decide +kernel
theorem dX0_putInOrder_149 : decode cX0_putInOrder 149 = .ok (.getfield 49, 3) := by decide +kernel
theorem dX0_putInOrder_152 : decode cX0_putInOrder 152 = .ok (.if_icmp .ge 35, 3) := by decide +kernel
theorem dX0_putInOrder_155 : decode cX0_putInOrder 155 = .ok (.iload 5, 2) := by decide +kernel
theorem dX0_putInOrder_157 : decode cX0_putInOrder 157 = .ok (.iconst (-1), 1) := by decide +kernel
theorem dX0_putInOrder_158 : decode cX0_putInOrder 158 = .ok (.if_icmp .eq 29, 3) := by decide +kernel
theorem dX0_putInOrder_161 : decode cX0_putInOrder 161 = .ok (.aload_n 0, 1) := by decide +kernel
theorem dX0_putInOrder_162 : decode cX0_putInOrder 162 = .ok (.getfield 42, 3) := by decide +kernel
theorem dX0_putInOrder_165 : decode cX0_putInOrder 165 = .ok (.iload_n 2, 1) := by decide +kernel
theorem dX0_putInOrder_166 : decode cX0_putInOrder 166 = .ok (.iload 5, 2) := by decide +kernel
theorem dX0_putInOrder_168 : decode cX0_putInOrder 168 = .ok (.iastore, 1) := by decide +kernel
theorem dX0_putInOrder_169 : decode cX0_putInOrder 169 = .ok (.iinc 2 1, 3) := by decide +kernel
theorem dX0_putInOrder_172 : decode cX0_putInOrder 172 = .ok (.aload_n 0, 1) := by decide +kernel
theorem dX0_putInOrder_173 : decode cX0_putInOrder 173 = .ok (.getfield 39, 3) := by decide +kernel
theorem dX0_putInOrder_176 : decode cX0_putInOrder 176 = .ok (.iload 5, 2) := by decide +kernel
theorem dX0_putInOrder_178 : decode cX0_putInOrder 178 = .ok (.iaload, 1) := by decide +kernel
theorem dX0_putInOrder_179 : decode cX0_putInOrder 179 = .ok (.istore 5, 2) := by decide +kernel
theorem dX0_putInOrder_181 : decode cX0_putInOrder 181 = .ok (.iinc 6 1, 3) := by decide +kernel
theorem dX0_putInOrder_184 : decode cX0_putInOrder 184 = .ok (.goto (-38), 3) := by decide +kernel
theorem dX0_putInOrder_187 : decode cX0_putInOrder 187 = .ok (.iinc 3 1, 3) := by decide +kernel
theorem dX0_putInOrder_190 : decode cX0_putInOrder 190 = .ok (.goto (-136), 3) := by decide +kernel
theorem dX0_putInOrder_193 : decode cX0_putInOrder 193 = .ok (.return_, 1) := by decide +kernel
theorem dX0_sumUp_0 : decode cX0_sumUp 0 = .ok (.aload_n 0, 1) := by decide +kernel
theorem dX0_sumUp_1 : decode cX0_sumUp 1 = .ok (.getfield 45, 3) := by decide +kernel
theorem dX0_sumUp_4 : decode cX0_sumUp 4 = .ok (.iconst 1, 1) := by decide +kernel
theorem dX0_sumUp_5 : decode cX0_sumUp 5 = .ok (.isub, 1) := by decide +kernel
theorem dX0_sumUp_6 : decode cX0_sumUp 6 = .ok (.istore_n 1, 1) := by decide +kernel
theorem dX0_sumUp_7 : decode cX0_sumUp 7 = .ok (.iload_n 1, 1) := by decide +kernel
theorem dX0_sumUp_8 : decode cX0_sumUp 8 = .ok (.ifCond .lt 46, 3) := by decide +kernel
theorem dX0_sumUp_11 : decode cX0_sumUp 11 = .ok (.aload_n 0, 1) := by decide +kernel
theorem dX0_sumUp_12 : decode cX0_sumUp 12 = .ok (.getfield 33, 3) := by decide +kernel
theorem dX0_sumUp_15 : decode cX0_sumUp 15 = .ok (.iload_n 1, 1) := by decide +kernel
theorem dX0_sumUp_16 : decode cX0_sumUp 16 = .ok (.iaload, 1) := by decide +kernel
theorem dX0_sumUp_17 : decode cX0_sumUp 17 = .ok (.istore_n 2, 1) := by decide +kernel
theorem dX0_sumUp_18 : decode cX0_sumUp 18 = .ok (.aload_n 0, 1) := by decide +kernel
theorem dX0_sumUp_19 : decode cX0_sumUp 19 = .ok (.getfield 9, 3) := by decide +kernel
theorem dX0_sumUp_22 : decode cX0_sumUp 22 = .ok (.iload_n 2, 1) := by decide +kernel
theorem dX0_sumUp_23 : decode cX0_sumUp 23 = .ok (.iaload, 1) := by decide +kernel
theorem dX0_sumUp_24 : decode cX0_sumUp 24 = .ok (.iconst (-1), 1) := by decide +kernel
theorem dX0_sumUp_25 : decode cX0_sumUp 25 = .ok (.if_icmp .eq 23, 3) := by decide +kernel
theorem dX0_sumUp_28 : decode cX0_sumUp 28 = .ok (.aload_n 0, 1) := by decide +kernel
theorem dX0_sumUp_29 : decode cX0_sumUp 29 = .ok (.getfield 27, 3) := by decide +kernel
theorem dX0_sumUp_32 : decode cX0_sumUp 32 = .ok (.aload_n 0, 1) := by decide +kernel
theorem dX0_sumUp_33 : decode cX0_sumUp 33 = .ok (.getfield 9, 3) := by decide +kernel
theorem dX0_sumUp_36 : decode cX0_sumUp 36 = .ok (.iload_n 2, 1) := by decide +kernel
theorem dX0_sumUp_37 : decode cX0_sumUp 37 = .ok (.iaload, 1) := by decide +kernel
theorem dX0_sumUp_38 : decode cX0_sumUp 38 = .ok (.dup2, 1) := by decide +kernel
theorem dX0_sumUp_39 : decode cX0_sumUp 39 = .ok (.iaload, 1) := by decide +kernel
theorem dX0_sumUp_40 : decode cX0_sumUp 40 = .ok (.aload_n 0, 1) := by decide +kernel
theorem dX0_sumUp_41 : decode cX0_sumUp 41 = .ok (.getfield 27, 3) := by decide +kernel
theorem dX0_sumUp_44 : decode cX0_sumUp 44 = .ok (.iload_n 2, 1) := by decide +kernel
theorem dX0_sumUp_45 : decode cX0_sumUp 45 = .ok (.iaload, 1) := by decide +kernel
theorem dX0_sumUp_46 : decode cX0_sumUp 46 = .ok (.iadd, 1) := by decide +kernel
theorem dX0_sumUp_47 : decode cX0_sumUp 47 = .ok (.iastore, 1) := by decide +kernel
theorem dX0_sumUp_48 : decode cX0_sumUp 48 = .ok (.iinc 1 (-1), 3) := by decide +kernel
theorem dX0_sumUp_51 : decode cX0_sumUp 51 = .ok (.goto (-44), 3) := by decide +kernel
theorem dX0_sumUp_54 : decode cX0_sumUp 54 = .ok (.return_, 1) := by decide +kernel
theorem dX0_measure_0 : decode cX0_measure 0 = .ok (.aload_n 0, 1) := by decide +kernel
theorem dX0_measure_1 : decode cX0_measure 1 = .ok (.getfield 30, 3) := by decide +kernel
theorem dX0_measure_4 : decode cX0_measure 4 = .ok (.iconst (-1), 1) := by decide +kernel
theorem dX0_measure_5 : decode cX0_measure 5 = .ok (.invokestatic 91, 3) := by decide +kernel
theorem dX0_measure_8 : decode cX0_measure 8 = .ok (.iload_n 1, 1) := by decide +kernel
theorem dX0_measure_9 : decode cX0_measure 9 = .ok (.istore_n 2, 1) := by decide +kernel
theorem dX0_measure_10 : decode cX0_measure 10 = .ok (.iconst 0, 1) := by decide +kernel
theorem dX0_measure_11 : decode cX0_measure 11 = .ok (.istore_n 3, 1) := by decide +kernel
theorem dX0_measure_12 : decode cX0_measure 12 = .ok (.iload_n 3, 1) := by decide +kernel
theorem dX0_measure_13 : decode cX0_measure 13 = .ok (.aload_n 0, 1) := by decide +kernel
theorem dX0_measure_14 : decode cX0_measure 14 = .ok (.getfield 49, 3) := by decide +kernel
theorem dX0_measure_17 : decode cX0_measure 17 = .ok (.if_icmp .ge 28, 3) := by decide +kernel
theorem dX0_measure_20 : decode cX0_measure 20 = .ok (.iload_n 2, 1) := by decide +kernel
theorem dX0_measure_21 : decode cX0_measure 21 = .ok (.iconst (-1), 1) := by decide +kernel
theorem dX0_measure_22 : decode cX0_measure 22 = .ok (.if_icmp .eq 23, 3) := by decide +kernel
theorem dX0_measure_25 : decode cX0_measure 25 = .ok (.aload_n 0, 1) := by decide +kernel
theorem dX0_measure_26 : decode cX0_measure 26 = .ok (.getfield 30, 3) := by decide +kernel
theorem dX0_measure_29 : decode cX0_measure 29 = .ok (.iload_n 2, 1) := by decide +kernel
theorem dX0_measure_30 : decode cX0_measure 30 = .ok (.iload_n 3, 1) := by decide +kernel
theorem dX0_measure_31 : decode cX0_measure 31 = .ok (.iastore, 1) := by decide +kernel
theorem dX0_measure_32 : decode cX0_measure 32 = .ok (.aload_n 0, 1) := by decide +kernel
theorem dX0_measure_33 : decode cX0_measure 33 = .ok (.getfield 9, 3) := by decide +kernel
theorem dX0_measure_36 : decode cX0_measure 36 = .ok (.iload_n 2, 1) := by decide +kernel
theorem dX0_measure_37 : decode cX0_measure 37 = .ok (.iaload, 1) := by decide +kernel
theorem dX0_measure_38 : decode cX0_measure 38 = .ok (.istore_n 2, 1) := by decide +kernel
theorem dX0_measure_39 : decode cX0_measure 39 = .ok (.iinc 3 1, 3) := by decide +kernel
theorem dX0_measure_42 : decode cX0_measure 42 = .ok (.goto (-30), 3) := by decide +kernel
theorem dX0_measure_45 : decode cX0_measure 45 = .ok (.iconst 0, 1) := by decide +kernel
theorem dX0_measure_46 : decode cX0_measure 46 = .ok (.istore_n 3, 1) := by decide +kernel
theorem dX0_measure_47 : decode cX0_measure 47 = .ok (.iload_n 3, 1) := by decide +kernel
theorem dX0_measure_48 : decode cX0_measure 48 = .ok (.aload_n 0, 1) := by decide +kernel
theorem dX0_measure_49 : decode cX0_measure 49 = .ok (.getfield 45, 3) := by decide +kernel
theorem dX0_measure_52 : decode cX0_measure 52 = .ok (.if_icmp .ge 70, 3) := by decide +kernel
theorem dX0_measure_55 : decode cX0_measure 55 = .ok (.aload_n 0, 1) := by decide +kernel
theorem dX0_measure_56 : decode cX0_measure 56 = .ok (.getfield 33, 3) := by decide +kernel
theorem dX0_measure_59 : decode cX0_measure 59 = .ok (.iload_n 3, 1) := by decide +kernel
theorem dX0_measure_60 : decode cX0_measure 60 = .ok (.iaload, 1) := by decide +kernel
theorem dX0_measure_61 : decode cX0_measure 61 = .ok (.istore 4, 2) := by decide +kernel
theorem dX0_measure_63 : decode cX0_measure 63 = .ok (.aload_n 0, 1) := by decide +kernel
theorem dX0_measure_64 : decode cX0_measure 64 = .ok (.getfield 9, 3) := by decide +kernel
theorem dX0_measure_67 : decode cX0_measure 67 = .ok (.iload 4, 2) := by decide +kernel
theorem dX0_measure_69 : decode cX0_measure 69 = .ok (.iaload, 1) := by decide +kernel
theorem dX0_measure_70 : decode cX0_measure 70 = .ok (.istore 5, 2) := by decide +kernel
theorem dX0_measure_72 : decode cX0_measure 72 = .ok (.aload_n 0, 1) := by decide +kernel
theorem dX0_measure_73 : decode cX0_measure 73 = .ok (.getfield 30, 3) := by decide +kernel
theorem dX0_measure_76 : decode cX0_measure 76 = .ok (.iload 4, 2) := by decide +kernel
theorem dX0_measure_78 : decode cX0_measure 78 = .ok (.iaload, 1) := by decide +kernel
theorem dX0_measure_79 : decode cX0_measure 79 = .ok (.iconst (-1), 1) := by decide +kernel
theorem dX0_measure_80 : decode cX0_measure 80 = .ok (.if_icmp .ne 36, 3) := by decide +kernel
theorem dX0_measure_83 : decode cX0_measure 83 = .ok (.iload 5, 2) := by decide +kernel
theorem dX0_measure_85 : decode cX0_measure 85 = .ok (.iconst (-1), 1) := by decide +kernel
theorem dX0_measure_86 : decode cX0_measure 86 = .ok (.if_icmp .eq 30, 3) := by decide +kernel
theorem dX0_measure_89 : decode cX0_measure 89 = .ok (.aload_n 0, 1) := by decide +kernel
theorem dX0_measure_90 : decode cX0_measure 90 = .ok (.getfield 30, 3) := by decide +kernel
theorem dX0_measure_93 : decode cX0_measure 93 = .ok (.iload 5, 2) := by decide +kernel
theorem dX0_measure_95 : decode cX0_measure 95 = .ok (.iaload, 1) := by decide +kernel
theorem dX0_measure_96 : decode cX0_measure 96 = .ok (.iconst (-1), 1) := by decide +kernel
theorem dX0_measure_97 : decode cX0_measure 97 = .ok (.if_icmp .eq 19, 3) := by decide +kernel
theorem dX0_measure_100 : decode cX0_measure 100 = .ok (.aload_n 0, 1) := by decide +kernel
theorem dX0_measure_101 : decode cX0_measure 101 = .ok (.getfield 30, 3) := by decide +kernel
theorem dX0_measure_104 : decode cX0_measure 104 = .ok (.iload 4, 2) := by decide +kernel
theorem dX0_measure_106 : decode cX0_measure 106 = .ok (.aload_n 0, 1) := by decide +kernel
theorem dX0_measure_107 : decode cX0_measure 107 = .ok (.getfield 30, 3) := by decide +kernel
theorem dX0_measure_110 : decode cX0_measure 110 = .ok (.iload 5, 2) := by decide +kernel
theorem dX0_measure_112 : decode cX0_measure 112 = .ok (.iaload, 1) := by decide +kernel
theorem dX0_measure_113 : decode cX0_measure 113 = .ok (.iconst 1, 1) := by decide +kernel
theorem dX0_measure_114 : decode cX0_measure 114 = .ok (.iadd, 1) := by decide +kernel
theorem dX0_measure_115 : decode cX0_measure 115 = .ok (.iastore, 1) := by decide +kernel
theorem dX0_measure_116 : decode cX0_measure 116 = .ok (.iinc 3 1, 3) := by decide +kernel
theorem dX0_measure_119 : decode cX0_measure 119 = .ok (.goto (-72), 3) := by decide +kernel
theorem dX0_measure_122 : decode cX0_measure 122 = .ok (.return_, 1) := by decide +kernel
theorem dX0_farthest_0 : decode cX0_farthest 0 = .ok (.aload_n 0, 1) := by decide +kernel
theorem dX0_farthest_1 : decode cX0_farthest 1 = .ok (.iload_n 1, 1) := by decide +kernel
theorem dX0_farthest_2 : decode cX0_farthest 2 = .ok (.invokevirtual 97, 3) := by decide +kernel
theorem dX0_farthest_5 : decode cX0_farthest 5 = .ok (.iconst 0, 1) := by decide +kernel
theorem dX0_farthest_6 : decode cX0_farthest 6 = .ok (.istore_n 2, 1) := by decide +kernel
theorem dX0_farthest_7 : decode cX0_farthest 7 = .ok (.iconst 0, 1) := by decide +kernel
theorem dX0_farthest_8 : decode cX0_farthest 8 = .ok (.istore_n 3, 1) := by decide +kernel
theorem dX0_farthest_9 : decode cX0_farthest 9 = .ok (.iload_n 3, 1) := by decide +kernel
theorem dX0_farthest_10 : decode cX0_farthest 10 = .ok (.aload_n 0, 1) := by decide +kernel
theorem dX0_farthest_11 : decode cX0_farthest 11 = .ok (.getfield 49, 3) := by decide +kernel
theorem dX0_farthest_14 : decode cX0_farthest 14 = .ok (.if_icmp .ge 20, 3) := by decide +kernel
theorem dX0_farthest_17 : decode cX0_farthest 17 = .ok (.iload_n 2, 1) := by decide +kernel
theorem dX0_farthest_18 : decode cX0_farthest 18 = .ok (.aload_n 0, 1) := by decide +kernel
theorem dX0_farthest_19 : decode cX0_farthest 19 = .ok (.getfield 30, 3) := by decide +kernel
theorem dX0_farthest_22 : decode cX0_farthest 22 = .ok (.iload_n 3, 1) := by decide +kernel
theorem dX0_farthest_23 : decode cX0_farthest 23 = .ok (.iaload, 1) := by decide +kernel
theorem dX0_farthest_24 : decode cX0_farthest 24 = .ok (.invokestatic 101, 3) := by decide +kernel
theorem dX0_farthest_27 : decode cX0_farthest 27 = .ok (.istore_n 2, 1) := by decide +kernel
theorem dX0_farthest_28 : decode cX0_farthest 28 = .ok (.iinc 3 1, 3) := by decide +kernel
theorem dX0_farthest_31 : decode cX0_farthest 31 = .ok (.goto (-22), 3) := by decide +kernel
theorem dX0_farthest_34 : decode cX0_farthest 34 = .ok (.iload_n 2, 1) := by decide +kernel
theorem dX0_farthest_35 : decode cX0_farthest 35 = .ok (.ireturn, 1) := by decide +kernel
theorem dX0_longest_0 : decode cX0_longest 0 = .ok (.iconst 0, 1) := by decide +kernel
theorem dX0_longest_1 : decode cX0_longest 1 = .ok (.istore_n 3, 1) := by decide +kernel
theorem dX0_longest_2 : decode cX0_longest 2 = .ok (.iconst 0, 1) := by decide +kernel
theorem dX0_longest_3 : decode cX0_longest 3 = .ok (.istore 4, 2) := by decide +kernel
theorem dX0_longest_5 : decode cX0_longest 5 = .ok (.iload 4, 2) := by decide +kernel
theorem dX0_longest_7 : decode cX0_longest 7 = .ok (.aload_n 0, 1) := by decide +kernel
theorem dX0_longest_8 : decode cX0_longest 8 = .ok (.getfield 45, 3) := by decide +kernel
theorem dX0_longest_11 : decode cX0_longest 11 = .ok (.if_icmp .ge 41, 3) := by decide +kernel
theorem dX0_longest_14 : decode cX0_longest 14 = .ok (.aload_n 1, 1) := by decide +kernel
theorem dX0_longest_15 : decode cX0_longest 15 = .ok (.getfield 75, 3) := by decide +kernel
theorem dX0_longest_18 : decode cX0_longest 18 = .ok (.aload_n 0, 1) := by decide +kernel
theorem dX0_longest_19 : decode cX0_longest 19 = .ok (.getfield 33, 3) := by decide +kernel
theorem dX0_longest_22 : decode cX0_longest 22 = .ok (.iload 4, 2) := by decide +kernel
theorem dX0_longest_24 : decode cX0_longest 24 = .ok (.iaload, 1) := by decide +kernel
theorem dX0_longest_25 : decode cX0_longest 25 = .ok (.iaload, 1) := by decide +kernel
theorem dX0_longest_26 : decode cX0_longest 26 = .ok (.iload_n 2, 1) := by decide +kernel
theorem dX0_longest_27 : decode cX0_longest 27 = .ok (.if_icmp .ne 19, 3) := by decide +kernel
theorem dX0_longest_30 : decode cX0_longest 30 = .ok (.iload_n 3, 1) := by decide +kernel
theorem dX0_longest_31 : decode cX0_longest 31 = .ok (.aload_n 0, 1) := by decide +kernel
theorem dX0_longest_32 : decode cX0_longest 32 = .ok (.aload_n 0, 1) := by decide +kernel
theorem dX0_longest_33 : decode cX0_longest 33 = .ok (.getfield 33, 3) := by decide +kernel
theorem dX0_longest_36 : decode cX0_longest 36 = .ok (.iload 4, 2) := by decide +kernel
theorem dX0_longest_38 : decode cX0_longest 38 = .ok (.iaload, 1) := by decide +kernel
theorem dX0_longest_39 : decode cX0_longest 39 = .ok (.invokevirtual 107, 3) := by decide +kernel
theorem dX0_longest_42 : decode cX0_longest 42 = .ok (.invokestatic 101, 3) := by decide +kernel
theorem dX0_longest_45 : decode cX0_longest 45 = .ok (.istore_n 3, 1) := by decide +kernel
theorem dX0_longest_46 : decode cX0_longest 46 = .ok (.iinc 4 1, 3) := by decide +kernel
theorem dX0_longest_49 : decode cX0_longest 49 = .ok (.goto (-44), 3) := by decide +kernel
theorem dX0_longest_52 : decode cX0_longest 52 = .ok (.iload_n 3, 1) := by decide +kernel
theorem dX0_longest_53 : decode cX0_longest 53 = .ok (.ireturn, 1) := by decide +kernel
theorem dX0_longestLesser_0 : decode cX0_longestLesser 0 = .ok (.aload_n 0, 1) := by decide +kernel
theorem dX0_longestLesser_1 : decode cX0_longestLesser 1 = .ok (.aload_n 1, 1) := by decide +kernel
theorem dX0_longestLesser_2 : decode cX0_longestLesser 2 = .ok (.iload_n 2, 1) := by decide +kernel
theorem dX0_longestLesser_3 : decode cX0_longestLesser 3 = .ok (.invokevirtual 111, 3) := by decide +kernel
theorem dX0_longestLesser_6 : decode cX0_longestLesser 6 = .ok (.istore_n 3, 1) := by decide +kernel
theorem dX0_longestLesser_7 : decode cX0_longestLesser 7 = .ok (.iconst 0, 1) := by decide +kernel
theorem dX0_longestLesser_8 : decode cX0_longestLesser 8 = .ok (.istore 4, 2) := by decide +kernel
theorem dX0_longestLesser_10 : decode cX0_longestLesser 10 = .ok (.iload 4, 2) := by decide +kernel
theorem dX0_longestLesser_12 : decode cX0_longestLesser 12 = .ok (.aload_n 0, 1) := by decide +kernel
theorem dX0_longestLesser_13 : decode cX0_longestLesser 13 = .ok (.getfield 49, 3) := by decide +kernel
theorem dX0_longestLesser_16 : decode cX0_longestLesser 16 = .ok (.if_icmp .ge 33, 3) := by decide +kernel
theorem dX0_longestLesser_19 : decode cX0_longestLesser 19 = .ok (.aload_n 0, 1) := by decide +kernel
theorem dX0_longestLesser_20 : decode cX0_longestLesser 20 = .ok (.aload_n 1, 1) := by decide +kernel
theorem dX0_longestLesser_21 : decode cX0_longestLesser 21 = .ok (.iload_n 2, 1) := by decide +kernel
theorem dX0_longestLesser_22 : decode cX0_longestLesser 22 = .ok (.iload 4, 2) := by decide +kernel
theorem dX0_longestLesser_24 : decode cX0_longestLesser 24 = .ok (.invokevirtual 115, 3) := by decide +kernel
theorem dX0_longestLesser_27 : decode cX0_longestLesser 27 = .ok (.ifCond .eq 16, 3) := by decide +kernel
theorem dX0_longestLesser_30 : decode cX0_longestLesser 30 = .ok (.aload_n 0, 1) := by decide +kernel
theorem dX0_longestLesser_31 : decode cX0_longestLesser 31 = .ok (.iload 4, 2) := by decide +kernel
theorem dX0_longestLesser_33 : decode cX0_longestLesser 33 = .ok (.invokevirtual 107, 3) := by decide +kernel
theorem dX0_longestLesser_36 : decode cX0_longestLesser 36 = .ok (.iload_n 3, 1) := by decide +kernel
theorem dX0_longestLesser_37 : decode cX0_longestLesser 37 = .ok (.if_icmp .ne 6, 3) := by decide +kernel
theorem dX0_longestLesser_40 : decode cX0_longestLesser 40 = .ok (.iload 4, 2) := by decide +kernel
theorem dX0_longestLesser_42 : decode cX0_longestLesser 42 = .ok (.ireturn, 1) := by decide +kernel
theorem dX0_longestLesser_43 : decode cX0_longestLesser 43 = .ok (.iinc 4 1, 3) := by decide +kernel
theorem dX0_longestLesser_46 : decode cX0_longestLesser 46 = .ok (.goto (-36), 3) := by decide +kernel
theorem dX0_longestLesser_49 : decode cX0_longestLesser 49 = .ok (.iconst (-1), 1) := by decide +kernel
theorem dX0_longestLesser_50 : decode cX0_longestLesser 50 = .ok (.ireturn, 1) := by decide +kernel
theorem dX0_longestOther_0 : decode cX0_longestOther 0 = .ok (.aload_n 0, 1) := by decide +kernel
theorem dX0_longestOther_1 : decode cX0_longestOther 1 = .ok (.aload_n 1, 1) := by decide +kernel
theorem dX0_longestOther_2 : decode cX0_longestOther 2 = .ok (.iload_n 2, 1) := by decide +kernel
theorem dX0_longestOther_3 : decode cX0_longestOther 3 = .ok (.invokevirtual 111, 3) := by decide +kernel
theorem dX0_longestOther_6 : decode cX0_longestOther 6 = .ok (.istore_n 3, 1) := by decide +kernel
theorem dX0_longestOther_7 : decode cX0_longestOther 7 = .ok (.aload_n 0, 1) := by decide +kernel
theorem dX0_longestOther_8 : decode cX0_longestOther 8 = .ok (.aload_n 1, 1) := by decide +kernel
theorem dX0_longestOther_9 : decode cX0_longestOther 9 = .ok (.iload_n 2, 1) := by decide +kernel
theorem dX0_longestOther_10 : decode cX0_longestOther 10 = .ok (.invokevirtual 119, 3) := by decide +kernel
theorem dX0_longestOther_13 : decode cX0_longestOther 13 = .ok (.istore 4, 2) := by decide +kernel
theorem dX0_longestOther_15 : decode cX0_longestOther 15 = .ok (.iload 4, 2) := by decide +kernel
theorem dX0_longestOther_17 : decode cX0_longestOther 17 = .ok (.iconst (-1), 1) := by decide +kernel
theorem dX0_longestOther_18 : decode cX0_longestOther 18 = .ok (.if_icmp .ne 5, 3) := by decide +kernel
theorem dX0_longestOther_21 : decode cX0_longestOther 21 = .ok (.iconst (-1), 1) := by decide +kernel
theorem dX0_longestOther_22 : decode cX0_longestOther 22 = .ok (.ireturn, 1) := by decide +kernel
theorem dX0_longestOther_23 : decode cX0_longestOther 23 = .ok (.aload_n 0, 1) := by decide +kernel
theorem dX0_longestOther_24 : decode cX0_longestOther 24 = .ok (.iload 4, 2) := by decide +kernel
theorem dX0_longestOther_26 : decode cX0_longestOther 26 = .ok (.invokevirtual 97, 3) := by decide +kernel
theorem dX0_longestOther_29 : decode cX0_longestOther 29 = .ok (.iconst 0, 1) := by decide +kernel
theorem dX0_longestOther_30 : decode cX0_longestOther 30 = .ok (.istore 5, 2) := by decide +kernel
theorem dX0_longestOther_32 : decode cX0_longestOther 32 = .ok (.iload 5, 2) := by decide +kernel
theorem dX0_longestOther_34 : decode cX0_longestOther 34 = .ok (.aload_n 0, 1) := by decide +kernel
theorem dX0_longestOther_35 : decode cX0_longestOther 35 = .ok (.getfield 49, 3) := by decide +kernel
theorem dX0_longestOther_38 : decode cX0_longestOther 38 = .ok (.if_icmp .ge 23, 3) := by decide +kernel
theorem dX0_longestOther_41 : decode cX0_longestOther 41 = .ok (.aload_n 0, 1) := by decide +kernel
theorem dX0_longestOther_42 : decode cX0_longestOther 42 = .ok (.getfield 30, 3) := by decide +kernel
theorem dX0_longestOther_45 : decode cX0_longestOther 45 = .ok (.iload 5, 2) := by decide +kernel
theorem dX0_longestOther_47 : decode cX0_longestOther 47 = .ok (.iaload, 1) := by decide +kernel
theorem dX0_longestOther_48 : decode cX0_longestOther 48 = .ok (.iload_n 3, 1) := by decide +kernel
theorem dX0_longestOther_49 : decode cX0_longestOther 49 = .ok (.if_icmp .ne 6, 3) := by decide +kernel
theorem dX0_longestOther_52 : decode cX0_longestOther 52 = .ok (.iload 5, 2) := by decide +kernel
theorem dX0_longestOther_54 : decode cX0_longestOther 54 = .ok (.ireturn, 1) := by decide +kernel
theorem dX0_longestOther_55 : decode cX0_longestOther 55 = .ok (.iinc 5 1, 3) := by decide +kernel
theorem dX0_longestOther_58 : decode cX0_longestOther 58 = .ok (.goto (-26), 3) := by decide +kernel
theorem dX0_longestOther_61 : decode cX0_longestOther 61 = .ok (.iconst (-1), 1) := by decide +kernel
theorem dX0_longestOther_62 : decode cX0_longestOther 62 = .ok (.ireturn, 1) := by decide +kernel
theorem dX0_middle_0 : decode cX0_middle 0 = .ok (.iconst (-1), 1) := by decide +kernel
theorem dX0_middle_1 : decode cX0_middle 1 = .ok (.istore_n 3, 1) := by decide +kernel
theorem dX0_middle_2 : decode cX0_middle 2 = .ok (.bipush 32, 2) := by decide +kernel
theorem dX0_middle_4 : decode cX0_middle 4 = .ok (.istore 4, 2) := by decide +kernel
theorem dX0_middle_6 : decode cX0_middle 6 = .ok (.iconst 0, 1) := by decide +kernel
theorem dX0_middle_7 : decode cX0_middle 7 = .ok (.istore 5, 2) := by decide +kernel
theorem dX0_middle_9 : decode cX0_middle 9 = .ok (.iload 5, 2) := by decide +kernel
theorem dX0_middle_11 : decode cX0_middle 11 = .ok (.aload_n 0, 1) := by decide +kernel
theorem dX0_middle_12 : decode cX0_middle 12 = .ok (.getfield 49, 3) := by decide +kernel
theorem dX0_middle_15 : decode cX0_middle 15 = .ok (.if_icmp .ge 42, 3) := by decide +kernel
theorem dX0_middle_18 : decode cX0_middle 18 = .ok (.aload_n 0, 1) := by decide +kernel
theorem dX0_middle_19 : decode cX0_middle 19 = .ok (.aload_n 1, 1) := by decide +kernel
theorem dX0_middle_20 : decode cX0_middle 20 = .ok (.iload_n 2, 1) := by decide +kernel
theorem dX0_middle_21 : decode cX0_middle 21 = .ok (.iload 5, 2) := by decide +kernel
theorem dX0_middle_23 : decode cX0_middle 23 = .ok (.invokevirtual 115, 3) := by decide +kernel
theorem dX0_middle_26 : decode cX0_middle 26 = .ok (.ifCond .eq 25, 3) := by decide +kernel
theorem dX0_middle_29 : decode cX0_middle 29 = .ok (.aload_n 0, 1) := by decide +kernel
theorem dX0_middle_30 : decode cX0_middle 30 = .ok (.iload 5, 2) := by decide +kernel
theorem dX0_middle_32 : decode cX0_middle 32 = .ok (.invokevirtual 107, 3) := by decide +kernel
theorem dX0_middle_35 : decode cX0_middle 35 = .ok (.istore 6, 2) := by decide +kernel
theorem dX0_middle_37 : decode cX0_middle 37 = .ok (.iload 6, 2) := by decide +kernel
theorem dX0_middle_39 : decode cX0_middle 39 = .ok (.iload 4, 2) := by decide +kernel
theorem dX0_middle_41 : decode cX0_middle 41 = .ok (.if_icmp .ge 10, 3) := by decide +kernel
theorem dX0_middle_44 : decode cX0_middle 44 = .ok (.iload 6, 2) := by decide +kernel
theorem dX0_middle_46 : decode cX0_middle 46 = .ok (.istore 4, 2) := by decide +kernel
theorem dX0_middle_48 : decode cX0_middle 48 = .ok (.iload 5, 2) := by decide +kernel
theorem dX0_middle_50 : decode cX0_middle 50 = .ok (.istore_n 3, 1) := by decide +kernel
theorem dX0_middle_51 : decode cX0_middle 51 = .ok (.iinc 5 1, 3) := by decide +kernel
theorem dX0_middle_54 : decode cX0_middle 54 = .ok (.goto (-45), 3) := by decide +kernel
theorem dX0_middle_57 : decode cX0_middle 57 = .ok (.iload_n 3, 1) := by decide +kernel
theorem dX0_middle_58 : decode cX0_middle 58 = .ok (.ireturn, 1) := by decide +kernel
theorem dX0_isBlockOf_0 : decode cX0_isBlockOf 0 = .ok (.aload_n 0, 1) := by decide +kernel
theorem dX0_isBlockOf_1 : decode cX0_isBlockOf 1 = .ok (.getfield 27, 3) := by decide +kernel
theorem dX0_isBlockOf_4 : decode cX0_isBlockOf 4 = .ok (.iload_n 3, 1) := by decide +kernel
theorem dX0_isBlockOf_5 : decode cX0_isBlockOf 5 = .ok (.iaload, 1) := by decide +kernel
theorem dX0_isBlockOf_6 : decode cX0_isBlockOf 6 = .ok (.ifCond .le 17, 3) := by decide +kernel
theorem dX0_isBlockOf_9 : decode cX0_isBlockOf 9 = .ok (.aload_n 1, 1) := by decide +kernel
theorem dX0_isBlockOf_10 : decode cX0_isBlockOf 10 = .ok (.getfield 75, 3) := by decide +kernel
theorem dX0_isBlockOf_13 : decode cX0_isBlockOf 13 = .ok (.iload_n 3, 1) := by decide +kernel
theorem dX0_isBlockOf_14 : decode cX0_isBlockOf 14 = .ok (.iaload, 1) := by decide +kernel
theorem dX0_isBlockOf_15 : decode cX0_isBlockOf 15 = .ok (.iload_n 2, 1) := by decide +kernel
theorem dX0_isBlockOf_16 : decode cX0_isBlockOf 16 = .ok (.if_icmp .ne 7, 3) := by decide +kernel
theorem dX0_isBlockOf_19 : decode cX0_isBlockOf 19 = .ok (.iconst 1, 1) := by decide +kernel
theorem dX0_isBlockOf_20 : decode cX0_isBlockOf 20 = .ok (.goto 4, 3) := by decide +kernel
theorem dX0_isBlockOf_23 : decode cX0_isBlockOf 23 = .ok (.iconst 0, 1) := by decide +kernel
theorem dX0_isBlockOf_24 : decode cX0_isBlockOf 24 = .ok (.ireturn, 1) := by decide +kernel
theorem dX0_blocksOf_0 : decode cX0_blocksOf 0 = .ok (.iconst 0, 1) := by decide +kernel
theorem dX0_blocksOf_1 : decode cX0_blocksOf 1 = .ok (.istore_n 3, 1) := by decide +kernel
theorem dX0_blocksOf_2 : decode cX0_blocksOf 2 = .ok (.iconst 0, 1) := by decide +kernel
theorem dX0_blocksOf_3 : decode cX0_blocksOf 3 = .ok (.istore 4, 2) := by decide +kernel
theorem dX0_blocksOf_5 : decode cX0_blocksOf 5 = .ok (.iload 4, 2) := by decide +kernel
theorem dX0_blocksOf_7 : decode cX0_blocksOf 7 = .ok (.aload_n 0, 1) := by decide +kernel
theorem dX0_blocksOf_8 : decode cX0_blocksOf 8 = .ok (.getfield 45, 3) := by decide +kernel
theorem dX0_blocksOf_11 : decode cX0_blocksOf 11 = .ok (.if_icmp .ge 28, 3) := by decide +kernel
theorem dX0_blocksOf_14 : decode cX0_blocksOf 14 = .ok (.aload_n 1, 1) := by decide +kernel
theorem dX0_blocksOf_15 : decode cX0_blocksOf 15 = .ok (.getfield 75, 3) := by decide +kernel
theorem dX0_blocksOf_18 : decode cX0_blocksOf 18 = .ok (.aload_n 0, 1) := by decide +kernel
theorem dX0_blocksOf_19 : decode cX0_blocksOf 19 = .ok (.getfield 33, 3) := by decide +kernel
theorem dX0_blocksOf_22 : decode cX0_blocksOf 22 = .ok (.iload 4, 2) := by decide +kernel
theorem dX0_blocksOf_24 : decode cX0_blocksOf 24 = .ok (.iaload, 1) := by decide +kernel
theorem dX0_blocksOf_25 : decode cX0_blocksOf 25 = .ok (.iaload, 1) := by decide +kernel
theorem dX0_blocksOf_26 : decode cX0_blocksOf 26 = .ok (.iload_n 2, 1) := by decide +kernel
theorem dX0_blocksOf_27 : decode cX0_blocksOf 27 = .ok (.if_icmp .ne 6, 3) := by decide +kernel
theorem dX0_blocksOf_30 : decode cX0_blocksOf 30 = .ok (.iinc 3 1, 3) := by decide +kernel
theorem dX0_blocksOf_33 : decode cX0_blocksOf 33 = .ok (.iinc 4 1, 3) := by decide +kernel
theorem dX0_blocksOf_36 : decode cX0_blocksOf 36 = .ok (.goto (-31), 3) := by decide +kernel
theorem dX0_blocksOf_39 : decode cX0_blocksOf 39 = .ok (.iload_n 3, 1) := by decide +kernel
theorem dX0_blocksOf_40 : decode cX0_blocksOf 40 = .ok (.ireturn, 1) := by decide +kernel
theorem dX0_rootOf_0 : decode cX0_rootOf 0 = .ok (.iconst 0, 1) := by decide +kernel
theorem dX0_rootOf_1 : decode cX0_rootOf 1 = .ok (.istore_n 3, 1) := by decide +kernel
theorem dX0_rootOf_2 : decode cX0_rootOf 2 = .ok (.iload_n 3, 1) := by decide +kernel
theorem dX0_rootOf_3 : decode cX0_rootOf 3 = .ok (.aload_n 0, 1) := by decide +kernel
theorem dX0_rootOf_4 : decode cX0_rootOf 4 = .ok (.getfield 45, 3) := by decide +kernel
theorem dX0_rootOf_7 : decode cX0_rootOf 7 = .ok (.if_icmp .ge 31, 3) := by decide +kernel
theorem dX0_rootOf_10 : decode cX0_rootOf 10 = .ok (.aload_n 1, 1) := by decide +kernel
theorem dX0_rootOf_11 : decode cX0_rootOf 11 = .ok (.getfield 75, 3) := by decide +kernel
theorem dX0_rootOf_14 : decode cX0_rootOf 14 = .ok (.aload_n 0, 1) := by decide +kernel
theorem dX0_rootOf_15 : decode cX0_rootOf 15 = .ok (.getfield 33, 3) := by decide +kernel
theorem dX0_rootOf_18 : decode cX0_rootOf 18 = .ok (.iload_n 3, 1) := by decide +kernel
theorem dX0_rootOf_19 : decode cX0_rootOf 19 = .ok (.iaload, 1) := by decide +kernel
theorem dX0_rootOf_20 : decode cX0_rootOf 20 = .ok (.iaload, 1) := by decide +kernel
theorem dX0_rootOf_21 : decode cX0_rootOf 21 = .ok (.iload_n 2, 1) := by decide +kernel
theorem dX0_rootOf_22 : decode cX0_rootOf 22 = .ok (.if_icmp .ne 10, 3) := by decide +kernel
theorem dX0_rootOf_25 : decode cX0_rootOf 25 = .ok (.aload_n 0, 1) := by decide +kernel
theorem dX0_rootOf_26 : decode cX0_rootOf 26 = .ok (.getfield 33, 3) := by decide +kernel
theorem dX0_rootOf_29 : decode cX0_rootOf 29 = .ok (.iload_n 3, 1) := by decide +kernel
theorem dX0_rootOf_30 : decode cX0_rootOf 30 = .ok (.iaload, 1) := by decide +kernel
theorem dX0_rootOf_31 : decode cX0_rootOf 31 = .ok (.ireturn, 1) := by decide +kernel
theorem dX0_rootOf_32 : decode cX0_rootOf 32 = .ok (.iinc 3 1, 3) := by decide +kernel
theorem dX0_rootOf_35 : decode cX0_rootOf 35 = .ok (.goto (-33), 3) := by decide +kernel
theorem dX0_rootOf_38 : decode cX0_rootOf 38 = .ok (.iconst (-1), 1) := by decide +kernel
theorem dX0_rootOf_39 : decode cX0_rootOf 39 = .ok (.ireturn, 1) := by decide +kernel
theorem dX0_leavesOf_0 : decode cX0_leavesOf 0 = .ok (.iconst 0, 1) := by decide +kernel
theorem dX0_leavesOf_1 : decode cX0_leavesOf 1 = .ok (.istore_n 3, 1) := by decide +kernel
theorem dX0_leavesOf_2 : decode cX0_leavesOf 2 = .ok (.iconst 0, 1) := by decide +kernel
theorem dX0_leavesOf_3 : decode cX0_leavesOf 3 = .ok (.istore 4, 2) := by decide +kernel
theorem dX0_leavesOf_5 : decode cX0_leavesOf 5 = .ok (.iload 4, 2) := by decide +kernel
theorem dX0_leavesOf_7 : decode cX0_leavesOf 7 = .ok (.aload_n 0, 1) := by decide +kernel
theorem dX0_leavesOf_8 : decode cX0_leavesOf 8 = .ok (.getfield 45, 3) := by decide +kernel
theorem dX0_leavesOf_11 : decode cX0_leavesOf 11 = .ok (.if_icmp .ge 44, 3) := by decide +kernel
theorem dX0_leavesOf_14 : decode cX0_leavesOf 14 = .ok (.aload_n 1, 1) := by decide +kernel
theorem dX0_leavesOf_15 : decode cX0_leavesOf 15 = .ok (.getfield 75, 3) := by decide +kernel
theorem dX0_leavesOf_18 : decode cX0_leavesOf 18 = .ok (.aload_n 0, 1) := by decide +kernel
theorem dX0_leavesOf_19 : decode cX0_leavesOf 19 = .ok (.getfield 33, 3) := by decide +kernel
theorem dX0_leavesOf_22 : decode cX0_leavesOf 22 = .ok (.iload 4, 2) := by decide +kernel
theorem dX0_leavesOf_24 : decode cX0_leavesOf 24 = .ok (.iaload, 1) := by decide +kernel
theorem dX0_leavesOf_25 : decode cX0_leavesOf 25 = .ok (.iaload, 1) := by decide +kernel
theorem dX0_leavesOf_26 : decode cX0_leavesOf 26 = .ok (.iload_n 2, 1) := by decide +kernel
theorem dX0_leavesOf_27 : decode cX0_leavesOf 27 = .ok (.if_icmp .ne 22, 3) := by decide +kernel
theorem dX0_leavesOf_30 : decode cX0_leavesOf 30 = .ok (.aload_n 0, 1) := by decide +kernel
theorem dX0_leavesOf_31 : decode cX0_leavesOf 31 = .ok (.getfield 24, 3) := by decide +kernel
theorem dX0_leavesOf_34 : decode cX0_leavesOf 34 = .ok (.aload_n 0, 1) := by decide +kernel
theorem dX0_leavesOf_35 : decode cX0_leavesOf 35 = .ok (.getfield 33, 3) := by decide +kernel
theorem dX0_leavesOf_38 : decode cX0_leavesOf 38 = .ok (.iload 4, 2) := by decide +kernel
theorem dX0_leavesOf_40 : decode cX0_leavesOf 40 = .ok (.iaload, 1) := by decide +kernel
theorem dX0_leavesOf_41 : decode cX0_leavesOf 41 = .ok (.iaload, 1) := by decide +kernel
theorem dX0_leavesOf_42 : decode cX0_leavesOf 42 = .ok (.iconst 1, 1) := by decide +kernel
theorem dX0_leavesOf_43 : decode cX0_leavesOf 43 = .ok (.if_icmp .ne 6, 3) := by decide +kernel
theorem dX0_leavesOf_46 : decode cX0_leavesOf 46 = .ok (.iinc 3 1, 3) := by decide +kernel
theorem dX0_leavesOf_49 : decode cX0_leavesOf 49 = .ok (.iinc 4 1, 3) := by decide +kernel
theorem dX0_leavesOf_52 : decode cX0_leavesOf 52 = .ok (.goto (-47), 3) := by decide +kernel
theorem dX0_leavesOf_55 : decode cX0_leavesOf 55 = .ok (.iload_n 3, 1) := by decide +kernel
theorem dX0_leavesOf_56 : decode cX0_leavesOf 56 = .ok (.ireturn, 1) := by decide +kernel
theorem dX0_leaf_0 : decode cX0_leaf 0 = .ok (.iconst 0, 1) := by decide +kernel
theorem dX0_leaf_1 : decode cX0_leaf 1 = .ok (.istore 4, 2) := by decide +kernel
theorem dX0_leaf_3 : decode cX0_leaf 3 = .ok (.iconst 0, 1) := by decide +kernel
theorem dX0_leaf_4 : decode cX0_leaf 4 = .ok (.istore 5, 2) := by decide +kernel
theorem dX0_leaf_6 : decode cX0_leaf 6 = .ok (.iload 5, 2) := by decide +kernel
theorem dX0_leaf_8 : decode cX0_leaf 8 = .ok (.aload_n 0, 1) := by decide +kernel
theorem dX0_leaf_9 : decode cX0_leaf 9 = .ok (.getfield 45, 3) := by decide +kernel
theorem dX0_leaf_12 : decode cX0_leaf 12 = .ok (.if_icmp .ge 58, 3) := by decide +kernel
theorem dX0_leaf_15 : decode cX0_leaf 15 = .ok (.aload_n 1, 1) := by decide +kernel
theorem dX0_leaf_16 : decode cX0_leaf 16 = .ok (.getfield 75, 3) := by decide +kernel
theorem dX0_leaf_19 : decode cX0_leaf 19 = .ok (.aload_n 0, 1) := by decide +kernel
theorem dX0_leaf_20 : decode cX0_leaf 20 = .ok (.getfield 33, 3) := by decide +kernel
theorem dX0_leaf_23 : decode cX0_leaf 23 = .ok (.iload 5, 2) := by decide +kernel
theorem dX0_leaf_25 : decode cX0_leaf 25 = .ok (.iaload, 1) := by decide +kernel
theorem dX0_leaf_26 : decode cX0_leaf 26 = .ok (.iaload, 1) := by decide +kernel
theorem dX0_leaf_27 : decode cX0_leaf 27 = .ok (.iload_n 2, 1) := by decide +kernel
theorem dX0_leaf_28 : decode cX0_leaf 28 = .ok (.if_icmp .ne 36, 3) := by decide +kernel
theorem dX0_leaf_31 : decode cX0_leaf 31 = .ok (.aload_n 0, 1) := by decide +kernel
theorem dX0_leaf_32 : decode cX0_leaf 32 = .ok (.getfield 24, 3) := by decide +kernel
theorem dX0_leaf_35 : decode cX0_leaf 35 = .ok (.aload_n 0, 1) := by decide +kernel
theorem dX0_leaf_36 : decode cX0_leaf 36 = .ok (.getfield 33, 3) := by decide +kernel
theorem dX0_leaf_39 : decode cX0_leaf 39 = .ok (.iload 5, 2) := by decide +kernel
theorem dX0_leaf_41 : decode cX0_leaf 41 = .ok (.iaload, 1) := by decide +kernel
theorem dX0_leaf_42 : decode cX0_leaf 42 = .ok (.iaload, 1) := by decide +kernel
theorem dX0_leaf_43 : decode cX0_leaf 43 = .ok (.iconst 1, 1) := by decide +kernel
theorem dX0_leaf_44 : decode cX0_leaf 44 = .ok (.if_icmp .ne 20, 3) := by decide +kernel
theorem dX0_leaf_47 : decode cX0_leaf 47 = .ok (.iload 4, 2) := by decide +kernel
theorem dX0_leaf_49 : decode cX0_leaf 49 = .ok (.iload_n 3, 1) := by decide +kernel
theorem dX0_leaf_50 : decode cX0_leaf 50 = .ok (.if_icmp .ne 11, 3) := by decide +kernel
theorem dX0_leaf_53 : decode cX0_leaf 53 = .ok (.aload_n 0, 1) := by decide +kernel
theorem dX0_leaf_54 : decode cX0_leaf 54 = .ok (.getfield 33, 3) := by decide +kernel
theorem dX0_leaf_57 : decode cX0_leaf 57 = .ok (.iload 5, 2) := by decide +kernel
theorem dX0_leaf_59 : decode cX0_leaf 59 = .ok (.iaload, 1) := by decide +kernel
theorem dX0_leaf_60 : decode cX0_leaf 60 = .ok (.ireturn, 1) := by decide +kernel
theorem dX0_leaf_61 : decode cX0_leaf 61 = .ok (.iinc 4 1, 3) := by decide +kernel
theorem dX0_leaf_64 : decode cX0_leaf 64 = .ok (.iinc 5 1, 3) := by decide +kernel
theorem dX0_leaf_67 : decode cX0_leaf 67 = .ok (.goto (-61), 3) := by decide +kernel
theorem dX0_leaf_70 : decode cX0_leaf 70 = .ok (.iconst (-1), 1) := by decide +kernel
theorem dX0_leaf_71 : decode cX0_leaf 71 = .ok (.ireturn, 1) := by decide +kernel
theorem dX0_deepest_0 : decode cX0_deepest 0 = .ok (.iconst 0, 1) := by decide +kernel
theorem dX0_deepest_1 : decode cX0_deepest 1 = .ok (.istore_n 1, 1) := by decide +kernel
theorem dX0_deepest_2 : decode cX0_deepest 2 = .ok (.iconst 0, 1) := by decide +kernel
theorem dX0_deepest_3 : decode cX0_deepest 3 = .ok (.istore_n 2, 1) := by decide +kernel
theorem dX0_deepest_4 : decode cX0_deepest 4 = .ok (.iload_n 2, 1) := by decide +kernel
theorem dX0_deepest_5 : decode cX0_deepest 5 = .ok (.aload_n 0, 1) := by decide +kernel
theorem dX0_deepest_6 : decode cX0_deepest 6 = .ok (.getfield 45, 3) := by decide +kernel
theorem dX0_deepest_9 : decode cX0_deepest 9 = .ok (.if_icmp .ge 25, 3) := by decide +kernel
theorem dX0_deepest_12 : decode cX0_deepest 12 = .ok (.iload_n 1, 1) := by decide +kernel
theorem dX0_deepest_13 : decode cX0_deepest 13 = .ok (.aload_n 0, 1) := by decide +kernel
theorem dX0_deepest_14 : decode cX0_deepest 14 = .ok (.getfield 18, 3) := by decide +kernel
theorem dX0_deepest_17 : decode cX0_deepest 17 = .ok (.aload_n 0, 1) := by decide +kernel
theorem dX0_deepest_18 : decode cX0_deepest 18 = .ok (.getfield 33, 3) := by decide +kernel
theorem dX0_deepest_21 : decode cX0_deepest 21 = .ok (.iload_n 2, 1) := by decide +kernel
theorem dX0_deepest_22 : decode cX0_deepest 22 = .ok (.iaload, 1) := by decide +kernel
theorem dX0_deepest_23 : decode cX0_deepest 23 = .ok (.iaload, 1) := by decide +kernel
theorem dX0_deepest_24 : decode cX0_deepest 24 = .ok (.invokestatic 101, 3) := by decide +kernel
theorem dX0_deepest_27 : decode cX0_deepest 27 = .ok (.istore_n 1, 1) := by decide +kernel
theorem dX0_deepest_28 : decode cX0_deepest 28 = .ok (.iinc 2 1, 3) := by decide +kernel
theorem dX0_deepest_31 : decode cX0_deepest 31 = .ok (.goto (-27), 3) := by decide +kernel
theorem dX0_deepest_34 : decode cX0_deepest 34 = .ok (.iload_n 1, 1) := by decide +kernel
theorem dX0_deepest_35 : decode cX0_deepest 35 = .ok (.ireturn, 1) := by decide +kernel
theorem dX1_init_0 : decode cX1_init 0 = .ok (.aload_n 0, 1) := by decide +kernel
theorem dX1_init_1 : decode cX1_init 1 = .ok (.invokespecial 3, 3) := by decide +kernel
theorem dX1_init_4 : decode cX1_init 4 = .ok (.aload_n 0, 1) := by decide +kernel
theorem dX1_init_5 : decode cX1_init 5 = .ok (.iload_n 1, 1) := by decide +kernel
theorem dX1_init_6 : decode cX1_init 6 = .ok (.newarray .int, 2) := by decide +kernel
theorem dX1_init_8 : decode cX1_init 8 = .ok (.putfield 9, 3) := by decide +kernel
theorem dX1_init_11 : decode cX1_init 11 = .ok (.aload_n 0, 1) := by decide +kernel
theorem dX1_init_12 : decode cX1_init 12 = .ok (.iload_n 1, 1) := by decide +kernel
theorem dX1_init_13 : decode cX1_init 13 = .ok (.newarray .int, 2) := by decide +kernel
theorem dX1_init_15 : decode cX1_init 15 = .ok (.putfield 15, 3) := by decide +kernel
theorem dX1_init_18 : decode cX1_init 18 = .ok (.aload_n 0, 1) := by decide +kernel
theorem dX1_init_19 : decode cX1_init 19 = .ok (.iload_n 1, 1) := by decide +kernel
theorem dX1_init_20 : decode cX1_init 20 = .ok (.newarray .int, 2) := by decide +kernel
theorem dX1_init_22 : decode cX1_init 22 = .ok (.putfield 18, 3) := by decide +kernel
theorem dX1_init_25 : decode cX1_init 25 = .ok (.aload_n 0, 1) := by decide +kernel
theorem dX1_init_26 : decode cX1_init 26 = .ok (.iload_n 1, 1) := by decide +kernel
theorem dX1_init_27 : decode cX1_init 27 = .ok (.newarray .int, 2) := by decide +kernel
theorem dX1_init_29 : decode cX1_init 29 = .ok (.putfield 21, 3) := by decide +kernel
theorem dX1_init_32 : decode cX1_init 32 = .ok (.aload_n 0, 1) := by decide +kernel
theorem dX1_init_33 : decode cX1_init 33 = .ok (.iconst 0, 1) := by decide +kernel
theorem dX1_init_34 : decode cX1_init 34 = .ok (.putfield 24, 3) := by decide +kernel
theorem dX1_init_37 : decode cX1_init 37 = .ok (.aload_n 0, 1) := by decide +kernel
theorem dX1_init_38 : decode cX1_init 38 = .ok (.iconst 0, 1) := by decide +kernel
theorem dX1_init_39 : decode cX1_init 39 = .ok (.putfield 28, 3) := by decide +kernel
theorem dX1_init_42 : decode cX1_init 42 = .ok (.return_, 1) := by decide +kernel
theorem dX1_clear_0 : decode cX1_clear 0 = .ok (.aload_n 0, 1) := by decide +kernel
theorem dX1_clear_1 : decode cX1_clear 1 = .ok (.iconst 0, 1) := by decide +kernel
theorem dX1_clear_2 : decode cX1_clear 2 = .ok (.putfield 24, 3) := by decide +kernel
theorem dX1_clear_5 : decode cX1_clear 5 = .ok (.aload_n 0, 1) := by decide +kernel
theorem dX1_clear_6 : decode cX1_clear 6 = .ok (.iconst 0, 1) := by decide +kernel
theorem dX1_clear_7 : decode cX1_clear 7 = .ok (.putfield 28, 3) := by decide +kernel
theorem dX1_clear_10 : decode cX1_clear 10 = .ok (.return_, 1) := by decide +kernel
theorem dX1_begin_0 : decode cX1_begin 0 = .ok (.aload_n 0, 1) := by decide +kernel
theorem dX1_begin_1 : decode cX1_begin 1 = .ok (.getfield 24, 3) := by decide +kernel
theorem dX1_begin_4 : decode cX1_begin 4 = .ok (.aload_n 0, 1) := by decide +kernel
theorem dX1_begin_5 : decode cX1_begin 5 = .ok (.getfield 9, 3) := by decide +kernel
theorem dX1_begin_8 : decode cX1_begin 8 = .ok (.arraylength, 1) := by decide +kernel
theorem dX1_begin_9 : decode cX1_begin 9 = .ok (.if_icmp .lt 4, 3) := by decide +kernel
theorem dX1_begin_12 : decode cX1_begin 12 = .ok (.return_, 1) := by decide +kernel
theorem dX1_begin_13 : decode cX1_begin 13 = .ok (.aload_n 0, 1) := by decide +kernel
theorem dX1_begin_14 : decode cX1_begin 14 = .ok (.getfield 9, 3) := by decide +kernel
theorem dX1_begin_17 : decode cX1_begin 17 = .ok (.aload_n 0, 1) := by decide +kernel
theorem dX1_begin_18 : decode cX1_begin 18 = .ok (.getfield 24, 3) := by decide +kernel
theorem dX1_begin_21 : decode cX1_begin 21 = .ok (.aload_n 0, 1) := by decide +kernel
theorem dX1_begin_22 : decode cX1_begin 22 = .ok (.getfield 24, 3) := by decide +kernel
theorem dX1_begin_25 : decode cX1_begin 25 = .ok (.iastore, 1) := by decide +kernel
theorem dX1_begin_26 : decode cX1_begin 26 = .ok (.aload_n 0, 1) := by decide +kernel
theorem dX1_begin_27 : decode cX1_begin 27 = .ok (.getfield 15, 3) := by decide +kernel
theorem dX1_begin_30 : decode cX1_begin 30 = .ok (.aload_n 0, 1) := by decide +kernel
theorem dX1_begin_31 : decode cX1_begin 31 = .ok (.getfield 24, 3) := by decide +kernel
theorem dX1_begin_34 : decode cX1_begin 34 = .ok (.iconst 1, 1) := by decide +kernel
theorem dX1_begin_35 : decode cX1_begin 35 = .ok (.iastore, 1) := by decide +kernel
theorem dX1_begin_36 : decode cX1_begin 36 = .ok (.aload_n 0, 1) := by decide +kernel
theorem dX1_begin_37 : decode cX1_begin 37 = .ok (.getfield 18, 3) := by decide +kernel
theorem dX1_begin_40 : decode cX1_begin 40 = .ok (.aload_n 0, 1) := by decide +kernel
theorem dX1_begin_41 : decode cX1_begin 41 = .ok (.getfield 24, 3) := by decide +kernel
theorem dX1_begin_44 : decode cX1_begin 44 = .ok (.iconst (-1), 1) := by decide +kernel
theorem dX1_begin_45 : decode cX1_begin 45 = .ok (.iastore, 1) := by decide +kernel
theorem dX1_begin_46 : decode cX1_begin 46 = .ok (.aload_n 0, 1) := by decide +kernel
theorem dX1_begin_47 : decode cX1_begin 47 = .ok (.getfield 21, 3) := by decide +kernel
theorem dX1_begin_50 : decode cX1_begin 50 = .ok (.aload_n 0, 1) := by decide +kernel
theorem dX1_begin_51 : decode cX1_begin 51 = .ok (.getfield 24, 3) := by decide +kernel
theorem dX1_begin_54 : decode cX1_begin 54 = .ok (.iconst (-1), 1) := by decide +kernel
theorem dX1_begin_55 : decode cX1_begin 55 = .ok (.iastore, 1) := by decide +kernel
theorem dX1_begin_56 : decode cX1_begin 56 = .ok (.aload_n 0, 1) := by decide +kernel
theorem dX1_begin_57 : decode cX1_begin 57 = .ok (.dup, 1) := by decide +kernel
theorem dX1_begin_58 : decode cX1_begin 58 = .ok (.getfield 24, 3) := by decide +kernel
theorem dX1_begin_61 : decode cX1_begin 61 = .ok (.iconst 1, 1) := by decide +kernel
theorem dX1_begin_62 : decode cX1_begin 62 = .ok (.iadd, 1) := by decide +kernel
theorem dX1_begin_63 : decode cX1_begin 63 = .ok (.putfield 24, 3) := by decide +kernel
theorem dX1_begin_66 : decode cX1_begin 66 = .ok (.aload_n 0, 1) := by decide +kernel
theorem dX1_begin_67 : decode cX1_begin 67 = .ok (.dup, 1) := by decide +kernel
theorem dX1_begin_68 : decode cX1_begin 68 = .ok (.getfield 28, 3) := by decide +kernel
theorem dX1_begin_71 : decode cX1_begin 71 = .ok (.iconst 1, 1) := by decide +kernel
theorem dX1_begin_72 : decode cX1_begin 72 = .ok (.iadd, 1) := by decide +kernel
theorem dX1_begin_73 : decode cX1_begin 73 = .ok (.putfield 28, 3) := by decide +kernel
theorem dX1_begin_76 : decode cX1_begin 76 = .ok (.return_, 1) := by decide +kernel
theorem dX1_lives_0 : decode cX1_lives 0 = .ok (.iload_n 1, 1) := by decide +kernel
theorem dX1_lives_1 : decode cX1_lives 1 = .ok (.ifCond .lt 25, 3) := by decide +kernel
theorem dX1_lives_4 : decode cX1_lives 4 = .ok (.iload_n 1, 1) := by decide +kernel
theorem dX1_lives_5 : decode cX1_lives 5 = .ok (.aload_n 0, 1) := by decide +kernel
theorem dX1_lives_6 : decode cX1_lives 6 = .ok (.getfield 24, 3) := by decide +kernel
theorem dX1_lives_9 : decode cX1_lives 9 = .ok (.if_icmp .ge 17, 3) := by decide +kernel
theorem dX1_lives_12 : decode cX1_lives 12 = .ok (.aload_n 0, 1) := by decide +kernel
theorem dX1_lives_13 : decode cX1_lives 13 = .ok (.getfield 18, 3) := by decide +kernel
theorem dX1_lives_16 : decode cX1_lives 16 = .ok (.iload_n 1, 1) := by decide +kernel
theorem dX1_lives_17 : decode cX1_lives 17 = .ok (.iaload, 1) := by decide +kernel
theorem dX1_lives_18 : decode cX1_lives 18 = .ok (.iconst (-1), 1) := by decide +kernel
theorem dX1_lives_19 : decode cX1_lives 19 = .ok (.if_icmp .ne 7, 3) := by decide +kernel
theorem dX1_lives_22 : decode cX1_lives 22 = .ok (.iconst 1, 1) := by decide +kernel
theorem dX1_lives_23 : decode cX1_lives 23 = .ok (.goto 4, 3) := by decide +kernel
theorem dX1_lives_26 : decode cX1_lives 26 = .ok (.iconst 0, 1) := by decide +kernel
theorem dX1_lives_27 : decode cX1_lives 27 = .ok (.ireturn, 1) := by decide +kernel
theorem dX1_keeper_0 : decode cX1_keeper 0 = .ok (.iconst (-1), 1) := by decide +kernel
theorem dX1_keeper_1 : decode cX1_keeper 1 = .ok (.istore_n 3, 1) := by decide +kernel
theorem dX1_keeper_2 : decode cX1_keeper 2 = .ok (.iconst 0, 1) := by decide +kernel
theorem dX1_keeper_3 : decode cX1_keeper 3 = .ok (.istore 4, 2) := by decide +kernel
theorem dX1_keeper_5 : decode cX1_keeper 5 = .ok (.iload 4, 2) := by decide +kernel
theorem dX1_keeper_7 : decode cX1_keeper 7 = .ok (.aload_n 0, 1) := by decide +kernel
theorem dX1_keeper_8 : decode cX1_keeper 8 = .ok (.getfield 24, 3) := by decide +kernel
theorem dX1_keeper_11 : decode cX1_keeper 11 = .ok (.if_icmp .ge 42, 3) := by decide +kernel
theorem dX1_keeper_14 : decode cX1_keeper 14 = .ok (.lload_n 1, 1) := by decide +kernel
theorem dX1_keeper_15 : decode cX1_keeper 15 = .ok (.iload 4, 2) := by decide +kernel
theorem dX1_keeper_17 : decode cX1_keeper 17 = .ok (.invokestatic 31, 3) := by decide +kernel
theorem dX1_keeper_20 : decode cX1_keeper 20 = .ok (.ifCond .eq 27, 3) := by decide +kernel
theorem dX1_keeper_23 : decode cX1_keeper 23 = .ok (.iload_n 3, 1) := by decide +kernel
theorem dX1_keeper_24 : decode cX1_keeper 24 = .ok (.iconst (-1), 1) := by decide +kernel
theorem dX1_keeper_25 : decode cX1_keeper 25 = .ok (.if_icmp .eq 19, 3) := by decide +kernel
theorem dX1_keeper_28 : decode cX1_keeper 28 = .ok (.aload_n 0, 1) := by decide +kernel
theorem dX1_keeper_29 : decode cX1_keeper 29 = .ok (.getfield 15, 3) := by decide +kernel
theorem dX1_keeper_32 : decode cX1_keeper 32 = .ok (.iload 4, 2) := by decide +kernel
theorem dX1_keeper_34 : decode cX1_keeper 34 = .ok (.iaload, 1) := by decide +kernel
theorem dX1_keeper_35 : decode cX1_keeper 35 = .ok (.aload_n 0, 1) := by decide +kernel
theorem dX1_keeper_36 : decode cX1_keeper 36 = .ok (.getfield 15, 3) := by decide +kernel
theorem dX1_keeper_39 : decode cX1_keeper 39 = .ok (.iload_n 3, 1) := by decide +kernel
theorem dX1_keeper_40 : decode cX1_keeper 40 = .ok (.iaload, 1) := by decide +kernel
theorem dX1_keeper_41 : decode cX1_keeper 41 = .ok (.if_icmp .le 6, 3) := by decide +kernel
theorem dX1_keeper_44 : decode cX1_keeper 44 = .ok (.iload 4, 2) := by decide +kernel
theorem dX1_keeper_46 : decode cX1_keeper 46 = .ok (.istore_n 3, 1) := by decide +kernel
theorem dX1_keeper_47 : decode cX1_keeper 47 = .ok (.iinc 4 1, 3) := by decide +kernel
theorem dX1_keeper_50 : decode cX1_keeper 50 = .ok (.goto (-45), 3) := by decide +kernel
theorem dX1_keeper_53 : decode cX1_keeper 53 = .ok (.iload_n 3, 1) := by decide +kernel
theorem dX1_keeper_54 : decode cX1_keeper 54 = .ok (.ireturn, 1) := by decide +kernel
theorem dX1_join_0 : decode cX1_join 0 = .ok (.aload_n 0, 1) := by decide +kernel
theorem dX1_join_1 : decode cX1_join 1 = .ok (.lload_n 1, 1) := by decide +kernel
theorem dX1_join_2 : decode cX1_join 2 = .ok (.invokevirtual 35, 3) := by decide +kernel
theorem dX1_join_5 : decode cX1_join 5 = .ok (.istore 4, 2) := by decide +kernel
theorem dX1_join_7 : decode cX1_join 7 = .ok (.iload 4, 2) := by decide +kernel
theorem dX1_join_9 : decode cX1_join 9 = .ok (.iconst (-1), 1) := by decide +kernel
theorem dX1_join_10 : decode cX1_join 10 = .ok (.if_icmp .ne 4, 3) := by decide +kernel
theorem dX1_join_13 : decode cX1_join 13 = .ok (.return_, 1) := by decide +kernel
theorem dX1_join_14 : decode cX1_join 14 = .ok (.iconst 0, 1) := by decide +kernel
theorem dX1_join_15 : decode cX1_join 15 = .ok (.istore 5, 2) := by decide +kernel
theorem dX1_join_17 : decode cX1_join 17 = .ok (.iload 5, 2) := by decide +kernel
theorem dX1_join_19 : decode cX1_join 19 = .ok (.aload_n 0, 1) := by decide +kernel
theorem dX1_join_20 : decode cX1_join 20 = .ok (.getfield 24, 3) := by decide +kernel
theorem dX1_join_23 : decode cX1_join 23 = .ok (.if_icmp .ge 69, 3) := by decide +kernel
theorem dX1_join_26 : decode cX1_join 26 = .ok (.iload 5, 2) := by decide +kernel
theorem dX1_join_28 : decode cX1_join 28 = .ok (.iload 4, 2) := by decide +kernel
theorem dX1_join_30 : decode cX1_join 30 = .ok (.if_icmp .eq 56, 3) := by decide +kernel
theorem dX1_join_33 : decode cX1_join 33 = .ok (.lload_n 1, 1) := by decide +kernel
theorem dX1_join_34 : decode cX1_join 34 = .ok (.iload 5, 2) := by decide +kernel
theorem dX1_join_36 : decode cX1_join 36 = .ok (.invokestatic 31, 3) := by decide +kernel
theorem dX1_join_39 : decode cX1_join 39 = .ok (.ifCond .eq 47, 3) := by decide +kernel
theorem dX1_join_42 : decode cX1_join 42 = .ok (.aload_n 0, 1) := by decide +kernel
theorem dX1_join_43 : decode cX1_join 43 = .ok (.getfield 18, 3) := by decide +kernel
theorem dX1_join_46 : decode cX1_join 46 = .ok (.iload 5, 2) := by decide +kernel
theorem dX1_join_48 : decode cX1_join 48 = .ok (.iload_n 3, 1) := by decide +kernel
theorem dX1_join_49 : decode cX1_join 49 = .ok (.iastore, 1) := by decide +kernel
theorem dX1_join_50 : decode cX1_join 50 = .ok (.aload_n 0, 1) := by decide +kernel
theorem dX1_join_51 : decode cX1_join 51 = .ok (.getfield 21, 3) := by decide +kernel
theorem dX1_join_54 : decode cX1_join 54 = .ok (.iload 5, 2) := by decide +kernel
theorem dX1_join_56 : decode cX1_join 56 = .ok (.iload 4, 2) := by decide +kernel
theorem dX1_join_58 : decode cX1_join 58 = .ok (.iastore, 1) := by decide +kernel
theorem dX1_join_59 : decode cX1_join 59 = .ok (.aload_n 0, 1) := by decide +kernel
theorem dX1_join_60 : decode cX1_join 60 = .ok (.getfield 15, 3) := by decide +kernel
theorem dX1_join_63 : decode cX1_join 63 = .ok (.iload 4, 2) := by decide +kernel
theorem dX1_join_65 : decode cX1_join 65 = .ok (.dup2, 1) := by decide +kernel
theorem dX1_join_66 : decode cX1_join 66 = .ok (.iaload, 1) := by decide +kernel
theorem dX1_join_67 : decode cX1_join 67 = .ok (.aload_n 0, 1) := by decide +kernel
theorem dX1_join_68 : decode cX1_join 68 = .ok (.getfield 15, 3) := by decide +kernel
theorem dX1_join_71 : decode cX1_join 71 = .ok (.iload 5, 2) := by decide +kernel
theorem dX1_join_73 : decode cX1_join 73 = .ok (.iaload, 1) := by decide +kernel
theorem dX1_join_74 : decode cX1_join 74 = .ok (.iadd, 1) := by decide +kernel
theorem dX1_join_75 : decode cX1_join 75 = .ok (.iastore, 1) := by decide +kernel
theorem dX1_join_76 : decode cX1_join 76 = .ok (.aload_n 0, 1) := by decide +kernel
theorem dX1_join_77 : decode cX1_join 77 = .ok (.dup, 1) := by decide +kernel
theorem dX1_join_78 : decode cX1_join 78 = .ok (.getfield 28, 3) := by decide +kernel
theorem dX1_join_81 : decode cX1_join 81 = .ok (.iconst 1, 1) := by decide +kernel
theorem dX1_join_82 : decode cX1_join 82 = .ok (.isub, 1) := by decide +kernel
theorem dX1_join_83 : decode cX1_join 83 = .ok (.putfield 28, 3) := by decide +kernel
theorem dX1_join_86 : decode cX1_join 86 = .ok (.iinc 5 1, 3) := by decide +kernel
theorem dX1_join_89 : decode cX1_join 89 = .ok (.goto (-72), 3) := by decide +kernel
theorem dX1_join_92 : decode cX1_join 92 = .ok (.iconst 0, 1) := by decide +kernel
theorem dX1_join_93 : decode cX1_join 93 = .ok (.istore 5, 2) := by decide +kernel
theorem dX1_join_95 : decode cX1_join 95 = .ok (.iload 5, 2) := by decide +kernel
theorem dX1_join_97 : decode cX1_join 97 = .ok (.aload_n 0, 1) := by decide +kernel
theorem dX1_join_98 : decode cX1_join 98 = .ok (.getfield 24, 3) := by decide +kernel
theorem dX1_join_101 : decode cX1_join 101 = .ok (.if_icmp .ge 32, 3) := by decide +kernel
theorem dX1_join_104 : decode cX1_join 104 = .ok (.lload_n 1, 1) := by decide +kernel
theorem dX1_join_105 : decode cX1_join 105 = .ok (.aload_n 0, 1) := by decide +kernel
theorem dX1_join_106 : decode cX1_join 106 = .ok (.getfield 9, 3) := by decide +kernel
theorem dX1_join_109 : decode cX1_join 109 = .ok (.iload 5, 2) := by decide +kernel
theorem dX1_join_111 : decode cX1_join 111 = .ok (.iaload, 1) := by decide +kernel
theorem dX1_join_112 : decode cX1_join 112 = .ok (.invokestatic 31, 3) := by decide +kernel
theorem dX1_join_115 : decode cX1_join 115 = .ok (.ifCond .eq 12, 3) := by decide +kernel
theorem dX1_join_118 : decode cX1_join 118 = .ok (.aload_n 0, 1) := by decide +kernel
theorem dX1_join_119 : decode cX1_join 119 = .ok (.getfield 9, 3) := by decide +kernel
theorem dX1_join_122 : decode cX1_join 122 = .ok (.iload 5, 2) := by decide +kernel
theorem dX1_join_124 : decode cX1_join 124 = .ok (.iload 4, 2) := by decide +kernel
theorem dX1_join_126 : decode cX1_join 126 = .ok (.iastore, 1) := by decide +kernel
theorem dX1_join_127 : decode cX1_join 127 = .ok (.iinc 5 1, 3) := by decide +kernel
theorem dX1_join_130 : decode cX1_join 130 = .ok (.goto (-35), 3) := by decide +kernel
theorem dX1_join_133 : decode cX1_join 133 = .ok (.return_, 1) := by decide +kernel
theorem dX1_sizeOf_0 : decode cX1_sizeOf 0 = .ok (.iconst 0, 1) := by decide +kernel
theorem dX1_sizeOf_1 : decode cX1_sizeOf 1 = .ok (.istore_n 3, 1) := by decide +kernel
theorem dX1_sizeOf_2 : decode cX1_sizeOf 2 = .ok (.iconst 0, 1) := by decide +kernel
theorem dX1_sizeOf_3 : decode cX1_sizeOf 3 = .ok (.istore 4, 2) := by decide +kernel
theorem dX1_sizeOf_5 : decode cX1_sizeOf 5 = .ok (.iload 4, 2) := by decide +kernel
theorem dX1_sizeOf_7 : decode cX1_sizeOf 7 = .ok (.aload_n 0, 1) := by decide +kernel
theorem dX1_sizeOf_8 : decode cX1_sizeOf 8 = .ok (.getfield 24, 3) := by decide +kernel
theorem dX1_sizeOf_11 : decode cX1_sizeOf 11 = .ok (.if_icmp .ge 28, 3) := by decide +kernel
theorem dX1_sizeOf_14 : decode cX1_sizeOf 14 = .ok (.lload_n 1, 1) := by decide +kernel
theorem dX1_sizeOf_15 : decode cX1_sizeOf 15 = .ok (.iload 4, 2) := by decide +kernel
theorem dX1_sizeOf_17 : decode cX1_sizeOf 17 = .ok (.invokestatic 31, 3) := by decide +kernel
theorem dX1_sizeOf_20 : decode cX1_sizeOf 20 = .ok (.ifCond .eq 13, 3) := by decide +kernel
theorem dX1_sizeOf_23 : decode cX1_sizeOf 23 = .ok (.iload_n 3, 1) := by decide +kernel
theorem dX1_sizeOf_24 : decode cX1_sizeOf 24 = .ok (.aload_n 0, 1) := by decide +kernel
theorem dX1_sizeOf_25 : decode cX1_sizeOf 25 = .ok (.getfield 15, 3) := by decide +kernel
theorem dX1_sizeOf_28 : decode cX1_sizeOf 28 = .ok (.iload 4, 2) := by decide +kernel
theorem dX1_sizeOf_30 : decode cX1_sizeOf 30 = .ok (.iaload, 1) := by decide +kernel
theorem dX1_sizeOf_31 : decode cX1_sizeOf 31 = .ok (.iadd, 1) := by decide +kernel
theorem dX1_sizeOf_32 : decode cX1_sizeOf 32 = .ok (.istore_n 3, 1) := by decide +kernel
theorem dX1_sizeOf_33 : decode cX1_sizeOf 33 = .ok (.iinc 4 1, 3) := by decide +kernel
theorem dX1_sizeOf_36 : decode cX1_sizeOf 36 = .ok (.goto (-31), 3) := by decide +kernel
theorem dX1_sizeOf_39 : decode cX1_sizeOf 39 = .ok (.iload_n 3, 1) := by decide +kernel
theorem dX1_sizeOf_40 : decode cX1_sizeOf 40 = .ok (.ireturn, 1) := by decide +kernel
theorem dX1_heir_0 : decode cX1_heir 0 = .ok (.iload_n 1, 1) := by decide +kernel
theorem dX1_heir_1 : decode cX1_heir 1 = .ok (.istore_n 2, 1) := by decide +kernel
theorem dX1_heir_2 : decode cX1_heir 2 = .ok (.iconst 0, 1) := by decide +kernel
theorem dX1_heir_3 : decode cX1_heir 3 = .ok (.istore_n 3, 1) := by decide +kernel
theorem dX1_heir_4 : decode cX1_heir 4 = .ok (.iload_n 3, 1) := by decide +kernel
theorem dX1_heir_5 : decode cX1_heir 5 = .ok (.aload_n 0, 1) := by decide +kernel
theorem dX1_heir_6 : decode cX1_heir 6 = .ok (.getfield 24, 3) := by decide +kernel
theorem dX1_heir_9 : decode cX1_heir 9 = .ok (.if_icmp .ge 26, 3) := by decide +kernel
theorem dX1_heir_12 : decode cX1_heir 12 = .ok (.aload_n 0, 1) := by decide +kernel
theorem dX1_heir_13 : decode cX1_heir 13 = .ok (.getfield 21, 3) := by decide +kernel
theorem dX1_heir_16 : decode cX1_heir 16 = .ok (.iload_n 2, 1) := by decide +kernel
theorem dX1_heir_17 : decode cX1_heir 17 = .ok (.iaload, 1) := by decide +kernel
theorem dX1_heir_18 : decode cX1_heir 18 = .ok (.iconst (-1), 1) := by decide +kernel
theorem dX1_heir_19 : decode cX1_heir 19 = .ok (.if_icmp .eq 16, 3) := by decide +kernel
theorem dX1_heir_22 : decode cX1_heir 22 = .ok (.aload_n 0, 1) := by decide +kernel
theorem dX1_heir_23 : decode cX1_heir 23 = .ok (.getfield 21, 3) := by decide +kernel
theorem dX1_heir_26 : decode cX1_heir 26 = .ok (.iload_n 2, 1) := by decide +kernel
theorem dX1_heir_27 : decode cX1_heir 27 = .ok (.iaload, 1) := by decide +kernel
theorem dX1_heir_28 : decode cX1_heir 28 = .ok (.istore_n 2, 1) := by decide +kernel
theorem dX1_heir_29 : decode cX1_heir 29 = .ok (.iinc 3 1, 3) := by decide +kernel
theorem dX1_heir_32 : decode cX1_heir 32 = .ok (.goto (-28), 3) := by decide +kernel
theorem dX1_heir_35 : decode cX1_heir 35 = .ok (.iload_n 2, 1) := by decide +kernel
theorem dX1_heir_36 : decode cX1_heir 36 = .ok (.ireturn, 1) := by decide +kernel
theorem dX1_meeting_0 : decode cX1_meeting 0 = .ok (.iload_n 1, 1) := by decide +kernel
theorem dX1_meeting_1 : decode cX1_meeting 1 = .ok (.istore_n 3, 1) := by decide +kernel
theorem dX1_meeting_2 : decode cX1_meeting 2 = .ok (.iload_n 2, 1) := by decide +kernel
theorem dX1_meeting_3 : decode cX1_meeting 3 = .ok (.istore 4, 2) := by decide +kernel
theorem dX1_meeting_5 : decode cX1_meeting 5 = .ok (.iconst (-1), 1) := by decide +kernel
theorem dX1_meeting_6 : decode cX1_meeting 6 = .ok (.istore 5, 2) := by decide +kernel
theorem dX1_meeting_8 : decode cX1_meeting 8 = .ok (.iconst 0, 1) := by decide +kernel
theorem dX1_meeting_9 : decode cX1_meeting 9 = .ok (.istore 6, 2) := by decide +kernel
theorem dX1_meeting_11 : decode cX1_meeting 11 = .ok (.iload 6, 2) := by decide +kernel
theorem dX1_meeting_13 : decode cX1_meeting 13 = .ok (.iconst 2, 1) := by decide +kernel
theorem dX1_meeting_14 : decode cX1_meeting 14 = .ok (.aload_n 0, 1) := by decide +kernel
theorem dX1_meeting_15 : decode cX1_meeting 15 = .ok (.getfield 24, 3) := by decide +kernel
theorem dX1_meeting_18 : decode cX1_meeting 18 = .ok (.imul, 1) := by decide +kernel
theorem dX1_meeting_19 : decode cX1_meeting 19 = .ok (.if_icmp .ge 79, 3) := by decide +kernel
theorem dX1_meeting_22 : decode cX1_meeting 22 = .ok (.iload_n 3, 1) := by decide +kernel
theorem dX1_meeting_23 : decode cX1_meeting 23 = .ok (.iload 4, 2) := by decide +kernel
theorem dX1_meeting_25 : decode cX1_meeting 25 = .ok (.if_icmp .eq 73, 3) := by decide +kernel
theorem dX1_meeting_28 : decode cX1_meeting 28 = .ok (.aload_n 0, 1) := by decide +kernel
theorem dX1_meeting_29 : decode cX1_meeting 29 = .ok (.iload_n 3, 1) := by decide +kernel
theorem dX1_meeting_30 : decode cX1_meeting 30 = .ok (.iload 4, 2) := by decide +kernel
theorem dX1_meeting_32 : decode cX1_meeting 32 = .ok (.invokevirtual 39, 3) := by decide +kernel
theorem dX1_meeting_35 : decode cX1_meeting 35 = .ok (.istore 7, 2) := by decide +kernel
theorem dX1_meeting_37 : decode cX1_meeting 37 = .ok (.iload 7, 2) := by decide +kernel
theorem dX1_meeting_39 : decode cX1_meeting 39 = .ok (.ifCond .eq 12, 3) := by decide +kernel
theorem dX1_meeting_42 : decode cX1_meeting 42 = .ok (.aload_n 0, 1) := by decide +kernel
theorem dX1_meeting_43 : decode cX1_meeting 43 = .ok (.getfield 18, 3) := by decide +kernel
theorem dX1_meeting_46 : decode cX1_meeting 46 = .ok (.iload_n 3, 1) := by decide +kernel
theorem dX1_meeting_47 : decode cX1_meeting 47 = .ok (.iaload, 1) := by decide +kernel
theorem dX1_meeting_48 : decode cX1_meeting 48 = .ok (.goto 10, 3) := by decide +kernel
theorem dX1_meeting_51 : decode cX1_meeting 51 = .ok (.aload_n 0, 1) := by decide +kernel
theorem dX1_meeting_52 : decode cX1_meeting 52 = .ok (.getfield 18, 3) := by decide +kernel
theorem dX1_meeting_55 : decode cX1_meeting 55 = .ok (.iload 4, 2) := by decide +kernel
theorem dX1_meeting_57 : decode cX1_meeting 57 = .ok (.iaload, 1) := by decide +kernel
theorem dX1_meeting_58 : decode cX1_meeting 58 = .ok (.istore 5, 2) := by decide +kernel
theorem dX1_meeting_60 : decode cX1_meeting 60 = .ok (.iload 5, 2) := by decide +kernel
theorem dX1_meeting_62 : decode cX1_meeting 62 = .ok (.iconst (-1), 1) := by decide +kernel
theorem dX1_meeting_63 : decode cX1_meeting 63 = .ok (.if_icmp .ne 5, 3) := by decide +kernel
theorem dX1_meeting_66 : decode cX1_meeting 66 = .ok (.iconst (-1), 1) := by decide +kernel
theorem dX1_meeting_67 : decode cX1_meeting 67 = .ok (.ireturn, 1) := by decide +kernel
theorem dX1_meeting_68 : decode cX1_meeting 68 = .ok (.iload 7, 2) := by decide +kernel
theorem dX1_meeting_70 : decode cX1_meeting 70 = .ok (.ifCond .eq 13, 3) := by decide +kernel
theorem dX1_meeting_73 : decode cX1_meeting 73 = .ok (.aload_n 0, 1) := by decide +kernel
theorem dX1_meeting_74 : decode cX1_meeting 74 = .ok (.getfield 21, 3) := by decide +kernel
theorem dX1_meeting_77 : decode cX1_meeting 77 = .ok (.iload_n 3, 1) := by decide +kernel
theorem dX1_meeting_78 : decode cX1_meeting 78 = .ok (.iaload, 1) := by decide +kernel
theorem dX1_meeting_79 : decode cX1_meeting 79 = .ok (.istore_n 3, 1) := by decide +kernel
theorem dX1_meeting_80 : decode cX1_meeting 80 = .ok (.goto 12, 3) := by decide +kernel
theorem dX1_meeting_83 : decode cX1_meeting 83 = .ok (.aload_n 0, 1) := by decide +kernel
theorem dX1_meeting_84 : decode cX1_meeting 84 = .ok (.getfield 21, 3) := by decide +kernel
theorem dX1_meeting_87 : decode cX1_meeting 87 = .ok (.iload 4, 2) := by decide +kernel
theorem dX1_meeting_89 : decode cX1_meeting 89 = .ok (.iaload, 1) := by decide +kernel
theorem dX1_meeting_90 : decode cX1_meeting 90 = .ok (.istore 4, 2) := by decide +kernel
theorem dX1_meeting_92 : decode cX1_meeting 92 = .ok (.iinc 6 1, 3) := by decide +kernel
theorem dX1_meeting_95 : decode cX1_meeting 95 = .ok (.goto (-84), 3) := by decide +kernel
theorem dX1_meeting_98 : decode cX1_meeting 98 = .ok (.iload 5, 2) := by decide +kernel
theorem dX1_meeting_100 : decode cX1_meeting 100 = .ok (.ireturn, 1) := by decide +kernel
theorem dX1_endsBefore_0 : decode cX1_endsBefore 0 = .ok (.aload_n 0, 1) := by decide +kernel
theorem dX1_endsBefore_1 : decode cX1_endsBefore 1 = .ok (.getfield 18, 3) := by decide +kernel
theorem dX1_endsBefore_4 : decode cX1_endsBefore 4 = .ok (.iload_n 1, 1) := by decide +kernel
theorem dX1_endsBefore_5 : decode cX1_endsBefore 5 = .ok (.iaload, 1) := by decide +kernel
theorem dX1_endsBefore_6 : decode cX1_endsBefore 6 = .ok (.iconst (-1), 1) := by decide +kernel
theorem dX1_endsBefore_7 : decode cX1_endsBefore 7 = .ok (.if_icmp .ne 5, 3) := by decide +kernel
theorem dX1_endsBefore_10 : decode cX1_endsBefore 10 = .ok (.iconst 0, 1) := by decide +kernel
theorem dX1_endsBefore_11 : decode cX1_endsBefore 11 = .ok (.ireturn, 1) := by decide +kernel
theorem dX1_endsBefore_12 : decode cX1_endsBefore 12 = .ok (.aload_n 0, 1) := by decide +kernel
theorem dX1_endsBefore_13 : decode cX1_endsBefore 13 = .ok (.getfield 18, 3) := by decide +kernel
theorem dX1_endsBefore_16 : decode cX1_endsBefore 16 = .ok (.iload_n 2, 1) := by decide +kernel
theorem dX1_endsBefore_17 : decode cX1_endsBefore 17 = .ok (.iaload, 1) := by decide +kernel
theorem dX1_endsBefore_18 : decode cX1_endsBefore 18 = .ok (.iconst (-1), 1) := by decide +kernel
theorem dX1_endsBefore_19 : decode cX1_endsBefore 19 = .ok (.if_icmp .eq 18, 3) := by decide +kernel
theorem dX1_endsBefore_22 : decode cX1_endsBefore 22 = .ok (.aload_n 0, 1) := by decide +kernel
theorem dX1_endsBefore_23 : decode cX1_endsBefore 23 = .ok (.getfield 18, 3) := by decide +kernel
theorem dX1_endsBefore_26 : decode cX1_endsBefore 26 = .ok (.iload_n 1, 1) := by decide +kernel
theorem dX1_endsBefore_27 : decode cX1_endsBefore 27 = .ok (.iaload, 1) := by decide +kernel
theorem dX1_endsBefore_28 : decode cX1_endsBefore 28 = .ok (.aload_n 0, 1) := by decide +kernel
theorem dX1_endsBefore_29 : decode cX1_endsBefore 29 = .ok (.getfield 18, 3) := by decide +kernel
theorem dX1_endsBefore_32 : decode cX1_endsBefore 32 = .ok (.iload_n 2, 1) := by decide +kernel
theorem dX1_endsBefore_33 : decode cX1_endsBefore 33 = .ok (.iaload, 1) := by decide +kernel
theorem dX1_endsBefore_34 : decode cX1_endsBefore 34 = .ok (.if_icmp .gt 7, 3) := by decide +kernel
theorem dX1_endsBefore_37 : decode cX1_endsBefore 37 = .ok (.iconst 1, 1) := by decide +kernel
theorem dX1_endsBefore_38 : decode cX1_endsBefore 38 = .ok (.goto 4, 3) := by decide +kernel
theorem dX1_endsBefore_41 : decode cX1_endsBefore 41 = .ok (.iconst 0, 1) := by decide +kernel
theorem dX1_endsBefore_42 : decode cX1_endsBefore 42 = .ok (.ireturn, 1) := by decide +kernel
theorem dX1_pairs_0 : decode cX1_pairs 0 = .ok (.iconst 0, 1) := by decide +kernel
theorem dX1_pairs_1 : decode cX1_pairs 1 = .ok (.istore_n 1, 1) := by decide +kernel
theorem dX1_pairs_2 : decode cX1_pairs 2 = .ok (.iconst 0, 1) := by decide +kernel
theorem dX1_pairs_3 : decode cX1_pairs 3 = .ok (.istore_n 2, 1) := by decide +kernel
theorem dX1_pairs_4 : decode cX1_pairs 4 = .ok (.iload_n 2, 1) := by decide +kernel
theorem dX1_pairs_5 : decode cX1_pairs 5 = .ok (.aload_n 0, 1) := by decide +kernel
theorem dX1_pairs_6 : decode cX1_pairs 6 = .ok (.getfield 24, 3) := by decide +kernel
theorem dX1_pairs_9 : decode cX1_pairs 9 = .ok (.if_icmp .ge 37, 3) := by decide +kernel
theorem dX1_pairs_12 : decode cX1_pairs 12 = .ok (.aload_n 0, 1) := by decide +kernel
theorem dX1_pairs_13 : decode cX1_pairs 13 = .ok (.iload_n 2, 1) := by decide +kernel
theorem dX1_pairs_14 : decode cX1_pairs 14 = .ok (.invokevirtual 43, 3) := by decide +kernel
theorem dX1_pairs_17 : decode cX1_pairs 17 = .ok (.ifCond .eq 23, 3) := by decide +kernel
theorem dX1_pairs_20 : decode cX1_pairs 20 = .ok (.iload_n 1, 1) := by decide +kernel
theorem dX1_pairs_21 : decode cX1_pairs 21 = .ok (.aload_n 0, 1) := by decide +kernel
theorem dX1_pairs_22 : decode cX1_pairs 22 = .ok (.getfield 15, 3) := by decide +kernel
theorem dX1_pairs_25 : decode cX1_pairs 25 = .ok (.iload_n 2, 1) := by decide +kernel
theorem dX1_pairs_26 : decode cX1_pairs 26 = .ok (.iaload, 1) := by decide +kernel
theorem dX1_pairs_27 : decode cX1_pairs 27 = .ok (.aload_n 0, 1) := by decide +kernel
theorem dX1_pairs_28 : decode cX1_pairs 28 = .ok (.getfield 15, 3) := by decide +kernel
theorem dX1_pairs_31 : decode cX1_pairs 31 = .ok (.iload_n 2, 1) := by decide +kernel
theorem dX1_pairs_32 : decode cX1_pairs 32 = .ok (.iaload, 1) := by decide +kernel
theorem dX1_pairs_33 : decode cX1_pairs 33 = .ok (.iconst 1, 1) := by decide +kernel
theorem dX1_pairs_34 : decode cX1_pairs 34 = .ok (.isub, 1) := by decide +kernel
theorem dX1_pairs_35 : decode cX1_pairs 35 = .ok (.imul, 1) := by decide +kernel
theorem dX1_pairs_36 : decode cX1_pairs 36 = .ok (.iconst 2, 1) := by decide +kernel
theorem dX1_pairs_37 : decode cX1_pairs 37 = .ok (.idiv, 1) := by decide +kernel
theorem dX1_pairs_38 : decode cX1_pairs 38 = .ok (.iadd, 1) := by decide +kernel
theorem dX1_pairs_39 : decode cX1_pairs 39 = .ok (.istore_n 1, 1) := by decide +kernel
theorem dX1_pairs_40 : decode cX1_pairs 40 = .ok (.iinc 2 1, 3) := by decide +kernel
theorem dX1_pairs_43 : decode cX1_pairs 43 = .ok (.goto (-39), 3) := by decide +kernel
theorem dX1_pairs_46 : decode cX1_pairs 46 = .ok (.iload_n 1, 1) := by decide +kernel
theorem dX1_pairs_47 : decode cX1_pairs 47 = .ok (.ireturn, 1) := by decide +kernel
theorem dX2_init_0 : decode cX2_init 0 = .ok (.aload_n 0, 1) := by decide +kernel
theorem dX2_init_1 : decode cX2_init 1 = .ok (.invokespecial 3, 3) := by decide +kernel
theorem dX2_init_4 : decode cX2_init 4 = .ok (.aload_n 0, 1) := by decide +kernel
theorem dX2_init_5 : decode cX2_init 5 = .ok (.bipush 32, 2) := by decide +kernel
theorem dX2_init_7 : decode cX2_init 7 = .ok (.newarray .long, 2) := by decide +kernel
theorem dX2_init_9 : decode cX2_init 9 = .ok (.putfield 9, 3) := by decide +kernel
theorem dX2_init_12 : decode cX2_init 12 = .ok (.aload_n 0, 1) := by decide +kernel
theorem dX2_init_13 : decode cX2_init 13 = .ok (.bipush 64, 2) := by decide +kernel
theorem dX2_init_15 : decode cX2_init 15 = .ok (.newarray .int, 2) := by decide +kernel
theorem dX2_init_17 : decode cX2_init 17 = .ok (.putfield 15, 3) := by decide +kernel
theorem dX2_init_20 : decode cX2_init 20 = .ok (.aload_n 0, 1) := by decide +kernel
theorem dX2_init_21 : decode cX2_init 21 = .ok (.bipush 64, 2) := by decide +kernel
theorem dX2_init_23 : decode cX2_init 23 = .ok (.newarray .int, 2) := by decide +kernel
theorem dX2_init_25 : decode cX2_init 25 = .ok (.putfield 19, 3) := by decide +kernel
theorem dX2_init_28 : decode cX2_init 28 = .ok (.aload_n 0, 1) := by decide +kernel
theorem dX2_init_29 : decode cX2_init 29 = .ok (.bipush 64, 2) := by decide +kernel
theorem dX2_init_31 : decode cX2_init 31 = .ok (.newarray .int, 2) := by decide +kernel
theorem dX2_init_33 : decode cX2_init 33 = .ok (.putfield 22, 3) := by decide +kernel
theorem dX2_init_36 : decode cX2_init 36 = .ok (.aload_n 0, 1) := by decide +kernel
theorem dX2_init_37 : decode cX2_init 37 = .ok (.lconst 0, 1) := by decide +kernel
theorem dX2_init_38 : decode cX2_init 38 = .ok (.putfield 25, 3) := by decide +kernel
theorem dX2_init_41 : decode cX2_init 41 = .ok (.aload_n 0, 1) := by decide +kernel
theorem dX2_init_42 : decode cX2_init 42 = .ok (.iconst 0, 1) := by decide +kernel
theorem dX2_init_43 : decode cX2_init 43 = .ok (.putfield 29, 3) := by decide +kernel
theorem dX2_init_46 : decode cX2_init 46 = .ok (.aload_n 0, 1) := by decide +kernel
theorem dX2_init_47 : decode cX2_init 47 = .ok (.iconst 0, 1) := by decide +kernel
theorem dX2_init_48 : decode cX2_init 48 = .ok (.putfield 33, 3) := by decide +kernel
theorem dX2_init_51 : decode cX2_init 51 = .ok (.return_, 1) := by decide +kernel
theorem dX2_read_0 : decode cX2_read 0 = .ok (.aload_n 0, 1) := by decide +kernel
theorem dX2_read_1 : decode cX2_read 1 = .ok (.aload_n 1, 1) := by decide +kernel
theorem dX2_read_2 : decode cX2_read 2 = .ok (.getfield 36, 3) := by decide +kernel
theorem dX2_read_5 : decode cX2_read 5 = .ok (.putfield 33, 3) := by decide +kernel
theorem dX2_read_8 : decode cX2_read 8 = .ok (.aload_n 0, 1) := by decide +kernel
theorem dX2_read_9 : decode cX2_read 9 = .ok (.iconst 0, 1) := by decide +kernel
theorem dX2_read_10 : decode cX2_read 10 = .ok (.putfield 29, 3) := by decide +kernel
theorem dX2_read_13 : decode cX2_read 13 = .ok (.aload_n 0, 1) := by decide +kernel
theorem dX2_read_14 : decode cX2_read 14 = .ok (.lconst 0, 1) := by decide +kernel
theorem dX2_read_15 : decode cX2_read 15 = .ok (.putfield 25, 3) := by decide +kernel
theorem dX2_read_18 : decode cX2_read 18 = .ok (.aload_n 0, 1) := by decide +kernel
theorem dX2_read_19 : decode cX2_read 19 = .ok (.getfield 9, 3) := by decide +kernel
theorem dX2_read_22 : decode cX2_read 22 = .ok (.lconst 0, 1) := by decide +kernel
theorem dX2_read_23 : decode cX2_read 23 = .ok (.invokestatic 39, 3) := by decide +kernel
theorem dX2_read_26 : decode cX2_read 26 = .ok (.aload_n 0, 1) := by decide +kernel
theorem dX2_read_27 : decode cX2_read 27 = .ok (.getfield 19, 3) := by decide +kernel
theorem dX2_read_30 : decode cX2_read 30 = .ok (.iconst (-1), 1) := by decide +kernel
theorem dX2_read_31 : decode cX2_read 31 = .ok (.invokestatic 45, 3) := by decide +kernel
theorem dX2_read_34 : decode cX2_read 34 = .ok (.iconst 0, 1) := by decide +kernel
theorem dX2_read_35 : decode cX2_read 35 = .ok (.istore_n 2, 1) := by decide +kernel
theorem dX2_read_36 : decode cX2_read 36 = .ok (.iload_n 2, 1) := by decide +kernel
theorem dX2_read_37 : decode cX2_read 37 = .ok (.aload_n 1, 1) := by decide +kernel
theorem dX2_read_38 : decode cX2_read 38 = .ok (.getfield 48, 3) := by decide +kernel
theorem dX2_read_41 : decode cX2_read 41 = .ok (.if_icmp .ge 126, 3) := by decide +kernel
theorem dX2_read_44 : decode cX2_read 44 = .ok (.aload_n 1, 1) := by decide +kernel
theorem dX2_read_45 : decode cX2_read 45 = .ok (.getfield 51, 3) := by decide +kernel
theorem dX2_read_48 : decode cX2_read 48 = .ok (.getfield 55, 3) := by decide +kernel
theorem dX2_read_51 : decode cX2_read 51 = .ok (.iload_n 2, 1) := by decide +kernel
theorem dX2_read_52 : decode cX2_read 52 = .ok (.iaload, 1) := by decide +kernel
theorem dX2_read_53 : decode cX2_read 53 = .ok (.istore_n 3, 1) := by decide +kernel
theorem dX2_read_54 : decode cX2_read 54 = .ok (.aload_n 0, 1) := by decide +kernel
theorem dX2_read_55 : decode cX2_read 55 = .ok (.getfield 19, 3) := by decide +kernel
theorem dX2_read_58 : decode cX2_read 58 = .ok (.iload_n 3, 1) := by decide +kernel
theorem dX2_read_59 : decode cX2_read 59 = .ok (.iaload, 1) := by decide +kernel
theorem dX2_read_60 : decode cX2_read 60 = .ok (.iconst (-1), 1) := by decide +kernel
theorem dX2_read_61 : decode cX2_read 61 = .ok (.if_icmp .ne 43, 3) := by decide +kernel
theorem dX2_read_64 : decode cX2_read 64 = .ok (.aload_n 0, 1) := by decide +kernel
theorem dX2_read_65 : decode cX2_read 65 = .ok (.getfield 19, 3) := by decide +kernel
theorem dX2_read_68 : decode cX2_read 68 = .ok (.iload_n 3, 1) := by decide +kernel
theorem dX2_read_69 : decode cX2_read 69 = .ok (.aload_n 0, 1) := by decide +kernel
theorem dX2_read_70 : decode cX2_read 70 = .ok (.getfield 29, 3) := by decide +kernel
theorem dX2_read_73 : decode cX2_read 73 = .ok (.iastore, 1) := by decide +kernel
theorem dX2_read_74 : decode cX2_read 74 = .ok (.aload_n 0, 1) := by decide +kernel
theorem dX2_read_75 : decode cX2_read 75 = .ok (.getfield 15, 3) := by decide +kernel
theorem dX2_read_78 : decode cX2_read 78 = .ok (.aload_n 0, 1) := by decide +kernel
theorem dX2_read_79 : decode cX2_read 79 = .ok (.getfield 29, 3) := by decide +kernel
theorem dX2_read_82 : decode cX2_read 82 = .ok (.iload_n 3, 1) := by decide +kernel
theorem dX2_read_83 : decode cX2_read 83 = .ok (.iastore, 1) := by decide +kernel
theorem dX2_read_84 : decode cX2_read 84 = .ok (.aload_n 0, 1) := by decide +kernel
theorem dX2_read_85 : decode cX2_read 85 = .ok (.getfield 22, 3) := by decide +kernel
theorem dX2_read_88 : decode cX2_read 88 = .ok (.aload_n 0, 1) := by decide +kernel
theorem dX2_read_89 : decode cX2_read 89 = .ok (.getfield 29, 3) := by decide +kernel
theorem dX2_read_92 : decode cX2_read 92 = .ok (.iload_n 2, 1) := by decide +kernel
theorem dX2_read_93 : decode cX2_read 93 = .ok (.iastore, 1) := by decide +kernel
theorem dX2_read_94 : decode cX2_read 94 = .ok (.aload_n 0, 1) := by decide +kernel
theorem dX2_read_95 : decode cX2_read 95 = .ok (.dup, 1) := by decide +kernel
theorem dX2_read_96 : decode cX2_read 96 = .ok (.getfield 29, 3) := by decide +kernel
theorem dX2_read_99 : decode cX2_read 99 = .ok (.iconst 1, 1) := by decide +kernel
theorem dX2_read_100 : decode cX2_read 100 = .ok (.iadd, 1) := by decide +kernel
theorem dX2_read_101 : decode cX2_read 101 = .ok (.putfield 29, 3) := by decide +kernel
theorem dX2_read_104 : decode cX2_read 104 = .ok (.aload_n 0, 1) := by decide +kernel
theorem dX2_read_105 : decode cX2_read 105 = .ok (.getfield 9, 3) := by decide +kernel
theorem dX2_read_108 : decode cX2_read 108 = .ok (.aload_n 1, 1) := by decide +kernel
theorem dX2_read_109 : decode cX2_read 109 = .ok (.getfield 60, 3) := by decide +kernel
theorem dX2_read_112 : decode cX2_read 112 = .ok (.iload_n 2, 1) := by decide +kernel
theorem dX2_read_113 : decode cX2_read 113 = .ok (.iaload, 1) := by decide +kernel
theorem dX2_read_114 : decode cX2_read 114 = .ok (.dup2, 1) := by decide +kernel
theorem dX2_read_115 : decode cX2_read 115 = .ok (.laload, 1) := by decide +kernel
theorem dX2_read_116 : decode cX2_read 116 = .ok (.iload_n 3, 1) := by decide +kernel
theorem dX2_read_117 : decode cX2_read 117 = .ok (.invokestatic 63, 3) := by decide +kernel
theorem dX2_read_120 : decode cX2_read 120 = .ok (.lor, 1) := by decide +kernel
theorem dX2_read_121 : decode cX2_read 121 = .ok (.lastore, 1) := by decide +kernel
theorem dX2_read_122 : decode cX2_read 122 = .ok (.aload_n 0, 1) := by decide +kernel
theorem dX2_read_123 : decode cX2_read 123 = .ok (.getfield 9, 3) := by decide +kernel
theorem dX2_read_126 : decode cX2_read 126 = .ok (.aload_n 1, 1) := by decide +kernel
theorem dX2_read_127 : decode cX2_read 127 = .ok (.getfield 67, 3) := by decide +kernel
theorem dX2_read_130 : decode cX2_read 130 = .ok (.iload_n 2, 1) := by decide +kernel
theorem dX2_read_131 : decode cX2_read 131 = .ok (.iaload, 1) := by decide +kernel
theorem dX2_read_132 : decode cX2_read 132 = .ok (.dup2, 1) := by decide +kernel
theorem dX2_read_133 : decode cX2_read 133 = .ok (.laload, 1) := by decide +kernel
theorem dX2_read_134 : decode cX2_read 134 = .ok (.iload_n 3, 1) := by decide +kernel
theorem dX2_read_135 : decode cX2_read 135 = .ok (.invokestatic 63, 3) := by decide +kernel
theorem dX2_read_138 : decode cX2_read 138 = .ok (.lor, 1) := by decide +kernel
theorem dX2_read_139 : decode cX2_read 139 = .ok (.lastore, 1) := by decide +kernel
theorem dX2_read_140 : decode cX2_read 140 = .ok (.aload_n 1, 1) := by decide +kernel
theorem dX2_read_141 : decode cX2_read 141 = .ok (.iload_n 2, 1) := by decide +kernel
theorem dX2_read_142 : decode cX2_read 142 = .ok (.invokevirtual 70, 3) := by decide +kernel
theorem dX2_read_145 : decode cX2_read 145 = .ok (.ifCond .ne 16, 3) := by decide +kernel
theorem dX2_read_148 : decode cX2_read 148 = .ok (.aload_n 0, 1) := by decide +kernel
theorem dX2_read_149 : decode cX2_read 149 = .ok (.dup, 1) := by decide +kernel
theorem dX2_read_150 : decode cX2_read 150 = .ok (.getfield 25, 3) := by decide +kernel
theorem dX2_read_153 : decode cX2_read 153 = .ok (.iload_n 3, 1) := by decide +kernel
theorem dX2_read_154 : decode cX2_read 154 = .ok (.invokestatic 63, 3) := by decide +kernel
theorem dX2_read_157 : decode cX2_read 157 = .ok (.lor, 1) := by decide +kernel
theorem dX2_read_158 : decode cX2_read 158 = .ok (.putfield 25, 3) := by decide +kernel
theorem dX2_read_161 : decode cX2_read 161 = .ok (.iinc 2 1, 3) := by decide +kernel
theorem dX2_read_164 : decode cX2_read 164 = .ok (.goto (-128), 3) := by decide +kernel
theorem dX2_read_167 : decode cX2_read 167 = .ok (.return_, 1) := by decide +kernel
theorem dX2_isCut_0 : decode cX2_isCut 0 = .ok (.aload_n 0, 1) := by decide +kernel
theorem dX2_isCut_1 : decode cX2_isCut 1 = .ok (.getfield 9, 3) := by decide +kernel
theorem dX2_isCut_4 : decode cX2_isCut 4 = .ok (.iload_n 1, 1) := by decide +kernel
theorem dX2_isCut_5 : decode cX2_isCut 5 = .ok (.laload, 1) := by decide +kernel
theorem dX2_isCut_6 : decode cX2_isCut 6 = .ok (.invokestatic 74, 3) := by decide +kernel
theorem dX2_isCut_9 : decode cX2_isCut 9 = .ok (.iconst 1, 1) := by decide +kernel
theorem dX2_isCut_10 : decode cX2_isCut 10 = .ok (.if_icmp .le 7, 3) := by decide +kernel
theorem dX2_isCut_13 : decode cX2_isCut 13 = .ok (.iconst 1, 1) := by decide +kernel
theorem dX2_isCut_14 : decode cX2_isCut 14 = .ok (.goto 4, 3) := by decide +kernel
theorem dX2_isCut_17 : decode cX2_isCut 17 = .ok (.iconst 0, 1) := by decide +kernel
theorem dX2_isCut_18 : decode cX2_isCut 18 = .ok (.ireturn, 1) := by decide +kernel
theorem dX2_shareRing_0 : decode cX2_shareRing 0 = .ok (.aload_n 0, 1) := by decide +kernel
theorem dX2_shareRing_1 : decode cX2_shareRing 1 = .ok (.getfield 9, 3) := by decide +kernel
theorem dX2_shareRing_4 : decode cX2_shareRing 4 = .ok (.iload_n 1, 1) := by decide +kernel
theorem dX2_shareRing_5 : decode cX2_shareRing 5 = .ok (.laload, 1) := by decide +kernel
theorem dX2_shareRing_6 : decode cX2_shareRing 6 = .ok (.aload_n 0, 1) := by decide +kernel
theorem dX2_shareRing_7 : decode cX2_shareRing 7 = .ok (.getfield 9, 3) := by decide +kernel
theorem dX2_shareRing_10 : decode cX2_shareRing 10 = .ok (.iload_n 2, 1) := by decide +kernel
theorem dX2_shareRing_11 : decode cX2_shareRing 11 = .ok (.laload, 1) := by decide +kernel
theorem dX2_shareRing_12 : decode cX2_shareRing 12 = .ok (.land, 1) := by decide +kernel
theorem dX2_shareRing_13 : decode cX2_shareRing 13 = .ok (.aload_n 0, 1) := by decide +kernel
theorem dX2_shareRing_14 : decode cX2_shareRing 14 = .ok (.getfield 25, 3) := by decide +kernel
theorem dX2_shareRing_17 : decode cX2_shareRing 17 = .ok (.land, 1) := by decide +kernel
theorem dX2_shareRing_18 : decode cX2_shareRing 18 = .ok (.lconst 0, 1) := by decide +kernel
theorem dX2_shareRing_19 : decode cX2_shareRing 19 = .ok (.lcmp, 1) := by decide +kernel
theorem dX2_shareRing_20 : decode cX2_shareRing 20 = .ok (.ifCond .eq 7, 3) := by decide +kernel
theorem dX2_shareRing_23 : decode cX2_shareRing 23 = .ok (.iconst 1, 1) := by decide +kernel
theorem dX2_shareRing_24 : decode cX2_shareRing 24 = .ok (.goto 4, 3) := by decide +kernel
theorem dX2_shareRing_27 : decode cX2_shareRing 27 = .ok (.iconst 0, 1) := by decide +kernel
theorem dX2_shareRing_28 : decode cX2_shareRing 28 = .ok (.ireturn, 1) := by decide +kernel
theorem dX2_allCuts_0 : decode cX2_allCuts 0 = .ok (.iconst 0, 1) := by decide +kernel
theorem dX2_allCuts_1 : decode cX2_allCuts 1 = .ok (.istore_n 1, 1) := by decide +kernel
theorem dX2_allCuts_2 : decode cX2_allCuts 2 = .ok (.iconst 0, 1) := by decide +kernel
theorem dX2_allCuts_3 : decode cX2_allCuts 3 = .ok (.istore_n 2, 1) := by decide +kernel
theorem dX2_allCuts_4 : decode cX2_allCuts 4 = .ok (.iload_n 2, 1) := by decide +kernel
theorem dX2_allCuts_5 : decode cX2_allCuts 5 = .ok (.aload_n 0, 1) := by decide +kernel
theorem dX2_allCuts_6 : decode cX2_allCuts 6 = .ok (.getfield 33, 3) := by decide +kernel
theorem dX2_allCuts_9 : decode cX2_allCuts 9 = .ok (.if_icmp .ge 20, 3) := by decide +kernel
theorem dX2_allCuts_12 : decode cX2_allCuts 12 = .ok (.aload_n 0, 1) := by decide +kernel
theorem dX2_allCuts_13 : decode cX2_allCuts 13 = .ok (.iload_n 2, 1) := by decide +kernel
theorem dX2_allCuts_14 : decode cX2_allCuts 14 = .ok (.invokevirtual 80, 3) := by decide +kernel
theorem dX2_allCuts_17 : decode cX2_allCuts 17 = .ok (.ifCond .eq 6, 3) := by decide +kernel
theorem dX2_allCuts_20 : decode cX2_allCuts 20 = .ok (.iinc 1 1, 3) := by decide +kernel
theorem dX2_allCuts_23 : decode cX2_allCuts 23 = .ok (.iinc 2 1, 3) := by decide +kernel
theorem dX2_allCuts_26 : decode cX2_allCuts 26 = .ok (.goto (-22), 3) := by decide +kernel
theorem dX2_allCuts_29 : decode cX2_allCuts 29 = .ok (.iload_n 1, 1) := by decide +kernel
theorem dX2_allCuts_30 : decode cX2_allCuts 30 = .ok (.ireturn, 1) := by decide +kernel
theorem dX2_cutsOf_0 : decode cX2_cutsOf 0 = .ok (.iconst 0, 1) := by decide +kernel
theorem dX2_cutsOf_1 : decode cX2_cutsOf 1 = .ok (.istore_n 3, 1) := by decide +kernel
theorem dX2_cutsOf_2 : decode cX2_cutsOf 2 = .ok (.iconst 0, 1) := by decide +kernel
theorem dX2_cutsOf_3 : decode cX2_cutsOf 3 = .ok (.istore 4, 2) := by decide +kernel
theorem dX2_cutsOf_5 : decode cX2_cutsOf 5 = .ok (.iload 4, 2) := by decide +kernel
theorem dX2_cutsOf_7 : decode cX2_cutsOf 7 = .ok (.aload_n 0, 1) := by decide +kernel
theorem dX2_cutsOf_8 : decode cX2_cutsOf 8 = .ok (.getfield 33, 3) := by decide +kernel
theorem dX2_cutsOf_11 : decode cX2_cutsOf 11 = .ok (.if_icmp .ge 32, 3) := by decide +kernel
theorem dX2_cutsOf_14 : decode cX2_cutsOf 14 = .ok (.aload_n 1, 1) := by decide +kernel
theorem dX2_cutsOf_15 : decode cX2_cutsOf 15 = .ok (.getfield 55, 3) := by decide +kernel
theorem dX2_cutsOf_18 : decode cX2_cutsOf 18 = .ok (.iload 4, 2) := by decide +kernel
theorem dX2_cutsOf_20 : decode cX2_cutsOf 20 = .ok (.iaload, 1) := by decide +kernel
theorem dX2_cutsOf_21 : decode cX2_cutsOf 21 = .ok (.iload_n 2, 1) := by decide +kernel
theorem dX2_cutsOf_22 : decode cX2_cutsOf 22 = .ok (.if_icmp .ne 15, 3) := by decide +kernel
theorem dX2_cutsOf_25 : decode cX2_cutsOf 25 = .ok (.aload_n 0, 1) := by decide +kernel
theorem dX2_cutsOf_26 : decode cX2_cutsOf 26 = .ok (.iload 4, 2) := by decide +kernel
theorem dX2_cutsOf_28 : decode cX2_cutsOf 28 = .ok (.invokevirtual 80, 3) := by decide +kernel
theorem dX2_cutsOf_31 : decode cX2_cutsOf 31 = .ok (.ifCond .eq 6, 3) := by decide +kernel
theorem dX2_cutsOf_34 : decode cX2_cutsOf 34 = .ok (.iinc 3 1, 3) := by decide +kernel
theorem dX2_cutsOf_37 : decode cX2_cutsOf 37 = .ok (.iinc 4 1, 3) := by decide +kernel
theorem dX2_cutsOf_40 : decode cX2_cutsOf 40 = .ok (.goto (-35), 3) := by decide +kernel
theorem dX2_cutsOf_43 : decode cX2_cutsOf 43 = .ok (.iload_n 3, 1) := by decide +kernel
theorem dX2_cutsOf_44 : decode cX2_cutsOf 44 = .ok (.ireturn, 1) := by decide +kernel
theorem dX2_cutsWithin_0 : decode cX2_cutsWithin 0 = .ok (.iconst 0, 1) := by decide +kernel
theorem dX2_cutsWithin_1 : decode cX2_cutsWithin 1 = .ok (.istore_n 3, 1) := by decide +kernel
theorem dX2_cutsWithin_2 : decode cX2_cutsWithin 2 = .ok (.iconst 0, 1) := by decide +kernel
theorem dX2_cutsWithin_3 : decode cX2_cutsWithin 3 = .ok (.istore 4, 2) := by decide +kernel
theorem dX2_cutsWithin_5 : decode cX2_cutsWithin 5 = .ok (.iload 4, 2) := by decide +kernel
theorem dX2_cutsWithin_7 : decode cX2_cutsWithin 7 = .ok (.aload_n 0, 1) := by decide +kernel
theorem dX2_cutsWithin_8 : decode cX2_cutsWithin 8 = .ok (.getfield 33, 3) := by decide +kernel
theorem dX2_cutsWithin_11 : decode cX2_cutsWithin 11 = .ok (.if_icmp .ge 42, 3) := by decide +kernel
theorem dX2_cutsWithin_14 : decode cX2_cutsWithin 14 = .ok (.aload_n 1, 1) := by decide +kernel
theorem dX2_cutsWithin_15 : decode cX2_cutsWithin 15 = .ok (.getfield 55, 3) := by decide +kernel
theorem dX2_cutsWithin_18 : decode cX2_cutsWithin 18 = .ok (.iload 4, 2) := by decide +kernel
theorem dX2_cutsWithin_20 : decode cX2_cutsWithin 20 = .ok (.iaload, 1) := by decide +kernel
theorem dX2_cutsWithin_21 : decode cX2_cutsWithin 21 = .ok (.iload_n 2, 1) := by decide +kernel
theorem dX2_cutsWithin_22 : decode cX2_cutsWithin 22 = .ok (.if_icmp .ne 25, 3) := by decide +kernel
theorem dX2_cutsWithin_25 : decode cX2_cutsWithin 25 = .ok (.aload_n 0, 1) := by decide +kernel
theorem dX2_cutsWithin_26 : decode cX2_cutsWithin 26 = .ok (.getfield 9, 3) := by decide +kernel
theorem dX2_cutsWithin_29 : decode cX2_cutsWithin 29 = .ok (.iload 4, 2) := by decide +kernel
theorem dX2_cutsWithin_31 : decode cX2_cutsWithin 31 = .ok (.laload, 1) := by decide +kernel
theorem dX2_cutsWithin_32 : decode cX2_cutsWithin 32 = .ok (.aload_n 0, 1) := by decide +kernel
theorem dX2_cutsWithin_33 : decode cX2_cutsWithin 33 = .ok (.getfield 25, 3) := by decide +kernel
theorem dX2_cutsWithin_36 : decode cX2_cutsWithin 36 = .ok (.land, 1) := by decide +kernel
theorem dX2_cutsWithin_37 : decode cX2_cutsWithin 37 = .ok (.invokestatic 74, 3) := by decide +kernel
theorem dX2_cutsWithin_40 : decode cX2_cutsWithin 40 = .ok (.iconst 1, 1) := by decide +kernel
theorem dX2_cutsWithin_41 : decode cX2_cutsWithin 41 = .ok (.if_icmp .le 6, 3) := by decide +kernel
theorem dX2_cutsWithin_44 : decode cX2_cutsWithin 44 = .ok (.iinc 3 1, 3) := by decide +kernel
theorem dX2_cutsWithin_47 : decode cX2_cutsWithin 47 = .ok (.iinc 4 1, 3) := by decide +kernel
theorem dX2_cutsWithin_50 : decode cX2_cutsWithin 50 = .ok (.goto (-45), 3) := by decide +kernel
theorem dX2_cutsWithin_53 : decode cX2_cutsWithin 53 = .ok (.iload_n 3, 1) := by decide +kernel
theorem dX2_cutsWithin_54 : decode cX2_cutsWithin 54 = .ok (.ireturn, 1) := by decide +kernel
theorem dX2_allAt_0 : decode cX2_allAt 0 = .ok (.lconst 0, 1) := by decide +kernel
theorem dX2_allAt_1 : decode cX2_allAt 1 = .ok (.lstore_n 3, 1) := by decide +kernel
theorem dX2_allAt_2 : decode cX2_allAt 2 = .ok (.iconst 0, 1) := by decide +kernel
theorem dX2_allAt_3 : decode cX2_allAt 3 = .ok (.istore 5, 2) := by decide +kernel
theorem dX2_allAt_5 : decode cX2_allAt 5 = .ok (.iload 5, 2) := by decide +kernel
theorem dX2_allAt_7 : decode cX2_allAt 7 = .ok (.aload_n 0, 1) := by decide +kernel
theorem dX2_allAt_8 : decode cX2_allAt 8 = .ok (.getfield 33, 3) := by decide +kernel
theorem dX2_allAt_11 : decode cX2_allAt 11 = .ok (.if_icmp .ge 30, 3) := by decide +kernel
theorem dX2_allAt_14 : decode cX2_allAt 14 = .ok (.aload_n 1, 1) := by decide +kernel
theorem dX2_allAt_15 : decode cX2_allAt 15 = .ok (.getfield 55, 3) := by decide +kernel
theorem dX2_allAt_18 : decode cX2_allAt 18 = .ok (.iload 5, 2) := by decide +kernel
theorem dX2_allAt_20 : decode cX2_allAt 20 = .ok (.iaload, 1) := by decide +kernel
theorem dX2_allAt_21 : decode cX2_allAt 21 = .ok (.iload_n 2, 1) := by decide +kernel
theorem dX2_allAt_22 : decode cX2_allAt 22 = .ok (.if_icmp .ne 13, 3) := by decide +kernel
theorem dX2_allAt_25 : decode cX2_allAt 25 = .ok (.lload_n 3, 1) := by decide +kernel
theorem dX2_allAt_26 : decode cX2_allAt 26 = .ok (.aload_n 0, 1) := by decide +kernel
theorem dX2_allAt_27 : decode cX2_allAt 27 = .ok (.getfield 9, 3) := by decide +kernel
theorem dX2_allAt_30 : decode cX2_allAt 30 = .ok (.iload 5, 2) := by decide +kernel
theorem dX2_allAt_32 : decode cX2_allAt 32 = .ok (.laload, 1) := by decide +kernel
theorem dX2_allAt_33 : decode cX2_allAt 33 = .ok (.lor, 1) := by decide +kernel
theorem dX2_allAt_34 : decode cX2_allAt 34 = .ok (.lstore_n 3, 1) := by decide +kernel
theorem dX2_allAt_35 : decode cX2_allAt 35 = .ok (.iinc 5 1, 3) := by decide +kernel
theorem dX2_allAt_38 : decode cX2_allAt 38 = .ok (.goto (-33), 3) := by decide +kernel
theorem dX2_allAt_41 : decode cX2_allAt 41 = .ok (.lload_n 3, 1) := by decide +kernel
theorem dX2_allAt_42 : decode cX2_allAt 42 = .ok (.lreturn, 1) := by decide +kernel
theorem dX2_nodesAt_0 : decode cX2_nodesAt 0 = .ok (.iconst 0, 1) := by decide +kernel
theorem dX2_nodesAt_1 : decode cX2_nodesAt 1 = .ok (.istore_n 2, 1) := by decide +kernel
theorem dX2_nodesAt_2 : decode cX2_nodesAt 2 = .ok (.iconst 0, 1) := by decide +kernel
theorem dX2_nodesAt_3 : decode cX2_nodesAt 3 = .ok (.istore_n 3, 1) := by decide +kernel
theorem dX2_nodesAt_4 : decode cX2_nodesAt 4 = .ok (.iload_n 3, 1) := by decide +kernel
theorem dX2_nodesAt_5 : decode cX2_nodesAt 5 = .ok (.aload_n 0, 1) := by decide +kernel
theorem dX2_nodesAt_6 : decode cX2_nodesAt 6 = .ok (.getfield 33, 3) := by decide +kernel
theorem dX2_nodesAt_9 : decode cX2_nodesAt 9 = .ok (.if_icmp .ge 25, 3) := by decide +kernel
theorem dX2_nodesAt_12 : decode cX2_nodesAt 12 = .ok (.aload_n 0, 1) := by decide +kernel
theorem dX2_nodesAt_13 : decode cX2_nodesAt 13 = .ok (.getfield 9, 3) := by decide +kernel
theorem dX2_nodesAt_16 : decode cX2_nodesAt 16 = .ok (.iload_n 3, 1) := by decide +kernel
theorem dX2_nodesAt_17 : decode cX2_nodesAt 17 = .ok (.laload, 1) := by decide +kernel
theorem dX2_nodesAt_18 : decode cX2_nodesAt 18 = .ok (.iload_n 1, 1) := by decide +kernel
theorem dX2_nodesAt_19 : decode cX2_nodesAt 19 = .ok (.invokestatic 83, 3) := by decide +kernel
theorem dX2_nodesAt_22 : decode cX2_nodesAt 22 = .ok (.ifCond .eq 6, 3) := by decide +kernel
theorem dX2_nodesAt_25 : decode cX2_nodesAt 25 = .ok (.iinc 2 1, 3) := by decide +kernel
theorem dX2_nodesAt_28 : decode cX2_nodesAt 28 = .ok (.iinc 3 1, 3) := by decide +kernel
theorem dX2_nodesAt_31 : decode cX2_nodesAt 31 = .ok (.goto (-27), 3) := by decide +kernel
theorem dX2_nodesAt_34 : decode cX2_nodesAt 34 = .ok (.iload_n 2, 1) := by decide +kernel
theorem dX2_nodesAt_35 : decode cX2_nodesAt 35 = .ok (.ireturn, 1) := by decide +kernel
theorem dX2_ringPairs_0 : decode cX2_ringPairs 0 = .ok (.iconst 0, 1) := by decide +kernel
theorem dX2_ringPairs_1 : decode cX2_ringPairs 1 = .ok (.istore_n 1, 1) := by decide +kernel
theorem dX2_ringPairs_2 : decode cX2_ringPairs 2 = .ok (.iconst 0, 1) := by decide +kernel
theorem dX2_ringPairs_3 : decode cX2_ringPairs 3 = .ok (.istore_n 2, 1) := by decide +kernel
theorem dX2_ringPairs_4 : decode cX2_ringPairs 4 = .ok (.iload_n 2, 1) := by decide +kernel
theorem dX2_ringPairs_5 : decode cX2_ringPairs 5 = .ok (.aload_n 0, 1) := by decide +kernel
theorem dX2_ringPairs_6 : decode cX2_ringPairs 6 = .ok (.getfield 33, 3) := by decide +kernel
theorem dX2_ringPairs_9 : decode cX2_ringPairs 9 = .ok (.if_icmp .ge 39, 3) := by decide +kernel
theorem dX2_ringPairs_12 : decode cX2_ringPairs 12 = .ok (.iload_n 2, 1) := by decide +kernel
theorem dX2_ringPairs_13 : decode cX2_ringPairs 13 = .ok (.iconst 1, 1) := by decide +kernel
theorem dX2_ringPairs_14 : decode cX2_ringPairs 14 = .ok (.iadd, 1) := by decide +kernel
theorem dX2_ringPairs_15 : decode cX2_ringPairs 15 = .ok (.istore_n 3, 1) := by decide +kernel
theorem dX2_ringPairs_16 : decode cX2_ringPairs 16 = .ok (.iload_n 3, 1) := by decide +kernel
theorem dX2_ringPairs_17 : decode cX2_ringPairs 17 = .ok (.aload_n 0, 1) := by decide +kernel
theorem dX2_ringPairs_18 : decode cX2_ringPairs 18 = .ok (.getfield 33, 3) := by decide +kernel
theorem dX2_ringPairs_21 : decode cX2_ringPairs 21 = .ok (.if_icmp .ge 21, 3) := by decide +kernel
theorem dX2_ringPairs_24 : decode cX2_ringPairs 24 = .ok (.aload_n 0, 1) := by decide +kernel
theorem dX2_ringPairs_25 : decode cX2_ringPairs 25 = .ok (.iload_n 2, 1) := by decide +kernel
theorem dX2_ringPairs_26 : decode cX2_ringPairs 26 = .ok (.iload_n 3, 1) := by decide +kernel
theorem dX2_ringPairs_27 : decode cX2_ringPairs 27 = .ok (.invokevirtual 87, 3) := by decide +kernel
theorem dX2_ringPairs_30 : decode cX2_ringPairs 30 = .ok (.ifCond .eq 6, 3) := by decide +kernel
theorem dX2_ringPairs_33 : decode cX2_ringPairs 33 = .ok (.iinc 1 1, 3) := by decide +kernel
theorem dX2_ringPairs_36 : decode cX2_ringPairs 36 = .ok (.iinc 3 1, 3) := by decide +kernel
theorem dX2_ringPairs_39 : decode cX2_ringPairs 39 = .ok (.goto (-23), 3) := by decide +kernel
theorem dX2_ringPairs_42 : decode cX2_ringPairs 42 = .ok (.iinc 2 1, 3) := by decide +kernel
theorem dX2_ringPairs_45 : decode cX2_ringPairs 45 = .ok (.goto (-41), 3) := by decide +kernel
theorem dX2_ringPairs_48 : decode cX2_ringPairs 48 = .ok (.iload_n 1, 1) := by decide +kernel
theorem dX2_ringPairs_49 : decode cX2_ringPairs 49 = .ok (.ireturn, 1) := by decide +kernel
theorem dX3_init_0 : decode cX3_init 0 = .ok (.aload_n 0, 1) := by decide +kernel
theorem dX3_init_1 : decode cX3_init 1 = .ok (.invokespecial 3, 3) := by decide +kernel
theorem dX3_init_4 : decode cX3_init 4 = .ok (.aload_n 0, 1) := by decide +kernel
theorem dX3_init_5 : decode cX3_init 5 = .ok (.bipush 32, 2) := by decide +kernel
theorem dX3_init_7 : decode cX3_init 7 = .ok (.newarray .int, 2) := by decide +kernel
theorem dX3_init_9 : decode cX3_init 9 = .ok (.putfield 9, 3) := by decide +kernel
theorem dX3_init_12 : decode cX3_init 12 = .ok (.return_, 1) := by decide +kernel
theorem dX3_measure_0 : decode cX3_measure 0 = .ok (.aload_n 0, 1) := by decide +kernel
theorem dX3_measure_1 : decode cX3_measure 1 = .ok (.getfield 9, 3) := by decide +kernel
theorem dX3_measure_4 : decode cX3_measure 4 = .ok (.iconst (-1), 1) := by decide +kernel
theorem dX3_measure_5 : decode cX3_measure 5 = .ok (.invokestatic 15, 3) := by decide +kernel
theorem dX3_measure_8 : decode cX3_measure 8 = .ok (.aload_n 1, 1) := by decide +kernel
theorem dX3_measure_9 : decode cX3_measure 9 = .ok (.getfield 21, 3) := by decide +kernel
theorem dX3_measure_12 : decode cX3_measure 12 = .ok (.iload_n 2, 1) := by decide +kernel
theorem dX3_measure_13 : decode cX3_measure 13 = .ok (.iaload, 1) := by decide +kernel
theorem dX3_measure_14 : decode cX3_measure 14 = .ok (.istore_n 3, 1) := by decide +kernel
theorem dX3_measure_15 : decode cX3_measure 15 = .ok (.aload_n 0, 1) := by decide +kernel
theorem dX3_measure_16 : decode cX3_measure 16 = .ok (.getfield 9, 3) := by decide +kernel
theorem dX3_measure_19 : decode cX3_measure 19 = .ok (.aload_n 1, 1) := by decide +kernel
theorem dX3_measure_20 : decode cX3_measure 20 = .ok (.getfield 26, 3) := by decide +kernel
theorem dX3_measure_23 : decode cX3_measure 23 = .ok (.iload_n 2, 1) := by decide +kernel
theorem dX3_measure_24 : decode cX3_measure 24 = .ok (.iaload, 1) := by decide +kernel
theorem dX3_measure_25 : decode cX3_measure 25 = .ok (.iconst 0, 1) := by decide +kernel
theorem dX3_measure_26 : decode cX3_measure 26 = .ok (.iastore, 1) := by decide +kernel
theorem dX3_measure_27 : decode cX3_measure 27 = .ok (.iconst 0, 1) := by decide +kernel
theorem dX3_measure_28 : decode cX3_measure 28 = .ok (.istore 4, 2) := by decide +kernel
theorem dX3_measure_30 : decode cX3_measure 30 = .ok (.iload 4, 2) := by decide +kernel
theorem dX3_measure_32 : decode cX3_measure 32 = .ok (.aload_n 1, 1) := by decide +kernel
theorem dX3_measure_33 : decode cX3_measure 33 = .ok (.getfield 29, 3) := by decide +kernel
theorem dX3_measure_36 : decode cX3_measure 36 = .ok (.if_icmp .ge 83, 3) := by decide +kernel
theorem dX3_measure_39 : decode cX3_measure 39 = .ok (.aload_n 0, 1) := by decide +kernel
theorem dX3_measure_40 : decode cX3_measure 40 = .ok (.getfield 9, 3) := by decide +kernel
theorem dX3_measure_43 : decode cX3_measure 43 = .ok (.iload_n 3, 1) := by decide +kernel
theorem dX3_measure_44 : decode cX3_measure 44 = .ok (.iaload, 1) := by decide +kernel
theorem dX3_measure_45 : decode cX3_measure 45 = .ok (.iconst (-1), 1) := by decide +kernel
theorem dX3_measure_46 : decode cX3_measure 46 = .ok (.if_icmp .ne 73, 3) := by decide +kernel
theorem dX3_measure_49 : decode cX3_measure 49 = .ok (.iconst 0, 1) := by decide +kernel
theorem dX3_measure_50 : decode cX3_measure 50 = .ok (.istore 5, 2) := by decide +kernel
theorem dX3_measure_52 : decode cX3_measure 52 = .ok (.iload 5, 2) := by decide +kernel
theorem dX3_measure_54 : decode cX3_measure 54 = .ok (.aload_n 1, 1) := by decide +kernel
theorem dX3_measure_55 : decode cX3_measure 55 = .ok (.getfield 33, 3) := by decide +kernel
theorem dX3_measure_58 : decode cX3_measure 58 = .ok (.if_icmp .ge 55, 3) := by decide +kernel
theorem dX3_measure_61 : decode cX3_measure 61 = .ok (.iload 5, 2) := by decide +kernel
theorem dX3_measure_63 : decode cX3_measure 63 = .ok (.iload_n 2, 1) := by decide +kernel
theorem dX3_measure_64 : decode cX3_measure 64 = .ok (.if_icmp .eq 43, 3) := by decide +kernel
theorem dX3_measure_67 : decode cX3_measure 67 = .ok (.aload_n 0, 1) := by decide +kernel
theorem dX3_measure_68 : decode cX3_measure 68 = .ok (.aload_n 1, 1) := by decide +kernel
theorem dX3_measure_69 : decode cX3_measure 69 = .ok (.getfield 26, 3) := by decide +kernel
theorem dX3_measure_72 : decode cX3_measure 72 = .ok (.iload 5, 2) := by decide +kernel
theorem dX3_measure_74 : decode cX3_measure 74 = .ok (.iaload, 1) := by decide +kernel
theorem dX3_measure_75 : decode cX3_measure 75 = .ok (.aload_n 1, 1) := by decide +kernel
theorem dX3_measure_76 : decode cX3_measure 76 = .ok (.getfield 21, 3) := by decide +kernel
theorem dX3_measure_79 : decode cX3_measure 79 = .ok (.iload 5, 2) := by decide +kernel
theorem dX3_measure_81 : decode cX3_measure 81 = .ok (.iaload, 1) := by decide +kernel
theorem dX3_measure_82 : decode cX3_measure 82 = .ok (.iload 4, 2) := by decide +kernel
theorem dX3_measure_84 : decode cX3_measure 84 = .ok (.invokevirtual 36, 3) := by decide +kernel
theorem dX3_measure_87 : decode cX3_measure 87 = .ok (.aload_n 0, 1) := by decide +kernel
theorem dX3_measure_88 : decode cX3_measure 88 = .ok (.aload_n 1, 1) := by decide +kernel
theorem dX3_measure_89 : decode cX3_measure 89 = .ok (.getfield 21, 3) := by decide +kernel
theorem dX3_measure_92 : decode cX3_measure 92 = .ok (.iload 5, 2) := by decide +kernel
theorem dX3_measure_94 : decode cX3_measure 94 = .ok (.iaload, 1) := by decide +kernel
theorem dX3_measure_95 : decode cX3_measure 95 = .ok (.aload_n 1, 1) := by decide +kernel
theorem dX3_measure_96 : decode cX3_measure 96 = .ok (.getfield 26, 3) := by decide +kernel
theorem dX3_measure_99 : decode cX3_measure 99 = .ok (.iload 5, 2) := by decide +kernel
theorem dX3_measure_101 : decode cX3_measure 101 = .ok (.iaload, 1) := by decide +kernel
theorem dX3_measure_102 : decode cX3_measure 102 = .ok (.iload 4, 2) := by decide +kernel
theorem dX3_measure_104 : decode cX3_measure 104 = .ok (.invokevirtual 36, 3) := by decide +kernel
theorem dX3_measure_107 : decode cX3_measure 107 = .ok (.iinc 5 1, 3) := by decide +kernel
theorem dX3_measure_110 : decode cX3_measure 110 = .ok (.goto (-58), 3) := by decide +kernel
theorem dX3_measure_113 : decode cX3_measure 113 = .ok (.iinc 4 1, 3) := by decide +kernel
theorem dX3_measure_116 : decode cX3_measure 116 = .ok (.goto (-86), 3) := by decide +kernel
theorem dX3_measure_119 : decode cX3_measure 119 = .ok (.aload_n 0, 1) := by decide +kernel
theorem dX3_measure_120 : decode cX3_measure 120 = .ok (.getfield 9, 3) := by decide +kernel
theorem dX3_measure_123 : decode cX3_measure 123 = .ok (.iload_n 3, 1) := by decide +kernel
theorem dX3_measure_124 : decode cX3_measure 124 = .ok (.iaload, 1) := by decide +kernel
theorem dX3_measure_125 : decode cX3_measure 125 = .ok (.iconst (-1), 1) := by decide +kernel
theorem dX3_measure_126 : decode cX3_measure 126 = .ok (.if_icmp .ne 7, 3) := by decide +kernel
theorem dX3_measure_129 : decode cX3_measure 129 = .ok (.iconst (-1), 1) := by decide +kernel
theorem dX3_measure_130 : decode cX3_measure 130 = .ok (.goto 11, 3) := by decide +kernel
theorem dX3_measure_133 : decode cX3_measure 133 = .ok (.aload_n 0, 1) := by decide +kernel
theorem dX3_measure_134 : decode cX3_measure 134 = .ok (.getfield 9, 3) := by decide +kernel
theorem dX3_measure_137 : decode cX3_measure 137 = .ok (.iload_n 3, 1) := by decide +kernel
theorem dX3_measure_138 : decode cX3_measure 138 = .ok (.iaload, 1) := by decide +kernel
theorem dX3_measure_139 : decode cX3_measure 139 = .ok (.iconst 1, 1) := by decide +kernel
theorem dX3_measure_140 : decode cX3_measure 140 = .ok (.iadd, 1) := by decide +kernel
theorem dX3_measure_141 : decode cX3_measure 141 = .ok (.ireturn, 1) := by decide +kernel
theorem dX3_spread_0 : decode cX3_spread 0 = .ok (.aload_n 0, 1) := by decide +kernel
theorem dX3_spread_1 : decode cX3_spread 1 = .ok (.getfield 9, 3) := by decide +kernel
theorem dX3_spread_4 : decode cX3_spread 4 = .ok (.iload_n 1, 1) := by decide +kernel
theorem dX3_spread_5 : decode cX3_spread 5 = .ok (.iaload, 1) := by decide +kernel
theorem dX3_spread_6 : decode cX3_spread 6 = .ok (.iload_n 3, 1) := by decide +kernel
theorem dX3_spread_7 : decode cX3_spread 7 = .ok (.if_icmp .ne 22, 3) := by decide +kernel
theorem dX3_spread_10 : decode cX3_spread 10 = .ok (.aload_n 0, 1) := by decide +kernel
theorem dX3_spread_11 : decode cX3_spread 11 = .ok (.getfield 9, 3) := by decide +kernel
theorem dX3_spread_14 : decode cX3_spread 14 = .ok (.iload_n 2, 1) := by decide +kernel
theorem dX3_spread_15 : decode cX3_spread 15 = .ok (.iaload, 1) := by decide +kernel
theorem dX3_spread_16 : decode cX3_spread 16 = .ok (.iconst (-1), 1) := by decide +kernel
theorem dX3_spread_17 : decode cX3_spread 17 = .ok (.if_icmp .ne 12, 3) := by decide +kernel
theorem dX3_spread_20 : decode cX3_spread 20 = .ok (.aload_n 0, 1) := by decide +kernel
theorem dX3_spread_21 : decode cX3_spread 21 = .ok (.getfield 9, 3) := by decide +kernel
theorem dX3_spread_24 : decode cX3_spread 24 = .ok (.iload_n 2, 1) := by decide +kernel
theorem dX3_spread_25 : decode cX3_spread 25 = .ok (.iload_n 3, 1) := by decide +kernel
theorem dX3_spread_26 : decode cX3_spread 26 = .ok (.iconst 1, 1) := by decide +kernel
theorem dX3_spread_27 : decode cX3_spread 27 = .ok (.iadd, 1) := by decide +kernel
theorem dX3_spread_28 : decode cX3_spread 28 = .ok (.iastore, 1) := by decide +kernel
theorem dX3_spread_29 : decode cX3_spread 29 = .ok (.return_, 1) := by decide +kernel
theorem dX3_nodeAt_0 : decode cX3_nodeAt 0 = .ok (.aload_n 1, 1) := by decide +kernel
theorem dX3_nodeAt_1 : decode cX3_nodeAt 1 = .ok (.getfield 21, 3) := by decide +kernel
theorem dX3_nodeAt_4 : decode cX3_nodeAt 4 = .ok (.iload_n 2, 1) := by decide +kernel
theorem dX3_nodeAt_5 : decode cX3_nodeAt 5 = .ok (.iaload, 1) := by decide +kernel
theorem dX3_nodeAt_6 : decode cX3_nodeAt 6 = .ok (.istore 4, 2) := by decide +kernel
theorem dX3_nodeAt_8 : decode cX3_nodeAt 8 = .ok (.iconst 0, 1) := by decide +kernel
theorem dX3_nodeAt_9 : decode cX3_nodeAt 9 = .ok (.istore 5, 2) := by decide +kernel
theorem dX3_nodeAt_11 : decode cX3_nodeAt 11 = .ok (.iload 5, 2) := by decide +kernel
theorem dX3_nodeAt_13 : decode cX3_nodeAt 13 = .ok (.iload_n 3, 1) := by decide +kernel
theorem dX3_nodeAt_14 : decode cX3_nodeAt 14 = .ok (.if_icmp .ge 28, 3) := by decide +kernel
theorem dX3_nodeAt_17 : decode cX3_nodeAt 17 = .ok (.iload 5, 2) := by decide +kernel
theorem dX3_nodeAt_19 : decode cX3_nodeAt 19 = .ok (.aload_n 1, 1) := by decide +kernel
theorem dX3_nodeAt_20 : decode cX3_nodeAt 20 = .ok (.getfield 29, 3) := by decide +kernel
theorem dX3_nodeAt_23 : decode cX3_nodeAt 23 = .ok (.if_icmp .ge 19, 3) := by decide +kernel
theorem dX3_nodeAt_26 : decode cX3_nodeAt 26 = .ok (.aload_n 0, 1) := by decide +kernel
theorem dX3_nodeAt_27 : decode cX3_nodeAt 27 = .ok (.aload_n 1, 1) := by decide +kernel
theorem dX3_nodeAt_28 : decode cX3_nodeAt 28 = .ok (.iload_n 2, 1) := by decide +kernel
theorem dX3_nodeAt_29 : decode cX3_nodeAt 29 = .ok (.iload 4, 2) := by decide +kernel
theorem dX3_nodeAt_31 : decode cX3_nodeAt 31 = .ok (.invokevirtual 40, 3) := by decide +kernel
theorem dX3_nodeAt_34 : decode cX3_nodeAt 34 = .ok (.istore 4, 2) := by decide +kernel
theorem dX3_nodeAt_36 : decode cX3_nodeAt 36 = .ok (.iinc 5 1, 3) := by decide +kernel
theorem dX3_nodeAt_39 : decode cX3_nodeAt 39 = .ok (.goto (-28), 3) := by decide +kernel
theorem dX3_nodeAt_42 : decode cX3_nodeAt 42 = .ok (.iload 4, 2) := by decide +kernel
theorem dX3_nodeAt_44 : decode cX3_nodeAt 44 = .ok (.ireturn, 1) := by decide +kernel
theorem dX3_leastNearer_0 : decode cX3_leastNearer 0 = .ok (.bipush 32, 2) := by decide +kernel
theorem dX3_leastNearer_2 : decode cX3_leastNearer 2 = .ok (.istore 4, 2) := by decide +kernel
theorem dX3_leastNearer_4 : decode cX3_leastNearer 4 = .ok (.iconst 0, 1) := by decide +kernel
theorem dX3_leastNearer_5 : decode cX3_leastNearer 5 = .ok (.istore 5, 2) := by decide +kernel
theorem dX3_leastNearer_7 : decode cX3_leastNearer 7 = .ok (.iload 5, 2) := by decide +kernel
theorem dX3_leastNearer_9 : decode cX3_leastNearer 9 = .ok (.aload_n 1, 1) := by decide +kernel
theorem dX3_leastNearer_10 : decode cX3_leastNearer 10 = .ok (.getfield 33, 3) := by decide +kernel
theorem dX3_leastNearer_13 : decode cX3_leastNearer 13 = .ok (.if_icmp .ge 82, 3) := by decide +kernel
theorem dX3_leastNearer_16 : decode cX3_leastNearer 16 = .ok (.iload 5, 2) := by decide +kernel
theorem dX3_leastNearer_18 : decode cX3_leastNearer 18 = .ok (.iload_n 2, 1) := by decide +kernel
theorem dX3_leastNearer_19 : decode cX3_leastNearer 19 = .ok (.if_icmp .eq 70, 3) := by decide +kernel
theorem dX3_leastNearer_22 : decode cX3_leastNearer 22 = .ok (.aload_n 1, 1) := by decide +kernel
theorem dX3_leastNearer_23 : decode cX3_leastNearer 23 = .ok (.iload 5, 2) := by decide +kernel
theorem dX3_leastNearer_25 : decode cX3_leastNearer 25 = .ok (.iload_n 3, 1) := by decide +kernel
theorem dX3_leastNearer_26 : decode cX3_leastNearer 26 = .ok (.invokevirtual 44, 3) := by decide +kernel
theorem dX3_leastNearer_29 : decode cX3_leastNearer 29 = .ok (.ifCond .eq 60, 3) := by decide +kernel
theorem dX3_leastNearer_32 : decode cX3_leastNearer 32 = .ok (.aload_n 1, 1) := by decide +kernel
theorem dX3_leastNearer_33 : decode cX3_leastNearer 33 = .ok (.getfield 26, 3) := by decide +kernel
theorem dX3_leastNearer_36 : decode cX3_leastNearer 36 = .ok (.iload 5, 2) := by decide +kernel
theorem dX3_leastNearer_38 : decode cX3_leastNearer 38 = .ok (.iaload, 1) := by decide +kernel
theorem dX3_leastNearer_39 : decode cX3_leastNearer 39 = .ok (.iload_n 3, 1) := by decide +kernel
theorem dX3_leastNearer_40 : decode cX3_leastNearer 40 = .ok (.if_icmp .ne 13, 3) := by decide +kernel
theorem dX3_leastNearer_43 : decode cX3_leastNearer 43 = .ok (.aload_n 1, 1) := by decide +kernel
theorem dX3_leastNearer_44 : decode cX3_leastNearer 44 = .ok (.getfield 21, 3) := by decide +kernel
theorem dX3_leastNearer_47 : decode cX3_leastNearer 47 = .ok (.iload 5, 2) := by decide +kernel
theorem dX3_leastNearer_49 : decode cX3_leastNearer 49 = .ok (.iaload, 1) := by decide +kernel
theorem dX3_leastNearer_50 : decode cX3_leastNearer 50 = .ok (.goto 10, 3) := by decide +kernel
theorem dX3_leastNearer_53 : decode cX3_leastNearer 53 = .ok (.aload_n 1, 1) := by decide +kernel
theorem dX3_leastNearer_54 : decode cX3_leastNearer 54 = .ok (.getfield 26, 3) := by decide +kernel
theorem dX3_leastNearer_57 : decode cX3_leastNearer 57 = .ok (.iload 5, 2) := by decide +kernel
theorem dX3_leastNearer_59 : decode cX3_leastNearer 59 = .ok (.iaload, 1) := by decide +kernel
theorem dX3_leastNearer_60 : decode cX3_leastNearer 60 = .ok (.istore 6, 2) := by decide +kernel
theorem dX3_leastNearer_62 : decode cX3_leastNearer 62 = .ok (.aload_n 0, 1) := by decide +kernel
theorem dX3_leastNearer_63 : decode cX3_leastNearer 63 = .ok (.getfield 9, 3) := by decide +kernel
theorem dX3_leastNearer_66 : decode cX3_leastNearer 66 = .ok (.iload 6, 2) := by decide +kernel
theorem dX3_leastNearer_68 : decode cX3_leastNearer 68 = .ok (.iaload, 1) := by decide +kernel
theorem dX3_leastNearer_69 : decode cX3_leastNearer 69 = .ok (.aload_n 0, 1) := by decide +kernel
theorem dX3_leastNearer_70 : decode cX3_leastNearer 70 = .ok (.getfield 9, 3) := by decide +kernel
theorem dX3_leastNearer_73 : decode cX3_leastNearer 73 = .ok (.iload_n 3, 1) := by decide +kernel
theorem dX3_leastNearer_74 : decode cX3_leastNearer 74 = .ok (.iaload, 1) := by decide +kernel
theorem dX3_leastNearer_75 : decode cX3_leastNearer 75 = .ok (.iconst 1, 1) := by decide +kernel
theorem dX3_leastNearer_76 : decode cX3_leastNearer 76 = .ok (.isub, 1) := by decide +kernel
theorem dX3_leastNearer_77 : decode cX3_leastNearer 77 = .ok (.if_icmp .ne 12, 3) := by decide +kernel
theorem dX3_leastNearer_80 : decode cX3_leastNearer 80 = .ok (.iload 4, 2) := by decide +kernel
theorem dX3_leastNearer_82 : decode cX3_leastNearer 82 = .ok (.iload 6, 2) := by decide +kernel
theorem dX3_leastNearer_84 : decode cX3_leastNearer 84 = .ok (.invokestatic 48, 3) := by decide +kernel
theorem dX3_leastNearer_87 : decode cX3_leastNearer 87 = .ok (.istore 4, 2) := by decide +kernel
theorem dX3_leastNearer_89 : decode cX3_leastNearer 89 = .ok (.iinc 5 1, 3) := by decide +kernel
theorem dX3_leastNearer_92 : decode cX3_leastNearer 92 = .ok (.goto (-85), 3) := by decide +kernel
theorem dX3_leastNearer_95 : decode cX3_leastNearer 95 = .ok (.iload 4, 2) := by decide +kernel
theorem dX3_leastNearer_97 : decode cX3_leastNearer 97 = .ok (.bipush 32, 2) := by decide +kernel
theorem dX3_leastNearer_99 : decode cX3_leastNearer 99 = .ok (.if_icmp .ge 8, 3) := by decide +kernel
theorem dX3_leastNearer_102 : decode cX3_leastNearer 102 = .ok (.iload 4, 2) := by decide +kernel
theorem dX3_leastNearer_104 : decode cX3_leastNearer 104 = .ok (.goto 4, 3) := by decide +kernel
theorem dX3_leastNearer_107 : decode cX3_leastNearer 107 = .ok (.iload_n 3, 1) := by decide +kernel
theorem dX3_leastNearer_108 : decode cX3_leastNearer 108 = .ok (.ireturn, 1) := by decide +kernel
theorem dX4_init_0 : decode cX4_init 0 = .ok (.aload_n 0, 1) := by decide +kernel
theorem dX4_init_1 : decode cX4_init 1 = .ok (.invokespecial 3, 3) := by decide +kernel
theorem dX4_init_4 : decode cX4_init 4 = .ok (.aload_n 0, 1) := by decide +kernel
theorem dX4_init_5 : decode cX4_init 5 = .ok (.bipush 64, 2) := by decide +kernel
theorem dX4_init_7 : decode cX4_init 7 = .ok (.newarray .int, 2) := by decide +kernel
theorem dX4_init_9 : decode cX4_init 9 = .ok (.putfield 9, 3) := by decide +kernel
theorem dX4_init_12 : decode cX4_init 12 = .ok (.aload_n 0, 1) := by decide +kernel
theorem dX4_init_13 : decode cX4_init 13 = .ok (.bipush 64, 2) := by decide +kernel
theorem dX4_init_15 : decode cX4_init 15 = .ok (.newarray .int, 2) := by decide +kernel
theorem dX4_init_17 : decode cX4_init 17 = .ok (.putfield 15, 3) := by decide +kernel
theorem dX4_init_20 : decode cX4_init 20 = .ok (.aload_n 0, 1) := by decide +kernel
theorem dX4_init_21 : decode cX4_init 21 = .ok (.bipush 64, 2) := by decide +kernel
theorem dX4_init_23 : decode cX4_init 23 = .ok (.newarray .int, 2) := by decide +kernel
theorem dX4_init_25 : decode cX4_init 25 = .ok (.putfield 18, 3) := by decide +kernel
theorem dX4_init_28 : decode cX4_init 28 = .ok (.aload_n 0, 1) := by decide +kernel
theorem dX4_init_29 : decode cX4_init 29 = .ok (.bipush 32, 2) := by decide +kernel
theorem dX4_init_31 : decode cX4_init 31 = .ok (.newarray .int, 2) := by decide +kernel
theorem dX4_init_33 : decode cX4_init 33 = .ok (.putfield 21, 3) := by decide +kernel
theorem dX4_init_36 : decode cX4_init 36 = .ok (.aload_n 0, 1) := by decide +kernel
theorem dX4_init_37 : decode cX4_init 37 = .ok (.bipush 32, 2) := by decide +kernel
theorem dX4_init_39 : decode cX4_init 39 = .ok (.newarray .int, 2) := by decide +kernel
theorem dX4_init_41 : decode cX4_init 41 = .ok (.putfield 24, 3) := by decide +kernel
theorem dX4_init_44 : decode cX4_init 44 = .ok (.aload_n 0, 1) := by decide +kernel
theorem dX4_init_45 : decode cX4_init 45 = .ok (.bipush 32, 2) := by decide +kernel
theorem dX4_init_47 : decode cX4_init 47 = .ok (.newarray .int, 2) := by decide +kernel
theorem dX4_init_49 : decode cX4_init 49 = .ok (.putfield 27, 3) := by decide +kernel
theorem dX4_init_52 : decode cX4_init 52 = .ok (.aload_n 0, 1) := by decide +kernel
theorem dX4_init_53 : decode cX4_init 53 = .ok (.bipush 32, 2) := by decide +kernel
theorem dX4_init_55 : decode cX4_init 55 = .ok (.newarray .int, 2) := by decide +kernel
theorem dX4_init_57 : decode cX4_init 57 = .ok (.putfield 30, 3) := by decide +kernel
theorem dX4_init_60 : decode cX4_init 60 = .ok (.aload_n 0, 1) := by decide +kernel
theorem dX4_init_61 : decode cX4_init 61 = .ok (.new 33, 3) := by decide +kernel
theorem dX4_init_64 : decode cX4_init 64 = .ok (.dup, 1) := by decide +kernel
theorem dX4_init_65 : decode cX4_init 65 = .ok (.bipush 32, 2) := by decide +kernel
theorem dX4_init_67 : decode cX4_init 67 = .ok (.invokespecial 35, 3) := by decide +kernel
theorem dX4_init_70 : decode cX4_init 70 = .ok (.putfield 38, 3) := by decide +kernel
theorem dX4_init_73 : decode cX4_init 73 = .ok (.aload_n 0, 1) := by decide +kernel
theorem dX4_init_74 : decode cX4_init 74 = .ok (.new 33, 3) := by decide +kernel
theorem dX4_init_77 : decode cX4_init 77 = .ok (.dup, 1) := by decide +kernel
theorem dX4_init_78 : decode cX4_init 78 = .ok (.bipush 32, 2) := by decide +kernel
theorem dX4_init_80 : decode cX4_init 80 = .ok (.invokespecial 35, 3) := by decide +kernel
theorem dX4_init_83 : decode cX4_init 83 = .ok (.putfield 42, 3) := by decide +kernel
theorem dX4_init_86 : decode cX4_init 86 = .ok (.aload_n 0, 1) := by decide +kernel
theorem dX4_init_87 : decode cX4_init 87 = .ok (.new 33, 3) := by decide +kernel
theorem dX4_init_90 : decode cX4_init 90 = .ok (.dup, 1) := by decide +kernel
theorem dX4_init_91 : decode cX4_init 91 = .ok (.bipush 64, 2) := by decide +kernel
theorem dX4_init_93 : decode cX4_init 93 = .ok (.invokespecial 35, 3) := by decide +kernel
theorem dX4_init_96 : decode cX4_init 96 = .ok (.putfield 45, 3) := by decide +kernel
theorem dX4_init_99 : decode cX4_init 99 = .ok (.aload_n 0, 1) := by decide +kernel
theorem dX4_init_100 : decode cX4_init 100 = .ok (.iconst 0, 1) := by decide +kernel
theorem dX4_init_101 : decode cX4_init 101 = .ok (.putfield 48, 3) := by decide +kernel
theorem dX4_init_104 : decode cX4_init 104 = .ok (.aload_n 0, 1) := by decide +kernel
theorem dX4_init_105 : decode cX4_init 105 = .ok (.iconst 0, 1) := by decide +kernel
theorem dX4_init_106 : decode cX4_init 106 = .ok (.putfield 52, 3) := by decide +kernel
theorem dX4_init_109 : decode cX4_init 109 = .ok (.return_, 1) := by decide +kernel
theorem dX4_clear_0 : decode cX4_clear 0 = .ok (.aload_n 0, 1) := by decide +kernel
theorem dX4_clear_1 : decode cX4_clear 1 = .ok (.iload_n 1, 1) := by decide +kernel
theorem dX4_clear_2 : decode cX4_clear 2 = .ok (.bipush 32, 2) := by decide +kernel
theorem dX4_clear_4 : decode cX4_clear 4 = .ok (.if_icmp .ge 7, 3) := by decide +kernel
theorem dX4_clear_7 : decode cX4_clear 7 = .ok (.iload_n 1, 1) := by decide +kernel
theorem dX4_clear_8 : decode cX4_clear 8 = .ok (.goto 5, 3) := by decide +kernel
theorem dX4_clear_11 : decode cX4_clear 11 = .ok (.bipush 32, 2) := by decide +kernel
theorem dX4_clear_13 : decode cX4_clear 13 = .ok (.putfield 48, 3) := by decide +kernel
theorem dX4_clear_16 : decode cX4_clear 16 = .ok (.aload_n 0, 1) := by decide +kernel
theorem dX4_clear_17 : decode cX4_clear 17 = .ok (.iconst 0, 1) := by decide +kernel
theorem dX4_clear_18 : decode cX4_clear 18 = .ok (.putfield 52, 3) := by decide +kernel
theorem dX4_clear_21 : decode cX4_clear 21 = .ok (.aload_n 0, 1) := by decide +kernel
theorem dX4_clear_22 : decode cX4_clear 22 = .ok (.getfield 38, 3) := by decide +kernel
theorem dX4_clear_25 : decode cX4_clear 25 = .ok (.invokevirtual 55, 3) := by decide +kernel
theorem dX4_clear_28 : decode cX4_clear 28 = .ok (.aload_n 0, 1) := by decide +kernel
theorem dX4_clear_29 : decode cX4_clear 29 = .ok (.getfield 42, 3) := by decide +kernel
theorem dX4_clear_32 : decode cX4_clear 32 = .ok (.invokevirtual 55, 3) := by decide +kernel
theorem dX4_clear_35 : decode cX4_clear 35 = .ok (.aload_n 0, 1) := by decide +kernel
theorem dX4_clear_36 : decode cX4_clear 36 = .ok (.getfield 45, 3) := by decide +kernel
theorem dX4_clear_39 : decode cX4_clear 39 = .ok (.invokevirtual 55, 3) := by decide +kernel
theorem dX4_clear_42 : decode cX4_clear 42 = .ok (.iconst 0, 1) := by decide +kernel
theorem dX4_clear_43 : decode cX4_clear 43 = .ok (.istore_n 2, 1) := by decide +kernel
theorem dX4_clear_44 : decode cX4_clear 44 = .ok (.iload_n 2, 1) := by decide +kernel
theorem dX4_clear_45 : decode cX4_clear 45 = .ok (.aload_n 0, 1) := by decide +kernel
theorem dX4_clear_46 : decode cX4_clear 46 = .ok (.getfield 48, 3) := by decide +kernel
theorem dX4_clear_49 : decode cX4_clear 49 = .ok (.if_icmp .ge 37, 3) := by decide +kernel
theorem dX4_clear_52 : decode cX4_clear 52 = .ok (.aload_n 0, 1) := by decide +kernel
theorem dX4_clear_53 : decode cX4_clear 53 = .ok (.getfield 21, 3) := by decide +kernel
theorem dX4_clear_56 : decode cX4_clear 56 = .ok (.iload_n 2, 1) := by decide +kernel
theorem dX4_clear_57 : decode cX4_clear 57 = .ok (.iconst (-1), 1) := by decide +kernel
theorem dX4_clear_58 : decode cX4_clear 58 = .ok (.iastore, 1) := by decide +kernel
theorem dX4_clear_59 : decode cX4_clear 59 = .ok (.aload_n 0, 1) := by decide +kernel
theorem dX4_clear_60 : decode cX4_clear 60 = .ok (.getfield 24, 3) := by decide +kernel
theorem dX4_clear_63 : decode cX4_clear 63 = .ok (.iload_n 2, 1) := by decide +kernel
theorem dX4_clear_64 : decode cX4_clear 64 = .ok (.iconst (-1), 1) := by decide +kernel
theorem dX4_clear_65 : decode cX4_clear 65 = .ok (.iastore, 1) := by decide +kernel
theorem dX4_clear_66 : decode cX4_clear 66 = .ok (.aload_n 0, 1) := by decide +kernel
theorem dX4_clear_67 : decode cX4_clear 67 = .ok (.getfield 38, 3) := by decide +kernel
theorem dX4_clear_70 : decode cX4_clear 70 = .ok (.invokevirtual 58, 3) := by decide +kernel
theorem dX4_clear_73 : decode cX4_clear 73 = .ok (.aload_n 0, 1) := by decide +kernel
theorem dX4_clear_74 : decode cX4_clear 74 = .ok (.getfield 42, 3) := by decide +kernel
theorem dX4_clear_77 : decode cX4_clear 77 = .ok (.invokevirtual 58, 3) := by decide +kernel
theorem dX4_clear_80 : decode cX4_clear 80 = .ok (.iinc 2 1, 3) := by decide +kernel
theorem dX4_clear_83 : decode cX4_clear 83 = .ok (.goto (-39), 3) := by decide +kernel
theorem dX4_clear_86 : decode cX4_clear 86 = .ok (.return_, 1) := by decide +kernel
theorem dX4_growAgain_0 : decode cX4_growAgain 0 = .ok (.aload_n 0, 1) := by decide +kernel
theorem dX4_growAgain_1 : decode cX4_growAgain 1 = .ok (.aload_n 0, 1) := by decide +kernel
theorem dX4_growAgain_2 : decode cX4_growAgain 2 = .ok (.getfield 48, 3) := by decide +kernel
theorem dX4_growAgain_5 : decode cX4_growAgain 5 = .ok (.invokevirtual 61, 3) := by decide +kernel
theorem dX4_growAgain_8 : decode cX4_growAgain 8 = .ok (.iconst 0, 1) := by decide +kernel
theorem dX4_growAgain_9 : decode cX4_growAgain 9 = .ok (.istore_n 2, 1) := by decide +kernel
theorem dX4_growAgain_10 : decode cX4_growAgain 10 = .ok (.iload_n 2, 1) := by decide +kernel
theorem dX4_growAgain_11 : decode cX4_growAgain 11 = .ok (.iload_n 1, 1) := by decide +kernel
theorem dX4_growAgain_12 : decode cX4_growAgain 12 = .ok (.if_icmp .ge 26, 3) := by decide +kernel
theorem dX4_growAgain_15 : decode cX4_growAgain 15 = .ok (.aload_n 0, 1) := by decide +kernel
theorem dX4_growAgain_16 : decode cX4_growAgain 16 = .ok (.aload_n 0, 1) := by decide +kernel
theorem dX4_growAgain_17 : decode cX4_growAgain 17 = .ok (.getfield 9, 3) := by decide +kernel
theorem dX4_growAgain_20 : decode cX4_growAgain 20 = .ok (.iload_n 2, 1) := by decide +kernel
theorem dX4_growAgain_21 : decode cX4_growAgain 21 = .ok (.iaload, 1) := by decide +kernel
theorem dX4_growAgain_22 : decode cX4_growAgain 22 = .ok (.aload_n 0, 1) := by decide +kernel
theorem dX4_growAgain_23 : decode cX4_growAgain 23 = .ok (.getfield 15, 3) := by decide +kernel
theorem dX4_growAgain_26 : decode cX4_growAgain 26 = .ok (.iload_n 2, 1) := by decide +kernel
theorem dX4_growAgain_27 : decode cX4_growAgain 27 = .ok (.iaload, 1) := by decide +kernel
theorem dX4_growAgain_28 : decode cX4_growAgain 28 = .ok (.invokevirtual 63, 3) := by decide +kernel
theorem dX4_growAgain_31 : decode cX4_growAgain 31 = .ok (.pop, 1) := by decide +kernel
theorem dX4_growAgain_32 : decode cX4_growAgain 32 = .ok (.iinc 2 1, 3) := by decide +kernel
theorem dX4_growAgain_35 : decode cX4_growAgain 35 = .ok (.goto (-25), 3) := by decide +kernel
theorem dX4_growAgain_38 : decode cX4_growAgain 38 = .ok (.return_, 1) := by decide +kernel
theorem dX4_add_0 : decode cX4_add 0 = .ok (.aload_n 0, 1) := by decide +kernel
theorem dX4_add_1 : decode cX4_add 1 = .ok (.getfield 52, 3) := by decide +kernel
theorem dX4_add_4 : decode cX4_add 4 = .ok (.bipush 64, 2) := by decide +kernel
theorem dX4_add_6 : decode cX4_add 6 = .ok (.if_icmp .lt 5, 3) := by decide +kernel
theorem dX4_add_9 : decode cX4_add 9 = .ok (.iconst (-1), 1) := by decide +kernel
theorem dX4_add_10 : decode cX4_add 10 = .ok (.ireturn, 1) := by decide +kernel
theorem dX4_add_11 : decode cX4_add 11 = .ok (.aload_n 0, 1) := by decide +kernel
theorem dX4_add_12 : decode cX4_add 12 = .ok (.getfield 52, 3) := by decide +kernel
theorem dX4_add_15 : decode cX4_add 15 = .ok (.istore_n 3, 1) := by decide +kernel
theorem dX4_add_16 : decode cX4_add 16 = .ok (.aload_n 0, 1) := by decide +kernel
theorem dX4_add_17 : decode cX4_add 17 = .ok (.dup, 1) := by decide +kernel
theorem dX4_add_18 : decode cX4_add 18 = .ok (.getfield 52, 3) := by decide +kernel
theorem dX4_add_21 : decode cX4_add 21 = .ok (.iconst 1, 1) := by decide +kernel
theorem dX4_add_22 : decode cX4_add 22 = .ok (.iadd, 1) := by decide +kernel
theorem dX4_add_23 : decode cX4_add 23 = .ok (.putfield 52, 3) := by decide +kernel
theorem dX4_add_26 : decode cX4_add 26 = .ok (.aload_n 0, 1) := by decide +kernel
theorem dX4_add_27 : decode cX4_add 27 = .ok (.getfield 9, 3) := by decide +kernel
theorem dX4_add_30 : decode cX4_add 30 = .ok (.iload_n 3, 1) := by decide +kernel
theorem dX4_add_31 : decode cX4_add 31 = .ok (.iload_n 1, 1) := by decide +kernel
theorem dX4_add_32 : decode cX4_add 32 = .ok (.iastore, 1) := by decide +kernel
theorem dX4_add_33 : decode cX4_add 33 = .ok (.aload_n 0, 1) := by decide +kernel
theorem dX4_add_34 : decode cX4_add 34 = .ok (.getfield 15, 3) := by decide +kernel
theorem dX4_add_37 : decode cX4_add 37 = .ok (.iload_n 3, 1) := by decide +kernel
theorem dX4_add_38 : decode cX4_add 38 = .ok (.iload_n 2, 1) := by decide +kernel
theorem dX4_add_39 : decode cX4_add 39 = .ok (.iastore, 1) := by decide +kernel
theorem dX4_add_40 : decode cX4_add 40 = .ok (.aload_n 0, 1) := by decide +kernel
theorem dX4_add_41 : decode cX4_add 41 = .ok (.aload_n 0, 1) := by decide +kernel
theorem dX4_add_42 : decode cX4_add 42 = .ok (.getfield 38, 3) := by decide +kernel
theorem dX4_add_45 : decode cX4_add 45 = .ok (.getfield 67, 3) := by decide +kernel
theorem dX4_add_48 : decode cX4_add 48 = .ok (.iload_n 1, 1) := by decide +kernel
theorem dX4_add_49 : decode cX4_add 49 = .ok (.iaload, 1) := by decide +kernel
theorem dX4_add_50 : decode cX4_add 50 = .ok (.putfield 70, 3) := by decide +kernel
theorem dX4_add_53 : decode cX4_add 53 = .ok (.aload_n 0, 1) := by decide +kernel
theorem dX4_add_54 : decode cX4_add 54 = .ok (.aload_n 0, 1) := by decide +kernel
theorem dX4_add_55 : decode cX4_add 55 = .ok (.getfield 38, 3) := by decide +kernel
theorem dX4_add_58 : decode cX4_add 58 = .ok (.getfield 67, 3) := by decide +kernel
theorem dX4_add_61 : decode cX4_add 61 = .ok (.iload_n 2, 1) := by decide +kernel
theorem dX4_add_62 : decode cX4_add 62 = .ok (.iaload, 1) := by decide +kernel
theorem dX4_add_63 : decode cX4_add 63 = .ok (.putfield 73, 3) := by decide +kernel
theorem dX4_add_66 : decode cX4_add 66 = .ok (.aload_n 0, 1) := by decide +kernel
theorem dX4_add_67 : decode cX4_add 67 = .ok (.iconst 0, 1) := by decide +kernel
theorem dX4_add_68 : decode cX4_add 68 = .ok (.putfield 76, 3) := by decide +kernel
theorem dX4_add_71 : decode cX4_add 71 = .ok (.aload_n 0, 1) := by decide +kernel
theorem dX4_add_72 : decode cX4_add 72 = .ok (.iconst 1, 1) := by decide +kernel
theorem dX4_add_73 : decode cX4_add 73 = .ok (.putfield 79, 3) := by decide +kernel
theorem dX4_add_76 : decode cX4_add 76 = .ok (.aload_n 0, 1) := by decide +kernel
theorem dX4_add_77 : decode cX4_add 77 = .ok (.getfield 45, 3) := by decide +kernel
theorem dX4_add_80 : decode cX4_add 80 = .ok (.invokevirtual 58, 3) := by decide +kernel
theorem dX4_add_83 : decode cX4_add 83 = .ok (.aload_n 0, 1) := by decide +kernel
theorem dX4_add_84 : decode cX4_add 84 = .ok (.iload_n 1, 1) := by decide +kernel
theorem dX4_add_85 : decode cX4_add 85 = .ok (.iload_n 2, 1) := by decide +kernel
theorem dX4_add_86 : decode cX4_add 86 = .ok (.invokevirtual 82, 3) := by decide +kernel
theorem dX4_add_89 : decode cX4_add 89 = .ok (.istore 4, 2) := by decide +kernel
theorem dX4_add_91 : decode cX4_add 91 = .ok (.iload 4, 2) := by decide +kernel
theorem dX4_add_93 : decode cX4_add 93 = .ok (.iconst (-1), 1) := by decide +kernel
theorem dX4_add_94 : decode cX4_add 94 = .ok (.if_icmp .ne 20, 3) := by decide +kernel
theorem dX4_add_97 : decode cX4_add 97 = .ok (.aload_n 0, 1) := by decide +kernel
theorem dX4_add_98 : decode cX4_add 98 = .ok (.getfield 18, 3) := by decide +kernel
theorem dX4_add_101 : decode cX4_add 101 = .ok (.iload_n 3, 1) := by decide +kernel
theorem dX4_add_102 : decode cX4_add 102 = .ok (.iconst (-1), 1) := by decide +kernel
theorem dX4_add_103 : decode cX4_add 103 = .ok (.iastore, 1) := by decide +kernel
theorem dX4_add_104 : decode cX4_add 104 = .ok (.aload_n 0, 1) := by decide +kernel
theorem dX4_add_105 : decode cX4_add 105 = .ok (.iload_n 1, 1) := by decide +kernel
theorem dX4_add_106 : decode cX4_add 106 = .ok (.iload_n 2, 1) := by decide +kernel
theorem dX4_add_107 : decode cX4_add 107 = .ok (.iload_n 3, 1) := by decide +kernel
theorem dX4_add_108 : decode cX4_add 108 = .ok (.invokevirtual 85, 3) := by decide +kernel
theorem dX4_add_111 : decode cX4_add 111 = .ok (.bipush (-2), 2) := by decide +kernel
theorem dX4_add_113 : decode cX4_add 113 = .ok (.ireturn, 1) := by decide +kernel
theorem dX4_add_114 : decode cX4_add 114 = .ok (.aload_n 0, 1) := by decide +kernel
theorem dX4_add_115 : decode cX4_add 115 = .ok (.getfield 18, 3) := by decide +kernel
theorem dX4_add_118 : decode cX4_add 118 = .ok (.iload_n 3, 1) := by decide +kernel
theorem dX4_add_119 : decode cX4_add 119 = .ok (.iload_n 3, 1) := by decide +kernel
theorem dX4_add_120 : decode cX4_add 120 = .ok (.iastore, 1) := by decide +kernel
theorem dX4_add_121 : decode cX4_add 121 = .ok (.aload_n 0, 1) := by decide +kernel
theorem dX4_add_122 : decode cX4_add 122 = .ok (.iload 4, 2) := by decide +kernel
theorem dX4_add_124 : decode cX4_add 124 = .ok (.iload_n 3, 1) := by decide +kernel
theorem dX4_add_125 : decode cX4_add 125 = .ok (.invokevirtual 89, 3) := by decide +kernel
theorem dX4_add_128 : decode cX4_add 128 = .ok (.ireturn, 1) := by decide +kernel
theorem dX4_joinLands_0 : decode cX4_joinLands 0 = .ok (.aload_n 0, 1) := by decide +kernel
theorem dX4_joinLands_1 : decode cX4_joinLands 1 = .ok (.getfield 42, 3) := by decide +kernel
theorem dX4_joinLands_4 : decode cX4_joinLands 4 = .ok (.getfield 67, 3) := by decide +kernel
theorem dX4_joinLands_7 : decode cX4_joinLands 7 = .ok (.iload_n 1, 1) := by decide +kernel
theorem dX4_joinLands_8 : decode cX4_joinLands 8 = .ok (.iaload, 1) := by decide +kernel
theorem dX4_joinLands_9 : decode cX4_joinLands 9 = .ok (.istore 4, 2) := by decide +kernel
theorem dX4_joinLands_11 : decode cX4_joinLands 11 = .ok (.aload_n 0, 1) := by decide +kernel
theorem dX4_joinLands_12 : decode cX4_joinLands 12 = .ok (.getfield 42, 3) := by decide +kernel
theorem dX4_joinLands_15 : decode cX4_joinLands 15 = .ok (.getfield 67, 3) := by decide +kernel
theorem dX4_joinLands_18 : decode cX4_joinLands 18 = .ok (.iload_n 2, 1) := by decide +kernel
theorem dX4_joinLands_19 : decode cX4_joinLands 19 = .ok (.iaload, 1) := by decide +kernel
theorem dX4_joinLands_20 : decode cX4_joinLands 20 = .ok (.istore 5, 2) := by decide +kernel
theorem dX4_joinLands_22 : decode cX4_joinLands 22 = .ok (.iload 4, 2) := by decide +kernel
theorem dX4_joinLands_24 : decode cX4_joinLands 24 = .ok (.invokestatic 92, 3) := by decide +kernel
theorem dX4_joinLands_27 : decode cX4_joinLands 27 = .ok (.iload 5, 2) := by decide +kernel
theorem dX4_joinLands_29 : decode cX4_joinLands 29 = .ok (.invokestatic 92, 3) := by decide +kernel
theorem dX4_joinLands_32 : decode cX4_joinLands 32 = .ok (.lor, 1) := by decide +kernel
theorem dX4_joinLands_33 : decode cX4_joinLands 33 = .ok (.lstore 6, 2) := by decide +kernel
theorem dX4_joinLands_35 : decode cX4_joinLands 35 = .ok (.aload_n 0, 1) := by decide +kernel
theorem dX4_joinLands_36 : decode cX4_joinLands 36 = .ok (.getfield 42, 3) := by decide +kernel
theorem dX4_joinLands_39 : decode cX4_joinLands 39 = .ok (.lload 6, 2) := by decide +kernel
theorem dX4_joinLands_41 : decode cX4_joinLands 41 = .ok (.invokevirtual 96, 3) := by decide +kernel
theorem dX4_joinLands_44 : decode cX4_joinLands 44 = .ok (.iload 4, 2) := by decide +kernel
theorem dX4_joinLands_46 : decode cX4_joinLands 46 = .ok (.if_icmp .ne 13, 3) := by decide +kernel
theorem dX4_joinLands_49 : decode cX4_joinLands 49 = .ok (.aload_n 0, 1) := by decide +kernel
theorem dX4_joinLands_50 : decode cX4_joinLands 50 = .ok (.iload_n 2, 1) := by decide +kernel
theorem dX4_joinLands_51 : decode cX4_joinLands 51 = .ok (.iload_n 1, 1) := by decide +kernel
theorem dX4_joinLands_52 : decode cX4_joinLands 52 = .ok (.iload_n 3, 1) := by decide +kernel
theorem dX4_joinLands_53 : decode cX4_joinLands 53 = .ok (.invokevirtual 100, 3) := by decide +kernel
theorem dX4_joinLands_56 : decode cX4_joinLands 56 = .ok (.goto 10, 3) := by decide +kernel
theorem dX4_joinLands_59 : decode cX4_joinLands 59 = .ok (.aload_n 0, 1) := by decide +kernel
theorem dX4_joinLands_60 : decode cX4_joinLands 60 = .ok (.iload_n 1, 1) := by decide +kernel
theorem dX4_joinLands_61 : decode cX4_joinLands 61 = .ok (.iload_n 2, 1) := by decide +kernel
theorem dX4_joinLands_62 : decode cX4_joinLands 62 = .ok (.iload_n 3, 1) := by decide +kernel
theorem dX4_joinLands_63 : decode cX4_joinLands 63 = .ok (.invokevirtual 100, 3) := by decide +kernel
theorem dX4_joinLands_66 : decode cX4_joinLands 66 = .ok (.aload_n 0, 1) := by decide +kernel
theorem dX4_joinLands_67 : decode cX4_joinLands 67 = .ok (.getfield 42, 3) := by decide +kernel
theorem dX4_joinLands_70 : decode cX4_joinLands 70 = .ok (.lload 6, 2) := by decide +kernel
theorem dX4_joinLands_72 : decode cX4_joinLands 72 = .ok (.iload_n 3, 1) := by decide +kernel
theorem dX4_joinLands_73 : decode cX4_joinLands 73 = .ok (.invokevirtual 103, 3) := by decide +kernel
theorem dX4_joinLands_76 : decode cX4_joinLands 76 = .ok (.return_, 1) := by decide +kernel
theorem dX4_turn_0 : decode cX4_turn 0 = .ok (.iload_n 1, 1) := by decide +kernel
theorem dX4_turn_1 : decode cX4_turn 1 = .ok (.istore 4, 2) := by decide +kernel
theorem dX4_turn_3 : decode cX4_turn 3 = .ok (.iload_n 2, 1) := by decide +kernel
theorem dX4_turn_4 : decode cX4_turn 4 = .ok (.istore 5, 2) := by decide +kernel
theorem dX4_turn_6 : decode cX4_turn 6 = .ok (.iload_n 3, 1) := by decide +kernel
theorem dX4_turn_7 : decode cX4_turn 7 = .ok (.istore 6, 2) := by decide +kernel
theorem dX4_turn_9 : decode cX4_turn 9 = .ok (.aload_n 0, 1) := by decide +kernel
theorem dX4_turn_10 : decode cX4_turn 10 = .ok (.iconst 1, 1) := by decide +kernel
theorem dX4_turn_11 : decode cX4_turn 11 = .ok (.putfield 76, 3) := by decide +kernel
theorem dX4_turn_14 : decode cX4_turn 14 = .ok (.iconst 0, 1) := by decide +kernel
theorem dX4_turn_15 : decode cX4_turn 15 = .ok (.istore 7, 2) := by decide +kernel
theorem dX4_turn_17 : decode cX4_turn 17 = .ok (.iload 7, 2) := by decide +kernel
theorem dX4_turn_19 : decode cX4_turn 19 = .ok (.aload_n 0, 1) := by decide +kernel
theorem dX4_turn_20 : decode cX4_turn 20 = .ok (.getfield 48, 3) := by decide +kernel
theorem dX4_turn_23 : decode cX4_turn 23 = .ok (.if_icmp .ge 88, 3) := by decide +kernel
theorem dX4_turn_26 : decode cX4_turn 26 = .ok (.iload 4, 2) := by decide +kernel
theorem dX4_turn_28 : decode cX4_turn 28 = .ok (.iconst (-1), 1) := by decide +kernel
theorem dX4_turn_29 : decode cX4_turn 29 = .ok (.if_icmp .eq 82, 3) := by decide +kernel
theorem dX4_turn_32 : decode cX4_turn 32 = .ok (.aload_n 0, 1) := by decide +kernel
theorem dX4_turn_33 : decode cX4_turn 33 = .ok (.getfield 21, 3) := by decide +kernel
theorem dX4_turn_36 : decode cX4_turn 36 = .ok (.iload 4, 2) := by decide +kernel
theorem dX4_turn_38 : decode cX4_turn 38 = .ok (.iaload, 1) := by decide +kernel
theorem dX4_turn_39 : decode cX4_turn 39 = .ok (.istore 8, 2) := by decide +kernel
theorem dX4_turn_41 : decode cX4_turn 41 = .ok (.aload_n 0, 1) := by decide +kernel
theorem dX4_turn_42 : decode cX4_turn 42 = .ok (.getfield 24, 3) := by decide +kernel
theorem dX4_turn_45 : decode cX4_turn 45 = .ok (.iload 4, 2) := by decide +kernel
theorem dX4_turn_47 : decode cX4_turn 47 = .ok (.iaload, 1) := by decide +kernel
theorem dX4_turn_48 : decode cX4_turn 48 = .ok (.istore 9, 2) := by decide +kernel
theorem dX4_turn_50 : decode cX4_turn 50 = .ok (.aload_n 0, 1) := by decide +kernel
theorem dX4_turn_51 : decode cX4_turn 51 = .ok (.getfield 21, 3) := by decide +kernel
theorem dX4_turn_54 : decode cX4_turn 54 = .ok (.iload 4, 2) := by decide +kernel
theorem dX4_turn_56 : decode cX4_turn 56 = .ok (.iload 5, 2) := by decide +kernel
theorem dX4_turn_58 : decode cX4_turn 58 = .ok (.iastore, 1) := by decide +kernel
theorem dX4_turn_59 : decode cX4_turn 59 = .ok (.aload_n 0, 1) := by decide +kernel
theorem dX4_turn_60 : decode cX4_turn 60 = .ok (.getfield 24, 3) := by decide +kernel
theorem dX4_turn_63 : decode cX4_turn 63 = .ok (.iload 4, 2) := by decide +kernel
theorem dX4_turn_65 : decode cX4_turn 65 = .ok (.iload 6, 2) := by decide +kernel
theorem dX4_turn_67 : decode cX4_turn 67 = .ok (.iastore, 1) := by decide +kernel
theorem dX4_turn_68 : decode cX4_turn 68 = .ok (.iload 9, 2) := by decide +kernel
theorem dX4_turn_70 : decode cX4_turn 70 = .ok (.iconst (-1), 1) := by decide +kernel
theorem dX4_turn_71 : decode cX4_turn 71 = .ok (.if_icmp .eq 22, 3) := by decide +kernel
theorem dX4_turn_74 : decode cX4_turn 74 = .ok (.aload_n 0, 1) := by decide +kernel
theorem dX4_turn_75 : decode cX4_turn 75 = .ok (.iload 9, 2) := by decide +kernel
theorem dX4_turn_77 : decode cX4_turn 77 = .ok (.invokevirtual 107, 3) := by decide +kernel
theorem dX4_turn_80 : decode cX4_turn 80 = .ok (.ifCond .eq 13, 3) := by decide +kernel
theorem dX4_turn_83 : decode cX4_turn 83 = .ok (.aload_n 0, 1) := by decide +kernel
theorem dX4_turn_84 : decode cX4_turn 84 = .ok (.dup, 1) := by decide +kernel
theorem dX4_turn_85 : decode cX4_turn 85 = .ok (.getfield 76, 3) := by decide +kernel
theorem dX4_turn_88 : decode cX4_turn 88 = .ok (.iconst 1, 1) := by decide +kernel
theorem dX4_turn_89 : decode cX4_turn 89 = .ok (.iadd, 1) := by decide +kernel
theorem dX4_turn_90 : decode cX4_turn 90 = .ok (.putfield 76, 3) := by decide +kernel
theorem dX4_turn_93 : decode cX4_turn 93 = .ok (.iload 4, 2) := by decide +kernel
theorem dX4_turn_95 : decode cX4_turn 95 = .ok (.istore 5, 2) := by decide +kernel
theorem dX4_turn_97 : decode cX4_turn 97 = .ok (.iload 9, 2) := by decide +kernel
theorem dX4_turn_99 : decode cX4_turn 99 = .ok (.istore 6, 2) := by decide +kernel
theorem dX4_turn_101 : decode cX4_turn 101 = .ok (.iload 8, 2) := by decide +kernel
theorem dX4_turn_103 : decode cX4_turn 103 = .ok (.istore 4, 2) := by decide +kernel
theorem dX4_turn_105 : decode cX4_turn 105 = .ok (.iinc 7 1, 3) := by decide +kernel
theorem dX4_turn_108 : decode cX4_turn 108 = .ok (.goto (-91), 3) := by decide +kernel
theorem dX4_turn_111 : decode cX4_turn 111 = .ok (.return_, 1) := by decide +kernel
theorem dX4_closeRing_0 : decode cX4_closeRing 0 = .ok (.aload_n 0, 1) := by decide +kernel
theorem dX4_closeRing_1 : decode cX4_closeRing 1 = .ok (.iload_n 1, 1) := by decide +kernel
theorem dX4_closeRing_2 : decode cX4_closeRing 2 = .ok (.invokevirtual 111, 3) := by decide +kernel
theorem dX4_closeRing_5 : decode cX4_closeRing 5 = .ok (.lstore_n 3, 1) := by decide +kernel
theorem dX4_closeRing_6 : decode cX4_closeRing 6 = .ok (.iload_n 2, 1) := by decide +kernel
theorem dX4_closeRing_7 : decode cX4_closeRing 7 = .ok (.invokestatic 92, 3) := by decide +kernel
theorem dX4_closeRing_10 : decode cX4_closeRing 10 = .ok (.lstore 5, 2) := by decide +kernel
theorem dX4_closeRing_12 : decode cX4_closeRing 12 = .ok (.iconst 0, 1) := by decide +kernel
theorem dX4_closeRing_13 : decode cX4_closeRing 13 = .ok (.istore 7, 2) := by decide +kernel
theorem dX4_closeRing_15 : decode cX4_closeRing 15 = .ok (.iconst 0, 1) := by decide +kernel
theorem dX4_closeRing_16 : decode cX4_closeRing 16 = .ok (.istore 8, 2) := by decide +kernel
theorem dX4_closeRing_18 : decode cX4_closeRing 18 = .ok (.iload 8, 2) := by decide +kernel
theorem dX4_closeRing_20 : decode cX4_closeRing 20 = .ok (.iload_n 1, 1) := by decide +kernel
theorem dX4_closeRing_21 : decode cX4_closeRing 21 = .ok (.if_icmp .ge 56, 3) := by decide +kernel
theorem dX4_closeRing_24 : decode cX4_closeRing 24 = .ok (.aload_n 0, 1) := by decide +kernel
theorem dX4_closeRing_25 : decode cX4_closeRing 25 = .ok (.getfield 30, 3) := by decide +kernel
theorem dX4_closeRing_28 : decode cX4_closeRing 28 = .ok (.iload 8, 2) := by decide +kernel
theorem dX4_closeRing_30 : decode cX4_closeRing 30 = .ok (.iaload, 1) := by decide +kernel
theorem dX4_closeRing_31 : decode cX4_closeRing 31 = .ok (.istore 9, 2) := by decide +kernel
theorem dX4_closeRing_33 : decode cX4_closeRing 33 = .ok (.lload 5, 2) := by decide +kernel
theorem dX4_closeRing_35 : decode cX4_closeRing 35 = .ok (.aload_n 0, 1) := by decide +kernel
theorem dX4_closeRing_36 : decode cX4_closeRing 36 = .ok (.getfield 45, 3) := by decide +kernel
theorem dX4_closeRing_39 : decode cX4_closeRing 39 = .ok (.getfield 67, 3) := by decide +kernel
theorem dX4_closeRing_42 : decode cX4_closeRing 42 = .ok (.iload 9, 2) := by decide +kernel
theorem dX4_closeRing_44 : decode cX4_closeRing 44 = .ok (.iaload, 1) := by decide +kernel
theorem dX4_closeRing_45 : decode cX4_closeRing 45 = .ok (.invokestatic 92, 3) := by decide +kernel
theorem dX4_closeRing_48 : decode cX4_closeRing 48 = .ok (.lor, 1) := by decide +kernel
theorem dX4_closeRing_49 : decode cX4_closeRing 49 = .ok (.lstore 5, 2) := by decide +kernel
theorem dX4_closeRing_51 : decode cX4_closeRing 51 = .ok (.aload_n 0, 1) := by decide +kernel
theorem dX4_closeRing_52 : decode cX4_closeRing 52 = .ok (.iload 9, 2) := by decide +kernel
theorem dX4_closeRing_54 : decode cX4_closeRing 54 = .ok (.invokevirtual 107, 3) := by decide +kernel
theorem dX4_closeRing_57 : decode cX4_closeRing 57 = .ok (.ifCond .eq 14, 3) := by decide +kernel
theorem dX4_closeRing_60 : decode cX4_closeRing 60 = .ok (.aload_n 0, 1) := by decide +kernel
theorem dX4_closeRing_61 : decode cX4_closeRing 61 = .ok (.getfield 18, 3) := by decide +kernel
theorem dX4_closeRing_64 : decode cX4_closeRing 64 = .ok (.iload 9, 2) := by decide +kernel
theorem dX4_closeRing_66 : decode cX4_closeRing 66 = .ok (.iload_n 2, 1) := by decide +kernel
theorem dX4_closeRing_67 : decode cX4_closeRing 67 = .ok (.iastore, 1) := by decide +kernel
theorem dX4_closeRing_68 : decode cX4_closeRing 68 = .ok (.iinc 7 1, 3) := by decide +kernel
theorem dX4_closeRing_71 : decode cX4_closeRing 71 = .ok (.iinc 8 1, 3) := by decide +kernel
theorem dX4_closeRing_74 : decode cX4_closeRing 74 = .ok (.goto (-56), 3) := by decide +kernel
theorem dX4_closeRing_77 : decode cX4_closeRing 77 = .ok (.aload_n 0, 1) := by decide +kernel
theorem dX4_closeRing_78 : decode cX4_closeRing 78 = .ok (.iload 7, 2) := by decide +kernel
theorem dX4_closeRing_80 : decode cX4_closeRing 80 = .ok (.iconst 1, 1) := by decide +kernel
theorem dX4_closeRing_81 : decode cX4_closeRing 81 = .ok (.iadd, 1) := by decide +kernel
theorem dX4_closeRing_82 : decode cX4_closeRing 82 = .ok (.putfield 79, 3) := by decide +kernel
theorem dX4_closeRing_85 : decode cX4_closeRing 85 = .ok (.aload_n 0, 1) := by decide +kernel
theorem dX4_closeRing_86 : decode cX4_closeRing 86 = .ok (.getfield 38, 3) := by decide +kernel
theorem dX4_closeRing_89 : decode cX4_closeRing 89 = .ok (.lload_n 3, 1) := by decide +kernel
theorem dX4_closeRing_90 : decode cX4_closeRing 90 = .ok (.iload_n 2, 1) := by decide +kernel
theorem dX4_closeRing_91 : decode cX4_closeRing 91 = .ok (.invokevirtual 103, 3) := by decide +kernel
theorem dX4_closeRing_94 : decode cX4_closeRing 94 = .ok (.aload_n 0, 1) := by decide +kernel
theorem dX4_closeRing_95 : decode cX4_closeRing 95 = .ok (.getfield 45, 3) := by decide +kernel
theorem dX4_closeRing_98 : decode cX4_closeRing 98 = .ok (.lload 5, 2) := by decide +kernel
theorem dX4_closeRing_100 : decode cX4_closeRing 100 = .ok (.iload_n 2, 1) := by decide +kernel
theorem dX4_closeRing_101 : decode cX4_closeRing 101 = .ok (.invokevirtual 103, 3) := by decide +kernel
theorem dX4_closeRing_104 : decode cX4_closeRing 104 = .ok (.iload 7, 2) := by decide +kernel
theorem dX4_closeRing_106 : decode cX4_closeRing 106 = .ok (.ireturn, 1) := by decide +kernel
theorem dX4_trace_0 : decode cX4_trace 0 = .ok (.aload_n 0, 1) := by decide +kernel
theorem dX4_trace_1 : decode cX4_trace 1 = .ok (.getfield 42, 3) := by decide +kernel
theorem dX4_trace_4 : decode cX4_trace 4 = .ok (.getfield 67, 3) := by decide +kernel
theorem dX4_trace_7 : decode cX4_trace 7 = .ok (.iload_n 1, 1) := by decide +kernel
theorem dX4_trace_8 : decode cX4_trace 8 = .ok (.iaload, 1) := by decide +kernel
theorem dX4_trace_9 : decode cX4_trace 9 = .ok (.aload_n 0, 1) := by decide +kernel
theorem dX4_trace_10 : decode cX4_trace 10 = .ok (.getfield 42, 3) := by decide +kernel
theorem dX4_trace_13 : decode cX4_trace 13 = .ok (.getfield 67, 3) := by decide +kernel
theorem dX4_trace_16 : decode cX4_trace 16 = .ok (.iload_n 2, 1) := by decide +kernel
theorem dX4_trace_17 : decode cX4_trace 17 = .ok (.iaload, 1) := by decide +kernel
theorem dX4_trace_18 : decode cX4_trace 18 = .ok (.if_icmp .eq 5, 3) := by decide +kernel
theorem dX4_trace_21 : decode cX4_trace 21 = .ok (.iconst (-1), 1) := by decide +kernel
theorem dX4_trace_22 : decode cX4_trace 22 = .ok (.ireturn, 1) := by decide +kernel
theorem dX4_trace_23 : decode cX4_trace 23 = .ok (.aload_n 0, 1) := by decide +kernel
theorem dX4_trace_24 : decode cX4_trace 24 = .ok (.iload_n 1, 1) := by decide +kernel
theorem dX4_trace_25 : decode cX4_trace 25 = .ok (.invokevirtual 114, 3) := by decide +kernel
theorem dX4_trace_28 : decode cX4_trace 28 = .ok (.istore_n 3, 1) := by decide +kernel
theorem dX4_trace_29 : decode cX4_trace 29 = .ok (.aload_n 0, 1) := by decide +kernel
theorem dX4_trace_30 : decode cX4_trace 30 = .ok (.iload_n 2, 1) := by decide +kernel
theorem dX4_trace_31 : decode cX4_trace 31 = .ok (.invokevirtual 114, 3) := by decide +kernel
theorem dX4_trace_34 : decode cX4_trace 34 = .ok (.istore 4, 2) := by decide +kernel
theorem dX4_trace_36 : decode cX4_trace 36 = .ok (.aload_n 0, 1) := by decide +kernel
theorem dX4_trace_37 : decode cX4_trace 37 = .ok (.iload_n 1, 1) := by decide +kernel
theorem dX4_trace_38 : decode cX4_trace 38 = .ok (.iload_n 2, 1) := by decide +kernel
theorem dX4_trace_39 : decode cX4_trace 39 = .ok (.iload_n 3, 1) := by decide +kernel
theorem dX4_trace_40 : decode cX4_trace 40 = .ok (.iload 4, 2) := by decide +kernel
theorem dX4_trace_42 : decode cX4_trace 42 = .ok (.invokevirtual 118, 3) := by decide +kernel
theorem dX4_trace_45 : decode cX4_trace 45 = .ok (.istore 5, 2) := by decide +kernel
theorem dX4_trace_47 : decode cX4_trace 47 = .ok (.iload_n 1, 1) := by decide +kernel
theorem dX4_trace_48 : decode cX4_trace 48 = .ok (.istore 6, 2) := by decide +kernel
theorem dX4_trace_50 : decode cX4_trace 50 = .ok (.iload_n 2, 1) := by decide +kernel
theorem dX4_trace_51 : decode cX4_trace 51 = .ok (.istore 7, 2) := by decide +kernel
theorem dX4_trace_53 : decode cX4_trace 53 = .ok (.iconst 0, 1) := by decide +kernel
theorem dX4_trace_54 : decode cX4_trace 54 = .ok (.istore 8, 2) := by decide +kernel
theorem dX4_trace_56 : decode cX4_trace 56 = .ok (.iload 5, 2) := by decide +kernel
theorem dX4_trace_58 : decode cX4_trace 58 = .ok (.istore 9, 2) := by decide +kernel
theorem dX4_trace_60 : decode cX4_trace 60 = .ok (.aload_n 0, 1) := by decide +kernel
theorem dX4_trace_61 : decode cX4_trace 61 = .ok (.getfield 27, 3) := by decide +kernel
theorem dX4_trace_64 : decode cX4_trace 64 = .ok (.iload 8, 2) := by decide +kernel
theorem dX4_trace_66 : decode cX4_trace 66 = .ok (.iload 6, 2) := by decide +kernel
theorem dX4_trace_68 : decode cX4_trace 68 = .ok (.iastore, 1) := by decide +kernel
theorem dX4_trace_69 : decode cX4_trace 69 = .ok (.aload_n 0, 1) := by decide +kernel
theorem dX4_trace_70 : decode cX4_trace 70 = .ok (.getfield 27, 3) := by decide +kernel
theorem dX4_trace_73 : decode cX4_trace 73 = .ok (.iload 9, 2) := by decide +kernel
theorem dX4_trace_75 : decode cX4_trace 75 = .ok (.iload 7, 2) := by decide +kernel
theorem dX4_trace_77 : decode cX4_trace 77 = .ok (.iastore, 1) := by decide +kernel
theorem dX4_trace_78 : decode cX4_trace 78 = .ok (.iload 8, 2) := by decide +kernel
theorem dX4_trace_80 : decode cX4_trace 80 = .ok (.iload 9, 2) := by decide +kernel
theorem dX4_trace_82 : decode cX4_trace 82 = .ok (.if_icmp .ge 103, 3) := by decide +kernel
theorem dX4_trace_85 : decode cX4_trace 85 = .ok (.iload 6, 2) := by decide +kernel
theorem dX4_trace_87 : decode cX4_trace 87 = .ok (.iconst (-1), 1) := by decide +kernel
theorem dX4_trace_88 : decode cX4_trace 88 = .ok (.if_icmp .eq 97, 3) := by decide +kernel
theorem dX4_trace_91 : decode cX4_trace 91 = .ok (.iload 7, 2) := by decide +kernel
theorem dX4_trace_93 : decode cX4_trace 93 = .ok (.iconst (-1), 1) := by decide +kernel
theorem dX4_trace_94 : decode cX4_trace 94 = .ok (.if_icmp .eq 91, 3) := by decide +kernel
theorem dX4_trace_97 : decode cX4_trace 97 = .ok (.iload_n 3, 1) := by decide +kernel
theorem dX4_trace_98 : decode cX4_trace 98 = .ok (.iload 4, 2) := by decide +kernel
theorem dX4_trace_100 : decode cX4_trace 100 = .ok (.if_icmp .lt 44, 3) := by decide +kernel
theorem dX4_trace_103 : decode cX4_trace 103 = .ok (.aload_n 0, 1) := by decide +kernel
theorem dX4_trace_104 : decode cX4_trace 104 = .ok (.getfield 30, 3) := by decide +kernel
theorem dX4_trace_107 : decode cX4_trace 107 = .ok (.iload 8, 2) := by decide +kernel
theorem dX4_trace_109 : decode cX4_trace 109 = .ok (.aload_n 0, 1) := by decide +kernel
theorem dX4_trace_110 : decode cX4_trace 110 = .ok (.getfield 24, 3) := by decide +kernel
theorem dX4_trace_113 : decode cX4_trace 113 = .ok (.iload 6, 2) := by decide +kernel
theorem dX4_trace_115 : decode cX4_trace 115 = .ok (.iaload, 1) := by decide +kernel
theorem dX4_trace_116 : decode cX4_trace 116 = .ok (.iastore, 1) := by decide +kernel
theorem dX4_trace_117 : decode cX4_trace 117 = .ok (.aload_n 0, 1) := by decide +kernel
theorem dX4_trace_118 : decode cX4_trace 118 = .ok (.getfield 21, 3) := by decide +kernel
theorem dX4_trace_121 : decode cX4_trace 121 = .ok (.iload 6, 2) := by decide +kernel
theorem dX4_trace_123 : decode cX4_trace 123 = .ok (.iaload, 1) := by decide +kernel
theorem dX4_trace_124 : decode cX4_trace 124 = .ok (.istore 6, 2) := by decide +kernel
theorem dX4_trace_126 : decode cX4_trace 126 = .ok (.iinc 3 (-1), 3) := by decide +kernel
theorem dX4_trace_129 : decode cX4_trace 129 = .ok (.iinc 8 1, 3) := by decide +kernel
theorem dX4_trace_132 : decode cX4_trace 132 = .ok (.aload_n 0, 1) := by decide +kernel
theorem dX4_trace_133 : decode cX4_trace 133 = .ok (.getfield 27, 3) := by decide +kernel
theorem dX4_trace_136 : decode cX4_trace 136 = .ok (.iload 8, 2) := by decide +kernel
theorem dX4_trace_138 : decode cX4_trace 138 = .ok (.iload 6, 2) := by decide +kernel
theorem dX4_trace_140 : decode cX4_trace 140 = .ok (.iastore, 1) := by decide +kernel
theorem dX4_trace_141 : decode cX4_trace 141 = .ok (.goto (-63), 3) := by decide +kernel
theorem dX4_trace_144 : decode cX4_trace 144 = .ok (.iinc 9 (-1), 3) := by decide +kernel
theorem dX4_trace_147 : decode cX4_trace 147 = .ok (.aload_n 0, 1) := by decide +kernel
theorem dX4_trace_148 : decode cX4_trace 148 = .ok (.getfield 30, 3) := by decide +kernel
theorem dX4_trace_151 : decode cX4_trace 151 = .ok (.iload 9, 2) := by decide +kernel
theorem dX4_trace_153 : decode cX4_trace 153 = .ok (.aload_n 0, 1) := by decide +kernel
theorem dX4_trace_154 : decode cX4_trace 154 = .ok (.getfield 24, 3) := by decide +kernel
theorem dX4_trace_157 : decode cX4_trace 157 = .ok (.iload 7, 2) := by decide +kernel
theorem dX4_trace_159 : decode cX4_trace 159 = .ok (.iaload, 1) := by decide +kernel
theorem dX4_trace_160 : decode cX4_trace 160 = .ok (.iastore, 1) := by decide +kernel
theorem dX4_trace_161 : decode cX4_trace 161 = .ok (.aload_n 0, 1) := by decide +kernel
theorem dX4_trace_162 : decode cX4_trace 162 = .ok (.getfield 21, 3) := by decide +kernel
theorem dX4_trace_165 : decode cX4_trace 165 = .ok (.iload 7, 2) := by decide +kernel
theorem dX4_trace_167 : decode cX4_trace 167 = .ok (.iaload, 1) := by decide +kernel
theorem dX4_trace_168 : decode cX4_trace 168 = .ok (.istore 7, 2) := by decide +kernel
theorem dX4_trace_170 : decode cX4_trace 170 = .ok (.iinc 4 (-1), 3) := by decide +kernel
theorem dX4_trace_173 : decode cX4_trace 173 = .ok (.aload_n 0, 1) := by decide +kernel
theorem dX4_trace_174 : decode cX4_trace 174 = .ok (.getfield 27, 3) := by decide +kernel
theorem dX4_trace_177 : decode cX4_trace 177 = .ok (.iload 9, 2) := by decide +kernel
theorem dX4_trace_179 : decode cX4_trace 179 = .ok (.iload 7, 2) := by decide +kernel
theorem dX4_trace_181 : decode cX4_trace 181 = .ok (.iastore, 1) := by decide +kernel
theorem dX4_trace_182 : decode cX4_trace 182 = .ok (.goto (-104), 3) := by decide +kernel
theorem dX4_trace_185 : decode cX4_trace 185 = .ok (.iload 5, 2) := by decide +kernel
theorem dX4_trace_187 : decode cX4_trace 187 = .ok (.ireturn, 1) := by decide +kernel
theorem dX4_high_0 : decode cX4_high 0 = .ok (.aload_n 0, 1) := by decide +kernel
theorem dX4_high_1 : decode cX4_high 1 = .ok (.getfield 21, 3) := by decide +kernel
theorem dX4_high_4 : decode cX4_high 4 = .ok (.iload_n 1, 1) := by decide +kernel
theorem dX4_high_5 : decode cX4_high 5 = .ok (.iaload, 1) := by decide +kernel
theorem dX4_high_6 : decode cX4_high 6 = .ok (.istore_n 2, 1) := by decide +kernel
theorem dX4_high_7 : decode cX4_high 7 = .ok (.iconst 0, 1) := by decide +kernel
theorem dX4_high_8 : decode cX4_high 8 = .ok (.istore_n 3, 1) := by decide +kernel
theorem dX4_high_9 : decode cX4_high 9 = .ok (.iload_n 3, 1) := by decide +kernel
theorem dX4_high_10 : decode cX4_high 10 = .ok (.aload_n 0, 1) := by decide +kernel
theorem dX4_high_11 : decode cX4_high 11 = .ok (.getfield 48, 3) := by decide +kernel
theorem dX4_high_14 : decode cX4_high 14 = .ok (.if_icmp .ge 21, 3) := by decide +kernel
theorem dX4_high_17 : decode cX4_high 17 = .ok (.iload_n 2, 1) := by decide +kernel
theorem dX4_high_18 : decode cX4_high 18 = .ok (.iconst (-1), 1) := by decide +kernel
theorem dX4_high_19 : decode cX4_high 19 = .ok (.if_icmp .eq 16, 3) := by decide +kernel
theorem dX4_high_22 : decode cX4_high 22 = .ok (.aload_n 0, 1) := by decide +kernel
theorem dX4_high_23 : decode cX4_high 23 = .ok (.getfield 21, 3) := by decide +kernel
theorem dX4_high_26 : decode cX4_high 26 = .ok (.iload_n 2, 1) := by decide +kernel
theorem dX4_high_27 : decode cX4_high 27 = .ok (.iaload, 1) := by decide +kernel
theorem dX4_high_28 : decode cX4_high 28 = .ok (.istore_n 2, 1) := by decide +kernel
theorem dX4_high_29 : decode cX4_high 29 = .ok (.iinc 3 1, 3) := by decide +kernel
theorem dX4_high_32 : decode cX4_high 32 = .ok (.goto (-23), 3) := by decide +kernel
theorem dX4_high_35 : decode cX4_high 35 = .ok (.iload_n 3, 1) := by decide +kernel
theorem dX4_high_36 : decode cX4_high 36 = .ok (.ireturn, 1) := by decide +kernel
theorem dX4_apart_0 : decode cX4_apart 0 = .ok (.iload_n 1, 1) := by decide +kernel
theorem dX4_apart_1 : decode cX4_apart 1 = .ok (.istore 5, 2) := by decide +kernel
theorem dX4_apart_3 : decode cX4_apart 3 = .ok (.iload_n 2, 1) := by decide +kernel
theorem dX4_apart_4 : decode cX4_apart 4 = .ok (.istore 6, 2) := by decide +kernel
theorem dX4_apart_6 : decode cX4_apart 6 = .ok (.iload_n 3, 1) := by decide +kernel
theorem dX4_apart_7 : decode cX4_apart 7 = .ok (.istore 7, 2) := by decide +kernel
theorem dX4_apart_9 : decode cX4_apart 9 = .ok (.iload 4, 2) := by decide +kernel
theorem dX4_apart_11 : decode cX4_apart 11 = .ok (.istore 8, 2) := by decide +kernel
theorem dX4_apart_13 : decode cX4_apart 13 = .ok (.iconst 0, 1) := by decide +kernel
theorem dX4_apart_14 : decode cX4_apart 14 = .ok (.istore 9, 2) := by decide +kernel
theorem dX4_apart_16 : decode cX4_apart 16 = .ok (.iload 9, 2) := by decide +kernel
theorem dX4_apart_18 : decode cX4_apart 18 = .ok (.aload_n 0, 1) := by decide +kernel
theorem dX4_apart_19 : decode cX4_apart 19 = .ok (.getfield 48, 3) := by decide +kernel
theorem dX4_apart_22 : decode cX4_apart 22 = .ok (.iconst 1, 1) := by decide +kernel
theorem dX4_apart_23 : decode cX4_apart 23 = .ok (.isub, 1) := by decide +kernel
theorem dX4_apart_24 : decode cX4_apart 24 = .ok (.if_icmp .ge 62, 3) := by decide +kernel
theorem dX4_apart_27 : decode cX4_apart 27 = .ok (.iload 5, 2) := by decide +kernel
theorem dX4_apart_29 : decode cX4_apart 29 = .ok (.iload 6, 2) := by decide +kernel
theorem dX4_apart_31 : decode cX4_apart 31 = .ok (.if_icmp .eq 55, 3) := by decide +kernel
theorem dX4_apart_34 : decode cX4_apart 34 = .ok (.iload 5, 2) := by decide +kernel
theorem dX4_apart_36 : decode cX4_apart 36 = .ok (.iconst (-1), 1) := by decide +kernel
theorem dX4_apart_37 : decode cX4_apart 37 = .ok (.if_icmp .eq 49, 3) := by decide +kernel
theorem dX4_apart_40 : decode cX4_apart 40 = .ok (.iload 6, 2) := by decide +kernel
theorem dX4_apart_42 : decode cX4_apart 42 = .ok (.iconst (-1), 1) := by decide +kernel
theorem dX4_apart_43 : decode cX4_apart 43 = .ok (.if_icmp .eq 43, 3) := by decide +kernel
theorem dX4_apart_46 : decode cX4_apart 46 = .ok (.iload 7, 2) := by decide +kernel
theorem dX4_apart_48 : decode cX4_apart 48 = .ok (.iload 8, 2) := by decide +kernel
theorem dX4_apart_50 : decode cX4_apart 50 = .ok (.if_icmp .lt 18, 3) := by decide +kernel
theorem dX4_apart_53 : decode cX4_apart 53 = .ok (.aload_n 0, 1) := by decide +kernel
theorem dX4_apart_54 : decode cX4_apart 54 = .ok (.getfield 21, 3) := by decide +kernel
theorem dX4_apart_57 : decode cX4_apart 57 = .ok (.iload 5, 2) := by decide +kernel
theorem dX4_apart_59 : decode cX4_apart 59 = .ok (.iaload, 1) := by decide +kernel
theorem dX4_apart_60 : decode cX4_apart 60 = .ok (.istore 5, 2) := by decide +kernel
theorem dX4_apart_62 : decode cX4_apart 62 = .ok (.iinc 7 (-1), 3) := by decide +kernel
theorem dX4_apart_65 : decode cX4_apart 65 = .ok (.goto 15, 3) := by decide +kernel
theorem dX4_apart_68 : decode cX4_apart 68 = .ok (.aload_n 0, 1) := by decide +kernel
theorem dX4_apart_69 : decode cX4_apart 69 = .ok (.getfield 21, 3) := by decide +kernel
theorem dX4_apart_72 : decode cX4_apart 72 = .ok (.iload 6, 2) := by decide +kernel
theorem dX4_apart_74 : decode cX4_apart 74 = .ok (.iaload, 1) := by decide +kernel
theorem dX4_apart_75 : decode cX4_apart 75 = .ok (.istore 6, 2) := by decide +kernel
theorem dX4_apart_77 : decode cX4_apart 77 = .ok (.iinc 8 (-1), 3) := by decide +kernel
theorem dX4_apart_80 : decode cX4_apart 80 = .ok (.iinc 9 1, 3) := by decide +kernel
theorem dX4_apart_83 : decode cX4_apart 83 = .ok (.goto (-67), 3) := by decide +kernel
theorem dX4_apart_86 : decode cX4_apart 86 = .ok (.iload 9, 2) := by decide +kernel
theorem dX4_apart_88 : decode cX4_apart 88 = .ok (.ireturn, 1) := by decide +kernel
theorem dX4_isBridge_0 : decode cX4_isBridge 0 = .ok (.aload_n 0, 1) := by decide +kernel
theorem dX4_isBridge_1 : decode cX4_isBridge 1 = .ok (.getfield 18, 3) := by decide +kernel
theorem dX4_isBridge_4 : decode cX4_isBridge 4 = .ok (.iload_n 1, 1) := by decide +kernel
theorem dX4_isBridge_5 : decode cX4_isBridge 5 = .ok (.iaload, 1) := by decide +kernel
theorem dX4_isBridge_6 : decode cX4_isBridge 6 = .ok (.iconst (-1), 1) := by decide +kernel
theorem dX4_isBridge_7 : decode cX4_isBridge 7 = .ok (.if_icmp .ne 7, 3) := by decide +kernel
theorem dX4_isBridge_10 : decode cX4_isBridge 10 = .ok (.iconst 1, 1) := by decide +kernel
theorem dX4_isBridge_11 : decode cX4_isBridge 11 = .ok (.goto 4, 3) := by decide +kernel
theorem dX4_isBridge_14 : decode cX4_isBridge 14 = .ok (.iconst 0, 1) := by decide +kernel
theorem dX4_isBridge_15 : decode cX4_isBridge 15 = .ok (.ireturn, 1) := by decide +kernel
theorem dX4_isAt_0 : decode cX4_isAt 0 = .ok (.aload_n 0, 1) := by decide +kernel
theorem dX4_isAt_1 : decode cX4_isAt 1 = .ok (.getfield 9, 3) := by decide +kernel
theorem dX4_isAt_4 : decode cX4_isAt 4 = .ok (.iload_n 1, 1) := by decide +kernel
theorem dX4_isAt_5 : decode cX4_isAt 5 = .ok (.iaload, 1) := by decide +kernel
theorem dX4_isAt_6 : decode cX4_isAt 6 = .ok (.iload_n 2, 1) := by decide +kernel
theorem dX4_isAt_7 : decode cX4_isAt 7 = .ok (.if_icmp .eq 13, 3) := by decide +kernel
theorem dX4_isAt_10 : decode cX4_isAt 10 = .ok (.aload_n 0, 1) := by decide +kernel
theorem dX4_isAt_11 : decode cX4_isAt 11 = .ok (.getfield 15, 3) := by decide +kernel
theorem dX4_isAt_14 : decode cX4_isAt 14 = .ok (.iload_n 1, 1) := by decide +kernel
theorem dX4_isAt_15 : decode cX4_isAt 15 = .ok (.iaload, 1) := by decide +kernel
theorem dX4_isAt_16 : decode cX4_isAt 16 = .ok (.iload_n 2, 1) := by decide +kernel
theorem dX4_isAt_17 : decode cX4_isAt 17 = .ok (.if_icmp .ne 7, 3) := by decide +kernel
theorem dX4_isAt_20 : decode cX4_isAt 20 = .ok (.iconst 1, 1) := by decide +kernel
theorem dX4_isAt_21 : decode cX4_isAt 21 = .ok (.goto 4, 3) := by decide +kernel
theorem dX4_isAt_24 : decode cX4_isAt 24 = .ok (.iconst 0, 1) := by decide +kernel
theorem dX4_isAt_25 : decode cX4_isAt 25 = .ok (.ireturn, 1) := by decide +kernel
theorem dX4_linksAt_0 : decode cX4_linksAt 0 = .ok (.iconst 0, 1) := by decide +kernel
theorem dX4_linksAt_1 : decode cX4_linksAt 1 = .ok (.istore_n 2, 1) := by decide +kernel
theorem dX4_linksAt_2 : decode cX4_linksAt 2 = .ok (.iconst 0, 1) := by decide +kernel
theorem dX4_linksAt_3 : decode cX4_linksAt 3 = .ok (.istore_n 3, 1) := by decide +kernel
theorem dX4_linksAt_4 : decode cX4_linksAt 4 = .ok (.iload_n 3, 1) := by decide +kernel
theorem dX4_linksAt_5 : decode cX4_linksAt 5 = .ok (.aload_n 0, 1) := by decide +kernel
theorem dX4_linksAt_6 : decode cX4_linksAt 6 = .ok (.getfield 52, 3) := by decide +kernel
theorem dX4_linksAt_9 : decode cX4_linksAt 9 = .ok (.if_icmp .ge 21, 3) := by decide +kernel
theorem dX4_linksAt_12 : decode cX4_linksAt 12 = .ok (.aload_n 0, 1) := by decide +kernel
theorem dX4_linksAt_13 : decode cX4_linksAt 13 = .ok (.iload_n 3, 1) := by decide +kernel
theorem dX4_linksAt_14 : decode cX4_linksAt 14 = .ok (.iload_n 1, 1) := by decide +kernel
theorem dX4_linksAt_15 : decode cX4_linksAt 15 = .ok (.invokevirtual 122, 3) := by decide +kernel
theorem dX4_linksAt_18 : decode cX4_linksAt 18 = .ok (.ifCond .eq 6, 3) := by decide +kernel
theorem dX4_linksAt_21 : decode cX4_linksAt 21 = .ok (.iinc 2 1, 3) := by decide +kernel
theorem dX4_linksAt_24 : decode cX4_linksAt 24 = .ok (.iinc 3 1, 3) := by decide +kernel
theorem dX4_linksAt_27 : decode cX4_linksAt 27 = .ok (.goto (-23), 3) := by decide +kernel
theorem dX4_linksAt_30 : decode cX4_linksAt 30 = .ok (.iload_n 2, 1) := by decide +kernel
theorem dX4_linksAt_31 : decode cX4_linksAt 31 = .ok (.ireturn, 1) := by decide +kernel
theorem dX4_bridgesAt_0 : decode cX4_bridgesAt 0 = .ok (.iconst 0, 1) := by decide +kernel
theorem dX4_bridgesAt_1 : decode cX4_bridgesAt 1 = .ok (.istore_n 2, 1) := by decide +kernel
theorem dX4_bridgesAt_2 : decode cX4_bridgesAt 2 = .ok (.iconst 0, 1) := by decide +kernel
theorem dX4_bridgesAt_3 : decode cX4_bridgesAt 3 = .ok (.istore_n 3, 1) := by decide +kernel
theorem dX4_bridgesAt_4 : decode cX4_bridgesAt 4 = .ok (.iload_n 3, 1) := by decide +kernel
theorem dX4_bridgesAt_5 : decode cX4_bridgesAt 5 = .ok (.aload_n 0, 1) := by decide +kernel
theorem dX4_bridgesAt_6 : decode cX4_bridgesAt 6 = .ok (.getfield 52, 3) := by decide +kernel
theorem dX4_bridgesAt_9 : decode cX4_bridgesAt 9 = .ok (.if_icmp .ge 29, 3) := by decide +kernel
theorem dX4_bridgesAt_12 : decode cX4_bridgesAt 12 = .ok (.aload_n 0, 1) := by decide +kernel
theorem dX4_bridgesAt_13 : decode cX4_bridgesAt 13 = .ok (.iload_n 3, 1) := by decide +kernel
theorem dX4_bridgesAt_14 : decode cX4_bridgesAt 14 = .ok (.iload_n 1, 1) := by decide +kernel
theorem dX4_bridgesAt_15 : decode cX4_bridgesAt 15 = .ok (.invokevirtual 122, 3) := by decide +kernel
theorem dX4_bridgesAt_18 : decode cX4_bridgesAt 18 = .ok (.ifCond .eq 14, 3) := by decide +kernel
theorem dX4_bridgesAt_21 : decode cX4_bridgesAt 21 = .ok (.aload_n 0, 1) := by decide +kernel
theorem dX4_bridgesAt_22 : decode cX4_bridgesAt 22 = .ok (.iload_n 3, 1) := by decide +kernel
theorem dX4_bridgesAt_23 : decode cX4_bridgesAt 23 = .ok (.invokevirtual 107, 3) := by decide +kernel
theorem dX4_bridgesAt_26 : decode cX4_bridgesAt 26 = .ok (.ifCond .eq 6, 3) := by decide +kernel
theorem dX4_bridgesAt_29 : decode cX4_bridgesAt 29 = .ok (.iinc 2 1, 3) := by decide +kernel
theorem dX4_bridgesAt_32 : decode cX4_bridgesAt 32 = .ok (.iinc 3 1, 3) := by decide +kernel
theorem dX4_bridgesAt_35 : decode cX4_bridgesAt 35 = .ok (.goto (-31), 3) := by decide +kernel
theorem dX4_bridgesAt_38 : decode cX4_bridgesAt 38 = .ok (.iload_n 2, 1) := by decide +kernel
theorem dX4_bridgesAt_39 : decode cX4_bridgesAt 39 = .ok (.ireturn, 1) := by decide +kernel
theorem dX4_linksWithin_0 : decode cX4_linksWithin 0 = .ok (.iconst 0, 1) := by decide +kernel
theorem dX4_linksWithin_1 : decode cX4_linksWithin 1 = .ok (.istore_n 2, 1) := by decide +kernel
theorem dX4_linksWithin_2 : decode cX4_linksWithin 2 = .ok (.iconst 0, 1) := by decide +kernel
theorem dX4_linksWithin_3 : decode cX4_linksWithin 3 = .ok (.istore_n 3, 1) := by decide +kernel
theorem dX4_linksWithin_4 : decode cX4_linksWithin 4 = .ok (.iload_n 3, 1) := by decide +kernel
theorem dX4_linksWithin_5 : decode cX4_linksWithin 5 = .ok (.aload_n 0, 1) := by decide +kernel
theorem dX4_linksWithin_6 : decode cX4_linksWithin 6 = .ok (.getfield 52, 3) := by decide +kernel
theorem dX4_linksWithin_9 : decode cX4_linksWithin 9 = .ok (.if_icmp .ge 38, 3) := by decide +kernel
theorem dX4_linksWithin_12 : decode cX4_linksWithin 12 = .ok (.aload_n 0, 1) := by decide +kernel
theorem dX4_linksWithin_13 : decode cX4_linksWithin 13 = .ok (.iload_n 3, 1) := by decide +kernel
theorem dX4_linksWithin_14 : decode cX4_linksWithin 14 = .ok (.invokevirtual 107, 3) := by decide +kernel
theorem dX4_linksWithin_17 : decode cX4_linksWithin 17 = .ok (.ifCond .ne 24, 3) := by decide +kernel
theorem dX4_linksWithin_20 : decode cX4_linksWithin 20 = .ok (.aload_n 0, 1) := by decide +kernel
theorem dX4_linksWithin_21 : decode cX4_linksWithin 21 = .ok (.getfield 38, 3) := by decide +kernel
theorem dX4_linksWithin_24 : decode cX4_linksWithin 24 = .ok (.getfield 67, 3) := by decide +kernel
theorem dX4_linksWithin_27 : decode cX4_linksWithin 27 = .ok (.aload_n 0, 1) := by decide +kernel
theorem dX4_linksWithin_28 : decode cX4_linksWithin 28 = .ok (.getfield 9, 3) := by decide +kernel
theorem dX4_linksWithin_31 : decode cX4_linksWithin 31 = .ok (.iload_n 3, 1) := by decide +kernel
theorem dX4_linksWithin_32 : decode cX4_linksWithin 32 = .ok (.iaload, 1) := by decide +kernel
theorem dX4_linksWithin_33 : decode cX4_linksWithin 33 = .ok (.iaload, 1) := by decide +kernel
theorem dX4_linksWithin_34 : decode cX4_linksWithin 34 = .ok (.iload_n 1, 1) := by decide +kernel
theorem dX4_linksWithin_35 : decode cX4_linksWithin 35 = .ok (.if_icmp .ne 6, 3) := by decide +kernel
theorem dX4_linksWithin_38 : decode cX4_linksWithin 38 = .ok (.iinc 2 1, 3) := by decide +kernel
theorem dX4_linksWithin_41 : decode cX4_linksWithin 41 = .ok (.iinc 3 1, 3) := by decide +kernel
theorem dX4_linksWithin_44 : decode cX4_linksWithin 44 = .ok (.goto (-40), 3) := by decide +kernel
theorem dX4_linksWithin_47 : decode cX4_linksWithin 47 = .ok (.iload_n 2, 1) := by decide +kernel
theorem dX4_linksWithin_48 : decode cX4_linksWithin 48 = .ok (.ireturn, 1) := by decide +kernel
theorem dX4_linksOf_0 : decode cX4_linksOf 0 = .ok (.iconst 0, 1) := by decide +kernel
theorem dX4_linksOf_1 : decode cX4_linksOf 1 = .ok (.istore_n 2, 1) := by decide +kernel
theorem dX4_linksOf_2 : decode cX4_linksOf 2 = .ok (.iconst 0, 1) := by decide +kernel
theorem dX4_linksOf_3 : decode cX4_linksOf 3 = .ok (.istore_n 3, 1) := by decide +kernel
theorem dX4_linksOf_4 : decode cX4_linksOf 4 = .ok (.iload_n 3, 1) := by decide +kernel
theorem dX4_linksOf_5 : decode cX4_linksOf 5 = .ok (.aload_n 0, 1) := by decide +kernel
theorem dX4_linksOf_6 : decode cX4_linksOf 6 = .ok (.getfield 52, 3) := by decide +kernel
theorem dX4_linksOf_9 : decode cX4_linksOf 9 = .ok (.if_icmp .ge 30, 3) := by decide +kernel
theorem dX4_linksOf_12 : decode cX4_linksOf 12 = .ok (.aload_n 0, 1) := by decide +kernel
theorem dX4_linksOf_13 : decode cX4_linksOf 13 = .ok (.getfield 42, 3) := by decide +kernel
theorem dX4_linksOf_16 : decode cX4_linksOf 16 = .ok (.getfield 67, 3) := by decide +kernel
theorem dX4_linksOf_19 : decode cX4_linksOf 19 = .ok (.aload_n 0, 1) := by decide +kernel
theorem dX4_linksOf_20 : decode cX4_linksOf 20 = .ok (.getfield 9, 3) := by decide +kernel
theorem dX4_linksOf_23 : decode cX4_linksOf 23 = .ok (.iload_n 3, 1) := by decide +kernel
theorem dX4_linksOf_24 : decode cX4_linksOf 24 = .ok (.iaload, 1) := by decide +kernel
theorem dX4_linksOf_25 : decode cX4_linksOf 25 = .ok (.iaload, 1) := by decide +kernel
theorem dX4_linksOf_26 : decode cX4_linksOf 26 = .ok (.iload_n 1, 1) := by decide +kernel
theorem dX4_linksOf_27 : decode cX4_linksOf 27 = .ok (.if_icmp .ne 6, 3) := by decide +kernel
theorem dX4_linksOf_30 : decode cX4_linksOf 30 = .ok (.iinc 2 1, 3) := by decide +kernel
theorem dX4_linksOf_33 : decode cX4_linksOf 33 = .ok (.iinc 3 1, 3) := by decide +kernel
theorem dX4_linksOf_36 : decode cX4_linksOf 36 = .ok (.goto (-32), 3) := by decide +kernel
theorem dX4_linksOf_39 : decode cX4_linksOf 39 = .ok (.iload_n 2, 1) := by decide +kernel
theorem dX4_linksOf_40 : decode cX4_linksOf 40 = .ok (.ireturn, 1) := by decide +kernel
theorem dX4_bridgesOf_0 : decode cX4_bridgesOf 0 = .ok (.iconst 0, 1) := by decide +kernel
theorem dX4_bridgesOf_1 : decode cX4_bridgesOf 1 = .ok (.istore_n 2, 1) := by decide +kernel
theorem dX4_bridgesOf_2 : decode cX4_bridgesOf 2 = .ok (.iconst 0, 1) := by decide +kernel
theorem dX4_bridgesOf_3 : decode cX4_bridgesOf 3 = .ok (.istore_n 3, 1) := by decide +kernel
theorem dX4_bridgesOf_4 : decode cX4_bridgesOf 4 = .ok (.iload_n 3, 1) := by decide +kernel
theorem dX4_bridgesOf_5 : decode cX4_bridgesOf 5 = .ok (.aload_n 0, 1) := by decide +kernel
theorem dX4_bridgesOf_6 : decode cX4_bridgesOf 6 = .ok (.getfield 52, 3) := by decide +kernel
theorem dX4_bridgesOf_9 : decode cX4_bridgesOf 9 = .ok (.if_icmp .ge 38, 3) := by decide +kernel
theorem dX4_bridgesOf_12 : decode cX4_bridgesOf 12 = .ok (.aload_n 0, 1) := by decide +kernel
theorem dX4_bridgesOf_13 : decode cX4_bridgesOf 13 = .ok (.iload_n 3, 1) := by decide +kernel
theorem dX4_bridgesOf_14 : decode cX4_bridgesOf 14 = .ok (.invokevirtual 107, 3) := by decide +kernel
theorem dX4_bridgesOf_17 : decode cX4_bridgesOf 17 = .ok (.ifCond .eq 24, 3) := by decide +kernel
theorem dX4_bridgesOf_20 : decode cX4_bridgesOf 20 = .ok (.aload_n 0, 1) := by decide +kernel
theorem dX4_bridgesOf_21 : decode cX4_bridgesOf 21 = .ok (.getfield 42, 3) := by decide +kernel
theorem dX4_bridgesOf_24 : decode cX4_bridgesOf 24 = .ok (.getfield 67, 3) := by decide +kernel
theorem dX4_bridgesOf_27 : decode cX4_bridgesOf 27 = .ok (.aload_n 0, 1) := by decide +kernel
theorem dX4_bridgesOf_28 : decode cX4_bridgesOf 28 = .ok (.getfield 9, 3) := by decide +kernel
theorem dX4_bridgesOf_31 : decode cX4_bridgesOf 31 = .ok (.iload_n 3, 1) := by decide +kernel
theorem dX4_bridgesOf_32 : decode cX4_bridgesOf 32 = .ok (.iaload, 1) := by decide +kernel
theorem dX4_bridgesOf_33 : decode cX4_bridgesOf 33 = .ok (.iaload, 1) := by decide +kernel
theorem dX4_bridgesOf_34 : decode cX4_bridgesOf 34 = .ok (.iload_n 1, 1) := by decide +kernel
theorem dX4_bridgesOf_35 : decode cX4_bridgesOf 35 = .ok (.if_icmp .ne 6, 3) := by decide +kernel
theorem dX4_bridgesOf_38 : decode cX4_bridgesOf 38 = .ok (.iinc 2 1, 3) := by decide +kernel
theorem dX4_bridgesOf_41 : decode cX4_bridgesOf 41 = .ok (.iinc 3 1, 3) := by decide +kernel
theorem dX4_bridgesOf_44 : decode cX4_bridgesOf 44 = .ok (.goto (-40), 3) := by decide +kernel
theorem dX4_bridgesOf_47 : decode cX4_bridgesOf 47 = .ok (.iload_n 2, 1) := by decide +kernel
theorem dX4_bridgesOf_48 : decode cX4_bridgesOf 48 = .ok (.ireturn, 1) := by decide +kernel
theorem dX4_bridgesAmong_0 : decode cX4_bridgesAmong 0 = .ok (.iconst 0, 1) := by decide +kernel
theorem dX4_bridgesAmong_1 : decode cX4_bridgesAmong 1 = .ok (.istore_n 2, 1) := by decide +kernel
theorem dX4_bridgesAmong_2 : decode cX4_bridgesAmong 2 = .ok (.iconst 0, 1) := by decide +kernel
theorem dX4_bridgesAmong_3 : decode cX4_bridgesAmong 3 = .ok (.istore_n 3, 1) := by decide +kernel
theorem dX4_bridgesAmong_4 : decode cX4_bridgesAmong 4 = .ok (.iload_n 3, 1) := by decide +kernel
theorem dX4_bridgesAmong_5 : decode cX4_bridgesAmong 5 = .ok (.iload_n 1, 1) := by decide +kernel
theorem dX4_bridgesAmong_6 : decode cX4_bridgesAmong 6 = .ok (.if_icmp .ge 38, 3) := by decide +kernel
theorem dX4_bridgesAmong_9 : decode cX4_bridgesAmong 9 = .ok (.iload_n 3, 1) := by decide +kernel
theorem dX4_bridgesAmong_10 : decode cX4_bridgesAmong 10 = .ok (.aload_n 0, 1) := by decide +kernel
theorem dX4_bridgesAmong_11 : decode cX4_bridgesAmong 11 = .ok (.getfield 52, 3) := by decide +kernel
theorem dX4_bridgesAmong_14 : decode cX4_bridgesAmong 14 = .ok (.if_icmp .ge 30, 3) := by decide +kernel
theorem dX4_bridgesAmong_17 : decode cX4_bridgesAmong 17 = .ok (.aload_n 0, 1) := by decide +kernel
theorem dX4_bridgesAmong_18 : decode cX4_bridgesAmong 18 = .ok (.iload_n 3, 1) := by decide +kernel
theorem dX4_bridgesAmong_19 : decode cX4_bridgesAmong 19 = .ok (.invokevirtual 107, 3) := by decide +kernel
theorem dX4_bridgesAmong_22 : decode cX4_bridgesAmong 22 = .ok (.ifCond .ne 13, 3) := by decide +kernel
theorem dX4_bridgesAmong_25 : decode cX4_bridgesAmong 25 = .ok (.aload_n 0, 1) := by decide +kernel
theorem dX4_bridgesAmong_26 : decode cX4_bridgesAmong 26 = .ok (.getfield 18, 3) := by decide +kernel
theorem dX4_bridgesAmong_29 : decode cX4_bridgesAmong 29 = .ok (.iload_n 3, 1) := by decide +kernel
theorem dX4_bridgesAmong_30 : decode cX4_bridgesAmong 30 = .ok (.iaload, 1) := by decide +kernel
theorem dX4_bridgesAmong_31 : decode cX4_bridgesAmong 31 = .ok (.iload_n 1, 1) := by decide +kernel
theorem dX4_bridgesAmong_32 : decode cX4_bridgesAmong 32 = .ok (.if_icmp .lt 6, 3) := by decide +kernel
theorem dX4_bridgesAmong_35 : decode cX4_bridgesAmong 35 = .ok (.iinc 2 1, 3) := by decide +kernel
theorem dX4_bridgesAmong_38 : decode cX4_bridgesAmong 38 = .ok (.iinc 3 1, 3) := by decide +kernel
theorem dX4_bridgesAmong_41 : decode cX4_bridgesAmong 41 = .ok (.goto (-37), 3) := by decide +kernel
theorem dX4_bridgesAmong_44 : decode cX4_bridgesAmong 44 = .ok (.iload_n 2, 1) := by decide +kernel
theorem dX4_bridgesAmong_45 : decode cX4_bridgesAmong 45 = .ok (.ireturn, 1) := by decide +kernel
theorem dX4_blocksOnWay_0 : decode cX4_blocksOnWay 0 = .ok (.lconst 0, 1) := by decide +kernel
theorem dX4_blocksOnWay_1 : decode cX4_blocksOnWay 1 = .ok (.lstore_n 2, 1) := by decide +kernel
theorem dX4_blocksOnWay_2 : decode cX4_blocksOnWay 2 = .ok (.iconst 0, 1) := by decide +kernel
theorem dX4_blocksOnWay_3 : decode cX4_blocksOnWay 3 = .ok (.istore 4, 2) := by decide +kernel
theorem dX4_blocksOnWay_5 : decode cX4_blocksOnWay 5 = .ok (.iload 4, 2) := by decide +kernel
theorem dX4_blocksOnWay_7 : decode cX4_blocksOnWay 7 = .ok (.iload_n 1, 1) := by decide +kernel
theorem dX4_blocksOnWay_8 : decode cX4_blocksOnWay 8 = .ok (.if_icmp .gt 30, 3) := by decide +kernel
theorem dX4_blocksOnWay_11 : decode cX4_blocksOnWay 11 = .ok (.lload_n 2, 1) := by decide +kernel
theorem dX4_blocksOnWay_12 : decode cX4_blocksOnWay 12 = .ok (.aload_n 0, 1) := by decide +kernel
theorem dX4_blocksOnWay_13 : decode cX4_blocksOnWay 13 = .ok (.getfield 38, 3) := by decide +kernel
theorem dX4_blocksOnWay_16 : decode cX4_blocksOnWay 16 = .ok (.getfield 67, 3) := by decide +kernel
theorem dX4_blocksOnWay_19 : decode cX4_blocksOnWay 19 = .ok (.aload_n 0, 1) := by decide +kernel
theorem dX4_blocksOnWay_20 : decode cX4_blocksOnWay 20 = .ok (.getfield 27, 3) := by decide +kernel
theorem dX4_blocksOnWay_23 : decode cX4_blocksOnWay 23 = .ok (.iload 4, 2) := by decide +kernel
theorem dX4_blocksOnWay_25 : decode cX4_blocksOnWay 25 = .ok (.iaload, 1) := by decide +kernel
theorem dX4_blocksOnWay_26 : decode cX4_blocksOnWay 26 = .ok (.iaload, 1) := by decide +kernel
theorem dX4_blocksOnWay_27 : decode cX4_blocksOnWay 27 = .ok (.invokestatic 92, 3) := by decide +kernel
theorem dX4_blocksOnWay_30 : decode cX4_blocksOnWay 30 = .ok (.lor, 1) := by decide +kernel
theorem dX4_blocksOnWay_31 : decode cX4_blocksOnWay 31 = .ok (.lstore_n 2, 1) := by decide +kernel
theorem dX4_blocksOnWay_32 : decode cX4_blocksOnWay 32 = .ok (.iinc 4 1, 3) := by decide +kernel
theorem dX4_blocksOnWay_35 : decode cX4_blocksOnWay 35 = .ok (.goto (-30), 3) := by decide +kernel
theorem dX4_blocksOnWay_38 : decode cX4_blocksOnWay 38 = .ok (.lload_n 2, 1) := by decide +kernel
theorem dX4_blocksOnWay_39 : decode cX4_blocksOnWay 39 = .ok (.lreturn, 1) := by decide +kernel
theorem dX4_bridgesOnWay_0 : decode cX4_bridgesOnWay 0 = .ok (.iconst 0, 1) := by decide +kernel
theorem dX4_bridgesOnWay_1 : decode cX4_bridgesOnWay 1 = .ok (.istore_n 2, 1) := by decide +kernel
theorem dX4_bridgesOnWay_2 : decode cX4_bridgesOnWay 2 = .ok (.iconst 0, 1) := by decide +kernel
theorem dX4_bridgesOnWay_3 : decode cX4_bridgesOnWay 3 = .ok (.istore_n 3, 1) := by decide +kernel
theorem dX4_bridgesOnWay_4 : decode cX4_bridgesOnWay 4 = .ok (.iload_n 3, 1) := by decide +kernel
theorem dX4_bridgesOnWay_5 : decode cX4_bridgesOnWay 5 = .ok (.iload_n 1, 1) := by decide +kernel
theorem dX4_bridgesOnWay_6 : decode cX4_bridgesOnWay 6 = .ok (.if_icmp .ge 25, 3) := by decide +kernel
theorem dX4_bridgesOnWay_9 : decode cX4_bridgesOnWay 9 = .ok (.aload_n 0, 1) := by decide +kernel
theorem dX4_bridgesOnWay_10 : decode cX4_bridgesOnWay 10 = .ok (.aload_n 0, 1) := by decide +kernel
theorem dX4_bridgesOnWay_11 : decode cX4_bridgesOnWay 11 = .ok (.getfield 30, 3) := by decide +kernel
theorem dX4_bridgesOnWay_14 : decode cX4_bridgesOnWay 14 = .ok (.iload_n 3, 1) := by decide +kernel
theorem dX4_bridgesOnWay_15 : decode cX4_bridgesOnWay 15 = .ok (.iaload, 1) := by decide +kernel
theorem dX4_bridgesOnWay_16 : decode cX4_bridgesOnWay 16 = .ok (.invokevirtual 107, 3) := by decide +kernel
theorem dX4_bridgesOnWay_19 : decode cX4_bridgesOnWay 19 = .ok (.ifCond .eq 6, 3) := by decide +kernel
theorem dX4_bridgesOnWay_22 : decode cX4_bridgesOnWay 22 = .ok (.iinc 2 1, 3) := by decide +kernel
theorem dX4_bridgesOnWay_25 : decode cX4_bridgesOnWay 25 = .ok (.iinc 3 1, 3) := by decide +kernel
theorem dX4_bridgesOnWay_28 : decode cX4_bridgesOnWay 28 = .ok (.goto (-24), 3) := by decide +kernel
theorem dX4_bridgesOnWay_31 : decode cX4_bridgesOnWay 31 = .ok (.iload_n 2, 1) := by decide +kernel
theorem dX4_bridgesOnWay_32 : decode cX4_bridgesOnWay 32 = .ok (.ireturn, 1) := by decide +kernel
theorem dX4_leavesPart_0 : decode cX4_leavesPart 0 = .ok (.iload_n 1, 1) := by decide +kernel
theorem dX4_leavesPart_1 : decode cX4_leavesPart 1 = .ok (.ifCond .le 40, 3) := by decide +kernel
theorem dX4_leavesPart_4 : decode cX4_leavesPart 4 = .ok (.aload_n 0, 1) := by decide +kernel
theorem dX4_leavesPart_5 : decode cX4_leavesPart 5 = .ok (.getfield 45, 3) := by decide +kernel
theorem dX4_leavesPart_8 : decode cX4_leavesPart 8 = .ok (.getfield 67, 3) := by decide +kernel
theorem dX4_leavesPart_11 : decode cX4_leavesPart 11 = .ok (.aload_n 0, 1) := by decide +kernel
theorem dX4_leavesPart_12 : decode cX4_leavesPart 12 = .ok (.getfield 30, 3) := by decide +kernel
theorem dX4_leavesPart_15 : decode cX4_leavesPart 15 = .ok (.iload_n 1, 1) := by decide +kernel
theorem dX4_leavesPart_16 : decode cX4_leavesPart 16 = .ok (.iconst 1, 1) := by decide +kernel
theorem dX4_leavesPart_17 : decode cX4_leavesPart 17 = .ok (.isub, 1) := by decide +kernel
theorem dX4_leavesPart_18 : decode cX4_leavesPart 18 = .ok (.iaload, 1) := by decide +kernel
theorem dX4_leavesPart_19 : decode cX4_leavesPart 19 = .ok (.iaload, 1) := by decide +kernel
theorem dX4_leavesPart_20 : decode cX4_leavesPart 20 = .ok (.aload_n 0, 1) := by decide +kernel
theorem dX4_leavesPart_21 : decode cX4_leavesPart 21 = .ok (.getfield 45, 3) := by decide +kernel
theorem dX4_leavesPart_24 : decode cX4_leavesPart 24 = .ok (.getfield 67, 3) := by decide +kernel
theorem dX4_leavesPart_27 : decode cX4_leavesPart 27 = .ok (.aload_n 0, 1) := by decide +kernel
theorem dX4_leavesPart_28 : decode cX4_leavesPart 28 = .ok (.getfield 30, 3) := by decide +kernel
theorem dX4_leavesPart_31 : decode cX4_leavesPart 31 = .ok (.iload_n 1, 1) := by decide +kernel
theorem dX4_leavesPart_32 : decode cX4_leavesPart 32 = .ok (.iaload, 1) := by decide +kernel
theorem dX4_leavesPart_33 : decode cX4_leavesPart 33 = .ok (.iaload, 1) := by decide +kernel
theorem dX4_leavesPart_34 : decode cX4_leavesPart 34 = .ok (.if_icmp .eq 7, 3) := by decide +kernel
theorem dX4_leavesPart_37 : decode cX4_leavesPart 37 = .ok (.iconst 1, 1) := by decide +kernel
theorem dX4_leavesPart_38 : decode cX4_leavesPart 38 = .ok (.goto 4, 3) := by decide +kernel
theorem dX4_leavesPart_41 : decode cX4_leavesPart 41 = .ok (.iconst 0, 1) := by decide +kernel
theorem dX4_leavesPart_42 : decode cX4_leavesPart 42 = .ok (.ireturn, 1) := by decide +kernel
theorem dX4_landSince_0 : decode cX4_landSince 0 = .ok (.iconst (-1), 1) := by decide +kernel
theorem dX4_landSince_1 : decode cX4_landSince 1 = .ok (.istore_n 2, 1) := by decide +kernel
theorem dX4_landSince_2 : decode cX4_landSince 2 = .ok (.iconst 0, 1) := by decide +kernel
theorem dX4_landSince_3 : decode cX4_landSince 3 = .ok (.istore_n 3, 1) := by decide +kernel
theorem dX4_landSince_4 : decode cX4_landSince 4 = .ok (.iload_n 3, 1) := by decide +kernel
theorem dX4_landSince_5 : decode cX4_landSince 5 = .ok (.iload_n 1, 1) := by decide +kernel
theorem dX4_landSince_6 : decode cX4_landSince 6 = .ok (.if_icmp .ge 20, 3) := by decide +kernel
theorem dX4_landSince_9 : decode cX4_landSince 9 = .ok (.iload_n 2, 1) := by decide +kernel
theorem dX4_landSince_10 : decode cX4_landSince 10 = .ok (.aload_n 0, 1) := by decide +kernel
theorem dX4_landSince_11 : decode cX4_landSince 11 = .ok (.getfield 30, 3) := by decide +kernel
theorem dX4_landSince_14 : decode cX4_landSince 14 = .ok (.iload_n 3, 1) := by decide +kernel
theorem dX4_landSince_15 : decode cX4_landSince 15 = .ok (.iaload, 1) := by decide +kernel
theorem dX4_landSince_16 : decode cX4_landSince 16 = .ok (.invokestatic 126, 3) := by decide +kernel
theorem dX4_landSince_19 : decode cX4_landSince 19 = .ok (.istore_n 2, 1) := by decide +kernel
theorem dX4_landSince_20 : decode cX4_landSince 20 = .ok (.iinc 3 1, 3) := by decide +kernel
theorem dX4_landSince_23 : decode cX4_landSince 23 = .ok (.goto (-19), 3) := by decide +kernel
theorem dX4_landSince_26 : decode cX4_landSince 26 = .ok (.iload_n 2, 1) := by decide +kernel
theorem dX4_landSince_27 : decode cX4_landSince 27 = .ok (.iconst 1, 1) := by decide +kernel
theorem dX4_landSince_28 : decode cX4_landSince 28 = .ok (.iadd, 1) := by decide +kernel
theorem dX4_landSince_29 : decode cX4_landSince 29 = .ok (.ireturn, 1) := by decide +kernel
theorem dX4_blockSince_0 : decode cX4_blockSince 0 = .ok (.iconst (-1), 1) := by decide +kernel
theorem dX4_blockSince_1 : decode cX4_blockSince 1 = .ok (.istore_n 2, 1) := by decide +kernel
theorem dX4_blockSince_2 : decode cX4_blockSince 2 = .ok (.iconst 0, 1) := by decide +kernel
theorem dX4_blockSince_3 : decode cX4_blockSince 3 = .ok (.istore_n 3, 1) := by decide +kernel
theorem dX4_blockSince_4 : decode cX4_blockSince 4 = .ok (.iload_n 3, 1) := by decide +kernel
theorem dX4_blockSince_5 : decode cX4_blockSince 5 = .ok (.iload_n 1, 1) := by decide +kernel
theorem dX4_blockSince_6 : decode cX4_blockSince 6 = .ok (.if_icmp .ge 40, 3) := by decide +kernel
theorem dX4_blockSince_9 : decode cX4_blockSince 9 = .ok (.aload_n 0, 1) := by decide +kernel
theorem dX4_blockSince_10 : decode cX4_blockSince 10 = .ok (.aload_n 0, 1) := by decide +kernel
theorem dX4_blockSince_11 : decode cX4_blockSince 11 = .ok (.getfield 30, 3) := by decide +kernel
theorem dX4_blockSince_14 : decode cX4_blockSince 14 = .ok (.iload_n 3, 1) := by decide +kernel
theorem dX4_blockSince_15 : decode cX4_blockSince 15 = .ok (.iaload, 1) := by decide +kernel
theorem dX4_blockSince_16 : decode cX4_blockSince 16 = .ok (.invokevirtual 107, 3) := by decide +kernel
theorem dX4_blockSince_19 : decode cX4_blockSince 19 = .ok (.ifCond .eq 5, 3) := by decide +kernel
theorem dX4_blockSince_22 : decode cX4_blockSince 22 = .ok (.iconst (-1), 1) := by decide +kernel
theorem dX4_blockSince_23 : decode cX4_blockSince 23 = .ok (.ireturn, 1) := by decide +kernel
theorem dX4_blockSince_24 : decode cX4_blockSince 24 = .ok (.iload_n 2, 1) := by decide +kernel
theorem dX4_blockSince_25 : decode cX4_blockSince 25 = .ok (.aload_n 0, 1) := by decide +kernel
theorem dX4_blockSince_26 : decode cX4_blockSince 26 = .ok (.getfield 18, 3) := by decide +kernel
theorem dX4_blockSince_29 : decode cX4_blockSince 29 = .ok (.aload_n 0, 1) := by decide +kernel
theorem dX4_blockSince_30 : decode cX4_blockSince 30 = .ok (.getfield 30, 3) := by decide +kernel
theorem dX4_blockSince_33 : decode cX4_blockSince 33 = .ok (.iload_n 3, 1) := by decide +kernel
theorem dX4_blockSince_34 : decode cX4_blockSince 34 = .ok (.iaload, 1) := by decide +kernel
theorem dX4_blockSince_35 : decode cX4_blockSince 35 = .ok (.iaload, 1) := by decide +kernel
theorem dX4_blockSince_36 : decode cX4_blockSince 36 = .ok (.invokestatic 126, 3) := by decide +kernel
theorem dX4_blockSince_39 : decode cX4_blockSince 39 = .ok (.istore_n 2, 1) := by decide +kernel
theorem dX4_blockSince_40 : decode cX4_blockSince 40 = .ok (.iinc 3 1, 3) := by decide +kernel
theorem dX4_blockSince_43 : decode cX4_blockSince 43 = .ok (.goto (-39), 3) := by decide +kernel
theorem dX4_blockSince_46 : decode cX4_blockSince 46 = .ok (.iload_n 2, 1) := by decide +kernel
theorem dX4_blockSince_47 : decode cX4_blockSince 47 = .ok (.iconst 1, 1) := by decide +kernel
theorem dX4_blockSince_48 : decode cX4_blockSince 48 = .ok (.iadd, 1) := by decide +kernel
theorem dX4_blockSince_49 : decode cX4_blockSince 49 = .ok (.ireturn, 1) := by decide +kernel
theorem dX4_ringSince_0 : decode cX4_ringSince 0 = .ok (.iload_n 1, 1) := by decide +kernel
theorem dX4_ringSince_1 : decode cX4_ringSince 1 = .ok (.iconst 1, 1) := by decide +kernel
theorem dX4_ringSince_2 : decode cX4_ringSince 2 = .ok (.if_icmp .ne 9, 3) := by decide +kernel
theorem dX4_ringSince_5 : decode cX4_ringSince 5 = .ok (.aload_n 0, 1) := by decide +kernel
theorem dX4_ringSince_6 : decode cX4_ringSince 6 = .ok (.iload_n 1, 1) := by decide +kernel
theorem dX4_ringSince_7 : decode cX4_ringSince 7 = .ok (.invokevirtual 131, 3) := by decide +kernel
theorem dX4_ringSince_10 : decode cX4_ringSince 10 = .ok (.ireturn, 1) := by decide +kernel
theorem dX4_ringSince_11 : decode cX4_ringSince 11 = .ok (.iconst (-1), 1) := by decide +kernel
theorem dX4_ringSince_12 : decode cX4_ringSince 12 = .ok (.istore_n 2, 1) := by decide +kernel
theorem dX4_ringSince_13 : decode cX4_ringSince 13 = .ok (.iconst 1, 1) := by decide +kernel
theorem dX4_ringSince_14 : decode cX4_ringSince 14 = .ok (.istore_n 3, 1) := by decide +kernel
theorem dX4_ringSince_15 : decode cX4_ringSince 15 = .ok (.iload_n 3, 1) := by decide +kernel
theorem dX4_ringSince_16 : decode cX4_ringSince 16 = .ok (.iload_n 1, 1) := by decide +kernel
theorem dX4_ringSince_17 : decode cX4_ringSince 17 = .ok (.if_icmp .ge 47, 3) := by decide +kernel
theorem dX4_ringSince_20 : decode cX4_ringSince 20 = .ok (.aload_n 0, 1) := by decide +kernel
theorem dX4_ringSince_21 : decode cX4_ringSince 21 = .ok (.getfield 45, 3) := by decide +kernel
theorem dX4_ringSince_24 : decode cX4_ringSince 24 = .ok (.aload_n 0, 1) := by decide +kernel
theorem dX4_ringSince_25 : decode cX4_ringSince 25 = .ok (.getfield 30, 3) := by decide +kernel
theorem dX4_ringSince_28 : decode cX4_ringSince 28 = .ok (.iload_n 3, 1) := by decide +kernel
theorem dX4_ringSince_29 : decode cX4_ringSince 29 = .ok (.iconst 1, 1) := by decide +kernel
theorem dX4_ringSince_30 : decode cX4_ringSince 30 = .ok (.isub, 1) := by decide +kernel
theorem dX4_ringSince_31 : decode cX4_ringSince 31 = .ok (.iaload, 1) := by decide +kernel
theorem dX4_ringSince_32 : decode cX4_ringSince 32 = .ok (.aload_n 0, 1) := by decide +kernel
theorem dX4_ringSince_33 : decode cX4_ringSince 33 = .ok (.getfield 30, 3) := by decide +kernel
theorem dX4_ringSince_36 : decode cX4_ringSince 36 = .ok (.iload_n 3, 1) := by decide +kernel
theorem dX4_ringSince_37 : decode cX4_ringSince 37 = .ok (.iaload, 1) := by decide +kernel
theorem dX4_ringSince_38 : decode cX4_ringSince 38 = .ok (.invokevirtual 134, 3) := by decide +kernel
theorem dX4_ringSince_41 : decode cX4_ringSince 41 = .ok (.istore 4, 2) := by decide +kernel
theorem dX4_ringSince_43 : decode cX4_ringSince 43 = .ok (.iload 4, 2) := by decide +kernel
theorem dX4_ringSince_45 : decode cX4_ringSince 45 = .ok (.iconst (-1), 1) := by decide +kernel
theorem dX4_ringSince_46 : decode cX4_ringSince 46 = .ok (.if_icmp .ne 5, 3) := by decide +kernel
theorem dX4_ringSince_49 : decode cX4_ringSince 49 = .ok (.iconst (-1), 1) := by decide +kernel
theorem dX4_ringSince_50 : decode cX4_ringSince 50 = .ok (.ireturn, 1) := by decide +kernel
theorem dX4_ringSince_51 : decode cX4_ringSince 51 = .ok (.iload_n 2, 1) := by decide +kernel
theorem dX4_ringSince_52 : decode cX4_ringSince 52 = .ok (.iload 4, 2) := by decide +kernel
theorem dX4_ringSince_54 : decode cX4_ringSince 54 = .ok (.invokestatic 126, 3) := by decide +kernel
theorem dX4_ringSince_57 : decode cX4_ringSince 57 = .ok (.istore_n 2, 1) := by decide +kernel
theorem dX4_ringSince_58 : decode cX4_ringSince 58 = .ok (.iinc 3 1, 3) := by decide +kernel
theorem dX4_ringSince_61 : decode cX4_ringSince 61 = .ok (.goto (-46), 3) := by decide +kernel
theorem dX4_ringSince_64 : decode cX4_ringSince 64 = .ok (.iload_n 2, 1) := by decide +kernel
theorem dX4_ringSince_65 : decode cX4_ringSince 65 = .ok (.iconst 1, 1) := by decide +kernel
theorem dX4_ringSince_66 : decode cX4_ringSince 66 = .ok (.iadd, 1) := by decide +kernel
theorem dX4_ringSince_67 : decode cX4_ringSince 67 = .ok (.ireturn, 1) := by decide +kernel
theorem dX5_init_0 : decode cX5_init 0 = .ok (.aload_n 0, 1) := by decide +kernel
theorem dX5_init_1 : decode cX5_init 1 = .ok (.invokespecial 3, 3) := by decide +kernel
theorem dX5_init_4 : decode cX5_init 4 = .ok (.aload_n 0, 1) := by decide +kernel
theorem dX5_init_5 : decode cX5_init 5 = .ok (.new 9, 3) := by decide +kernel
theorem dX5_init_8 : decode cX5_init 8 = .ok (.dup, 1) := by decide +kernel
theorem dX5_init_9 : decode cX5_init 9 = .ok (.invokespecial 11, 3) := by decide +kernel
theorem dX5_init_12 : decode cX5_init 12 = .ok (.putfield 12, 3) := by decide +kernel
theorem dX5_init_15 : decode cX5_init 15 = .ok (.aload_n 0, 1) := by decide +kernel
theorem dX5_init_16 : decode cX5_init 16 = .ok (.new 9, 3) := by decide +kernel
theorem dX5_init_19 : decode cX5_init 19 = .ok (.dup, 1) := by decide +kernel
theorem dX5_init_20 : decode cX5_init 20 = .ok (.invokespecial 11, 3) := by decide +kernel
theorem dX5_init_23 : decode cX5_init 23 = .ok (.putfield 16, 3) := by decide +kernel
theorem dX5_init_26 : decode cX5_init 26 = .ok (.aload_n 0, 1) := by decide +kernel
theorem dX5_init_27 : decode cX5_init 27 = .ok (.new 19, 3) := by decide +kernel
theorem dX5_init_30 : decode cX5_init 30 = .ok (.dup, 1) := by decide +kernel
theorem dX5_init_31 : decode cX5_init 31 = .ok (.invokespecial 21, 3) := by decide +kernel
theorem dX5_init_34 : decode cX5_init 34 = .ok (.putfield 22, 3) := by decide +kernel
theorem dX5_init_37 : decode cX5_init 37 = .ok (.aload_n 0, 1) := by decide +kernel
theorem dX5_init_38 : decode cX5_init 38 = .ok (.new 26, 3) := by decide +kernel
theorem dX5_init_41 : decode cX5_init 41 = .ok (.dup, 1) := by decide +kernel
theorem dX5_init_42 : decode cX5_init 42 = .ok (.invokespecial 28, 3) := by decide +kernel
theorem dX5_init_45 : decode cX5_init 45 = .ok (.putfield 29, 3) := by decide +kernel
theorem dX5_init_48 : decode cX5_init 48 = .ok (.aload_n 0, 1) := by decide +kernel
theorem dX5_init_49 : decode cX5_init 49 = .ok (.new 33, 3) := by decide +kernel
theorem dX5_init_52 : decode cX5_init 52 = .ok (.dup, 1) := by decide +kernel
theorem dX5_init_53 : decode cX5_init 53 = .ok (.invokespecial 35, 3) := by decide +kernel
theorem dX5_init_56 : decode cX5_init 56 = .ok (.putfield 36, 3) := by decide +kernel
theorem dX5_init_59 : decode cX5_init 59 = .ok (.aload_n 0, 1) := by decide +kernel
theorem dX5_init_60 : decode cX5_init 60 = .ok (.iconst 0, 1) := by decide +kernel
theorem dX5_init_61 : decode cX5_init 61 = .ok (.putfield 40, 3) := by decide +kernel
theorem dX5_init_64 : decode cX5_init 64 = .ok (.aload_n 0, 1) := by decide +kernel
theorem dX5_init_65 : decode cX5_init 65 = .ok (.getfield 12, 3) := by decide +kernel
theorem dX5_init_68 : decode cX5_init 68 = .ok (.bipush 8, 2) := by decide +kernel
theorem dX5_init_70 : decode cX5_init 70 = .ok (.invokevirtual 44, 3) := by decide +kernel
theorem dX5_init_73 : decode cX5_init 73 = .ok (.aload_n 0, 1) := by decide +kernel
theorem dX5_init_74 : decode cX5_init 74 = .ok (.invokevirtual 48, 3) := by decide +kernel
theorem dX5_init_77 : decode cX5_init 77 = .ok (.return_, 1) := by decide +kernel
theorem dX5_nodes_0 : decode cX5_nodes 0 = .ok (.iload_n 1, 1) := by decide +kernel
theorem dX5_nodes_1 : decode cX5_nodes 1 = .ok (.iconst 2, 1) := by decide +kernel
theorem dX5_nodes_2 : decode cX5_nodes 2 = .ok (.if_icmp .lt 9, 3) := by decide +kernel
theorem dX5_nodes_5 : decode cX5_nodes 5 = .ok (.iload_n 1, 1) := by decide +kernel
theorem dX5_nodes_6 : decode cX5_nodes 6 = .ok (.bipush 32, 2) := by decide +kernel
theorem dX5_nodes_8 : decode cX5_nodes 8 = .ok (.if_icmp .le 5, 3) := by decide +kernel
theorem dX5_nodes_11 : decode cX5_nodes 11 = .ok (.iconst 0, 1) := by decide +kernel
theorem dX5_nodes_12 : decode cX5_nodes 12 = .ok (.ireturn, 1) := by decide +kernel
theorem dX5_nodes_13 : decode cX5_nodes 13 = .ok (.aload_n 0, 1) := by decide +kernel
theorem dX5_nodes_14 : decode cX5_nodes 14 = .ok (.getfield 12, 3) := by decide +kernel
theorem dX5_nodes_17 : decode cX5_nodes 17 = .ok (.iload_n 1, 1) := by decide +kernel
theorem dX5_nodes_18 : decode cX5_nodes 18 = .ok (.invokevirtual 44, 3) := by decide +kernel
theorem dX5_nodes_21 : decode cX5_nodes 21 = .ok (.aload_n 0, 1) := by decide +kernel
theorem dX5_nodes_22 : decode cX5_nodes 22 = .ok (.invokevirtual 48, 3) := by decide +kernel
theorem dX5_nodes_25 : decode cX5_nodes 25 = .ok (.iconst 1, 1) := by decide +kernel
theorem dX5_nodes_26 : decode cX5_nodes 26 = .ok (.ireturn, 1) := by decide +kernel
theorem dX5_link_0 : decode cX5_link 0 = .ok (.aload_n 0, 1) := by decide +kernel
theorem dX5_link_1 : decode cX5_link 1 = .ok (.iload_n 1, 1) := by decide +kernel
theorem dX5_link_2 : decode cX5_link 2 = .ok (.iload_n 2, 1) := by decide +kernel
theorem dX5_link_3 : decode cX5_link 3 = .ok (.invokevirtual 51, 3) := by decide +kernel
theorem dX5_link_6 : decode cX5_link 6 = .ok (.ifCond .eq 15, 3) := by decide +kernel
theorem dX5_link_9 : decode cX5_link 9 = .ok (.aload_n 0, 1) := by decide +kernel
theorem dX5_link_10 : decode cX5_link 10 = .ok (.getfield 12, 3) := by decide +kernel
theorem dX5_link_13 : decode cX5_link 13 = .ok (.getfield 55, 3) := by decide +kernel
theorem dX5_link_16 : decode cX5_link 16 = .ok (.bipush 64, 2) := by decide +kernel
theorem dX5_link_18 : decode cX5_link 18 = .ok (.if_icmp .lt 5, 3) := by decide +kernel
theorem dX5_link_21 : decode cX5_link 21 = .ok (.iconst (-1), 1) := by decide +kernel
theorem dX5_link_22 : decode cX5_link 22 = .ok (.ireturn, 1) := by decide +kernel
theorem dX5_link_23 : decode cX5_link 23 = .ok (.aload_n 0, 1) := by decide +kernel
theorem dX5_link_24 : decode cX5_link 24 = .ok (.getfield 12, 3) := by decide +kernel
theorem dX5_link_27 : decode cX5_link 27 = .ok (.iload_n 1, 1) := by decide +kernel
theorem dX5_link_28 : decode cX5_link 28 = .ok (.iload_n 2, 1) := by decide +kernel
theorem dX5_link_29 : decode cX5_link 29 = .ok (.invokevirtual 58, 3) := by decide +kernel
theorem dX5_link_32 : decode cX5_link 32 = .ok (.istore_n 3, 1) := by decide +kernel
theorem dX5_link_33 : decode cX5_link 33 = .ok (.aload_n 0, 1) := by decide +kernel
theorem dX5_link_34 : decode cX5_link 34 = .ok (.invokevirtual 48, 3) := by decide +kernel
theorem dX5_link_37 : decode cX5_link 37 = .ok (.iload_n 3, 1) := by decide +kernel
theorem dX5_link_38 : decode cX5_link 38 = .ok (.ireturn, 1) := by decide +kernel
theorem dX5_undo_0 : decode cX5_undo 0 = .ok (.iload_n 1, 1) := by decide +kernel
theorem dX5_undo_1 : decode cX5_undo 1 = .ok (.ifCond .lt 14, 3) := by decide +kernel
theorem dX5_undo_4 : decode cX5_undo 4 = .ok (.iload_n 1, 1) := by decide +kernel
theorem dX5_undo_5 : decode cX5_undo 5 = .ok (.aload_n 0, 1) := by decide +kernel
theorem dX5_undo_6 : decode cX5_undo 6 = .ok (.getfield 12, 3) := by decide +kernel
theorem dX5_undo_9 : decode cX5_undo 9 = .ok (.getfield 55, 3) := by decide +kernel
theorem dX5_undo_12 : decode cX5_undo 12 = .ok (.if_icmp .le 5, 3) := by decide +kernel
theorem dX5_undo_15 : decode cX5_undo 15 = .ok (.iconst (-1), 1) := by decide +kernel
theorem dX5_undo_16 : decode cX5_undo 16 = .ok (.ireturn, 1) := by decide +kernel
theorem dX5_undo_17 : decode cX5_undo 17 = .ok (.iload_n 1, 1) := by decide +kernel
theorem dX5_undo_18 : decode cX5_undo 18 = .ok (.ifCond .le 23, 3) := by decide +kernel
theorem dX5_undo_21 : decode cX5_undo 21 = .ok (.aload_n 0, 1) := by decide +kernel
theorem dX5_undo_22 : decode cX5_undo 22 = .ok (.getfield 12, 3) := by decide +kernel
theorem dX5_undo_25 : decode cX5_undo 25 = .ok (.aload_n 0, 1) := by decide +kernel
theorem dX5_undo_26 : decode cX5_undo 26 = .ok (.getfield 12, 3) := by decide +kernel
theorem dX5_undo_29 : decode cX5_undo 29 = .ok (.getfield 55, 3) := by decide +kernel
theorem dX5_undo_32 : decode cX5_undo 32 = .ok (.iload_n 1, 1) := by decide +kernel
theorem dX5_undo_33 : decode cX5_undo 33 = .ok (.isub, 1) := by decide +kernel
theorem dX5_undo_34 : decode cX5_undo 34 = .ok (.invokevirtual 62, 3) := by decide +kernel
theorem dX5_undo_37 : decode cX5_undo 37 = .ok (.aload_n 0, 1) := by decide +kernel
theorem dX5_undo_38 : decode cX5_undo 38 = .ok (.invokevirtual 48, 3) := by decide +kernel
theorem dX5_undo_41 : decode cX5_undo 41 = .ok (.aload_n 0, 1) := by decide +kernel
theorem dX5_undo_42 : decode cX5_undo 42 = .ok (.getfield 12, 3) := by decide +kernel
theorem dX5_undo_45 : decode cX5_undo 45 = .ok (.getfield 55, 3) := by decide +kernel
theorem dX5_undo_48 : decode cX5_undo 48 = .ok (.ireturn, 1) := by decide +kernel
theorem dX5_rain_0 : decode cX5_rain 0 = .ok (.iload_n 1, 1) := by decide +kernel
theorem dX5_rain_1 : decode cX5_rain 1 = .ok (.iconst 1, 1) := by decide +kernel
theorem dX5_rain_2 : decode cX5_rain 2 = .ok (.if_icmp .lt 17, 3) := by decide +kernel
theorem dX5_rain_5 : decode cX5_rain 5 = .ok (.iload_n 1, 1) := by decide +kernel
theorem dX5_rain_6 : decode cX5_rain 6 = .ok (.bipush 64, 2) := by decide +kernel
theorem dX5_rain_8 : decode cX5_rain 8 = .ok (.aload_n 0, 1) := by decide +kernel
theorem dX5_rain_9 : decode cX5_rain 9 = .ok (.getfield 12, 3) := by decide +kernel
theorem dX5_rain_12 : decode cX5_rain 12 = .ok (.getfield 55, 3) := by decide +kernel
theorem dX5_rain_15 : decode cX5_rain 15 = .ok (.isub, 1) := by decide +kernel
theorem dX5_rain_16 : decode cX5_rain 16 = .ok (.if_icmp .le 5, 3) := by decide +kernel
theorem dX5_rain_19 : decode cX5_rain 19 = .ok (.iconst (-1), 1) := by decide +kernel
theorem dX5_rain_20 : decode cX5_rain 20 = .ok (.ireturn, 1) := by decide +kernel
theorem dX5_rain_21 : decode cX5_rain 21 = .ok (.iconst 0, 1) := by decide +kernel
theorem dX5_rain_22 : decode cX5_rain 22 = .ok (.istore_n 2, 1) := by decide +kernel
theorem dX5_rain_23 : decode cX5_rain 23 = .ok (.iload_n 2, 1) := by decide +kernel
theorem dX5_rain_24 : decode cX5_rain 24 = .ok (.iload_n 1, 1) := by decide +kernel
theorem dX5_rain_25 : decode cX5_rain 25 = .ok (.if_icmp .ge 60, 3) := by decide +kernel
theorem dX5_rain_28 : decode cX5_rain 28 = .ok (.aload_n 0, 1) := by decide +kernel
theorem dX5_rain_29 : decode cX5_rain 29 = .ok (.aload_n 0, 1) := by decide +kernel
theorem dX5_rain_30 : decode cX5_rain 30 = .ok (.getfield 12, 3) := by decide +kernel
theorem dX5_rain_33 : decode cX5_rain 33 = .ok (.getfield 65, 3) := by decide +kernel
theorem dX5_rain_36 : decode cX5_rain 36 = .ok (.invokevirtual 68, 3) := by decide +kernel
theorem dX5_rain_39 : decode cX5_rain 39 = .ok (.istore_n 3, 1) := by decide +kernel
theorem dX5_rain_40 : decode cX5_rain 40 = .ok (.aload_n 0, 1) := by decide +kernel
theorem dX5_rain_41 : decode cX5_rain 41 = .ok (.aload_n 0, 1) := by decide +kernel
theorem dX5_rain_42 : decode cX5_rain 42 = .ok (.getfield 12, 3) := by decide +kernel
theorem dX5_rain_45 : decode cX5_rain 45 = .ok (.getfield 65, 3) := by decide +kernel
theorem dX5_rain_48 : decode cX5_rain 48 = .ok (.iconst 1, 1) := by decide +kernel
theorem dX5_rain_49 : decode cX5_rain 49 = .ok (.isub, 1) := by decide +kernel
theorem dX5_rain_50 : decode cX5_rain 50 = .ok (.invokevirtual 68, 3) := by decide +kernel
theorem dX5_rain_53 : decode cX5_rain 53 = .ok (.istore 4, 2) := by decide +kernel
theorem dX5_rain_55 : decode cX5_rain 55 = .ok (.aload_n 0, 1) := by decide +kernel
theorem dX5_rain_56 : decode cX5_rain 56 = .ok (.getfield 12, 3) := by decide +kernel
theorem dX5_rain_59 : decode cX5_rain 59 = .ok (.iload_n 3, 1) := by decide +kernel
theorem dX5_rain_60 : decode cX5_rain 60 = .ok (.iload 4, 2) := by decide +kernel
theorem dX5_rain_62 : decode cX5_rain 62 = .ok (.iload_n 3, 1) := by decide +kernel
theorem dX5_rain_63 : decode cX5_rain 63 = .ok (.if_icmp .ge 8, 3) := by decide +kernel
theorem dX5_rain_66 : decode cX5_rain 66 = .ok (.iload 4, 2) := by decide +kernel
theorem dX5_rain_68 : decode cX5_rain 68 = .ok (.goto 7, 3) := by decide +kernel
theorem dX5_rain_71 : decode cX5_rain 71 = .ok (.iload 4, 2) := by decide +kernel
theorem dX5_rain_73 : decode cX5_rain 73 = .ok (.iconst 1, 1) := by decide +kernel
theorem dX5_rain_74 : decode cX5_rain 74 = .ok (.iadd, 1) := by decide +kernel
theorem dX5_rain_75 : decode cX5_rain 75 = .ok (.invokevirtual 58, 3) := by decide +kernel
theorem dX5_rain_78 : decode cX5_rain 78 = .ok (.pop, 1) := by decide +kernel
theorem dX5_rain_79 : decode cX5_rain 79 = .ok (.iinc 2 1, 3) := by decide +kernel
theorem dX5_rain_82 : decode cX5_rain 82 = .ok (.goto (-59), 3) := by decide +kernel
theorem dX5_rain_85 : decode cX5_rain 85 = .ok (.aload_n 0, 1) := by decide +kernel
theorem dX5_rain_86 : decode cX5_rain 86 = .ok (.invokevirtual 48, 3) := by decide +kernel
theorem dX5_rain_89 : decode cX5_rain 89 = .ok (.aload_n 0, 1) := by decide +kernel
theorem dX5_rain_90 : decode cX5_rain 90 = .ok (.getfield 12, 3) := by decide +kernel
theorem dX5_rain_93 : decode cX5_rain 93 = .ok (.getfield 55, 3) := by decide +kernel
theorem dX5_rain_96 : decode cX5_rain 96 = .ok (.ireturn, 1) := by decide +kernel
theorem dX5_state_0 : decode cX5_state 0 = .ok (.aload_n 0, 1) := by decide +kernel
theorem dX5_state_1 : decode cX5_state 1 = .ok (.getfield 40, 3) := by decide +kernel
theorem dX5_state_4 : decode cX5_state 4 = .ok (.istore_n 2, 1) := by decide +kernel
theorem dX5_state_5 : decode cX5_state 5 = .ok (.aload_n 0, 1) := by decide +kernel
theorem dX5_state_6 : decode cX5_state 6 = .ok (.iload_n 1, 1) := by decide +kernel
theorem dX5_state_7 : decode cX5_state 7 = .ok (.putfield 40, 3) := by decide +kernel
theorem dX5_state_10 : decode cX5_state 10 = .ok (.iload_n 2, 1) := by decide +kernel
theorem dX5_state_11 : decode cX5_state 11 = .ok (.ireturn, 1) := by decide +kernel
theorem dX5_draw_0 : decode cX5_draw 0 = .ok (.aload_n 0, 1) := by decide +kernel
theorem dX5_draw_1 : decode cX5_draw 1 = .ok (.aload_n 0, 1) := by decide +kernel
theorem dX5_draw_2 : decode cX5_draw 2 = .ok (.getfield 40, 3) := by decide +kernel
theorem dX5_draw_5 : decode cX5_draw 5 = .ok (.ldc 72, 2) := by decide +kernel
theorem dX5_draw_7 : decode cX5_draw 7 = .ok (.imul, 1) := by decide +kernel
theorem dX5_draw_8 : decode cX5_draw 8 = .ok (.ldc 73, 2) := by decide +kernel
theorem dX5_draw_10 : decode cX5_draw 10 = .ok (.iadd, 1) := by decide +kernel
theorem dX5_draw_11 : decode cX5_draw 11 = .ok (.putfield 40, 3) := by decide +kernel
theorem dX5_draw_14 : decode cX5_draw 14 = .ok (.iload_n 1, 1) := by decide +kernel
theorem dX5_draw_15 : decode cX5_draw 15 = .ok (.iconst 1, 1) := by decide +kernel
theorem dX5_draw_16 : decode cX5_draw 16 = .ok (.if_icmp .ge 7, 3) := by decide +kernel
theorem dX5_draw_19 : decode cX5_draw 19 = .ok (.iconst 0, 1) := by decide +kernel
theorem dX5_draw_20 : decode cX5_draw 20 = .ok (.goto 12, 3) := by decide +kernel
theorem dX5_draw_23 : decode cX5_draw 23 = .ok (.aload_n 0, 1) := by decide +kernel
theorem dX5_draw_24 : decode cX5_draw 24 = .ok (.getfield 40, 3) := by decide +kernel
theorem dX5_draw_27 : decode cX5_draw 27 = .ok (.bipush 8, 2) := by decide +kernel
theorem dX5_draw_29 : decode cX5_draw 29 = .ok (.iushr, 1) := by decide +kernel
theorem dX5_draw_30 : decode cX5_draw 30 = .ok (.iload_n 1, 1) := by decide +kernel
theorem dX5_draw_31 : decode cX5_draw 31 = .ok (.irem, 1) := by decide +kernel
theorem dX5_draw_32 : decode cX5_draw 32 = .ok (.ireturn, 1) := by decide +kernel
theorem dX5_readAgain_0 : decode cX5_readAgain 0 = .ok (.aload_n 0, 1) := by decide +kernel
theorem dX5_readAgain_1 : decode cX5_readAgain 1 = .ok (.getfield 22, 3) := by decide +kernel
theorem dX5_readAgain_4 : decode cX5_readAgain 4 = .ok (.aload_n 0, 1) := by decide +kernel
theorem dX5_readAgain_5 : decode cX5_readAgain 5 = .ok (.getfield 12, 3) := by decide +kernel
theorem dX5_readAgain_8 : decode cX5_readAgain 8 = .ok (.invokevirtual 74, 3) := by decide +kernel
theorem dX5_readAgain_11 : decode cX5_readAgain 11 = .ok (.aload_n 0, 1) := by decide +kernel
theorem dX5_readAgain_12 : decode cX5_readAgain 12 = .ok (.getfield 29, 3) := by decide +kernel
theorem dX5_readAgain_15 : decode cX5_readAgain 15 = .ok (.aload_n 0, 1) := by decide +kernel
theorem dX5_readAgain_16 : decode cX5_readAgain 16 = .ok (.getfield 12, 3) := by decide +kernel
theorem dX5_readAgain_19 : decode cX5_readAgain 19 = .ok (.invokevirtual 78, 3) := by decide +kernel
theorem dX5_readAgain_22 : decode cX5_readAgain 22 = .ok (.return_, 1) := by decide +kernel
theorem dX5_linkOf_0 : decode cX5_linkOf 0 = .ok (.aload_n 0, 1) := by decide +kernel
theorem dX5_linkOf_1 : decode cX5_linkOf 1 = .ok (.iload_n 1, 1) := by decide +kernel
theorem dX5_linkOf_2 : decode cX5_linkOf 2 = .ok (.invokevirtual 79, 3) := by decide +kernel
theorem dX5_linkOf_5 : decode cX5_linkOf 5 = .ok (.ifCond .ne 5, 3) := by decide +kernel
theorem dX5_linkOf_8 : decode cX5_linkOf 8 = .ok (.iconst (-1), 1) := by decide +kernel
theorem dX5_linkOf_9 : decode cX5_linkOf 9 = .ok (.ireturn, 1) := by decide +kernel
theorem dX5_linkOf_10 : decode cX5_linkOf 10 = .ok (.iload_n 2, 1) := by decide +kernel
theorem dX5_linkOf_11 : decode cX5_linkOf 11 = .ok (.tableswitch 174 0 7 #[45, 55, 65, 82, 92, 113, 137, 161], 45) := by decide +kernel
theorem dX5_linkOf_56 : decode cX5_linkOf 56 = .ok (.aload_n 0, 1) := by decide +kernel
theorem dX5_linkOf_57 : decode cX5_linkOf 57 = .ok (.getfield 12, 3) := by decide +kernel
theorem dX5_linkOf_60 : decode cX5_linkOf 60 = .ok (.getfield 83, 3) := by decide +kernel
theorem dX5_linkOf_63 : decode cX5_linkOf 63 = .ok (.iload_n 1, 1) := by decide +kernel
theorem dX5_linkOf_64 : decode cX5_linkOf 64 = .ok (.iaload, 1) := by decide +kernel
theorem dX5_linkOf_65 : decode cX5_linkOf 65 = .ok (.ireturn, 1) := by decide +kernel
theorem dX5_linkOf_66 : decode cX5_linkOf 66 = .ok (.aload_n 0, 1) := by decide +kernel
theorem dX5_linkOf_67 : decode cX5_linkOf 67 = .ok (.getfield 12, 3) := by decide +kernel
theorem dX5_linkOf_70 : decode cX5_linkOf 70 = .ok (.getfield 87, 3) := by decide +kernel
theorem dX5_linkOf_73 : decode cX5_linkOf 73 = .ok (.iload_n 1, 1) := by decide +kernel
theorem dX5_linkOf_74 : decode cX5_linkOf 74 = .ok (.iaload, 1) := by decide +kernel
theorem dX5_linkOf_75 : decode cX5_linkOf 75 = .ok (.ireturn, 1) := by decide +kernel
theorem dX5_linkOf_76 : decode cX5_linkOf 76 = .ok (.aload_n 0, 1) := by decide +kernel
theorem dX5_linkOf_77 : decode cX5_linkOf 77 = .ok (.getfield 12, 3) := by decide +kernel
theorem dX5_linkOf_80 : decode cX5_linkOf 80 = .ok (.iload_n 1, 1) := by decide +kernel
theorem dX5_linkOf_81 : decode cX5_linkOf 81 = .ok (.invokevirtual 90, 3) := by decide +kernel
theorem dX5_linkOf_84 : decode cX5_linkOf 84 = .ok (.ifCond .eq 7, 3) := by decide +kernel
theorem dX5_linkOf_87 : decode cX5_linkOf 87 = .ok (.iconst 1, 1) := by decide +kernel
theorem dX5_linkOf_88 : decode cX5_linkOf 88 = .ok (.goto 4, 3) := by decide +kernel
theorem dX5_linkOf_91 : decode cX5_linkOf 91 = .ok (.iconst 0, 1) := by decide +kernel
theorem dX5_linkOf_92 : decode cX5_linkOf 92 = .ok (.ireturn, 1) := by decide +kernel
theorem dX5_linkOf_93 : decode cX5_linkOf 93 = .ok (.aload_n 0, 1) := by decide +kernel
theorem dX5_linkOf_94 : decode cX5_linkOf 94 = .ok (.getfield 12, 3) := by decide +kernel
theorem dX5_linkOf_97 : decode cX5_linkOf 97 = .ok (.getfield 93, 3) := by decide +kernel
theorem dX5_linkOf_100 : decode cX5_linkOf 100 = .ok (.iload_n 1, 1) := by decide +kernel
theorem dX5_linkOf_101 : decode cX5_linkOf 101 = .ok (.iaload, 1) := by decide +kernel
theorem dX5_linkOf_102 : decode cX5_linkOf 102 = .ok (.ireturn, 1) := by decide +kernel
theorem dX5_linkOf_103 : decode cX5_linkOf 103 = .ok (.aload_n 0, 1) := by decide +kernel
theorem dX5_linkOf_104 : decode cX5_linkOf 104 = .ok (.getfield 29, 3) := by decide +kernel
theorem dX5_linkOf_107 : decode cX5_linkOf 107 = .ok (.getfield 96, 3) := by decide +kernel
theorem dX5_linkOf_110 : decode cX5_linkOf 110 = .ok (.aload_n 0, 1) := by decide +kernel
theorem dX5_linkOf_111 : decode cX5_linkOf 111 = .ok (.getfield 12, 3) := by decide +kernel
theorem dX5_linkOf_114 : decode cX5_linkOf 114 = .ok (.getfield 99, 3) := by decide +kernel
theorem dX5_linkOf_117 : decode cX5_linkOf 117 = .ok (.getfield 103, 3) := by decide +kernel
theorem dX5_linkOf_120 : decode cX5_linkOf 120 = .ok (.iload_n 1, 1) := by decide +kernel
theorem dX5_linkOf_121 : decode cX5_linkOf 121 = .ok (.iaload, 1) := by decide +kernel
theorem dX5_linkOf_122 : decode cX5_linkOf 122 = .ok (.iaload, 1) := by decide +kernel
theorem dX5_linkOf_123 : decode cX5_linkOf 123 = .ok (.ireturn, 1) := by decide +kernel
theorem dX5_linkOf_124 : decode cX5_linkOf 124 = .ok (.aload_n 0, 1) := by decide +kernel
theorem dX5_linkOf_125 : decode cX5_linkOf 125 = .ok (.iload_n 1, 1) := by decide +kernel
theorem dX5_linkOf_126 : decode cX5_linkOf 126 = .ok (.aload_n 0, 1) := by decide +kernel
theorem dX5_linkOf_127 : decode cX5_linkOf 127 = .ok (.getfield 12, 3) := by decide +kernel
theorem dX5_linkOf_130 : decode cX5_linkOf 130 = .ok (.getfield 83, 3) := by decide +kernel
theorem dX5_linkOf_133 : decode cX5_linkOf 133 = .ok (.iload_n 1, 1) := by decide +kernel
theorem dX5_linkOf_134 : decode cX5_linkOf 134 = .ok (.iaload, 1) := by decide +kernel
theorem dX5_linkOf_135 : decode cX5_linkOf 135 = .ok (.aload_n 0, 1) := by decide +kernel
theorem dX5_linkOf_136 : decode cX5_linkOf 136 = .ok (.getfield 12, 3) := by decide +kernel
theorem dX5_linkOf_139 : decode cX5_linkOf 139 = .ok (.getfield 87, 3) := by decide +kernel
theorem dX5_linkOf_142 : decode cX5_linkOf 142 = .ok (.iload_n 1, 1) := by decide +kernel
theorem dX5_linkOf_143 : decode cX5_linkOf 143 = .ok (.iaload, 1) := by decide +kernel
theorem dX5_linkOf_144 : decode cX5_linkOf 144 = .ok (.invokevirtual 108, 3) := by decide +kernel
theorem dX5_linkOf_147 : decode cX5_linkOf 147 = .ok (.ireturn, 1) := by decide +kernel
theorem dX5_linkOf_148 : decode cX5_linkOf 148 = .ok (.aload_n 0, 1) := by decide +kernel
theorem dX5_linkOf_149 : decode cX5_linkOf 149 = .ok (.iload_n 1, 1) := by decide +kernel
theorem dX5_linkOf_150 : decode cX5_linkOf 150 = .ok (.aload_n 0, 1) := by decide +kernel
theorem dX5_linkOf_151 : decode cX5_linkOf 151 = .ok (.getfield 12, 3) := by decide +kernel
theorem dX5_linkOf_154 : decode cX5_linkOf 154 = .ok (.getfield 87, 3) := by decide +kernel
theorem dX5_linkOf_157 : decode cX5_linkOf 157 = .ok (.iload_n 1, 1) := by decide +kernel
theorem dX5_linkOf_158 : decode cX5_linkOf 158 = .ok (.iaload, 1) := by decide +kernel
theorem dX5_linkOf_159 : decode cX5_linkOf 159 = .ok (.aload_n 0, 1) := by decide +kernel
theorem dX5_linkOf_160 : decode cX5_linkOf 160 = .ok (.getfield 12, 3) := by decide +kernel
theorem dX5_linkOf_163 : decode cX5_linkOf 163 = .ok (.getfield 83, 3) := by decide +kernel
theorem dX5_linkOf_166 : decode cX5_linkOf 166 = .ok (.iload_n 1, 1) := by decide +kernel
theorem dX5_linkOf_167 : decode cX5_linkOf 167 = .ok (.iaload, 1) := by decide +kernel
theorem dX5_linkOf_168 : decode cX5_linkOf 168 = .ok (.invokevirtual 108, 3) := by decide +kernel
theorem dX5_linkOf_171 : decode cX5_linkOf 171 = .ok (.ireturn, 1) := by decide +kernel
theorem dX5_linkOf_172 : decode cX5_linkOf 172 = .ok (.aload_n 0, 1) := by decide +kernel
theorem dX5_linkOf_173 : decode cX5_linkOf 173 = .ok (.getfield 12, 3) := by decide +kernel
theorem dX5_linkOf_176 : decode cX5_linkOf 176 = .ok (.getfield 99, 3) := by decide +kernel
theorem dX5_linkOf_179 : decode cX5_linkOf 179 = .ok (.getfield 103, 3) := by decide +kernel
theorem dX5_linkOf_182 : decode cX5_linkOf 182 = .ok (.iload_n 1, 1) := by decide +kernel
theorem dX5_linkOf_183 : decode cX5_linkOf 183 = .ok (.iaload, 1) := by decide +kernel
theorem dX5_linkOf_184 : decode cX5_linkOf 184 = .ok (.ireturn, 1) := by decide +kernel
theorem dX5_linkOf_185 : decode cX5_linkOf 185 = .ok (.iconst (-1), 1) := by decide +kernel
theorem dX5_linkOf_186 : decode cX5_linkOf 186 = .ok (.ireturn, 1) := by decide +kernel
theorem dX5_sideOf_0 : decode cX5_sideOf 0 = .ok (.aload_n 0, 1) := by decide +kernel
theorem dX5_sideOf_1 : decode cX5_sideOf 1 = .ok (.getfield 12, 3) := by decide +kernel
theorem dX5_sideOf_4 : decode cX5_sideOf 4 = .ok (.iload_n 1, 1) := by decide +kernel
theorem dX5_sideOf_5 : decode cX5_sideOf 5 = .ok (.invokevirtual 90, 3) := by decide +kernel
theorem dX5_sideOf_8 : decode cX5_sideOf 8 = .ok (.ifCond .ne 5, 3) := by decide +kernel
theorem dX5_sideOf_11 : decode cX5_sideOf 11 = .ok (.iconst (-1), 1) := by decide +kernel
theorem dX5_sideOf_12 : decode cX5_sideOf 12 = .ok (.ireturn, 1) := by decide +kernel
theorem dX5_sideOf_13 : decode cX5_sideOf 13 = .ok (.aload_n 0, 1) := by decide +kernel
theorem dX5_sideOf_14 : decode cX5_sideOf 14 = .ok (.getfield 12, 3) := by decide +kernel
theorem dX5_sideOf_17 : decode cX5_sideOf 17 = .ok (.getfield 112, 3) := by decide +kernel
theorem dX5_sideOf_20 : decode cX5_sideOf 20 = .ok (.iload_n 2, 1) := by decide +kernel
theorem dX5_sideOf_21 : decode cX5_sideOf 21 = .ok (.iaload, 1) := by decide +kernel
theorem dX5_sideOf_22 : decode cX5_sideOf 22 = .ok (.iload_n 1, 1) := by decide +kernel
theorem dX5_sideOf_23 : decode cX5_sideOf 23 = .ok (.if_icmp .ne 24, 3) := by decide +kernel
theorem dX5_sideOf_26 : decode cX5_sideOf 26 = .ok (.aload_n 0, 1) := by decide +kernel
theorem dX5_sideOf_27 : decode cX5_sideOf 27 = .ok (.getfield 22, 3) := by decide +kernel
theorem dX5_sideOf_30 : decode cX5_sideOf 30 = .ok (.getfield 115, 3) := by decide +kernel
theorem dX5_sideOf_33 : decode cX5_sideOf 33 = .ok (.aload_n 0, 1) := by decide +kernel
theorem dX5_sideOf_34 : decode cX5_sideOf 34 = .ok (.getfield 12, 3) := by decide +kernel
theorem dX5_sideOf_37 : decode cX5_sideOf 37 = .ok (.getfield 118, 3) := by decide +kernel
theorem dX5_sideOf_40 : decode cX5_sideOf 40 = .ok (.getfield 103, 3) := by decide +kernel
theorem dX5_sideOf_43 : decode cX5_sideOf 43 = .ok (.iload_n 2, 1) := by decide +kernel
theorem dX5_sideOf_44 : decode cX5_sideOf 44 = .ok (.iaload, 1) := by decide +kernel
theorem dX5_sideOf_45 : decode cX5_sideOf 45 = .ok (.iaload, 1) := by decide +kernel
theorem dX5_sideOf_46 : decode cX5_sideOf 46 = .ok (.ireturn, 1) := by decide +kernel
theorem dX5_sideOf_47 : decode cX5_sideOf 47 = .ok (.aload_n 0, 1) := by decide +kernel
theorem dX5_sideOf_48 : decode cX5_sideOf 48 = .ok (.getfield 12, 3) := by decide +kernel
theorem dX5_sideOf_51 : decode cX5_sideOf 51 = .ok (.getfield 121, 3) := by decide +kernel
theorem dX5_sideOf_54 : decode cX5_sideOf 54 = .ok (.getfield 124, 3) := by decide +kernel
theorem dX5_sideOf_57 : decode cX5_sideOf 57 = .ok (.aload_n 0, 1) := by decide +kernel
theorem dX5_sideOf_58 : decode cX5_sideOf 58 = .ok (.getfield 12, 3) := by decide +kernel
theorem dX5_sideOf_61 : decode cX5_sideOf 61 = .ok (.getfield 121, 3) := by decide +kernel
theorem dX5_sideOf_64 : decode cX5_sideOf 64 = .ok (.getfield 103, 3) := by decide +kernel
theorem dX5_sideOf_67 : decode cX5_sideOf 67 = .ok (.iload_n 2, 1) := by decide +kernel
theorem dX5_sideOf_68 : decode cX5_sideOf 68 = .ok (.iaload, 1) := by decide +kernel
theorem dX5_sideOf_69 : decode cX5_sideOf 69 = .ok (.iaload, 1) := by decide +kernel
theorem dX5_sideOf_70 : decode cX5_sideOf 70 = .ok (.aload_n 0, 1) := by decide +kernel
theorem dX5_sideOf_71 : decode cX5_sideOf 71 = .ok (.getfield 22, 3) := by decide +kernel
theorem dX5_sideOf_74 : decode cX5_sideOf 74 = .ok (.getfield 115, 3) := by decide +kernel
theorem dX5_sideOf_77 : decode cX5_sideOf 77 = .ok (.aload_n 0, 1) := by decide +kernel
theorem dX5_sideOf_78 : decode cX5_sideOf 78 = .ok (.getfield 12, 3) := by decide +kernel
theorem dX5_sideOf_81 : decode cX5_sideOf 81 = .ok (.getfield 118, 3) := by decide +kernel
theorem dX5_sideOf_84 : decode cX5_sideOf 84 = .ok (.getfield 103, 3) := by decide +kernel
theorem dX5_sideOf_87 : decode cX5_sideOf 87 = .ok (.iload_n 3, 1) := by decide +kernel
theorem dX5_sideOf_88 : decode cX5_sideOf 88 = .ok (.iaload, 1) := by decide +kernel
theorem dX5_sideOf_89 : decode cX5_sideOf 89 = .ok (.iaload, 1) := by decide +kernel
theorem dX5_sideOf_90 : decode cX5_sideOf 90 = .ok (.isub, 1) := by decide +kernel
theorem dX5_sideOf_91 : decode cX5_sideOf 91 = .ok (.ireturn, 1) := by decide +kernel
theorem dX5_bridge_0 : decode cX5_bridge 0 = .ok (.iconst 0, 1) := by decide +kernel
theorem dX5_bridge_1 : decode cX5_bridge 1 = .ok (.istore_n 2, 1) := by decide +kernel
theorem dX5_bridge_2 : decode cX5_bridge 2 = .ok (.iconst 0, 1) := by decide +kernel
theorem dX5_bridge_3 : decode cX5_bridge 3 = .ok (.istore_n 3, 1) := by decide +kernel
theorem dX5_bridge_4 : decode cX5_bridge 4 = .ok (.iload_n 3, 1) := by decide +kernel
theorem dX5_bridge_5 : decode cX5_bridge 5 = .ok (.aload_n 0, 1) := by decide +kernel
theorem dX5_bridge_6 : decode cX5_bridge 6 = .ok (.getfield 12, 3) := by decide +kernel
theorem dX5_bridge_9 : decode cX5_bridge 9 = .ok (.getfield 55, 3) := by decide +kernel
theorem dX5_bridge_12 : decode cX5_bridge 12 = .ok (.if_icmp .ge 30, 3) := by decide +kernel
theorem dX5_bridge_15 : decode cX5_bridge 15 = .ok (.aload_n 0, 1) := by decide +kernel
theorem dX5_bridge_16 : decode cX5_bridge 16 = .ok (.getfield 12, 3) := by decide +kernel
theorem dX5_bridge_19 : decode cX5_bridge 19 = .ok (.iload_n 3, 1) := by decide +kernel
theorem dX5_bridge_20 : decode cX5_bridge 20 = .ok (.invokevirtual 90, 3) := by decide +kernel
theorem dX5_bridge_23 : decode cX5_bridge 23 = .ok (.ifCond .eq 13, 3) := by decide +kernel
theorem dX5_bridge_26 : decode cX5_bridge 26 = .ok (.iload_n 2, 1) := by decide +kernel
theorem dX5_bridge_27 : decode cX5_bridge 27 = .ok (.iload_n 1, 1) := by decide +kernel
theorem dX5_bridge_28 : decode cX5_bridge 28 = .ok (.if_icmp .ne 5, 3) := by decide +kernel
theorem dX5_bridge_31 : decode cX5_bridge 31 = .ok (.iload_n 3, 1) := by decide +kernel
theorem dX5_bridge_32 : decode cX5_bridge 32 = .ok (.ireturn, 1) := by decide +kernel
theorem dX5_bridge_33 : decode cX5_bridge 33 = .ok (.iinc 2 1, 3) := by decide +kernel
theorem dX5_bridge_36 : decode cX5_bridge 36 = .ok (.iinc 3 1, 3) := by decide +kernel
theorem dX5_bridge_39 : decode cX5_bridge 39 = .ok (.goto (-35), 3) := by decide +kernel
theorem dX5_bridge_42 : decode cX5_bridge 42 = .ok (.iload_n 1, 1) := by decide +kernel
theorem dX5_bridge_43 : decode cX5_bridge 43 = .ok (.iconst (-1), 1) := by decide +kernel
theorem dX5_bridge_44 : decode cX5_bridge 44 = .ok (.if_icmp .ne 7, 3) := by decide +kernel
theorem dX5_bridge_47 : decode cX5_bridge 47 = .ok (.iload_n 2, 1) := by decide +kernel
theorem dX5_bridge_48 : decode cX5_bridge 48 = .ok (.goto 4, 3) := by decide +kernel
theorem dX5_bridge_51 : decode cX5_bridge 51 = .ok (.iconst (-1), 1) := by decide +kernel
theorem dX5_bridge_52 : decode cX5_bridge 52 = .ok (.ireturn, 1) := by decide +kernel
theorem dX5_node_0 : decode cX5_node 0 = .ok (.aload_n 0, 1) := by decide +kernel
theorem dX5_node_1 : decode cX5_node 1 = .ok (.iload_n 1, 1) := by decide +kernel
theorem dX5_node_2 : decode cX5_node 2 = .ok (.invokevirtual 127, 3) := by decide +kernel
theorem dX5_node_5 : decode cX5_node 5 = .ok (.ifCond .ne 5, 3) := by decide +kernel
theorem dX5_node_8 : decode cX5_node 8 = .ok (.iconst (-1), 1) := by decide +kernel
theorem dX5_node_9 : decode cX5_node 9 = .ok (.ireturn, 1) := by decide +kernel
theorem dX5_node_10 : decode cX5_node 10 = .ok (.iload_n 2, 1) := by decide +kernel
theorem dX5_node_11 : decode cX5_node 11 = .ok (.tableswitch 136 0 6 #[41, 54, 67, 76, 85, 98, 115], 41) := by decide +kernel
theorem dX5_node_52 : decode cX5_node 52 = .ok (.aload_n 0, 1) := by decide +kernel
theorem dX5_node_53 : decode cX5_node 53 = .ok (.getfield 12, 3) := by decide +kernel
theorem dX5_node_56 : decode cX5_node 56 = .ok (.getfield 118, 3) := by decide +kernel
theorem dX5_node_59 : decode cX5_node 59 = .ok (.getfield 103, 3) := by decide +kernel
theorem dX5_node_62 : decode cX5_node 62 = .ok (.iload_n 1, 1) := by decide +kernel
theorem dX5_node_63 : decode cX5_node 63 = .ok (.iaload, 1) := by decide +kernel
theorem dX5_node_64 : decode cX5_node 64 = .ok (.ireturn, 1) := by decide +kernel
theorem dX5_node_65 : decode cX5_node 65 = .ok (.aload_n 0, 1) := by decide +kernel
theorem dX5_node_66 : decode cX5_node 66 = .ok (.getfield 12, 3) := by decide +kernel
theorem dX5_node_69 : decode cX5_node 69 = .ok (.getfield 121, 3) := by decide +kernel
theorem dX5_node_72 : decode cX5_node 72 = .ok (.getfield 103, 3) := by decide +kernel
theorem dX5_node_75 : decode cX5_node 75 = .ok (.iload_n 1, 1) := by decide +kernel
theorem dX5_node_76 : decode cX5_node 76 = .ok (.iaload, 1) := by decide +kernel
theorem dX5_node_77 : decode cX5_node 77 = .ok (.ireturn, 1) := by decide +kernel
theorem dX5_node_78 : decode cX5_node 78 = .ok (.aload_n 0, 1) := by decide +kernel
theorem dX5_node_79 : decode cX5_node 79 = .ok (.getfield 12, 3) := by decide +kernel
theorem dX5_node_82 : decode cX5_node 82 = .ok (.iload_n 1, 1) := by decide +kernel
theorem dX5_node_83 : decode cX5_node 83 = .ok (.invokevirtual 130, 3) := by decide +kernel
theorem dX5_node_86 : decode cX5_node 86 = .ok (.ireturn, 1) := by decide +kernel
theorem dX5_node_87 : decode cX5_node 87 = .ok (.aload_n 0, 1) := by decide +kernel
theorem dX5_node_88 : decode cX5_node 88 = .ok (.getfield 12, 3) := by decide +kernel
theorem dX5_node_91 : decode cX5_node 91 = .ok (.iload_n 1, 1) := by decide +kernel
theorem dX5_node_92 : decode cX5_node 92 = .ok (.invokevirtual 133, 3) := by decide +kernel
theorem dX5_node_95 : decode cX5_node 95 = .ok (.ireturn, 1) := by decide +kernel
theorem dX5_node_96 : decode cX5_node 96 = .ok (.aload_n 0, 1) := by decide +kernel
theorem dX5_node_97 : decode cX5_node 97 = .ok (.getfield 29, 3) := by decide +kernel
theorem dX5_node_100 : decode cX5_node 100 = .ok (.getfield 136, 3) := by decide +kernel
theorem dX5_node_103 : decode cX5_node 103 = .ok (.iload_n 1, 1) := by decide +kernel
theorem dX5_node_104 : decode cX5_node 104 = .ok (.laload, 1) := by decide +kernel
theorem dX5_node_105 : decode cX5_node 105 = .ok (.invokestatic 140, 3) := by decide +kernel
theorem dX5_node_108 : decode cX5_node 108 = .ok (.ireturn, 1) := by decide +kernel
theorem dX5_node_109 : decode cX5_node 109 = .ok (.aload_n 0, 1) := by decide +kernel
theorem dX5_node_110 : decode cX5_node 110 = .ok (.getfield 29, 3) := by decide +kernel
theorem dX5_node_113 : decode cX5_node 113 = .ok (.iload_n 1, 1) := by decide +kernel
theorem dX5_node_114 : decode cX5_node 114 = .ok (.invokevirtual 146, 3) := by decide +kernel
theorem dX5_node_117 : decode cX5_node 117 = .ok (.ifCond .eq 7, 3) := by decide +kernel
theorem dX5_node_120 : decode cX5_node 120 = .ok (.iconst 1, 1) := by decide +kernel
theorem dX5_node_121 : decode cX5_node 121 = .ok (.goto 4, 3) := by decide +kernel
theorem dX5_node_124 : decode cX5_node 124 = .ok (.iconst 0, 1) := by decide +kernel
theorem dX5_node_125 : decode cX5_node 125 = .ok (.ireturn, 1) := by decide +kernel
theorem dX5_node_126 : decode cX5_node 126 = .ok (.aload_n 0, 1) := by decide +kernel
theorem dX5_node_127 : decode cX5_node 127 = .ok (.getfield 22, 3) := by decide +kernel
theorem dX5_node_130 : decode cX5_node 130 = .ok (.getfield 149, 3) := by decide +kernel
theorem dX5_node_133 : decode cX5_node 133 = .ok (.aload_n 0, 1) := by decide +kernel
theorem dX5_node_134 : decode cX5_node 134 = .ok (.getfield 12, 3) := by decide +kernel
theorem dX5_node_137 : decode cX5_node 137 = .ok (.getfield 118, 3) := by decide +kernel
theorem dX5_node_140 : decode cX5_node 140 = .ok (.getfield 103, 3) := by decide +kernel
theorem dX5_node_143 : decode cX5_node 143 = .ok (.iload_n 1, 1) := by decide +kernel
theorem dX5_node_144 : decode cX5_node 144 = .ok (.iaload, 1) := by decide +kernel
theorem dX5_node_145 : decode cX5_node 145 = .ok (.iaload, 1) := by decide +kernel
theorem dX5_node_146 : decode cX5_node 146 = .ok (.ireturn, 1) := by decide +kernel
theorem dX5_node_147 : decode cX5_node 147 = .ok (.iconst (-1), 1) := by decide +kernel
theorem dX5_node_148 : decode cX5_node 148 = .ok (.ireturn, 1) := by decide +kernel
theorem dX5_block_0 : decode cX5_block 0 = .ok (.aload_n 0, 1) := by decide +kernel
theorem dX5_block_1 : decode cX5_block 1 = .ok (.getfield 12, 3) := by decide +kernel
theorem dX5_block_4 : decode cX5_block 4 = .ok (.getfield 118, 3) := by decide +kernel
theorem dX5_block_7 : decode cX5_block 7 = .ok (.iload_n 1, 1) := by decide +kernel
theorem dX5_block_8 : decode cX5_block 8 = .ok (.invokevirtual 152, 3) := by decide +kernel
theorem dX5_block_11 : decode cX5_block 11 = .ok (.ifCond .ne 5, 3) := by decide +kernel
theorem dX5_block_14 : decode cX5_block 14 = .ok (.iconst (-1), 1) := by decide +kernel
theorem dX5_block_15 : decode cX5_block 15 = .ok (.ireturn, 1) := by decide +kernel
theorem dX5_block_16 : decode cX5_block 16 = .ok (.iload_n 2, 1) := by decide +kernel
theorem dX5_block_17 : decode cX5_block 17 = .ok (.tableswitch 191 0 10 #[59, 72, 79, 88, 98, 108, 118, 128, 138, 154, 181], 59) := by decide +kernel
theorem dX5_block_76 : decode cX5_block 76 = .ok (.aload_n 0, 1) := by decide +kernel
theorem dX5_block_77 : decode cX5_block 77 = .ok (.getfield 12, 3) := by decide +kernel
theorem dX5_block_80 : decode cX5_block 80 = .ok (.getfield 118, 3) := by decide +kernel
theorem dX5_block_83 : decode cX5_block 83 = .ok (.getfield 124, 3) := by decide +kernel
theorem dX5_block_86 : decode cX5_block 86 = .ok (.iload_n 1, 1) := by decide +kernel
theorem dX5_block_87 : decode cX5_block 87 = .ok (.iaload, 1) := by decide +kernel
theorem dX5_block_88 : decode cX5_block 88 = .ok (.ireturn, 1) := by decide +kernel
theorem dX5_block_89 : decode cX5_block 89 = .ok (.aload_n 0, 1) := by decide +kernel
theorem dX5_block_90 : decode cX5_block 90 = .ok (.iload_n 1, 1) := by decide +kernel
theorem dX5_block_91 : decode cX5_block 91 = .ok (.iconst 0, 1) := by decide +kernel
theorem dX5_block_92 : decode cX5_block 92 = .ok (.invokevirtual 155, 3) := by decide +kernel
theorem dX5_block_95 : decode cX5_block 95 = .ok (.ireturn, 1) := by decide +kernel
theorem dX5_block_96 : decode cX5_block 96 = .ok (.aload_n 0, 1) := by decide +kernel
theorem dX5_block_97 : decode cX5_block 97 = .ok (.getfield 12, 3) := by decide +kernel
theorem dX5_block_100 : decode cX5_block 100 = .ok (.iload_n 1, 1) := by decide +kernel
theorem dX5_block_101 : decode cX5_block 101 = .ok (.invokevirtual 158, 3) := by decide +kernel
theorem dX5_block_104 : decode cX5_block 104 = .ok (.ireturn, 1) := by decide +kernel
theorem dX5_block_105 : decode cX5_block 105 = .ok (.aload_n 0, 1) := by decide +kernel
theorem dX5_block_106 : decode cX5_block 106 = .ok (.getfield 22, 3) := by decide +kernel
theorem dX5_block_109 : decode cX5_block 109 = .ok (.getfield 161, 3) := by decide +kernel
theorem dX5_block_112 : decode cX5_block 112 = .ok (.iload_n 1, 1) := by decide +kernel
theorem dX5_block_113 : decode cX5_block 113 = .ok (.iaload, 1) := by decide +kernel
theorem dX5_block_114 : decode cX5_block 114 = .ok (.ireturn, 1) := by decide +kernel
theorem dX5_block_115 : decode cX5_block 115 = .ok (.aload_n 0, 1) := by decide +kernel
theorem dX5_block_116 : decode cX5_block 116 = .ok (.getfield 22, 3) := by decide +kernel
theorem dX5_block_119 : decode cX5_block 119 = .ok (.getfield 163, 3) := by decide +kernel
theorem dX5_block_122 : decode cX5_block 122 = .ok (.iload_n 1, 1) := by decide +kernel
theorem dX5_block_123 : decode cX5_block 123 = .ok (.iaload, 1) := by decide +kernel
theorem dX5_block_124 : decode cX5_block 124 = .ok (.ireturn, 1) := by decide +kernel
theorem dX5_block_125 : decode cX5_block 125 = .ok (.aload_n 0, 1) := by decide +kernel
theorem dX5_block_126 : decode cX5_block 126 = .ok (.getfield 22, 3) := by decide +kernel
theorem dX5_block_129 : decode cX5_block 129 = .ok (.getfield 166, 3) := by decide +kernel
theorem dX5_block_132 : decode cX5_block 132 = .ok (.iload_n 1, 1) := by decide +kernel
theorem dX5_block_133 : decode cX5_block 133 = .ok (.iaload, 1) := by decide +kernel
theorem dX5_block_134 : decode cX5_block 134 = .ok (.ireturn, 1) := by decide +kernel
theorem dX5_block_135 : decode cX5_block 135 = .ok (.aload_n 0, 1) := by decide +kernel
theorem dX5_block_136 : decode cX5_block 136 = .ok (.getfield 22, 3) := by decide +kernel
theorem dX5_block_139 : decode cX5_block 139 = .ok (.getfield 149, 3) := by decide +kernel
theorem dX5_block_142 : decode cX5_block 142 = .ok (.iload_n 1, 1) := by decide +kernel
theorem dX5_block_143 : decode cX5_block 143 = .ok (.iaload, 1) := by decide +kernel
theorem dX5_block_144 : decode cX5_block 144 = .ok (.ireturn, 1) := by decide +kernel
theorem dX5_block_145 : decode cX5_block 145 = .ok (.aload_n 0, 1) := by decide +kernel
theorem dX5_block_146 : decode cX5_block 146 = .ok (.getfield 22, 3) := by decide +kernel
theorem dX5_block_149 : decode cX5_block 149 = .ok (.getfield 167, 3) := by decide +kernel
theorem dX5_block_152 : decode cX5_block 152 = .ok (.iload_n 1, 1) := by decide +kernel
theorem dX5_block_153 : decode cX5_block 153 = .ok (.iaload, 1) := by decide +kernel
theorem dX5_block_154 : decode cX5_block 154 = .ok (.ireturn, 1) := by decide +kernel
theorem dX5_block_155 : decode cX5_block 155 = .ok (.aload_n 0, 1) := by decide +kernel
theorem dX5_block_156 : decode cX5_block 156 = .ok (.getfield 29, 3) := by decide +kernel
theorem dX5_block_159 : decode cX5_block 159 = .ok (.aload_n 0, 1) := by decide +kernel
theorem dX5_block_160 : decode cX5_block 160 = .ok (.getfield 12, 3) := by decide +kernel
theorem dX5_block_163 : decode cX5_block 163 = .ok (.getfield 118, 3) := by decide +kernel
theorem dX5_block_166 : decode cX5_block 166 = .ok (.iload_n 1, 1) := by decide +kernel
theorem dX5_block_167 : decode cX5_block 167 = .ok (.invokevirtual 170, 3) := by decide +kernel
theorem dX5_block_170 : decode cX5_block 170 = .ok (.ireturn, 1) := by decide +kernel
theorem dX5_block_171 : decode cX5_block 171 = .ok (.aload_n 0, 1) := by decide +kernel
theorem dX5_block_172 : decode cX5_block 172 = .ok (.getfield 29, 3) := by decide +kernel
theorem dX5_block_175 : decode cX5_block 175 = .ok (.aload_n 0, 1) := by decide +kernel
theorem dX5_block_176 : decode cX5_block 176 = .ok (.getfield 12, 3) := by decide +kernel
theorem dX5_block_179 : decode cX5_block 179 = .ok (.getfield 118, 3) := by decide +kernel
theorem dX5_block_182 : decode cX5_block 182 = .ok (.iload_n 1, 1) := by decide +kernel
theorem dX5_block_183 : decode cX5_block 183 = .ok (.invokevirtual 174, 3) := by decide +kernel
theorem dX5_block_186 : decode cX5_block 186 = .ok (.aload_n 0, 1) := by decide +kernel
theorem dX5_block_187 : decode cX5_block 187 = .ok (.getfield 29, 3) := by decide +kernel
theorem dX5_block_190 : decode cX5_block 190 = .ok (.getfield 178, 3) := by decide +kernel
theorem dX5_block_193 : decode cX5_block 193 = .ok (.land, 1) := by decide +kernel
theorem dX5_block_194 : decode cX5_block 194 = .ok (.invokestatic 140, 3) := by decide +kernel
theorem dX5_block_197 : decode cX5_block 197 = .ok (.ireturn, 1) := by decide +kernel
theorem dX5_block_198 : decode cX5_block 198 = .ok (.aload_n 0, 1) := by decide +kernel
theorem dX5_block_199 : decode cX5_block 199 = .ok (.getfield 22, 3) := by decide +kernel
theorem dX5_block_202 : decode cX5_block 202 = .ok (.getfield 115, 3) := by decide +kernel
theorem dX5_block_205 : decode cX5_block 205 = .ok (.iload_n 1, 1) := by decide +kernel
theorem dX5_block_206 : decode cX5_block 206 = .ok (.iaload, 1) := by decide +kernel
theorem dX5_block_207 : decode cX5_block 207 = .ok (.ireturn, 1) := by decide +kernel
theorem dX5_block_208 : decode cX5_block 208 = .ok (.iconst (-1), 1) := by decide +kernel
theorem dX5_block_209 : decode cX5_block 209 = .ok (.ireturn, 1) := by decide +kernel
theorem dX5_member_0 : decode cX5_member 0 = .ok (.aload_n 0, 1) := by decide +kernel
theorem dX5_member_1 : decode cX5_member 1 = .ok (.getfield 12, 3) := by decide +kernel
theorem dX5_member_4 : decode cX5_member 4 = .ok (.getfield 118, 3) := by decide +kernel
theorem dX5_member_7 : decode cX5_member 7 = .ok (.iload_n 1, 1) := by decide +kernel
theorem dX5_member_8 : decode cX5_member 8 = .ok (.invokevirtual 152, 3) := by decide +kernel
theorem dX5_member_11 : decode cX5_member 11 = .ok (.ifCond .ne 5, 3) := by decide +kernel
theorem dX5_member_14 : decode cX5_member 14 = .ok (.iconst (-1), 1) := by decide +kernel
theorem dX5_member_15 : decode cX5_member 15 = .ok (.ireturn, 1) := by decide +kernel
theorem dX5_member_16 : decode cX5_member 16 = .ok (.iconst 0, 1) := by decide +kernel
theorem dX5_member_17 : decode cX5_member 17 = .ok (.istore_n 3, 1) := by decide +kernel
theorem dX5_member_18 : decode cX5_member 18 = .ok (.iconst 0, 1) := by decide +kernel
theorem dX5_member_19 : decode cX5_member 19 = .ok (.istore 4, 2) := by decide +kernel
theorem dX5_member_21 : decode cX5_member 21 = .ok (.iload 4, 2) := by decide +kernel
theorem dX5_member_23 : decode cX5_member 23 = .ok (.aload_n 0, 1) := by decide +kernel
theorem dX5_member_24 : decode cX5_member 24 = .ok (.getfield 12, 3) := by decide +kernel
theorem dX5_member_27 : decode cX5_member 27 = .ok (.getfield 65, 3) := by decide +kernel
theorem dX5_member_30 : decode cX5_member 30 = .ok (.if_icmp .ge 37, 3) := by decide +kernel
theorem dX5_member_33 : decode cX5_member 33 = .ok (.aload_n 0, 1) := by decide +kernel
theorem dX5_member_34 : decode cX5_member 34 = .ok (.getfield 12, 3) := by decide +kernel
theorem dX5_member_37 : decode cX5_member 37 = .ok (.getfield 118, 3) := by decide +kernel
theorem dX5_member_40 : decode cX5_member 40 = .ok (.getfield 103, 3) := by decide +kernel
theorem dX5_member_43 : decode cX5_member 43 = .ok (.iload 4, 2) := by decide +kernel
theorem dX5_member_45 : decode cX5_member 45 = .ok (.iaload, 1) := by decide +kernel
theorem dX5_member_46 : decode cX5_member 46 = .ok (.iload_n 1, 1) := by decide +kernel
theorem dX5_member_47 : decode cX5_member 47 = .ok (.if_icmp .ne 14, 3) := by decide +kernel
theorem dX5_member_50 : decode cX5_member 50 = .ok (.iload_n 3, 1) := by decide +kernel
theorem dX5_member_51 : decode cX5_member 51 = .ok (.iload_n 2, 1) := by decide +kernel
theorem dX5_member_52 : decode cX5_member 52 = .ok (.if_icmp .ne 6, 3) := by decide +kernel
theorem dX5_member_55 : decode cX5_member 55 = .ok (.iload 4, 2) := by decide +kernel
theorem dX5_member_57 : decode cX5_member 57 = .ok (.ireturn, 1) := by decide +kernel
theorem dX5_member_58 : decode cX5_member 58 = .ok (.iinc 3 1, 3) := by decide +kernel
theorem dX5_member_61 : decode cX5_member 61 = .ok (.iinc 4 1, 3) := by decide +kernel
theorem dX5_member_64 : decode cX5_member 64 = .ok (.goto (-43), 3) := by decide +kernel
theorem dX5_member_67 : decode cX5_member 67 = .ok (.iconst (-1), 1) := by decide +kernel
theorem dX5_member_68 : decode cX5_member 68 = .ok (.ireturn, 1) := by decide +kernel
theorem dX5_child_0 : decode cX5_child 0 = .ok (.aload_n 0, 1) := by decide +kernel
theorem dX5_child_1 : decode cX5_child 1 = .ok (.getfield 12, 3) := by decide +kernel
theorem dX5_child_4 : decode cX5_child 4 = .ok (.getfield 118, 3) := by decide +kernel
theorem dX5_child_7 : decode cX5_child 7 = .ok (.iload_n 1, 1) := by decide +kernel
theorem dX5_child_8 : decode cX5_child 8 = .ok (.invokevirtual 152, 3) := by decide +kernel
theorem dX5_child_11 : decode cX5_child 11 = .ok (.ifCond .ne 5, 3) := by decide +kernel
theorem dX5_child_14 : decode cX5_child 14 = .ok (.iconst (-1), 1) := by decide +kernel
theorem dX5_child_15 : decode cX5_child 15 = .ok (.ireturn, 1) := by decide +kernel
theorem dX5_child_16 : decode cX5_child 16 = .ok (.iconst 0, 1) := by decide +kernel
theorem dX5_child_17 : decode cX5_child 17 = .ok (.istore_n 3, 1) := by decide +kernel
theorem dX5_child_18 : decode cX5_child 18 = .ok (.iconst 0, 1) := by decide +kernel
theorem dX5_child_19 : decode cX5_child 19 = .ok (.istore 4, 2) := by decide +kernel
theorem dX5_child_21 : decode cX5_child 21 = .ok (.iload 4, 2) := by decide +kernel
theorem dX5_child_23 : decode cX5_child 23 = .ok (.aload_n 0, 1) := by decide +kernel
theorem dX5_child_24 : decode cX5_child 24 = .ok (.getfield 12, 3) := by decide +kernel
theorem dX5_child_27 : decode cX5_child 27 = .ok (.getfield 65, 3) := by decide +kernel
theorem dX5_child_30 : decode cX5_child 30 = .ok (.if_icmp .ge 49, 3) := by decide +kernel
theorem dX5_child_33 : decode cX5_child 33 = .ok (.aload_n 0, 1) := by decide +kernel
theorem dX5_child_34 : decode cX5_child 34 = .ok (.getfield 12, 3) := by decide +kernel
theorem dX5_child_37 : decode cX5_child 37 = .ok (.getfield 118, 3) := by decide +kernel
theorem dX5_child_40 : decode cX5_child 40 = .ok (.iload 4, 2) := by decide +kernel
theorem dX5_child_42 : decode cX5_child 42 = .ok (.invokevirtual 152, 3) := by decide +kernel
theorem dX5_child_45 : decode cX5_child 45 = .ok (.ifCond .eq 28, 3) := by decide +kernel
theorem dX5_child_48 : decode cX5_child 48 = .ok (.aload_n 0, 1) := by decide +kernel
theorem dX5_child_49 : decode cX5_child 49 = .ok (.getfield 22, 3) := by decide +kernel
theorem dX5_child_52 : decode cX5_child 52 = .ok (.getfield 163, 3) := by decide +kernel
theorem dX5_child_55 : decode cX5_child 55 = .ok (.iload 4, 2) := by decide +kernel
theorem dX5_child_57 : decode cX5_child 57 = .ok (.iaload, 1) := by decide +kernel
theorem dX5_child_58 : decode cX5_child 58 = .ok (.iload_n 1, 1) := by decide +kernel
theorem dX5_child_59 : decode cX5_child 59 = .ok (.if_icmp .ne 14, 3) := by decide +kernel
theorem dX5_child_62 : decode cX5_child 62 = .ok (.iload_n 3, 1) := by decide +kernel
theorem dX5_child_63 : decode cX5_child 63 = .ok (.iload_n 2, 1) := by decide +kernel
theorem dX5_child_64 : decode cX5_child 64 = .ok (.if_icmp .ne 6, 3) := by decide +kernel
theorem dX5_child_67 : decode cX5_child 67 = .ok (.iload 4, 2) := by decide +kernel
theorem dX5_child_69 : decode cX5_child 69 = .ok (.ireturn, 1) := by decide +kernel
theorem dX5_child_70 : decode cX5_child 70 = .ok (.iinc 3 1, 3) := by decide +kernel
theorem dX5_child_73 : decode cX5_child 73 = .ok (.iinc 4 1, 3) := by decide +kernel
theorem dX5_child_76 : decode cX5_child 76 = .ok (.goto (-55), 3) := by decide +kernel
theorem dX5_child_79 : decode cX5_child 79 = .ok (.iconst (-1), 1) := by decide +kernel
theorem dX5_child_80 : decode cX5_child 80 = .ok (.ireturn, 1) := by decide +kernel
theorem dX5_land_0 : decode cX5_land 0 = .ok (.aload_n 0, 1) := by decide +kernel
theorem dX5_land_1 : decode cX5_land 1 = .ok (.getfield 12, 3) := by decide +kernel
theorem dX5_land_4 : decode cX5_land 4 = .ok (.getfield 121, 3) := by decide +kernel
theorem dX5_land_7 : decode cX5_land 7 = .ok (.iload_n 1, 1) := by decide +kernel
theorem dX5_land_8 : decode cX5_land 8 = .ok (.invokevirtual 152, 3) := by decide +kernel
theorem dX5_land_11 : decode cX5_land 11 = .ok (.ifCond .ne 5, 3) := by decide +kernel
theorem dX5_land_14 : decode cX5_land 14 = .ok (.iconst (-1), 1) := by decide +kernel
theorem dX5_land_15 : decode cX5_land 15 = .ok (.ireturn, 1) := by decide +kernel
theorem dX5_land_16 : decode cX5_land 16 = .ok (.iload_n 2, 1) := by decide +kernel
theorem dX5_land_17 : decode cX5_land 17 = .ok (.tableswitch 211 0 10 #[59, 72, 88, 97, 106, 122, 128, 144, 160, 176, 192], 59) := by decide +kernel
theorem dX5_land_76 : decode cX5_land 76 = .ok (.aload_n 0, 1) := by decide +kernel
theorem dX5_land_77 : decode cX5_land 77 = .ok (.getfield 12, 3) := by decide +kernel
theorem dX5_land_80 : decode cX5_land 80 = .ok (.getfield 121, 3) := by decide +kernel
theorem dX5_land_83 : decode cX5_land 83 = .ok (.getfield 124, 3) := by decide +kernel
theorem dX5_land_86 : decode cX5_land 86 = .ok (.iload_n 1, 1) := by decide +kernel
theorem dX5_land_87 : decode cX5_land 87 = .ok (.iaload, 1) := by decide +kernel
theorem dX5_land_88 : decode cX5_land 88 = .ok (.ireturn, 1) := by decide +kernel
theorem dX5_land_89 : decode cX5_land 89 = .ok (.aload_n 0, 1) := by decide +kernel
theorem dX5_land_90 : decode cX5_land 90 = .ok (.getfield 22, 3) := by decide +kernel
theorem dX5_land_93 : decode cX5_land 93 = .ok (.aload_n 0, 1) := by decide +kernel
theorem dX5_land_94 : decode cX5_land 94 = .ok (.getfield 12, 3) := by decide +kernel
theorem dX5_land_97 : decode cX5_land 97 = .ok (.getfield 121, 3) := by decide +kernel
theorem dX5_land_100 : decode cX5_land 100 = .ok (.iload_n 1, 1) := by decide +kernel
theorem dX5_land_101 : decode cX5_land 101 = .ok (.invokevirtual 182, 3) := by decide +kernel
theorem dX5_land_104 : decode cX5_land 104 = .ok (.ireturn, 1) := by decide +kernel
theorem dX5_land_105 : decode cX5_land 105 = .ok (.aload_n 0, 1) := by decide +kernel
theorem dX5_land_106 : decode cX5_land 106 = .ok (.getfield 12, 3) := by decide +kernel
theorem dX5_land_109 : decode cX5_land 109 = .ok (.iload_n 1, 1) := by decide +kernel
theorem dX5_land_110 : decode cX5_land 110 = .ok (.invokevirtual 185, 3) := by decide +kernel
theorem dX5_land_113 : decode cX5_land 113 = .ok (.ireturn, 1) := by decide +kernel
theorem dX5_land_114 : decode cX5_land 114 = .ok (.aload_n 0, 1) := by decide +kernel
theorem dX5_land_115 : decode cX5_land 115 = .ok (.getfield 12, 3) := by decide +kernel
