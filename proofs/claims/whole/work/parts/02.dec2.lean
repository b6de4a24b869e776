theorem dX6_linksIn_33 : decode cX6_linksIn 33 = .ok (.invokevirtual 98, 3) := by decide +kernel
theorem dX6_linksIn_36 : decode cX6_linksIn 36 = .ok (.iload_n 1, 1) := by decide +kernel
theorem dX6_linksIn_37 : decode cX6_linksIn 37 = .ok (.if_icmp .ne 7, 3) := by decide +kernel
theorem dX6_linksIn_40 : decode cX6_linksIn 40 = .ok (.iload_n 2, 1) := by decide +kernel
theorem dX6_linksIn_41 : decode cX6_linksIn 41 = .ok (.iconst 1, 1) := by decide +kernel
theorem dX6_linksIn_42 : decode cX6_linksIn 42 = .ok (.iadd, 1) := by decide +kernel
theorem dX6_linksIn_43 : decode cX6_linksIn 43 = .ok (.istore_n 2, 1) := by decide +kernel
theorem dX6_linksIn_44 : decode cX6_linksIn 44 = .ok (.iinc 3 1, 3) := by decide +kernel
theorem dX6_linksIn_47 : decode cX6_linksIn 47 = .ok (.goto (-43), 3) := by decide +kernel
theorem dX6_linksIn_50 : decode cX6_linksIn 50 = .ok (.iload_n 2, 1) := by decide +kernel
theorem dX6_linksIn_51 : decode cX6_linksIn 51 = .ok (.ireturn, 1) := by decide +kernel
theorem dX6_children_0 : decode cX6_children 0 = .ok (.iconst 0, 1) := by decide +kernel
theorem dX6_children_1 : decode cX6_children 1 = .ok (.istore_n 2, 1) := by decide +kernel
theorem dX6_children_2 : decode cX6_children 2 = .ok (.iconst 0, 1) := by decide +kernel
theorem dX6_children_3 : decode cX6_children 3 = .ok (.istore_n 3, 1) := by decide +kernel
theorem dX6_children_4 : decode cX6_children 4 = .ok (.iload_n 3, 1) := by decide +kernel
theorem dX6_children_5 : decode cX6_children 5 = .ok (.aload_n 0, 1) := by decide +kernel
theorem dX6_children_6 : decode cX6_children 6 = .ok (.getfield 7, 3) := by decide +kernel
theorem dX6_children_9 : decode cX6_children 9 = .ok (.if_icmp .ge 31, 3) := by decide +kernel
theorem dX6_children_12 : decode cX6_children 12 = .ok (.aload_n 0, 1) := by decide +kernel
theorem dX6_children_13 : decode cX6_children 13 = .ok (.iload_n 3, 1) := by decide +kernel
theorem dX6_children_14 : decode cX6_children 14 = .ok (.invokevirtual 239, 3) := by decide +kernel
theorem dX6_children_17 : decode cX6_children 17 = .ok (.ifCond .eq 17, 3) := by decide +kernel
theorem dX6_children_20 : decode cX6_children 20 = .ok (.aload_n 0, 1) := by decide +kernel
theorem dX6_children_21 : decode cX6_children 21 = .ok (.getfield 26, 3) := by decide +kernel
theorem dX6_children_24 : decode cX6_children 24 = .ok (.iload_n 3, 1) := by decide +kernel
theorem dX6_children_25 : decode cX6_children 25 = .ok (.iaload, 1) := by decide +kernel
theorem dX6_children_26 : decode cX6_children 26 = .ok (.iload_n 1, 1) := by decide +kernel
theorem dX6_children_27 : decode cX6_children 27 = .ok (.if_icmp .ne 7, 3) := by decide +kernel
theorem dX6_children_30 : decode cX6_children 30 = .ok (.iload_n 2, 1) := by decide +kernel
theorem dX6_children_31 : decode cX6_children 31 = .ok (.iconst 1, 1) := by decide +kernel
theorem dX6_children_32 : decode cX6_children 32 = .ok (.iadd, 1) := by decide +kernel
theorem dX6_children_33 : decode cX6_children 33 = .ok (.istore_n 2, 1) := by decide +kernel
theorem dX6_children_34 : decode cX6_children 34 = .ok (.iinc 3 1, 3) := by decide +kernel
theorem dX6_children_37 : decode cX6_children 37 = .ok (.goto (-33), 3) := by decide +kernel
theorem dX6_children_40 : decode cX6_children 40 = .ok (.iload_n 2, 1) := by decide +kernel
theorem dX6_children_41 : decode cX6_children 41 = .ok (.ireturn, 1) := by decide +kernel
theorem dX6_cutsIn_0 : decode cX6_cutsIn 0 = .ok (.iconst 0, 1) := by decide +kernel
theorem dX6_cutsIn_1 : decode cX6_cutsIn 1 = .ok (.istore_n 2, 1) := by decide +kernel
theorem dX6_cutsIn_2 : decode cX6_cutsIn 2 = .ok (.iconst 0, 1) := by decide +kernel
theorem dX6_cutsIn_3 : decode cX6_cutsIn 3 = .ok (.istore_n 3, 1) := by decide +kernel
theorem dX6_cutsIn_4 : decode cX6_cutsIn 4 = .ok (.iload_n 3, 1) := by decide +kernel
theorem dX6_cutsIn_5 : decode cX6_cutsIn 5 = .ok (.aload_n 0, 1) := by decide +kernel
theorem dX6_cutsIn_6 : decode cX6_cutsIn 6 = .ok (.getfield 7, 3) := by decide +kernel
theorem dX6_cutsIn_9 : decode cX6_cutsIn 9 = .ok (.if_icmp .ge 32, 3) := by decide +kernel
theorem dX6_cutsIn_12 : decode cX6_cutsIn 12 = .ok (.aload_n 0, 1) := by decide +kernel
theorem dX6_cutsIn_13 : decode cX6_cutsIn 13 = .ok (.iload_n 3, 1) := by decide +kernel
theorem dX6_cutsIn_14 : decode cX6_cutsIn 14 = .ok (.invokevirtual 98, 3) := by decide +kernel
theorem dX6_cutsIn_17 : decode cX6_cutsIn 17 = .ok (.iload_n 1, 1) := by decide +kernel
theorem dX6_cutsIn_18 : decode cX6_cutsIn 18 = .ok (.if_icmp .ne 17, 3) := by decide +kernel
theorem dX6_cutsIn_21 : decode cX6_cutsIn 21 = .ok (.aload_n 0, 1) := by decide +kernel
theorem dX6_cutsIn_22 : decode cX6_cutsIn 22 = .ok (.iload_n 3, 1) := by decide +kernel
theorem dX6_cutsIn_23 : decode cX6_cutsIn 23 = .ok (.iconst 1, 1) := by decide +kernel
theorem dX6_cutsIn_24 : decode cX6_cutsIn 24 = .ok (.invokevirtual 210, 3) := by decide +kernel
theorem dX6_cutsIn_27 : decode cX6_cutsIn 27 = .ok (.iconst 1, 1) := by decide +kernel
theorem dX6_cutsIn_28 : decode cX6_cutsIn 28 = .ok (.if_icmp .le 7, 3) := by decide +kernel
theorem dX6_cutsIn_31 : decode cX6_cutsIn 31 = .ok (.iload_n 2, 1) := by decide +kernel
theorem dX6_cutsIn_32 : decode cX6_cutsIn 32 = .ok (.iconst 1, 1) := by decide +kernel
theorem dX6_cutsIn_33 : decode cX6_cutsIn 33 = .ok (.iadd, 1) := by decide +kernel
theorem dX6_cutsIn_34 : decode cX6_cutsIn 34 = .ok (.istore_n 2, 1) := by decide +kernel
theorem dX6_cutsIn_35 : decode cX6_cutsIn 35 = .ok (.iinc 3 1, 3) := by decide +kernel
theorem dX6_cutsIn_38 : decode cX6_cutsIn 38 = .ok (.goto (-34), 3) := by decide +kernel
theorem dX6_cutsIn_41 : decode cX6_cutsIn 41 = .ok (.iload_n 2, 1) := by decide +kernel
theorem dX6_cutsIn_42 : decode cX6_cutsIn 42 = .ok (.ireturn, 1) := by decide +kernel
theorem dX6_partsIn_0 : decode cX6_partsIn 0 = .ok (.iconst 0, 1) := by decide +kernel
theorem dX6_partsIn_1 : decode cX6_partsIn 1 = .ok (.istore_n 3, 1) := by decide +kernel
theorem dX6_partsIn_2 : decode cX6_partsIn 2 = .ok (.iconst 0, 1) := by decide +kernel
theorem dX6_partsIn_3 : decode cX6_partsIn 3 = .ok (.istore 4, 2) := by decide +kernel
theorem dX6_partsIn_5 : decode cX6_partsIn 5 = .ok (.iload 4, 2) := by decide +kernel
theorem dX6_partsIn_7 : decode cX6_partsIn 7 = .ok (.aload_n 0, 1) := by decide +kernel
theorem dX6_partsIn_8 : decode cX6_partsIn 8 = .ok (.getfield 78, 3) := by decide +kernel
theorem dX6_partsIn_11 : decode cX6_partsIn 11 = .ok (.if_icmp .ge 67, 3) := by decide +kernel
theorem dX6_partsIn_14 : decode cX6_partsIn 14 = .ok (.aload_n 0, 1) := by decide +kernel
theorem dX6_partsIn_15 : decode cX6_partsIn 15 = .ok (.getfield 44, 3) := by decide +kernel
theorem dX6_partsIn_18 : decode cX6_partsIn 18 = .ok (.iload 4, 2) := by decide +kernel
theorem dX6_partsIn_20 : decode cX6_partsIn 20 = .ok (.iaload, 1) := by decide +kernel
theorem dX6_partsIn_21 : decode cX6_partsIn 21 = .ok (.iload 4, 2) := by decide +kernel
theorem dX6_partsIn_23 : decode cX6_partsIn 23 = .ok (.if_icmp .ne 49, 3) := by decide +kernel
theorem dX6_partsIn_26 : decode cX6_partsIn 26 = .ok (.aload_n 0, 1) := by decide +kernel
theorem dX6_partsIn_27 : decode cX6_partsIn 27 = .ok (.getfield 23, 3) := by decide +kernel
theorem dX6_partsIn_30 : decode cX6_partsIn 30 = .ok (.bipush 32, 2) := by decide +kernel
theorem dX6_partsIn_32 : decode cX6_partsIn 32 = .ok (.iload_n 1, 1) := by decide +kernel
theorem dX6_partsIn_33 : decode cX6_partsIn 33 = .ok (.imul, 1) := by decide +kernel
theorem dX6_partsIn_34 : decode cX6_partsIn 34 = .ok (.aload_n 0, 1) := by decide +kernel
theorem dX6_partsIn_35 : decode cX6_partsIn 35 = .ok (.getfield 13, 3) := by decide +kernel
theorem dX6_partsIn_38 : decode cX6_partsIn 38 = .ok (.iload 4, 2) := by decide +kernel
theorem dX6_partsIn_40 : decode cX6_partsIn 40 = .ok (.iaload, 1) := by decide +kernel
theorem dX6_partsIn_41 : decode cX6_partsIn 41 = .ok (.iadd, 1) := by decide +kernel
theorem dX6_partsIn_42 : decode cX6_partsIn 42 = .ok (.iaload, 1) := by decide +kernel
theorem dX6_partsIn_43 : decode cX6_partsIn 43 = .ok (.iload_n 2, 1) := by decide +kernel
theorem dX6_partsIn_44 : decode cX6_partsIn 44 = .ok (.if_icmp .ne 28, 3) := by decide +kernel
theorem dX6_partsIn_47 : decode cX6_partsIn 47 = .ok (.aload_n 0, 1) := by decide +kernel
theorem dX6_partsIn_48 : decode cX6_partsIn 48 = .ok (.getfield 23, 3) := by decide +kernel
theorem dX6_partsIn_51 : decode cX6_partsIn 51 = .ok (.bipush 32, 2) := by decide +kernel
theorem dX6_partsIn_53 : decode cX6_partsIn 53 = .ok (.iload_n 1, 1) := by decide +kernel
theorem dX6_partsIn_54 : decode cX6_partsIn 54 = .ok (.imul, 1) := by decide +kernel
theorem dX6_partsIn_55 : decode cX6_partsIn 55 = .ok (.aload_n 0, 1) := by decide +kernel
theorem dX6_partsIn_56 : decode cX6_partsIn 56 = .ok (.getfield 17, 3) := by decide +kernel
theorem dX6_partsIn_59 : decode cX6_partsIn 59 = .ok (.iload 4, 2) := by decide +kernel
theorem dX6_partsIn_61 : decode cX6_partsIn 61 = .ok (.iaload, 1) := by decide +kernel
theorem dX6_partsIn_62 : decode cX6_partsIn 62 = .ok (.iadd, 1) := by decide +kernel
theorem dX6_partsIn_63 : decode cX6_partsIn 63 = .ok (.iaload, 1) := by decide +kernel
theorem dX6_partsIn_64 : decode cX6_partsIn 64 = .ok (.iload_n 2, 1) := by decide +kernel
theorem dX6_partsIn_65 : decode cX6_partsIn 65 = .ok (.if_icmp .ne 7, 3) := by decide +kernel
theorem dX6_partsIn_68 : decode cX6_partsIn 68 = .ok (.iload_n 3, 1) := by decide +kernel
theorem dX6_partsIn_69 : decode cX6_partsIn 69 = .ok (.iconst 1, 1) := by decide +kernel
theorem dX6_partsIn_70 : decode cX6_partsIn 70 = .ok (.iadd, 1) := by decide +kernel
theorem dX6_partsIn_71 : decode cX6_partsIn 71 = .ok (.istore_n 3, 1) := by decide +kernel
theorem dX6_partsIn_72 : decode cX6_partsIn 72 = .ok (.iinc 4 1, 3) := by decide +kernel
theorem dX6_partsIn_75 : decode cX6_partsIn 75 = .ok (.goto (-70), 3) := by decide +kernel
theorem dX6_partsIn_78 : decode cX6_partsIn 78 = .ok (.iload_n 3, 1) := by decide +kernel
theorem dX6_partsIn_79 : decode cX6_partsIn 79 = .ok (.ireturn, 1) := by decide +kernel
theorem dX6_below_0 : decode cX6_below 0 = .ok (.iconst 0, 1) := by decide +kernel
theorem dX6_below_1 : decode cX6_below 1 = .ok (.istore_n 2, 1) := by decide +kernel
theorem dX6_below_2 : decode cX6_below 2 = .ok (.iconst 0, 1) := by decide +kernel
theorem dX6_below_3 : decode cX6_below 3 = .ok (.istore_n 3, 1) := by decide +kernel
theorem dX6_below_4 : decode cX6_below 4 = .ok (.iload_n 3, 1) := by decide +kernel
theorem dX6_below_5 : decode cX6_below 5 = .ok (.aload_n 0, 1) := by decide +kernel
theorem dX6_below_6 : decode cX6_below 6 = .ok (.getfield 7, 3) := by decide +kernel
theorem dX6_below_9 : decode cX6_below 9 = .ok (.if_icmp .ge 62, 3) := by decide +kernel
theorem dX6_below_12 : decode cX6_below 12 = .ok (.aload_n 0, 1) := by decide +kernel
theorem dX6_below_13 : decode cX6_below 13 = .ok (.iload_n 3, 1) := by decide +kernel
theorem dX6_below_14 : decode cX6_below 14 = .ok (.invokevirtual 239, 3) := by decide +kernel
theorem dX6_below_17 : decode cX6_below 17 = .ok (.ifCond .ne 6, 3) := by decide +kernel
theorem dX6_below_20 : decode cX6_below 20 = .ok (.goto 45, 3) := by decide +kernel
theorem dX6_below_23 : decode cX6_below 23 = .ok (.iload_n 3, 1) := by decide +kernel
theorem dX6_below_24 : decode cX6_below 24 = .ok (.istore 4, 2) := by decide +kernel
theorem dX6_below_26 : decode cX6_below 26 = .ok (.iload 4, 2) := by decide +kernel
theorem dX6_below_28 : decode cX6_below 28 = .ok (.iload_n 1, 1) := by decide +kernel
theorem dX6_below_29 : decode cX6_below 29 = .ok (.if_icmp .eq 21, 3) := by decide +kernel
theorem dX6_below_32 : decode cX6_below 32 = .ok (.iload 4, 2) := by decide +kernel
theorem dX6_below_34 : decode cX6_below 34 = .ok (.iconst (-1), 1) := by decide +kernel
theorem dX6_below_35 : decode cX6_below 35 = .ok (.if_icmp .eq 15, 3) := by decide +kernel
theorem dX6_below_38 : decode cX6_below 38 = .ok (.aload_n 0, 1) := by decide +kernel
theorem dX6_below_39 : decode cX6_below 39 = .ok (.getfield 26, 3) := by decide +kernel
theorem dX6_below_42 : decode cX6_below 42 = .ok (.iload 4, 2) := by decide +kernel
theorem dX6_below_44 : decode cX6_below 44 = .ok (.iaload, 1) := by decide +kernel
theorem dX6_below_45 : decode cX6_below 45 = .ok (.istore 4, 2) := by decide +kernel
theorem dX6_below_47 : decode cX6_below 47 = .ok (.goto (-21), 3) := by decide +kernel
theorem dX6_below_50 : decode cX6_below 50 = .ok (.iload 4, 2) := by decide +kernel
theorem dX6_below_52 : decode cX6_below 52 = .ok (.iload_n 1, 1) := by decide +kernel
theorem dX6_below_53 : decode cX6_below 53 = .ok (.if_icmp .ne 12, 3) := by decide +kernel
theorem dX6_below_56 : decode cX6_below 56 = .ok (.iload_n 2, 1) := by decide +kernel
theorem dX6_below_57 : decode cX6_below 57 = .ok (.aload_n 0, 1) := by decide +kernel
theorem dX6_below_58 : decode cX6_below 58 = .ok (.iconst 0, 1) := by decide +kernel
theorem dX6_below_59 : decode cX6_below 59 = .ok (.iload_n 3, 1) := by decide +kernel
theorem dX6_below_60 : decode cX6_below 60 = .ok (.invokevirtual 89, 3) := by decide +kernel
theorem dX6_below_63 : decode cX6_below 63 = .ok (.iadd, 1) := by decide +kernel
theorem dX6_below_64 : decode cX6_below 64 = .ok (.istore_n 2, 1) := by decide +kernel
theorem dX6_below_65 : decode cX6_below 65 = .ok (.iinc 3 1, 3) := by decide +kernel
theorem dX6_below_68 : decode cX6_below 68 = .ok (.goto (-64), 3) := by decide +kernel
theorem dX6_below_71 : decode cX6_below 71 = .ok (.iload_n 2, 1) := by decide +kernel
theorem dX6_below_72 : decode cX6_below 72 = .ok (.ireturn, 1) := by decide +kernel
theorem dX6_block_0 : decode cX6_block 0 = .ok (.aload_n 0, 1) := by decide +kernel
theorem dX6_block_1 : decode cX6_block 1 = .ok (.iconst 0, 1) := by decide +kernel
theorem dX6_block_2 : decode cX6_block 2 = .ok (.putfield 71, 3) := by decide +kernel
theorem dX6_block_5 : decode cX6_block 5 = .ok (.aload_n 0, 1) := by decide +kernel
theorem dX6_block_6 : decode cX6_block 6 = .ok (.invokevirtual 155, 3) := by decide +kernel
theorem dX6_block_9 : decode cX6_block 9 = .ok (.aload_n 0, 1) := by decide +kernel
theorem dX6_block_10 : decode cX6_block 10 = .ok (.iload_n 1, 1) := by decide +kernel
theorem dX6_block_11 : decode cX6_block 11 = .ok (.invokevirtual 239, 3) := by decide +kernel
theorem dX6_block_14 : decode cX6_block 14 = .ok (.ifCond .ne 5, 3) := by decide +kernel
theorem dX6_block_17 : decode cX6_block 17 = .ok (.iconst (-1), 1) := by decide +kernel
theorem dX6_block_18 : decode cX6_block 18 = .ok (.ireturn, 1) := by decide +kernel
theorem dX6_block_19 : decode cX6_block 19 = .ok (.aload_n 0, 1) := by decide +kernel
theorem dX6_block_20 : decode cX6_block 20 = .ok (.invokevirtual 224, 3) := by decide +kernel
theorem dX6_block_23 : decode cX6_block 23 = .ok (.iload_n 2, 1) := by decide +kernel
theorem dX6_block_24 : decode cX6_block 24 = .ok (.tableswitch 125 0 9 #[56, 63, 74, 80, 86, 93, 100, 106, 112, 118], 56) := by decide +kernel
theorem dX6_block_80 : decode cX6_block 80 = .ok (.aload_n 0, 1) := by decide +kernel
theorem dX6_block_81 : decode cX6_block 81 = .ok (.iconst 0, 1) := by decide +kernel
theorem dX6_block_82 : decode cX6_block 82 = .ok (.iload_n 1, 1) := by decide +kernel
theorem dX6_block_83 : decode cX6_block 83 = .ok (.invokevirtual 89, 3) := by decide +kernel
theorem dX6_block_86 : decode cX6_block 86 = .ok (.ireturn, 1) := by decide +kernel
theorem dX6_block_87 : decode cX6_block 87 = .ok (.aload_n 0, 1) := by decide +kernel
theorem dX6_block_88 : decode cX6_block 88 = .ok (.aload_n 0, 1) := by decide +kernel
theorem dX6_block_89 : decode cX6_block 89 = .ok (.iconst 0, 1) := by decide +kernel
theorem dX6_block_90 : decode cX6_block 90 = .ok (.iload_n 1, 1) := by decide +kernel
theorem dX6_block_91 : decode cX6_block 91 = .ok (.invokevirtual 242, 3) := by decide +kernel
theorem dX6_block_94 : decode cX6_block 94 = .ok (.invokevirtual 245, 3) := by decide +kernel
theorem dX6_block_97 : decode cX6_block 97 = .ok (.ireturn, 1) := by decide +kernel
theorem dX6_block_98 : decode cX6_block 98 = .ok (.aload_n 0, 1) := by decide +kernel
theorem dX6_block_99 : decode cX6_block 99 = .ok (.iload_n 1, 1) := by decide +kernel
theorem dX6_block_100 : decode cX6_block 100 = .ok (.invokevirtual 248, 3) := by decide +kernel
theorem dX6_block_103 : decode cX6_block 103 = .ok (.ireturn, 1) := by decide +kernel
theorem dX6_block_104 : decode cX6_block 104 = .ok (.aload_n 0, 1) := by decide +kernel
theorem dX6_block_105 : decode cX6_block 105 = .ok (.iload_n 1, 1) := by decide +kernel
theorem dX6_block_106 : decode cX6_block 106 = .ok (.invokevirtual 251, 3) := by decide +kernel
theorem dX6_block_109 : decode cX6_block 109 = .ok (.ireturn, 1) := by decide +kernel
theorem dX6_block_110 : decode cX6_block 110 = .ok (.aload_n 0, 1) := by decide +kernel
theorem dX6_block_111 : decode cX6_block 111 = .ok (.getfield 26, 3) := by decide +kernel
theorem dX6_block_114 : decode cX6_block 114 = .ok (.iload_n 1, 1) := by decide +kernel
theorem dX6_block_115 : decode cX6_block 115 = .ok (.iaload, 1) := by decide +kernel
theorem dX6_block_116 : decode cX6_block 116 = .ok (.ireturn, 1) := by decide +kernel
theorem dX6_block_117 : decode cX6_block 117 = .ok (.aload_n 0, 1) := by decide +kernel
theorem dX6_block_118 : decode cX6_block 118 = .ok (.getfield 29, 3) := by decide +kernel
theorem dX6_block_121 : decode cX6_block 121 = .ok (.iload_n 1, 1) := by decide +kernel
theorem dX6_block_122 : decode cX6_block 122 = .ok (.iaload, 1) := by decide +kernel
theorem dX6_block_123 : decode cX6_block 123 = .ok (.ireturn, 1) := by decide +kernel
theorem dX6_block_124 : decode cX6_block 124 = .ok (.aload_n 0, 1) := by decide +kernel
theorem dX6_block_125 : decode cX6_block 125 = .ok (.iload_n 1, 1) := by decide +kernel
theorem dX6_block_126 : decode cX6_block 126 = .ok (.invokevirtual 105, 3) := by decide +kernel
theorem dX6_block_129 : decode cX6_block 129 = .ok (.ireturn, 1) := by decide +kernel
theorem dX6_block_130 : decode cX6_block 130 = .ok (.aload_n 0, 1) := by decide +kernel
theorem dX6_block_131 : decode cX6_block 131 = .ok (.iload_n 1, 1) := by decide +kernel
theorem dX6_block_132 : decode cX6_block 132 = .ok (.invokevirtual 254, 3) := by decide +kernel
theorem dX6_block_135 : decode cX6_block 135 = .ok (.ireturn, 1) := by decide +kernel
theorem dX6_block_136 : decode cX6_block 136 = .ok (.aload_n 0, 1) := by decide +kernel
theorem dX6_block_137 : decode cX6_block 137 = .ok (.iload_n 1, 1) := by decide +kernel
theorem dX6_block_138 : decode cX6_block 138 = .ok (.invokevirtual 257, 3) := by decide +kernel
theorem dX6_block_141 : decode cX6_block 141 = .ok (.ireturn, 1) := by decide +kernel
theorem dX6_block_142 : decode cX6_block 142 = .ok (.aload_n 0, 1) := by decide +kernel
theorem dX6_block_143 : decode cX6_block 143 = .ok (.iconst 0, 1) := by decide +kernel
theorem dX6_block_144 : decode cX6_block 144 = .ok (.iload_n 1, 1) := by decide +kernel
theorem dX6_block_145 : decode cX6_block 145 = .ok (.invokevirtual 260, 3) := by decide +kernel
theorem dX6_block_148 : decode cX6_block 148 = .ok (.ireturn, 1) := by decide +kernel
theorem dX6_block_149 : decode cX6_block 149 = .ok (.iload_n 2, 1) := by decide +kernel
theorem dX6_block_150 : decode cX6_block 150 = .ok (.bipush 10, 2) := by decide +kernel
theorem dX6_block_152 : decode cX6_block 152 = .ok (.if_icmp .ne 11, 3) := by decide +kernel
theorem dX6_block_155 : decode cX6_block 155 = .ok (.aload_n 0, 1) := by decide +kernel
theorem dX6_block_156 : decode cX6_block 156 = .ok (.iload_n 1, 1) := by decide +kernel
theorem dX6_block_157 : decode cX6_block 157 = .ok (.invokevirtual 263, 3) := by decide +kernel
theorem dX6_block_160 : decode cX6_block 160 = .ok (.goto 4, 3) := by decide +kernel
theorem dX6_block_163 : decode cX6_block 163 = .ok (.iconst (-1), 1) := by decide +kernel
theorem dX6_block_164 : decode cX6_block 164 = .ok (.ireturn, 1) := by decide +kernel
theorem dX6_member_0 : decode cX6_member 0 = .ok (.aload_n 0, 1) := by decide +kernel
theorem dX6_member_1 : decode cX6_member 1 = .ok (.iconst 0, 1) := by decide +kernel
theorem dX6_member_2 : decode cX6_member 2 = .ok (.putfield 71, 3) := by decide +kernel
theorem dX6_member_5 : decode cX6_member 5 = .ok (.aload_n 0, 1) := by decide +kernel
theorem dX6_member_6 : decode cX6_member 6 = .ok (.invokevirtual 155, 3) := by decide +kernel
theorem dX6_member_9 : decode cX6_member 9 = .ok (.aload_n 0, 1) := by decide +kernel
theorem dX6_member_10 : decode cX6_member 10 = .ok (.iload_n 1, 1) := by decide +kernel
theorem dX6_member_11 : decode cX6_member 11 = .ok (.invokevirtual 239, 3) := by decide +kernel
theorem dX6_member_14 : decode cX6_member 14 = .ok (.ifCond .ne 5, 3) := by decide +kernel
theorem dX6_member_17 : decode cX6_member 17 = .ok (.iconst (-1), 1) := by decide +kernel
theorem dX6_member_18 : decode cX6_member 18 = .ok (.ireturn, 1) := by decide +kernel
theorem dX6_member_19 : decode cX6_member 19 = .ok (.iload_n 2, 1) := by decide +kernel
theorem dX6_member_20 : decode cX6_member 20 = .ok (.istore_n 3, 1) := by decide +kernel
theorem dX6_member_21 : decode cX6_member 21 = .ok (.iconst 0, 1) := by decide +kernel
theorem dX6_member_22 : decode cX6_member 22 = .ok (.istore 4, 2) := by decide +kernel
theorem dX6_member_24 : decode cX6_member 24 = .ok (.iload 4, 2) := by decide +kernel
theorem dX6_member_26 : decode cX6_member 26 = .ok (.aload_n 0, 1) := by decide +kernel
theorem dX6_member_27 : decode cX6_member 27 = .ok (.getfield 7, 3) := by decide +kernel
theorem dX6_member_30 : decode cX6_member 30 = .ok (.if_icmp .ge 33, 3) := by decide +kernel
theorem dX6_member_33 : decode cX6_member 33 = .ok (.aload_n 0, 1) := by decide +kernel
theorem dX6_member_34 : decode cX6_member 34 = .ok (.iload 4, 2) := by decide +kernel
theorem dX6_member_36 : decode cX6_member 36 = .ok (.invokevirtual 98, 3) := by decide +kernel
theorem dX6_member_39 : decode cX6_member 39 = .ok (.iload_n 1, 1) := by decide +kernel
theorem dX6_member_40 : decode cX6_member 40 = .ok (.if_icmp .eq 6, 3) := by decide +kernel
theorem dX6_member_43 : decode cX6_member 43 = .ok (.goto 14, 3) := by decide +kernel
theorem dX6_member_46 : decode cX6_member 46 = .ok (.iload_n 3, 1) := by decide +kernel
theorem dX6_member_47 : decode cX6_member 47 = .ok (.ifCond .ne 6, 3) := by decide +kernel
theorem dX6_member_50 : decode cX6_member 50 = .ok (.iload 4, 2) := by decide +kernel
theorem dX6_member_52 : decode cX6_member 52 = .ok (.ireturn, 1) := by decide +kernel
theorem dX6_member_53 : decode cX6_member 53 = .ok (.iload_n 3, 1) := by decide +kernel
theorem dX6_member_54 : decode cX6_member 54 = .ok (.iconst 1, 1) := by decide +kernel
theorem dX6_member_55 : decode cX6_member 55 = .ok (.isub, 1) := by decide +kernel
theorem dX6_member_56 : decode cX6_member 56 = .ok (.istore_n 3, 1) := by decide +kernel
theorem dX6_member_57 : decode cX6_member 57 = .ok (.iinc 4 1, 3) := by decide +kernel
theorem dX6_member_60 : decode cX6_member 60 = .ok (.goto (-36), 3) := by decide +kernel
theorem dX6_member_63 : decode cX6_member 63 = .ok (.iconst (-1), 1) := by decide +kernel
theorem dX6_member_64 : decode cX6_member 64 = .ok (.ireturn, 1) := by decide +kernel
theorem dX6_childOf_0 : decode cX6_childOf 0 = .ok (.iload_n 2, 1) := by decide +kernel
theorem dX6_childOf_1 : decode cX6_childOf 1 = .ok (.istore_n 3, 1) := by decide +kernel
theorem dX6_childOf_2 : decode cX6_childOf 2 = .ok (.iconst 0, 1) := by decide +kernel
theorem dX6_childOf_3 : decode cX6_childOf 3 = .ok (.istore 4, 2) := by decide +kernel
theorem dX6_childOf_5 : decode cX6_childOf 5 = .ok (.iload 4, 2) := by decide +kernel
theorem dX6_childOf_7 : decode cX6_childOf 7 = .ok (.aload_n 0, 1) := by decide +kernel
theorem dX6_childOf_8 : decode cX6_childOf 8 = .ok (.getfield 7, 3) := by decide +kernel
theorem dX6_childOf_11 : decode cX6_childOf 11 = .ok (.if_icmp .ge 43, 3) := by decide +kernel
theorem dX6_childOf_14 : decode cX6_childOf 14 = .ok (.aload_n 0, 1) := by decide +kernel
theorem dX6_childOf_15 : decode cX6_childOf 15 = .ok (.iload 4, 2) := by decide +kernel
theorem dX6_childOf_17 : decode cX6_childOf 17 = .ok (.invokevirtual 239, 3) := by decide +kernel
theorem dX6_childOf_20 : decode cX6_childOf 20 = .ok (.ifCond .eq 28, 3) := by decide +kernel
theorem dX6_childOf_23 : decode cX6_childOf 23 = .ok (.aload_n 0, 1) := by decide +kernel
theorem dX6_childOf_24 : decode cX6_childOf 24 = .ok (.getfield 26, 3) := by decide +kernel
theorem dX6_childOf_27 : decode cX6_childOf 27 = .ok (.iload 4, 2) := by decide +kernel
theorem dX6_childOf_29 : decode cX6_childOf 29 = .ok (.iaload, 1) := by decide +kernel
theorem dX6_childOf_30 : decode cX6_childOf 30 = .ok (.iload_n 1, 1) := by decide +kernel
theorem dX6_childOf_31 : decode cX6_childOf 31 = .ok (.if_icmp .eq 6, 3) := by decide +kernel
theorem dX6_childOf_34 : decode cX6_childOf 34 = .ok (.goto 14, 3) := by decide +kernel
theorem dX6_childOf_37 : decode cX6_childOf 37 = .ok (.iload_n 3, 1) := by decide +kernel
theorem dX6_childOf_38 : decode cX6_childOf 38 = .ok (.ifCond .ne 6, 3) := by decide +kernel
theorem dX6_childOf_41 : decode cX6_childOf 41 = .ok (.iload 4, 2) := by decide +kernel
theorem dX6_childOf_43 : decode cX6_childOf 43 = .ok (.ireturn, 1) := by decide +kernel
theorem dX6_childOf_44 : decode cX6_childOf 44 = .ok (.iload_n 3, 1) := by decide +kernel
theorem dX6_childOf_45 : decode cX6_childOf 45 = .ok (.iconst 1, 1) := by decide +kernel
theorem dX6_childOf_46 : decode cX6_childOf 46 = .ok (.isub, 1) := by decide +kernel
theorem dX6_childOf_47 : decode cX6_childOf 47 = .ok (.istore_n 3, 1) := by decide +kernel
theorem dX6_childOf_48 : decode cX6_childOf 48 = .ok (.iinc 4 1, 3) := by decide +kernel
theorem dX6_childOf_51 : decode cX6_childOf 51 = .ok (.goto (-46), 3) := by decide +kernel
theorem dX6_childOf_54 : decode cX6_childOf 54 = .ok (.iconst (-1), 1) := by decide +kernel
theorem dX6_childOf_55 : decode cX6_childOf 55 = .ok (.ireturn, 1) := by decide +kernel
theorem dX6_child_0 : decode cX6_child 0 = .ok (.aload_n 0, 1) := by decide +kernel
theorem dX6_child_1 : decode cX6_child 1 = .ok (.iconst 0, 1) := by decide +kernel
theorem dX6_child_2 : decode cX6_child 2 = .ok (.putfield 71, 3) := by decide +kernel
theorem dX6_child_5 : decode cX6_child 5 = .ok (.aload_n 0, 1) := by decide +kernel
theorem dX6_child_6 : decode cX6_child 6 = .ok (.invokevirtual 155, 3) := by decide +kernel
theorem dX6_child_9 : decode cX6_child 9 = .ok (.aload_n 0, 1) := by decide +kernel
theorem dX6_child_10 : decode cX6_child 10 = .ok (.iload_n 1, 1) := by decide +kernel
theorem dX6_child_11 : decode cX6_child 11 = .ok (.invokevirtual 239, 3) := by decide +kernel
theorem dX6_child_14 : decode cX6_child 14 = .ok (.ifCond .eq 12, 3) := by decide +kernel
theorem dX6_child_17 : decode cX6_child 17 = .ok (.aload_n 0, 1) := by decide +kernel
theorem dX6_child_18 : decode cX6_child 18 = .ok (.iload_n 1, 1) := by decide +kernel
theorem dX6_child_19 : decode cX6_child 19 = .ok (.iload_n 2, 1) := by decide +kernel
theorem dX6_child_20 : decode cX6_child 20 = .ok (.invokevirtual 266, 3) := by decide +kernel
theorem dX6_child_23 : decode cX6_child 23 = .ok (.goto 4, 3) := by decide +kernel
theorem dX6_child_26 : decode cX6_child 26 = .ok (.iconst (-1), 1) := by decide +kernel
theorem dX6_child_27 : decode cX6_child 27 = .ok (.ireturn, 1) := by decide +kernel
theorem dX6_isLand_0 : decode cX6_isLand 0 = .ok (.aload_n 0, 1) := by decide +kernel
theorem dX6_isLand_1 : decode cX6_isLand 1 = .ok (.iload_n 1, 1) := by decide +kernel
theorem dX6_isLand_2 : decode cX6_isLand 2 = .ok (.invokevirtual 81, 3) := by decide +kernel
theorem dX6_isLand_5 : decode cX6_isLand 5 = .ok (.ifCond .eq 20, 3) := by decide +kernel
theorem dX6_isLand_8 : decode cX6_isLand 8 = .ok (.aload_n 0, 1) := by decide +kernel
theorem dX6_isLand_9 : decode cX6_isLand 9 = .ok (.getfield 32, 3) := by decide +kernel
theorem dX6_isLand_12 : decode cX6_isLand 12 = .ok (.bipush 32, 2) := by decide +kernel
theorem dX6_isLand_14 : decode cX6_isLand 14 = .ok (.iload_n 1, 1) := by decide +kernel
theorem dX6_isLand_15 : decode cX6_isLand 15 = .ok (.iadd, 1) := by decide +kernel
theorem dX6_isLand_16 : decode cX6_isLand 16 = .ok (.iaload, 1) := by decide +kernel
theorem dX6_isLand_17 : decode cX6_isLand 17 = .ok (.iconst (-1), 1) := by decide +kernel
theorem dX6_isLand_18 : decode cX6_isLand 18 = .ok (.if_icmp .ne 7, 3) := by decide +kernel
theorem dX6_isLand_21 : decode cX6_isLand 21 = .ok (.iconst 1, 1) := by decide +kernel
theorem dX6_isLand_22 : decode cX6_isLand 22 = .ok (.goto 4, 3) := by decide +kernel
theorem dX6_isLand_25 : decode cX6_isLand 25 = .ok (.iconst 0, 1) := by decide +kernel
theorem dX6_isLand_26 : decode cX6_isLand 26 = .ok (.ireturn, 1) := by decide +kernel
theorem dX6_isBlockOf_0 : decode cX6_isBlockOf 0 = .ok (.aload_n 0, 1) := by decide +kernel
theorem dX6_isBlockOf_1 : decode cX6_isBlockOf 1 = .ok (.iload_n 1, 1) := by decide +kernel
theorem dX6_isBlockOf_2 : decode cX6_isBlockOf 2 = .ok (.invokevirtual 239, 3) := by decide +kernel
theorem dX6_isBlockOf_5 : decode cX6_isBlockOf 5 = .ok (.ifCond .eq 16, 3) := by decide +kernel
theorem dX6_isBlockOf_8 : decode cX6_isBlockOf 8 = .ok (.aload_n 0, 1) := by decide +kernel
theorem dX6_isBlockOf_9 : decode cX6_isBlockOf 9 = .ok (.iload_n 1, 1) := by decide +kernel
theorem dX6_isBlockOf_10 : decode cX6_isBlockOf 10 = .ok (.invokevirtual 121, 3) := by decide +kernel
theorem dX6_isBlockOf_13 : decode cX6_isBlockOf 13 = .ok (.iload_n 2, 1) := by decide +kernel
theorem dX6_isBlockOf_14 : decode cX6_isBlockOf 14 = .ok (.if_icmp .ne 7, 3) := by decide +kernel
theorem dX6_isBlockOf_17 : decode cX6_isBlockOf 17 = .ok (.iconst 1, 1) := by decide +kernel
theorem dX6_isBlockOf_18 : decode cX6_isBlockOf 18 = .ok (.goto 4, 3) := by decide +kernel
theorem dX6_isBlockOf_21 : decode cX6_isBlockOf 21 = .ok (.iconst 0, 1) := by decide +kernel
theorem dX6_isBlockOf_22 : decode cX6_isBlockOf 22 = .ok (.ireturn, 1) := by decide +kernel
theorem dX6_blocksOf_0 : decode cX6_blocksOf 0 = .ok (.iconst 0, 1) := by decide +kernel
theorem dX6_blocksOf_1 : decode cX6_blocksOf 1 = .ok (.istore_n 2, 1) := by decide +kernel
theorem dX6_blocksOf_2 : decode cX6_blocksOf 2 = .ok (.iconst 0, 1) := by decide +kernel
theorem dX6_blocksOf_3 : decode cX6_blocksOf 3 = .ok (.istore_n 3, 1) := by decide +kernel
theorem dX6_blocksOf_4 : decode cX6_blocksOf 4 = .ok (.iload_n 3, 1) := by decide +kernel
theorem dX6_blocksOf_5 : decode cX6_blocksOf 5 = .ok (.aload_n 0, 1) := by decide +kernel
theorem dX6_blocksOf_6 : decode cX6_blocksOf 6 = .ok (.getfield 7, 3) := by decide +kernel
theorem dX6_blocksOf_9 : decode cX6_blocksOf 9 = .ok (.if_icmp .ge 22, 3) := by decide +kernel
theorem dX6_blocksOf_12 : decode cX6_blocksOf 12 = .ok (.aload_n 0, 1) := by decide +kernel
theorem dX6_blocksOf_13 : decode cX6_blocksOf 13 = .ok (.iload_n 3, 1) := by decide +kernel
theorem dX6_blocksOf_14 : decode cX6_blocksOf 14 = .ok (.iload_n 1, 1) := by decide +kernel
theorem dX6_blocksOf_15 : decode cX6_blocksOf 15 = .ok (.invokevirtual 269, 3) := by decide +kernel
theorem dX6_blocksOf_18 : decode cX6_blocksOf 18 = .ok (.ifCond .eq 7, 3) := by decide +kernel
theorem dX6_blocksOf_21 : decode cX6_blocksOf 21 = .ok (.iload_n 2, 1) := by decide +kernel
theorem dX6_blocksOf_22 : decode cX6_blocksOf 22 = .ok (.iconst 1, 1) := by decide +kernel
theorem dX6_blocksOf_23 : decode cX6_blocksOf 23 = .ok (.iadd, 1) := by decide +kernel
theorem dX6_blocksOf_24 : decode cX6_blocksOf 24 = .ok (.istore_n 2, 1) := by decide +kernel
theorem dX6_blocksOf_25 : decode cX6_blocksOf 25 = .ok (.iinc 3 1, 3) := by decide +kernel
theorem dX6_blocksOf_28 : decode cX6_blocksOf 28 = .ok (.goto (-24), 3) := by decide +kernel
theorem dX6_blocksOf_31 : decode cX6_blocksOf 31 = .ok (.iload_n 2, 1) := by decide +kernel
theorem dX6_blocksOf_32 : decode cX6_blocksOf 32 = .ok (.ireturn, 1) := by decide +kernel
theorem dX6_linksOf_0 : decode cX6_linksOf 0 = .ok (.iconst 0, 1) := by decide +kernel
theorem dX6_linksOf_1 : decode cX6_linksOf 1 = .ok (.istore_n 3, 1) := by decide +kernel
theorem dX6_linksOf_2 : decode cX6_linksOf 2 = .ok (.iconst 0, 1) := by decide +kernel
theorem dX6_linksOf_3 : decode cX6_linksOf 3 = .ok (.istore 4, 2) := by decide +kernel
theorem dX6_linksOf_5 : decode cX6_linksOf 5 = .ok (.iload 4, 2) := by decide +kernel
theorem dX6_linksOf_7 : decode cX6_linksOf 7 = .ok (.aload_n 0, 1) := by decide +kernel
theorem dX6_linksOf_8 : decode cX6_linksOf 8 = .ok (.getfield 78, 3) := by decide +kernel
theorem dX6_linksOf_11 : decode cX6_linksOf 11 = .ok (.if_icmp .ge 41, 3) := by decide +kernel
theorem dX6_linksOf_14 : decode cX6_linksOf 14 = .ok (.aload_n 0, 1) := by decide +kernel
theorem dX6_linksOf_15 : decode cX6_linksOf 15 = .ok (.aload_n 0, 1) := by decide +kernel
theorem dX6_linksOf_16 : decode cX6_linksOf 16 = .ok (.getfield 13, 3) := by decide +kernel
theorem dX6_linksOf_19 : decode cX6_linksOf 19 = .ok (.iload 4, 2) := by decide +kernel
theorem dX6_linksOf_21 : decode cX6_linksOf 21 = .ok (.iaload, 1) := by decide +kernel
theorem dX6_linksOf_22 : decode cX6_linksOf 22 = .ok (.invokevirtual 121, 3) := by decide +kernel
theorem dX6_linksOf_25 : decode cX6_linksOf 25 = .ok (.iload_n 1, 1) := by decide +kernel
theorem dX6_linksOf_26 : decode cX6_linksOf 26 = .ok (.if_icmp .ne 20, 3) := by decide +kernel
theorem dX6_linksOf_29 : decode cX6_linksOf 29 = .ok (.iload_n 2, 1) := by decide +kernel
theorem dX6_linksOf_30 : decode cX6_linksOf 30 = .ok (.ifCond .eq 12, 3) := by decide +kernel
theorem dX6_linksOf_33 : decode cX6_linksOf 33 = .ok (.aload_n 0, 1) := by decide +kernel
theorem dX6_linksOf_34 : decode cX6_linksOf 34 = .ok (.iload 4, 2) := by decide +kernel
theorem dX6_linksOf_36 : decode cX6_linksOf 36 = .ok (.invokevirtual 214, 3) := by decide +kernel
theorem dX6_linksOf_39 : decode cX6_linksOf 39 = .ok (.ifCond .eq 7, 3) := by decide +kernel
theorem dX6_linksOf_42 : decode cX6_linksOf 42 = .ok (.iload_n 3, 1) := by decide +kernel
theorem dX6_linksOf_43 : decode cX6_linksOf 43 = .ok (.iconst 1, 1) := by decide +kernel
theorem dX6_linksOf_44 : decode cX6_linksOf 44 = .ok (.iadd, 1) := by decide +kernel
theorem dX6_linksOf_45 : decode cX6_linksOf 45 = .ok (.istore_n 3, 1) := by decide +kernel
theorem dX6_linksOf_46 : decode cX6_linksOf 46 = .ok (.iinc 4 1, 3) := by decide +kernel
theorem dX6_linksOf_49 : decode cX6_linksOf 49 = .ok (.goto (-44), 3) := by decide +kernel
theorem dX6_linksOf_52 : decode cX6_linksOf 52 = .ok (.iload_n 3, 1) := by decide +kernel
theorem dX6_linksOf_53 : decode cX6_linksOf 53 = .ok (.ireturn, 1) := by decide +kernel
theorem dX6_rootOf_0 : decode cX6_rootOf 0 = .ok (.aload_n 0, 1) := by decide +kernel
theorem dX6_rootOf_1 : decode cX6_rootOf 1 = .ok (.iload_n 1, 1) := by decide +kernel
theorem dX6_rootOf_2 : decode cX6_rootOf 2 = .ok (.invokevirtual 98, 3) := by decide +kernel
theorem dX6_rootOf_5 : decode cX6_rootOf 5 = .ok (.istore_n 2, 1) := by decide +kernel
theorem dX6_rootOf_6 : decode cX6_rootOf 6 = .ok (.aload_n 0, 1) := by decide +kernel
theorem dX6_rootOf_7 : decode cX6_rootOf 7 = .ok (.getfield 26, 3) := by decide +kernel
theorem dX6_rootOf_10 : decode cX6_rootOf 10 = .ok (.iload_n 2, 1) := by decide +kernel
theorem dX6_rootOf_11 : decode cX6_rootOf 11 = .ok (.iaload, 1) := by decide +kernel
theorem dX6_rootOf_12 : decode cX6_rootOf 12 = .ok (.iconst (-1), 1) := by decide +kernel
theorem dX6_rootOf_13 : decode cX6_rootOf 13 = .ok (.if_icmp .eq 13, 3) := by decide +kernel
theorem dX6_rootOf_16 : decode cX6_rootOf 16 = .ok (.aload_n 0, 1) := by decide +kernel
theorem dX6_rootOf_17 : decode cX6_rootOf 17 = .ok (.getfield 26, 3) := by decide +kernel
theorem dX6_rootOf_20 : decode cX6_rootOf 20 = .ok (.iload_n 2, 1) := by decide +kernel
theorem dX6_rootOf_21 : decode cX6_rootOf 21 = .ok (.iaload, 1) := by decide +kernel
theorem dX6_rootOf_22 : decode cX6_rootOf 22 = .ok (.istore_n 2, 1) := by decide +kernel
theorem dX6_rootOf_23 : decode cX6_rootOf 23 = .ok (.goto (-17), 3) := by decide +kernel
theorem dX6_rootOf_26 : decode cX6_rootOf 26 = .ok (.iload_n 2, 1) := by decide +kernel
theorem dX6_rootOf_27 : decode cX6_rootOf 27 = .ok (.ireturn, 1) := by decide +kernel
theorem dX6_lone_0 : decode cX6_lone 0 = .ok (.iconst 0, 1) := by decide +kernel
theorem dX6_lone_1 : decode cX6_lone 1 = .ok (.istore_n 2, 1) := by decide +kernel
theorem dX6_lone_2 : decode cX6_lone 2 = .ok (.iconst 0, 1) := by decide +kernel
theorem dX6_lone_3 : decode cX6_lone 3 = .ok (.istore_n 3, 1) := by decide +kernel
theorem dX6_lone_4 : decode cX6_lone 4 = .ok (.iload_n 3, 1) := by decide +kernel
theorem dX6_lone_5 : decode cX6_lone 5 = .ok (.aload_n 0, 1) := by decide +kernel
theorem dX6_lone_6 : decode cX6_lone 6 = .ok (.getfield 7, 3) := by decide +kernel
theorem dX6_lone_9 : decode cX6_lone 9 = .ok (.if_icmp .ge 31, 3) := by decide +kernel
theorem dX6_lone_12 : decode cX6_lone 12 = .ok (.aload_n 0, 1) := by decide +kernel
theorem dX6_lone_13 : decode cX6_lone 13 = .ok (.iload_n 3, 1) := by decide +kernel
theorem dX6_lone_14 : decode cX6_lone 14 = .ok (.iload_n 1, 1) := by decide +kernel
theorem dX6_lone_15 : decode cX6_lone 15 = .ok (.invokevirtual 269, 3) := by decide +kernel
theorem dX6_lone_18 : decode cX6_lone 18 = .ok (.ifCond .eq 16, 3) := by decide +kernel
theorem dX6_lone_21 : decode cX6_lone 21 = .ok (.aload_n 0, 1) := by decide +kernel
theorem dX6_lone_22 : decode cX6_lone 22 = .ok (.iload_n 3, 1) := by decide +kernel
theorem dX6_lone_23 : decode cX6_lone 23 = .ok (.invokevirtual 251, 3) := by decide +kernel
theorem dX6_lone_26 : decode cX6_lone 26 = .ok (.iconst 1, 1) := by decide +kernel
theorem dX6_lone_27 : decode cX6_lone 27 = .ok (.if_icmp .ne 7, 3) := by decide +kernel
theorem dX6_lone_30 : decode cX6_lone 30 = .ok (.iload_n 2, 1) := by decide +kernel
theorem dX6_lone_31 : decode cX6_lone 31 = .ok (.iconst 1, 1) := by decide +kernel
theorem dX6_lone_32 : decode cX6_lone 32 = .ok (.iadd, 1) := by decide +kernel
theorem dX6_lone_33 : decode cX6_lone 33 = .ok (.istore_n 2, 1) := by decide +kernel
theorem dX6_lone_34 : decode cX6_lone 34 = .ok (.iinc 3 1, 3) := by decide +kernel
theorem dX6_lone_37 : decode cX6_lone 37 = .ok (.goto (-33), 3) := by decide +kernel
theorem dX6_lone_40 : decode cX6_lone 40 = .ok (.iload_n 2, 1) := by decide +kernel
theorem dX6_lone_41 : decode cX6_lone 41 = .ok (.ireturn, 1) := by decide +kernel
theorem dX6_mend_0 : decode cX6_mend 0 = .ok (.aload_n 0, 1) := by decide +kernel
theorem dX6_mend_1 : decode cX6_mend 1 = .ok (.iload_n 1, 1) := by decide +kernel
theorem dX6_mend_2 : decode cX6_mend 2 = .ok (.invokevirtual 272, 3) := by decide +kernel
theorem dX6_mend_5 : decode cX6_mend 5 = .ok (.iconst 1, 1) := by decide +kernel
theorem dX6_mend_6 : decode cX6_mend 6 = .ok (.iadd, 1) := by decide +kernel
theorem dX6_mend_7 : decode cX6_mend 7 = .ok (.iconst 2, 1) := by decide +kernel
theorem dX6_mend_8 : decode cX6_mend 8 = .ok (.idiv, 1) := by decide +kernel
theorem dX6_mend_9 : decode cX6_mend 9 = .ok (.ireturn, 1) := by decide +kernel
theorem dX6_cutsOf_0 : decode cX6_cutsOf 0 = .ok (.iconst 0, 1) := by decide +kernel
theorem dX6_cutsOf_1 : decode cX6_cutsOf 1 = .ok (.istore_n 2, 1) := by decide +kernel
theorem dX6_cutsOf_2 : decode cX6_cutsOf 2 = .ok (.iconst 0, 1) := by decide +kernel
theorem dX6_cutsOf_3 : decode cX6_cutsOf 3 = .ok (.istore_n 3, 1) := by decide +kernel
theorem dX6_cutsOf_4 : decode cX6_cutsOf 4 = .ok (.iload_n 3, 1) := by decide +kernel
theorem dX6_cutsOf_5 : decode cX6_cutsOf 5 = .ok (.aload_n 0, 1) := by decide +kernel
theorem dX6_cutsOf_6 : decode cX6_cutsOf 6 = .ok (.getfield 7, 3) := by decide +kernel
theorem dX6_cutsOf_9 : decode cX6_cutsOf 9 = .ok (.if_icmp .ge 30, 3) := by decide +kernel
theorem dX6_cutsOf_12 : decode cX6_cutsOf 12 = .ok (.aload_n 0, 1) := by decide +kernel
theorem dX6_cutsOf_13 : decode cX6_cutsOf 13 = .ok (.iload_n 3, 1) := by decide +kernel
theorem dX6_cutsOf_14 : decode cX6_cutsOf 14 = .ok (.invokevirtual 121, 3) := by decide +kernel
theorem dX6_cutsOf_17 : decode cX6_cutsOf 17 = .ok (.iload_n 1, 1) := by decide +kernel
theorem dX6_cutsOf_18 : decode cX6_cutsOf 18 = .ok (.if_icmp .ne 15, 3) := by decide +kernel
theorem dX6_cutsOf_21 : decode cX6_cutsOf 21 = .ok (.aload_n 0, 1) := by decide +kernel
theorem dX6_cutsOf_22 : decode cX6_cutsOf 22 = .ok (.iload_n 3, 1) := by decide +kernel
theorem dX6_cutsOf_23 : decode cX6_cutsOf 23 = .ok (.invokevirtual 236, 3) := by decide +kernel
theorem dX6_cutsOf_26 : decode cX6_cutsOf 26 = .ok (.ifCond .eq 7, 3) := by decide +kernel
theorem dX6_cutsOf_29 : decode cX6_cutsOf 29 = .ok (.iload_n 2, 1) := by decide +kernel
theorem dX6_cutsOf_30 : decode cX6_cutsOf 30 = .ok (.iconst 1, 1) := by decide +kernel
theorem dX6_cutsOf_31 : decode cX6_cutsOf 31 = .ok (.iadd, 1) := by decide +kernel
theorem dX6_cutsOf_32 : decode cX6_cutsOf 32 = .ok (.istore_n 2, 1) := by decide +kernel
theorem dX6_cutsOf_33 : decode cX6_cutsOf 33 = .ok (.iinc 3 1, 3) := by decide +kernel
theorem dX6_cutsOf_36 : decode cX6_cutsOf 36 = .ok (.goto (-32), 3) := by decide +kernel
theorem dX6_cutsOf_39 : decode cX6_cutsOf 39 = .ok (.iload_n 2, 1) := by decide +kernel
theorem dX6_cutsOf_40 : decode cX6_cutsOf 40 = .ok (.ireturn, 1) := by decide +kernel
theorem dX6_apart_0 : decode cX6_apart 0 = .ok (.aload_n 0, 1) := by decide +kernel
theorem dX6_apart_1 : decode cX6_apart 1 = .ok (.aload_n 0, 1) := by decide +kernel
theorem dX6_apart_2 : decode cX6_apart 2 = .ok (.iload_n 1, 1) := by decide +kernel
theorem dX6_apart_3 : decode cX6_apart 3 = .ok (.iload_n 2, 1) := by decide +kernel
theorem dX6_apart_4 : decode cX6_apart 4 = .ok (.invokevirtual 128, 3) := by decide +kernel
theorem dX6_apart_7 : decode cX6_apart 7 = .ok (.invokevirtual 131, 3) := by decide +kernel
theorem dX6_apart_10 : decode cX6_apart 10 = .ok (.iconst 1, 1) := by decide +kernel
theorem dX6_apart_11 : decode cX6_apart 11 = .ok (.isub, 1) := by decide +kernel
theorem dX6_apart_12 : decode cX6_apart 12 = .ok (.ireturn, 1) := by decide +kernel
theorem dX6_longest_0 : decode cX6_longest 0 = .ok (.iconst (-1), 1) := by decide +kernel
theorem dX6_longest_1 : decode cX6_longest 1 = .ok (.istore_n 3, 1) := by decide +kernel
theorem dX6_longest_2 : decode cX6_longest 2 = .ok (.iconst 0, 1) := by decide +kernel
theorem dX6_longest_3 : decode cX6_longest 3 = .ok (.istore 4, 2) := by decide +kernel
theorem dX6_longest_5 : decode cX6_longest 5 = .ok (.iconst 0, 1) := by decide +kernel
theorem dX6_longest_6 : decode cX6_longest 6 = .ok (.istore 5, 2) := by decide +kernel
theorem dX6_longest_8 : decode cX6_longest 8 = .ok (.iconst 0, 1) := by decide +kernel
theorem dX6_longest_9 : decode cX6_longest 9 = .ok (.istore 6, 2) := by decide +kernel
theorem dX6_longest_11 : decode cX6_longest 11 = .ok (.iload 6, 2) := by decide +kernel
theorem dX6_longest_13 : decode cX6_longest 13 = .ok (.aload_n 0, 1) := by decide +kernel
theorem dX6_longest_14 : decode cX6_longest 14 = .ok (.getfield 7, 3) := by decide +kernel
theorem dX6_longest_17 : decode cX6_longest 17 = .ok (.if_icmp .ge 80, 3) := by decide +kernel
theorem dX6_longest_20 : decode cX6_longest 20 = .ok (.iload 6, 2) := by decide +kernel
theorem dX6_longest_22 : decode cX6_longest 22 = .ok (.istore 7, 2) := by decide +kernel
theorem dX6_longest_24 : decode cX6_longest 24 = .ok (.iload 7, 2) := by decide +kernel
theorem dX6_longest_26 : decode cX6_longest 26 = .ok (.aload_n 0, 1) := by decide +kernel
theorem dX6_longest_27 : decode cX6_longest 27 = .ok (.getfield 7, 3) := by decide +kernel
theorem dX6_longest_30 : decode cX6_longest 30 = .ok (.if_icmp .ge 61, 3) := by decide +kernel
theorem dX6_longest_33 : decode cX6_longest 33 = .ok (.aload_n 0, 1) := by decide +kernel
theorem dX6_longest_34 : decode cX6_longest 34 = .ok (.iload 6, 2) := by decide +kernel
theorem dX6_longest_36 : decode cX6_longest 36 = .ok (.iload_n 1, 1) := by decide +kernel
theorem dX6_longest_37 : decode cX6_longest 37 = .ok (.invokevirtual 269, 3) := by decide +kernel
theorem dX6_longest_40 : decode cX6_longest 40 = .ok (.ifCond .eq 45, 3) := by decide +kernel
theorem dX6_longest_43 : decode cX6_longest 43 = .ok (.aload_n 0, 1) := by decide +kernel
theorem dX6_longest_44 : decode cX6_longest 44 = .ok (.iload 7, 2) := by decide +kernel
theorem dX6_longest_46 : decode cX6_longest 46 = .ok (.iload_n 1, 1) := by decide +kernel
theorem dX6_longest_47 : decode cX6_longest 47 = .ok (.invokevirtual 269, 3) := by decide +kernel
theorem dX6_longest_50 : decode cX6_longest 50 = .ok (.ifCond .eq 35, 3) := by decide +kernel
theorem dX6_longest_53 : decode cX6_longest 53 = .ok (.aload_n 0, 1) := by decide +kernel
theorem dX6_longest_54 : decode cX6_longest 54 = .ok (.iload 6, 2) := by decide +kernel
theorem dX6_longest_56 : decode cX6_longest 56 = .ok (.iload 7, 2) := by decide +kernel
theorem dX6_longest_58 : decode cX6_longest 58 = .ok (.invokevirtual 275, 3) := by decide +kernel
theorem dX6_longest_61 : decode cX6_longest 61 = .ok (.iload_n 3, 1) := by decide +kernel
theorem dX6_longest_62 : decode cX6_longest 62 = .ok (.if_icmp .gt 6, 3) := by decide +kernel
theorem dX6_longest_65 : decode cX6_longest 65 = .ok (.goto 20, 3) := by decide +kernel
theorem dX6_longest_68 : decode cX6_longest 68 = .ok (.aload_n 0, 1) := by decide +kernel
theorem dX6_longest_69 : decode cX6_longest 69 = .ok (.iload 6, 2) := by decide +kernel
theorem dX6_longest_71 : decode cX6_longest 71 = .ok (.iload 7, 2) := by decide +kernel
theorem dX6_longest_73 : decode cX6_longest 73 = .ok (.invokevirtual 275, 3) := by decide +kernel
theorem dX6_longest_76 : decode cX6_longest 76 = .ok (.istore_n 3, 1) := by decide +kernel
theorem dX6_longest_77 : decode cX6_longest 77 = .ok (.iload 6, 2) := by decide +kernel
theorem dX6_longest_79 : decode cX6_longest 79 = .ok (.istore 4, 2) := by decide +kernel
theorem dX6_longest_81 : decode cX6_longest 81 = .ok (.iload 7, 2) := by decide +kernel
theorem dX6_longest_83 : decode cX6_longest 83 = .ok (.istore 5, 2) := by decide +kernel
theorem dX6_longest_85 : decode cX6_longest 85 = .ok (.iinc 7 1, 3) := by decide +kernel
theorem dX6_longest_88 : decode cX6_longest 88 = .ok (.goto (-64), 3) := by decide +kernel
theorem dX6_longest_91 : decode cX6_longest 91 = .ok (.iinc 6 1, 3) := by decide +kernel
theorem dX6_longest_94 : decode cX6_longest 94 = .ok (.goto (-83), 3) := by decide +kernel
theorem dX6_longest_97 : decode cX6_longest 97 = .ok (.iload_n 2, 1) := by decide +kernel
theorem dX6_longest_98 : decode cX6_longest 98 = .ok (.ifCond .ne 7, 3) := by decide +kernel
theorem dX6_longest_101 : decode cX6_longest 101 = .ok (.iload_n 3, 1) := by decide +kernel
theorem dX6_longest_102 : decode cX6_longest 102 = .ok (.goto 15, 3) := by decide +kernel
theorem dX6_longest_105 : decode cX6_longest 105 = .ok (.iload_n 2, 1) := by decide +kernel
theorem dX6_longest_106 : decode cX6_longest 106 = .ok (.iconst 1, 1) := by decide +kernel
theorem dX6_longest_107 : decode cX6_longest 107 = .ok (.if_icmp .ne 8, 3) := by decide +kernel
theorem dX6_longest_110 : decode cX6_longest 110 = .ok (.iload 4, 2) := by decide +kernel
theorem dX6_longest_112 : decode cX6_longest 112 = .ok (.goto 5, 3) := by decide +kernel
theorem dX6_longest_115 : decode cX6_longest 115 = .ok (.iload 5, 2) := by decide +kernel
theorem dX6_longest_117 : decode cX6_longest 117 = .ok (.ireturn, 1) := by decide +kernel
theorem dX6_land_0 : decode cX6_land 0 = .ok (.aload_n 0, 1) := by decide +kernel
theorem dX6_land_1 : decode cX6_land 1 = .ok (.iconst 0, 1) := by decide +kernel
theorem dX6_land_2 : decode cX6_land 2 = .ok (.putfield 71, 3) := by decide +kernel
theorem dX6_land_5 : decode cX6_land 5 = .ok (.aload_n 0, 1) := by decide +kernel
theorem dX6_land_6 : decode cX6_land 6 = .ok (.invokevirtual 155, 3) := by decide +kernel
theorem dX6_land_9 : decode cX6_land 9 = .ok (.aload_n 0, 1) := by decide +kernel
theorem dX6_land_10 : decode cX6_land 10 = .ok (.iload_n 1, 1) := by decide +kernel
theorem dX6_land_11 : decode cX6_land 11 = .ok (.invokevirtual 278, 3) := by decide +kernel
theorem dX6_land_14 : decode cX6_land 14 = .ok (.ifCond .ne 5, 3) := by decide +kernel
theorem dX6_land_17 : decode cX6_land 17 = .ok (.iconst (-1), 1) := by decide +kernel
theorem dX6_land_18 : decode cX6_land 18 = .ok (.ireturn, 1) := by decide +kernel
theorem dX6_land_19 : decode cX6_land 19 = .ok (.aload_n 0, 1) := by decide +kernel
theorem dX6_land_20 : decode cX6_land 20 = .ok (.invokevirtual 224, 3) := by decide +kernel
theorem dX6_land_23 : decode cX6_land 23 = .ok (.iload_n 2, 1) := by decide +kernel
theorem dX6_land_24 : decode cX6_land 24 = .ok (.tableswitch 111 0 9 #[56, 63, 69, 76, 83, 89, 95, 101, 101, 101], 56) := by decide +kernel
theorem dX6_land_80 : decode cX6_land 80 = .ok (.aload_n 0, 1) := by decide +kernel
theorem dX6_land_81 : decode cX6_land 81 = .ok (.iconst 1, 1) := by decide +kernel
theorem dX6_land_82 : decode cX6_land 82 = .ok (.iload_n 1, 1) := by decide +kernel
theorem dX6_land_83 : decode cX6_land 83 = .ok (.invokevirtual 89, 3) := by decide +kernel
theorem dX6_land_86 : decode cX6_land 86 = .ok (.ireturn, 1) := by decide +kernel
theorem dX6_land_87 : decode cX6_land 87 = .ok (.aload_n 0, 1) := by decide +kernel
theorem dX6_land_88 : decode cX6_land 88 = .ok (.iload_n 1, 1) := by decide +kernel
theorem dX6_land_89 : decode cX6_land 89 = .ok (.invokevirtual 281, 3) := by decide +kernel
theorem dX6_land_92 : decode cX6_land 92 = .ok (.ireturn, 1) := by decide +kernel
theorem dX6_land_93 : decode cX6_land 93 = .ok (.aload_n 0, 1) := by decide +kernel
theorem dX6_land_94 : decode cX6_land 94 = .ok (.iload_n 1, 1) := by decide +kernel
theorem dX6_land_95 : decode cX6_land 95 = .ok (.iconst 1, 1) := by decide +kernel
theorem dX6_land_96 : decode cX6_land 96 = .ok (.invokevirtual 284, 3) := by decide +kernel
theorem dX6_land_99 : decode cX6_land 99 = .ok (.ireturn, 1) := by decide +kernel
theorem dX6_land_100 : decode cX6_land 100 = .ok (.aload_n 0, 1) := by decide +kernel
theorem dX6_land_101 : decode cX6_land 101 = .ok (.iload_n 1, 1) := by decide +kernel
theorem dX6_land_102 : decode cX6_land 102 = .ok (.iconst 0, 1) := by decide +kernel
theorem dX6_land_103 : decode cX6_land 103 = .ok (.invokevirtual 284, 3) := by decide +kernel
theorem dX6_land_106 : decode cX6_land 106 = .ok (.ireturn, 1) := by decide +kernel
theorem dX6_land_107 : decode cX6_land 107 = .ok (.aload_n 0, 1) := by decide +kernel
theorem dX6_land_108 : decode cX6_land 108 = .ok (.iload_n 1, 1) := by decide +kernel
theorem dX6_land_109 : decode cX6_land 109 = .ok (.invokevirtual 287, 3) := by decide +kernel
theorem dX6_land_112 : decode cX6_land 112 = .ok (.ireturn, 1) := by decide +kernel
theorem dX6_land_113 : decode cX6_land 113 = .ok (.aload_n 0, 1) := by decide +kernel
theorem dX6_land_114 : decode cX6_land 114 = .ok (.iload_n 1, 1) := by decide +kernel
theorem dX6_land_115 : decode cX6_land 115 = .ok (.invokevirtual 290, 3) := by decide +kernel
theorem dX6_land_118 : decode cX6_land 118 = .ok (.ireturn, 1) := by decide +kernel
theorem dX6_land_119 : decode cX6_land 119 = .ok (.aload_n 0, 1) := by decide +kernel
theorem dX6_land_120 : decode cX6_land 120 = .ok (.iload_n 1, 1) := by decide +kernel
theorem dX6_land_121 : decode cX6_land 121 = .ok (.invokevirtual 293, 3) := by decide +kernel
theorem dX6_land_124 : decode cX6_land 124 = .ok (.ireturn, 1) := by decide +kernel
theorem dX6_land_125 : decode cX6_land 125 = .ok (.aload_n 0, 1) := by decide +kernel
theorem dX6_land_126 : decode cX6_land 126 = .ok (.iload_n 1, 1) := by decide +kernel
theorem dX6_land_127 : decode cX6_land 127 = .ok (.iload_n 2, 1) := by decide +kernel
theorem dX6_land_128 : decode cX6_land 128 = .ok (.bipush 7, 2) := by decide +kernel
theorem dX6_land_130 : decode cX6_land 130 = .ok (.isub, 1) := by decide +kernel
theorem dX6_land_131 : decode cX6_land 131 = .ok (.invokevirtual 296, 3) := by decide +kernel
theorem dX6_land_134 : decode cX6_land 134 = .ok (.ireturn, 1) := by decide +kernel
theorem dX6_land_135 : decode cX6_land 135 = .ok (.iload_n 2, 1) := by decide +kernel
theorem dX6_land_136 : decode cX6_land 136 = .ok (.bipush 10, 2) := by decide +kernel
theorem dX6_land_138 : decode cX6_land 138 = .ok (.if_icmp .ne 12, 3) := by decide +kernel
theorem dX6_land_141 : decode cX6_land 141 = .ok (.aload_n 0, 1) := by decide +kernel
theorem dX6_land_142 : decode cX6_land 142 = .ok (.iconst 1, 1) := by decide +kernel
theorem dX6_land_143 : decode cX6_land 143 = .ok (.iload_n 1, 1) := by decide +kernel
theorem dX6_land_144 : decode cX6_land 144 = .ok (.invokevirtual 260, 3) := by decide +kernel
theorem dX6_land_147 : decode cX6_land 147 = .ok (.goto 4, 3) := by decide +kernel
theorem dX6_land_150 : decode cX6_land 150 = .ok (.iconst (-1), 1) := by decide +kernel
theorem dX6_land_151 : decode cX6_land 151 = .ok (.ireturn, 1) := by decide +kernel
theorem dX6_centre_0 : decode cX6_centre 0 = .ok (.aload_n 0, 1) := by decide +kernel
theorem dX6_centre_1 : decode cX6_centre 1 = .ok (.iconst 0, 1) := by decide +kernel
theorem dX6_centre_2 : decode cX6_centre 2 = .ok (.putfield 71, 3) := by decide +kernel
theorem dX6_centre_5 : decode cX6_centre 5 = .ok (.aload_n 0, 1) := by decide +kernel
theorem dX6_centre_6 : decode cX6_centre 6 = .ok (.invokevirtual 155, 3) := by decide +kernel
theorem dX6_centre_9 : decode cX6_centre 9 = .ok (.aload_n 0, 1) := by decide +kernel
theorem dX6_centre_10 : decode cX6_centre 10 = .ok (.iload_n 1, 1) := by decide +kernel
theorem dX6_centre_11 : decode cX6_centre 11 = .ok (.invokevirtual 278, 3) := by decide +kernel
theorem dX6_centre_14 : decode cX6_centre 14 = .ok (.ifCond .ne 5, 3) := by decide +kernel
theorem dX6_centre_17 : decode cX6_centre 17 = .ok (.iconst (-1), 1) := by decide +kernel
theorem dX6_centre_18 : decode cX6_centre 18 = .ok (.ireturn, 1) := by decide +kernel
theorem dX6_centre_19 : decode cX6_centre 19 = .ok (.iconst (-1), 1) := by decide +kernel
theorem dX6_centre_20 : decode cX6_centre 20 = .ok (.istore_n 2, 1) := by decide +kernel
theorem dX6_centre_21 : decode cX6_centre 21 = .ok (.iconst 0, 1) := by decide +kernel
theorem dX6_centre_22 : decode cX6_centre 22 = .ok (.istore_n 3, 1) := by decide +kernel
theorem dX6_centre_23 : decode cX6_centre 23 = .ok (.iconst 0, 1) := by decide +kernel
theorem dX6_centre_24 : decode cX6_centre 24 = .ok (.istore 4, 2) := by decide +kernel
theorem dX6_centre_26 : decode cX6_centre 26 = .ok (.iload 4, 2) := by decide +kernel
theorem dX6_centre_28 : decode cX6_centre 28 = .ok (.aload_n 0, 1) := by decide +kernel
theorem dX6_centre_29 : decode cX6_centre 29 = .ok (.getfield 7, 3) := by decide +kernel
theorem dX6_centre_32 : decode cX6_centre 32 = .ok (.if_icmp .ge 88, 3) := by decide +kernel
theorem dX6_centre_35 : decode cX6_centre 35 = .ok (.aload_n 0, 1) := by decide +kernel
theorem dX6_centre_36 : decode cX6_centre 36 = .ok (.iload 4, 2) := by decide +kernel
theorem dX6_centre_38 : decode cX6_centre 38 = .ok (.iload_n 1, 1) := by decide +kernel
theorem dX6_centre_39 : decode cX6_centre 39 = .ok (.invokevirtual 269, 3) := by decide +kernel
theorem dX6_centre_42 : decode cX6_centre 42 = .ok (.ifCond .ne 6, 3) := by decide +kernel
theorem dX6_centre_45 : decode cX6_centre 45 = .ok (.goto 69, 3) := by decide +kernel
theorem dX6_centre_48 : decode cX6_centre 48 = .ok (.iconst 0, 1) := by decide +kernel
theorem dX6_centre_49 : decode cX6_centre 49 = .ok (.istore 5, 2) := by decide +kernel
theorem dX6_centre_51 : decode cX6_centre 51 = .ok (.iconst 0, 1) := by decide +kernel
theorem dX6_centre_52 : decode cX6_centre 52 = .ok (.istore 6, 2) := by decide +kernel
theorem dX6_centre_54 : decode cX6_centre 54 = .ok (.iload 6, 2) := by decide +kernel
theorem dX6_centre_56 : decode cX6_centre 56 = .ok (.aload_n 0, 1) := by decide +kernel
theorem dX6_centre_57 : decode cX6_centre 57 = .ok (.getfield 7, 3) := by decide +kernel
theorem dX6_centre_60 : decode cX6_centre 60 = .ok (.if_icmp .ge 34, 3) := by decide +kernel
theorem dX6_centre_63 : decode cX6_centre 63 = .ok (.aload_n 0, 1) := by decide +kernel
theorem dX6_centre_64 : decode cX6_centre 64 = .ok (.iload 6, 2) := by decide +kernel
theorem dX6_centre_66 : decode cX6_centre 66 = .ok (.iload_n 1, 1) := by decide +kernel
theorem dX6_centre_67 : decode cX6_centre 67 = .ok (.invokevirtual 269, 3) := by decide +kernel
theorem dX6_centre_70 : decode cX6_centre 70 = .ok (.ifCond .eq 18, 3) := by decide +kernel
theorem dX6_centre_73 : decode cX6_centre 73 = .ok (.iload 5, 2) := by decide +kernel
theorem dX6_centre_75 : decode cX6_centre 75 = .ok (.aload_n 0, 1) := by decide +kernel
theorem dX6_centre_76 : decode cX6_centre 76 = .ok (.iload 4, 2) := by decide +kernel
theorem dX6_centre_78 : decode cX6_centre 78 = .ok (.iload 6, 2) := by decide +kernel
theorem dX6_centre_80 : decode cX6_centre 80 = .ok (.invokevirtual 275, 3) := by decide +kernel
theorem dX6_centre_83 : decode cX6_centre 83 = .ok (.invokestatic 93, 3) := by decide +kernel
theorem dX6_centre_86 : decode cX6_centre 86 = .ok (.istore 5, 2) := by decide +kernel
theorem dX6_centre_88 : decode cX6_centre 88 = .ok (.iinc 6 1, 3) := by decide +kernel
theorem dX6_centre_91 : decode cX6_centre 91 = .ok (.goto (-37), 3) := by decide +kernel
theorem dX6_centre_94 : decode cX6_centre 94 = .ok (.iload_n 2, 1) := by decide +kernel
theorem dX6_centre_95 : decode cX6_centre 95 = .ok (.iconst (-1), 1) := by decide +kernel
theorem dX6_centre_96 : decode cX6_centre 96 = .ok (.if_icmp .eq 12, 3) := by decide +kernel
theorem dX6_centre_99 : decode cX6_centre 99 = .ok (.iload 5, 2) := by decide +kernel
theorem dX6_centre_101 : decode cX6_centre 101 = .ok (.iload_n 3, 1) := by decide +kernel
theorem dX6_centre_102 : decode cX6_centre 102 = .ok (.if_icmp .lt 6, 3) := by decide +kernel
theorem dX6_centre_105 : decode cX6_centre 105 = .ok (.goto 9, 3) := by decide +kernel
theorem dX6_centre_108 : decode cX6_centre 108 = .ok (.iload 4, 2) := by decide +kernel
theorem dX6_centre_110 : decode cX6_centre 110 = .ok (.istore_n 2, 1) := by decide +kernel
theorem dX6_centre_111 : decode cX6_centre 111 = .ok (.iload 5, 2) := by decide +kernel
theorem dX6_centre_113 : decode cX6_centre 113 = .ok (.istore_n 3, 1) := by decide +kernel
theorem dX6_centre_114 : decode cX6_centre 114 = .ok (.iinc 4 1, 3) := by decide +kernel
theorem dX6_centre_117 : decode cX6_centre 117 = .ok (.goto (-91), 3) := by decide +kernel
theorem dX6_centre_120 : decode cX6_centre 120 = .ok (.iload_n 2, 1) := by decide +kernel
theorem dX6_centre_121 : decode cX6_centre 121 = .ok (.ireturn, 1) := by decide +kernel
theorem dX6_goesDown_0 : decode cX6_goesDown 0 = .ok (.aload_n 0, 1) := by decide +kernel
theorem dX6_goesDown_1 : decode cX6_goesDown 1 = .ok (.iload_n 1, 1) := by decide +kernel
theorem dX6_goesDown_2 : decode cX6_goesDown 2 = .ok (.invokevirtual 251, 3) := by decide +kernel
theorem dX6_goesDown_5 : decode cX6_goesDown 5 = .ok (.iconst 1, 1) := by decide +kernel
theorem dX6_goesDown_6 : decode cX6_goesDown 6 = .ok (.if_icmp .ne 23, 3) := by decide +kernel
theorem dX6_goesDown_9 : decode cX6_goesDown 9 = .ok (.aload_n 0, 1) := by decide +kernel
theorem dX6_goesDown_10 : decode cX6_goesDown 10 = .ok (.getfield 62, 3) := by decide +kernel
theorem dX6_goesDown_13 : decode cX6_goesDown 13 = .ok (.aload_n 0, 1) := by decide +kernel
theorem dX6_goesDown_14 : decode cX6_goesDown 14 = .ok (.getfield 299, 3) := by decide +kernel
theorem dX6_goesDown_17 : decode cX6_goesDown 17 = .ok (.iload_n 1, 1) := by decide +kernel
theorem dX6_goesDown_18 : decode cX6_goesDown 18 = .ok (.iastore, 1) := by decide +kernel
theorem dX6_goesDown_19 : decode cX6_goesDown 19 = .ok (.aload_n 0, 1) := by decide +kernel
theorem dX6_goesDown_20 : decode cX6_goesDown 20 = .ok (.aload_n 0, 1) := by decide +kernel
theorem dX6_goesDown_21 : decode cX6_goesDown 21 = .ok (.getfield 299, 3) := by decide +kernel
theorem dX6_goesDown_24 : decode cX6_goesDown 24 = .ok (.iconst 1, 1) := by decide +kernel
theorem dX6_goesDown_25 : decode cX6_goesDown 25 = .ok (.iadd, 1) := by decide +kernel
theorem dX6_goesDown_26 : decode cX6_goesDown 26 = .ok (.putfield 299, 3) := by decide +kernel
theorem dX6_goesDown_29 : decode cX6_goesDown 29 = .ok (.iconst 0, 1) := by decide +kernel
theorem dX6_goesDown_30 : decode cX6_goesDown 30 = .ok (.istore_n 2, 1) := by decide +kernel
theorem dX6_goesDown_31 : decode cX6_goesDown 31 = .ok (.iload_n 2, 1) := by decide +kernel
theorem dX6_goesDown_32 : decode cX6_goesDown 32 = .ok (.aload_n 0, 1) := by decide +kernel
theorem dX6_goesDown_33 : decode cX6_goesDown 33 = .ok (.iload_n 1, 1) := by decide +kernel
theorem dX6_goesDown_34 : decode cX6_goesDown 34 = .ok (.invokevirtual 254, 3) := by decide +kernel
theorem dX6_goesDown_37 : decode cX6_goesDown 37 = .ok (.if_icmp .ge 19, 3) := by decide +kernel
theorem dX6_goesDown_40 : decode cX6_goesDown 40 = .ok (.aload_n 0, 1) := by decide +kernel
theorem dX6_goesDown_41 : decode cX6_goesDown 41 = .ok (.aload_n 0, 1) := by decide +kernel
theorem dX6_goesDown_42 : decode cX6_goesDown 42 = .ok (.iload_n 1, 1) := by decide +kernel
theorem dX6_goesDown_43 : decode cX6_goesDown 43 = .ok (.iload_n 2, 1) := by decide +kernel
theorem dX6_goesDown_44 : decode cX6_goesDown 44 = .ok (.invokevirtual 266, 3) := by decide +kernel
theorem dX6_goesDown_47 : decode cX6_goesDown 47 = .ok (.invokevirtual 302, 3) := by decide +kernel
theorem dX6_goesDown_50 : decode cX6_goesDown 50 = .ok (.iinc 2 1, 3) := by decide +kernel
theorem dX6_goesDown_53 : decode cX6_goesDown 53 = .ok (.goto (-22), 3) := by decide +kernel
theorem dX6_goesDown_56 : decode cX6_goesDown 56 = .ok (.return_, 1) := by decide +kernel
theorem dX6_mending_0 : decode cX6_mending 0 = .ok (.aload_n 0, 1) := by decide +kernel
theorem dX6_mending_1 : decode cX6_mending 1 = .ok (.iconst 0, 1) := by decide +kernel
theorem dX6_mending_2 : decode cX6_mending 2 = .ok (.putfield 71, 3) := by decide +kernel
theorem dX6_mending_5 : decode cX6_mending 5 = .ok (.aload_n 0, 1) := by decide +kernel
theorem dX6_mending_6 : decode cX6_mending 6 = .ok (.invokevirtual 155, 3) := by decide +kernel
theorem dX6_mending_9 : decode cX6_mending 9 = .ok (.aload_n 0, 1) := by decide +kernel
theorem dX6_mending_10 : decode cX6_mending 10 = .ok (.iload_n 1, 1) := by decide +kernel
theorem dX6_mending_11 : decode cX6_mending 11 = .ok (.invokevirtual 278, 3) := by decide +kernel
theorem dX6_mending_14 : decode cX6_mending 14 = .ok (.ifCond .eq 32, 3) := by decide +kernel
theorem dX6_mending_17 : decode cX6_mending 17 = .ok (.aload_n 0, 1) := by decide +kernel
theorem dX6_mending_18 : decode cX6_mending 18 = .ok (.iload_n 3, 1) := by decide +kernel
theorem dX6_mending_19 : decode cX6_mending 19 = .ok (.i2l, 1) := by decide +kernel
theorem dX6_mending_20 : decode cX6_mending 20 = .ok (.lconst 0, 1) := by decide +kernel
theorem dX6_mending_21 : decode cX6_mending 21 = .ok (.lconst 1, 1) := by decide +kernel
theorem dX6_mending_22 : decode cX6_mending 22 = .ok (.invokevirtual 74, 3) := by decide +kernel
theorem dX6_mending_25 : decode cX6_mending 25 = .ok (.ifCond .eq 21, 3) := by decide +kernel
theorem dX6_mending_28 : decode cX6_mending 28 = .ok (.aload_n 0, 1) := by decide +kernel
theorem dX6_mending_29 : decode cX6_mending 29 = .ok (.iload_n 2, 1) := by decide +kernel
theorem dX6_mending_30 : decode cX6_mending 30 = .ok (.i2l, 1) := by decide +kernel
theorem dX6_mending_31 : decode cX6_mending 31 = .ok (.lconst 0, 1) := by decide +kernel
theorem dX6_mending_32 : decode cX6_mending 32 = .ok (.aload_n 0, 1) := by decide +kernel
theorem dX6_mending_33 : decode cX6_mending 33 = .ok (.iload_n 1, 1) := by decide +kernel
theorem dX6_mending_34 : decode cX6_mending 34 = .ok (.invokevirtual 290, 3) := by decide +kernel
theorem dX6_mending_37 : decode cX6_mending 37 = .ok (.i2l, 1) := by decide +kernel
theorem dX6_mending_38 : decode cX6_mending 38 = .ok (.lconst 1, 1) := by decide +kernel
theorem dX6_mending_39 : decode cX6_mending 39 = .ok (.lsub, 1) := by decide +kernel
theorem dX6_mending_40 : decode cX6_mending 40 = .ok (.invokevirtual 74, 3) := by decide +kernel
theorem dX6_mending_43 : decode cX6_mending 43 = .ok (.ifCond .ne 5, 3) := by decide +kernel
theorem dX6_mending_46 : decode cX6_mending 46 = .ok (.iconst (-1), 1) := by decide +kernel
theorem dX6_mending_47 : decode cX6_mending 47 = .ok (.ireturn, 1) := by decide +kernel
theorem dX6_mending_48 : decode cX6_mending 48 = .ok (.aload_n 0, 1) := by decide +kernel
theorem dX6_mending_49 : decode cX6_mending 49 = .ok (.iconst 0, 1) := by decide +kernel
theorem dX6_mending_50 : decode cX6_mending 50 = .ok (.putfield 299, 3) := by decide +kernel
theorem dX6_mending_53 : decode cX6_mending 53 = .ok (.aload_n 0, 1) := by decide +kernel
theorem dX6_mending_54 : decode cX6_mending 54 = .ok (.aload_n 0, 1) := by decide +kernel
theorem dX6_mending_55 : decode cX6_mending 55 = .ok (.iload_n 1, 1) := by decide +kernel
theorem dX6_mending_56 : decode cX6_mending 56 = .ok (.invokevirtual 287, 3) := by decide +kernel
theorem dX6_mending_59 : decode cX6_mending 59 = .ok (.invokevirtual 302, 3) := by decide +kernel
theorem dX6_mending_62 : decode cX6_mending 62 = .ok (.aload_n 0, 1) := by decide +kernel
theorem dX6_mending_63 : decode cX6_mending 63 = .ok (.aload_n 0, 1) := by decide +kernel
theorem dX6_mending_64 : decode cX6_mending 64 = .ok (.iconst 0, 1) := by decide +kernel
theorem dX6_mending_65 : decode cX6_mending 65 = .ok (.aload_n 0, 1) := by decide +kernel
theorem dX6_mending_66 : decode cX6_mending 66 = .ok (.getfield 62, 3) := by decide +kernel
theorem dX6_mending_69 : decode cX6_mending 69 = .ok (.iload_n 3, 1) := by decide +kernel
theorem dX6_mending_70 : decode cX6_mending 70 = .ok (.ifCond .ne 7, 3) := by decide +kernel
theorem dX6_mending_73 : decode cX6_mending 73 = .ok (.iload_n 2, 1) := by decide +kernel
theorem dX6_mending_74 : decode cX6_mending 74 = .ok (.goto 11, 3) := by decide +kernel
theorem dX6_mending_77 : decode cX6_mending 77 = .ok (.iload_n 2, 1) := by decide +kernel
theorem dX6_mending_78 : decode cX6_mending 78 = .ok (.aload_n 0, 1) := by decide +kernel
theorem dX6_mending_79 : decode cX6_mending 79 = .ok (.getfield 299, 3) := by decide +kernel
theorem dX6_mending_82 : decode cX6_mending 82 = .ok (.iconst 2, 1) := by decide +kernel
theorem dX6_mending_83 : decode cX6_mending 83 = .ok (.idiv, 1) := by decide +kernel
theorem dX6_mending_84 : decode cX6_mending 84 = .ok (.iadd, 1) := by decide +kernel
theorem dX6_mending_85 : decode cX6_mending 85 = .ok (.iaload, 1) := by decide +kernel
theorem dX6_mending_86 : decode cX6_mending 86 = .ok (.invokevirtual 242, 3) := by decide +kernel
theorem dX6_mending_89 : decode cX6_mending 89 = .ok (.invokevirtual 245, 3) := by decide +kernel
theorem dX6_mending_92 : decode cX6_mending 92 = .ok (.ireturn, 1) := by decide +kernel
theorem dX6_story_0 : decode cX6_story 0 = .ok (.aload_n 0, 1) := by decide +kernel
theorem dX6_story_1 : decode cX6_story 1 = .ok (.iconst 0, 1) := by decide +kernel
theorem dX6_story_2 : decode cX6_story 2 = .ok (.putfield 71, 3) := by decide +kernel
theorem dX6_story_5 : decode cX6_story 5 = .ok (.iload_n 1, 1) := by decide +kernel
theorem dX6_story_6 : decode cX6_story 6 = .ok (.iconst 2, 1) := by decide +kernel
theorem dX6_story_7 : decode cX6_story 7 = .ok (.if_icmp .ne 10, 3) := by decide +kernel
theorem dX6_story_10 : decode cX6_story 10 = .ok (.aload_n 0, 1) := by decide +kernel
theorem dX6_story_11 : decode cX6_story 11 = .ok (.iload_n 2, 1) := by decide +kernel
theorem dX6_story_12 : decode cX6_story 12 = .ok (.iload_n 3, 1) := by decide +kernel
theorem dX6_story_13 : decode cX6_story 13 = .ok (.invokevirtual 305, 3) := by decide +kernel
theorem dX6_story_16 : decode cX6_story 16 = .ok (.ireturn, 1) := by decide +kernel
theorem dX6_story_17 : decode cX6_story 17 = .ok (.aload_n 0, 1) := by decide +kernel
theorem dX6_story_18 : decode cX6_story 18 = .ok (.iload_n 1, 1) := by decide +kernel
theorem dX6_story_19 : decode cX6_story 19 = .ok (.i2l, 1) := by decide +kernel
theorem dX6_story_20 : decode cX6_story 20 = .ok (.lconst 0, 1) := by decide +kernel
theorem dX6_story_21 : decode cX6_story 21 = .ok (.lconst 1, 1) := by decide +kernel
theorem dX6_story_22 : decode cX6_story 22 = .ok (.invokevirtual 74, 3) := by decide +kernel
theorem dX6_story_25 : decode cX6_story 25 = .ok (.ifCond .eq 11, 3) := by decide +kernel
theorem dX6_story_28 : decode cX6_story 28 = .ok (.aload_n 0, 1) := by decide +kernel
theorem dX6_story_29 : decode cX6_story 29 = .ok (.iload_n 2, 1) := by decide +kernel
theorem dX6_story_30 : decode cX6_story 30 = .ok (.invokevirtual 81, 3) := by decide +kernel
theorem dX6_story_33 : decode cX6_story 33 = .ok (.ifCond .ne 5, 3) := by decide +kernel
theorem dX6_story_36 : decode cX6_story 36 = .ok (.iconst (-1), 1) := by decide +kernel
theorem dX6_story_37 : decode cX6_story 37 = .ok (.ireturn, 1) := by decide +kernel
theorem dX6_story_38 : decode cX6_story 38 = .ok (.aload_n 0, 1) := by decide +kernel
theorem dX6_story_39 : decode cX6_story 39 = .ok (.invokevirtual 155, 3) := by decide +kernel
theorem dX6_story_42 : decode cX6_story 42 = .ok (.bipush 32, 2) := by decide +kernel
theorem dX6_story_44 : decode cX6_story 44 = .ok (.iload_n 1, 1) := by decide +kernel
theorem dX6_story_45 : decode cX6_story 45 = .ok (.imul, 1) := by decide +kernel
theorem dX6_story_46 : decode cX6_story 46 = .ok (.iload_n 2, 1) := by decide +kernel
theorem dX6_story_47 : decode cX6_story 47 = .ok (.iadd, 1) := by decide +kernel
theorem dX6_story_48 : decode cX6_story 48 = .ok (.istore 4, 2) := by decide +kernel
theorem dX6_story_50 : decode cX6_story 50 = .ok (.iload_n 2, 1) := by decide +kernel
theorem dX6_story_51 : decode cX6_story 51 = .ok (.istore 5, 2) := by decide +kernel
theorem dX6_story_53 : decode cX6_story 53 = .ok (.aload_n 0, 1) := by decide +kernel
theorem dX6_story_54 : decode cX6_story 54 = .ok (.getfield 35, 3) := by decide +kernel
theorem dX6_story_57 : decode cX6_story 57 = .ok (.bipush 32, 2) := by decide +kernel
theorem dX6_story_59 : decode cX6_story 59 = .ok (.iload_n 1, 1) := by decide +kernel
theorem dX6_story_60 : decode cX6_story 60 = .ok (.imul, 1) := by decide +kernel
theorem dX6_story_61 : decode cX6_story 61 = .ok (.iload 5, 2) := by decide +kernel
theorem dX6_story_63 : decode cX6_story 63 = .ok (.iadd, 1) := by decide +kernel
theorem dX6_story_64 : decode cX6_story 64 = .ok (.iaload, 1) := by decide +kernel
theorem dX6_story_65 : decode cX6_story 65 = .ok (.iconst (-1), 1) := by decide +kernel
theorem dX6_story_66 : decode cX6_story 66 = .ok (.if_icmp .eq 20, 3) := by decide +kernel
theorem dX6_story_69 : decode cX6_story 69 = .ok (.aload_n 0, 1) := by decide +kernel
theorem dX6_story_70 : decode cX6_story 70 = .ok (.getfield 35, 3) := by decide +kernel
theorem dX6_story_73 : decode cX6_story 73 = .ok (.bipush 32, 2) := by decide +kernel
theorem dX6_story_75 : decode cX6_story 75 = .ok (.iload_n 1, 1) := by decide +kernel
theorem dX6_story_76 : decode cX6_story 76 = .ok (.imul, 1) := by decide +kernel
theorem dX6_story_77 : decode cX6_story 77 = .ok (.iload 5, 2) := by decide +kernel
theorem dX6_story_79 : decode cX6_story 79 = .ok (.iadd, 1) := by decide +kernel
theorem dX6_story_80 : decode cX6_story 80 = .ok (.iaload, 1) := by decide +kernel
theorem dX6_story_81 : decode cX6_story 81 = .ok (.istore 5, 2) := by decide +kernel
theorem dX6_story_83 : decode cX6_story 83 = .ok (.goto (-30), 3) := by decide +kernel
theorem dX6_story_86 : decode cX6_story 86 = .ok (.iload_n 3, 1) := by decide +kernel
theorem dX6_story_87 : decode cX6_story 87 = .ok (.tableswitch 70 0 3 #[29, 46, 54, 62], 29) := by decide +kernel
theorem dX6_story_116 : decode cX6_story 116 = .ok (.aload_n 0, 1) := by decide +kernel
theorem dX6_story_117 : decode cX6_story 117 = .ok (.getfield 32, 3) := by decide +kernel
theorem dX6_story_120 : decode cX6_story 120 = .ok (.iload 4, 2) := by decide +kernel
theorem dX6_story_122 : decode cX6_story 122 = .ok (.iaload, 1) := by decide +kernel
theorem dX6_story_123 : decode cX6_story 123 = .ok (.iconst (-1), 1) := by decide +kernel
theorem dX6_story_124 : decode cX6_story 124 = .ok (.if_icmp .ne 7, 3) := by decide +kernel
theorem dX6_story_127 : decode cX6_story 127 = .ok (.iconst 1, 1) := by decide +kernel
theorem dX6_story_128 : decode cX6_story 128 = .ok (.goto 4, 3) := by decide +kernel
theorem dX6_story_131 : decode cX6_story 131 = .ok (.iconst 0, 1) := by decide +kernel
theorem dX6_story_132 : decode cX6_story 132 = .ok (.ireturn, 1) := by decide +kernel
theorem dX6_story_133 : decode cX6_story 133 = .ok (.aload_n 0, 1) := by decide +kernel
theorem dX6_story_134 : decode cX6_story 134 = .ok (.getfield 32, 3) := by decide +kernel
theorem dX6_story_137 : decode cX6_story 137 = .ok (.iload 4, 2) := by decide +kernel
theorem dX6_story_139 : decode cX6_story 139 = .ok (.iaload, 1) := by decide +kernel
theorem dX6_story_140 : decode cX6_story 140 = .ok (.ireturn, 1) := by decide +kernel
theorem dX6_story_141 : decode cX6_story 141 = .ok (.aload_n 0, 1) := by decide +kernel
theorem dX6_story_142 : decode cX6_story 142 = .ok (.getfield 35, 3) := by decide +kernel
theorem dX6_story_145 : decode cX6_story 145 = .ok (.iload 4, 2) := by decide +kernel
theorem dX6_story_147 : decode cX6_story 147 = .ok (.iaload, 1) := by decide +kernel
theorem dX6_story_148 : decode cX6_story 148 = .ok (.ireturn, 1) := by decide +kernel
theorem dX6_story_149 : decode cX6_story 149 = .ok (.aload_n 0, 1) := by decide +kernel
theorem dX6_story_150 : decode cX6_story 150 = .ok (.getfield 38, 3) := by decide +kernel
theorem dX6_story_153 : decode cX6_story 153 = .ok (.iload 4, 2) := by decide +kernel
theorem dX6_story_155 : decode cX6_story 155 = .ok (.iaload, 1) := by decide +kernel
theorem dX6_story_156 : decode cX6_story 156 = .ok (.ireturn, 1) := by decide +kernel
theorem dX6_story_157 : decode cX6_story 157 = .ok (.iload_n 3, 1) := by decide +kernel
theorem dX6_story_158 : decode cX6_story 158 = .ok (.iconst 4, 1) := by decide +kernel
theorem dX6_story_159 : decode cX6_story 159 = .ok (.if_icmp .ne 8, 3) := by decide +kernel
theorem dX6_story_162 : decode cX6_story 162 = .ok (.iload 5, 2) := by decide +kernel
theorem dX6_story_164 : decode cX6_story 164 = .ok (.goto 4, 3) := by decide +kernel
theorem dX6_story_167 : decode cX6_story 167 = .ok (.iconst (-1), 1) := by decide +kernel
theorem dX6_story_168 : decode cX6_story 168 = .ok (.ireturn, 1) := by decide +kernel
theorem dX6_latest_0 : decode cX6_latest 0 = .ok (.aload_n 0, 1) := by decide +kernel
theorem dX6_latest_1 : decode cX6_latest 1 = .ok (.iconst 0, 1) := by decide +kernel
theorem dX6_latest_2 : decode cX6_latest 2 = .ok (.putfield 71, 3) := by decide +kernel
theorem dX6_latest_5 : decode cX6_latest 5 = .ok (.aload_n 0, 1) := by decide +kernel
theorem dX6_latest_6 : decode cX6_latest 6 = .ok (.getfield 78, 3) := by decide +kernel
theorem dX6_latest_9 : decode cX6_latest 9 = .ok (.ifCond .ne 5, 3) := by decide +kernel
theorem dX6_latest_12 : decode cX6_latest 12 = .ok (.iconst (-1), 1) := by decide +kernel
theorem dX6_latest_13 : decode cX6_latest 13 = .ok (.ireturn, 1) := by decide +kernel
theorem dX6_latest_14 : decode cX6_latest 14 = .ok (.aload_n 0, 1) := by decide +kernel
theorem dX6_latest_15 : decode cX6_latest 15 = .ok (.iconst (-1), 1) := by decide +kernel
theorem dX6_latest_16 : decode cX6_latest 16 = .ok (.putfield 20, 3) := by decide +kernel
theorem dX6_latest_19 : decode cX6_latest 19 = .ok (.aload_n 0, 1) := by decide +kernel
theorem dX6_latest_20 : decode cX6_latest 20 = .ok (.invokevirtual 155, 3) := by decide +kernel
theorem dX6_latest_23 : decode cX6_latest 23 = .ok (.iload_n 1, 1) := by decide +kernel
theorem dX6_latest_24 : decode cX6_latest 24 = .ok (.ifCond .ne 10, 3) := by decide +kernel
theorem dX6_latest_27 : decode cX6_latest 27 = .ok (.aload_n 0, 1) := by decide +kernel
theorem dX6_latest_28 : decode cX6_latest 28 = .ok (.getfield 102, 3) := by decide +kernel
theorem dX6_latest_31 : decode cX6_latest 31 = .ok (.goto 40, 3) := by decide +kernel
theorem dX6_latest_34 : decode cX6_latest 34 = .ok (.iload_n 1, 1) := by decide +kernel
theorem dX6_latest_35 : decode cX6_latest 35 = .ok (.iconst 1, 1) := by decide +kernel
theorem dX6_latest_36 : decode cX6_latest 36 = .ok (.if_icmp .ne 10, 3) := by decide +kernel
theorem dX6_latest_39 : decode cX6_latest 39 = .ok (.aload_n 0, 1) := by decide +kernel
theorem dX6_latest_40 : decode cX6_latest 40 = .ok (.getfield 112, 3) := by decide +kernel
theorem dX6_latest_43 : decode cX6_latest 43 = .ok (.goto 28, 3) := by decide +kernel
theorem dX6_latest_46 : decode cX6_latest 46 = .ok (.iload_n 1, 1) := by decide +kernel
theorem dX6_latest_47 : decode cX6_latest 47 = .ok (.iconst 2, 1) := by decide +kernel
theorem dX6_latest_48 : decode cX6_latest 48 = .ok (.if_icmp .ne 10, 3) := by decide +kernel
theorem dX6_latest_51 : decode cX6_latest 51 = .ok (.aload_n 0, 1) := by decide +kernel
theorem dX6_latest_52 : decode cX6_latest 52 = .ok (.getfield 115, 3) := by decide +kernel
theorem dX6_latest_55 : decode cX6_latest 55 = .ok (.goto 16, 3) := by decide +kernel
theorem dX6_latest_58 : decode cX6_latest 58 = .ok (.iload_n 1, 1) := by decide +kernel
theorem dX6_latest_59 : decode cX6_latest 59 = .ok (.iconst 3, 1) := by decide +kernel
theorem dX6_latest_60 : decode cX6_latest 60 = .ok (.if_icmp .ne 10, 3) := by decide +kernel
theorem dX6_latest_63 : decode cX6_latest 63 = .ok (.aload_n 0, 1) := by decide +kernel
theorem dX6_latest_64 : decode cX6_latest 64 = .ok (.getfield 118, 3) := by decide +kernel
theorem dX6_latest_67 : decode cX6_latest 67 = .ok (.goto 4, 3) := by decide +kernel
theorem dX6_latest_70 : decode cX6_latest 70 = .ok (.iconst (-1), 1) := by decide +kernel
theorem dX6_latest_71 : decode cX6_latest 71 = .ok (.ireturn, 1) := by decide +kernel
theorem dX6_doubleSafe_0 : decode cX6_doubleSafe 0 = .ok (.aload_n 0, 1) := by decide +kernel
theorem dX6_doubleSafe_1 : decode cX6_doubleSafe 1 = .ok (.iconst 0, 1) := by decide +kernel
theorem dX6_doubleSafe_2 : decode cX6_doubleSafe 2 = .ok (.putfield 71, 3) := by decide +kernel
theorem dX6_doubleSafe_5 : decode cX6_doubleSafe 5 = .ok (.aload_n 0, 1) := by decide +kernel
theorem dX6_doubleSafe_6 : decode cX6_doubleSafe 6 = .ok (.iload_n 1, 1) := by decide +kernel
theorem dX6_doubleSafe_7 : decode cX6_doubleSafe 7 = .ok (.iload_n 2, 1) := by decide +kernel
theorem dX6_doubleSafe_8 : decode cX6_doubleSafe 8 = .ok (.invokevirtual 152, 3) := by decide +kernel
theorem dX6_doubleSafe_11 : decode cX6_doubleSafe 11 = .ok (.ifCond .ne 5, 3) := by decide +kernel
theorem dX6_doubleSafe_14 : decode cX6_doubleSafe 14 = .ok (.iconst (-1), 1) := by decide +kernel
theorem dX6_doubleSafe_15 : decode cX6_doubleSafe 15 = .ok (.ireturn, 1) := by decide +kernel
theorem dX6_doubleSafe_16 : decode cX6_doubleSafe 16 = .ok (.aload_n 0, 1) := by decide +kernel
theorem dX6_doubleSafe_17 : decode cX6_doubleSafe 17 = .ok (.invokevirtual 155, 3) := by decide +kernel
theorem dX6_doubleSafe_20 : decode cX6_doubleSafe 20 = .ok (.aload_n 0, 1) := by decide +kernel
theorem dX6_doubleSafe_21 : decode cX6_doubleSafe 21 = .ok (.invokevirtual 224, 3) := by decide +kernel
theorem dX6_doubleSafe_24 : decode cX6_doubleSafe 24 = .ok (.aload_n 0, 1) := by decide +kernel
theorem dX6_doubleSafe_25 : decode cX6_doubleSafe 25 = .ok (.iload_n 1, 1) := by decide +kernel
theorem dX6_doubleSafe_26 : decode cX6_doubleSafe 26 = .ok (.iload_n 2, 1) := by decide +kernel
theorem dX6_doubleSafe_27 : decode cX6_doubleSafe 27 = .ok (.invokevirtual 308, 3) := by decide +kernel
theorem dX6_doubleSafe_30 : decode cX6_doubleSafe 30 = .ok (.ifCond .eq 7, 3) := by decide +kernel
theorem dX6_doubleSafe_33 : decode cX6_doubleSafe 33 = .ok (.iconst 1, 1) := by decide +kernel
theorem dX6_doubleSafe_34 : decode cX6_doubleSafe 34 = .ok (.goto 4, 3) := by decide +kernel
theorem dX6_doubleSafe_37 : decode cX6_doubleSafe 37 = .ok (.iconst 0, 1) := by decide +kernel
theorem dX6_doubleSafe_38 : decode cX6_doubleSafe 38 = .ok (.ireturn, 1) := by decide +kernel
theorem dX6_laysWay_0 : decode cX6_laysWay 0 = .ok (.aload_n 0, 1) := by decide +kernel
theorem dX6_laysWay_1 : decode cX6_laysWay 1 = .ok (.iconst 0, 1) := by decide +kernel
theorem dX6_laysWay_2 : decode cX6_laysWay 2 = .ok (.putfield 311, 3) := by decide +kernel
theorem dX6_laysWay_5 : decode cX6_laysWay 5 = .ok (.aload_n 0, 1) := by decide +kernel
theorem dX6_laysWay_6 : decode cX6_laysWay 6 = .ok (.getfield 65, 3) := by decide +kernel
theorem dX6_laysWay_9 : decode cX6_laysWay 9 = .ok (.iconst 0, 1) := by decide +kernel
theorem dX6_laysWay_10 : decode cX6_laysWay 10 = .ok (.iload_n 1, 1) := by decide +kernel
theorem dX6_laysWay_11 : decode cX6_laysWay 11 = .ok (.iastore, 1) := by decide +kernel
theorem dX6_laysWay_12 : decode cX6_laysWay 12 = .ok (.aload_n 0, 1) := by decide +kernel
theorem dX6_laysWay_13 : decode cX6_laysWay 13 = .ok (.aload_n 0, 1) := by decide +kernel
theorem dX6_laysWay_14 : decode cX6_laysWay 14 = .ok (.iload_n 1, 1) := by decide +kernel
theorem dX6_laysWay_15 : decode cX6_laysWay 15 = .ok (.aload_n 0, 1) := by decide +kernel
theorem dX6_laysWay_16 : decode cX6_laysWay 16 = .ok (.getfield 78, 3) := by decide +kernel
theorem dX6_laysWay_19 : decode cX6_laysWay 19 = .ok (.iload_n 3, 1) := by decide +kernel
theorem dX6_laysWay_20 : decode cX6_laysWay 20 = .ok (.iconst (-1), 1) := by decide +kernel
theorem dX6_laysWay_21 : decode cX6_laysWay 21 = .ok (.invokevirtual 220, 3) := by decide +kernel
theorem dX6_laysWay_24 : decode cX6_laysWay 24 = .ok (.iload_n 2, 1) := by decide +kernel
theorem dX6_laysWay_25 : decode cX6_laysWay 25 = .ok (.invokevirtual 85, 3) := by decide +kernel
theorem dX6_laysWay_28 : decode cX6_laysWay 28 = .ok (.ifCond .ne 5, 3) := by decide +kernel
theorem dX6_laysWay_31 : decode cX6_laysWay 31 = .ok (.iconst 0, 1) := by decide +kernel
theorem dX6_laysWay_32 : decode cX6_laysWay 32 = .ok (.ireturn, 1) := by decide +kernel
theorem dX6_laysWay_33 : decode cX6_laysWay 33 = .ok (.iload_n 1, 1) := by decide +kernel
theorem dX6_laysWay_34 : decode cX6_laysWay 34 = .ok (.istore 4, 2) := by decide +kernel
theorem dX6_laysWay_36 : decode cX6_laysWay 36 = .ok (.iload 4, 2) := by decide +kernel
theorem dX6_laysWay_38 : decode cX6_laysWay 38 = .ok (.iload_n 2, 1) := by decide +kernel
theorem dX6_laysWay_39 : decode cX6_laysWay 39 = .ok (.if_icmp .eq 154, 3) := by decide +kernel
theorem dX6_laysWay_42 : decode cX6_laysWay 42 = .ok (.iconst (-1), 1) := by decide +kernel
theorem dX6_laysWay_43 : decode cX6_laysWay 43 = .ok (.istore 5, 2) := by decide +kernel
theorem dX6_laysWay_45 : decode cX6_laysWay 45 = .ok (.iconst (-1), 1) := by decide +kernel
theorem dX6_laysWay_46 : decode cX6_laysWay 46 = .ok (.istore 6, 2) := by decide +kernel
theorem dX6_laysWay_48 : decode cX6_laysWay 48 = .ok (.iconst 0, 1) := by decide +kernel
theorem dX6_laysWay_49 : decode cX6_laysWay 49 = .ok (.istore 7, 2) := by decide +kernel
theorem dX6_laysWay_51 : decode cX6_laysWay 51 = .ok (.iload 7, 2) := by decide +kernel
theorem dX6_laysWay_53 : decode cX6_laysWay 53 = .ok (.aload_n 0, 1) := by decide +kernel
theorem dX6_laysWay_54 : decode cX6_laysWay 54 = .ok (.getfield 78, 3) := by decide +kernel
theorem dX6_laysWay_57 : decode cX6_laysWay 57 = .ok (.if_icmp .ge 97, 3) := by decide +kernel
theorem dX6_laysWay_60 : decode cX6_laysWay 60 = .ok (.iload 7, 2) := by decide +kernel
theorem dX6_laysWay_62 : decode cX6_laysWay 62 = .ok (.iload_n 3, 1) := by decide +kernel
theorem dX6_laysWay_63 : decode cX6_laysWay 63 = .ok (.if_icmp .eq 85, 3) := by decide +kernel
theorem dX6_laysWay_66 : decode cX6_laysWay 66 = .ok (.aload_n 0, 1) := by decide +kernel
theorem dX6_laysWay_67 : decode cX6_laysWay 67 = .ok (.getfield 13, 3) := by decide +kernel
theorem dX6_laysWay_70 : decode cX6_laysWay 70 = .ok (.iload 7, 2) := by decide +kernel
theorem dX6_laysWay_72 : decode cX6_laysWay 72 = .ok (.iaload, 1) := by decide +kernel
theorem dX6_laysWay_73 : decode cX6_laysWay 73 = .ok (.iload 4, 2) := by decide +kernel
theorem dX6_laysWay_75 : decode cX6_laysWay 75 = .ok (.if_icmp .eq 18, 3) := by decide +kernel
theorem dX6_laysWay_78 : decode cX6_laysWay 78 = .ok (.aload_n 0, 1) := by decide +kernel
theorem dX6_laysWay_79 : decode cX6_laysWay 79 = .ok (.getfield 17, 3) := by decide +kernel
theorem dX6_laysWay_82 : decode cX6_laysWay 82 = .ok (.iload 7, 2) := by decide +kernel
theorem dX6_laysWay_84 : decode cX6_laysWay 84 = .ok (.iaload, 1) := by decide +kernel
theorem dX6_laysWay_85 : decode cX6_laysWay 85 = .ok (.iload 4, 2) := by decide +kernel
theorem dX6_laysWay_87 : decode cX6_laysWay 87 = .ok (.if_icmp .eq 6, 3) := by decide +kernel
theorem dX6_laysWay_90 : decode cX6_laysWay 90 = .ok (.goto 58, 3) := by decide +kernel
theorem dX6_laysWay_93 : decode cX6_laysWay 93 = .ok (.aload_n 0, 1) := by decide +kernel
theorem dX6_laysWay_94 : decode cX6_laysWay 94 = .ok (.iload 7, 2) := by decide +kernel
theorem dX6_laysWay_96 : decode cX6_laysWay 96 = .ok (.iload 4, 2) := by decide +kernel
theorem dX6_laysWay_98 : decode cX6_laysWay 98 = .ok (.invokevirtual 182, 3) := by decide +kernel
theorem dX6_laysWay_101 : decode cX6_laysWay 101 = .ok (.istore 8, 2) := by decide +kernel
theorem dX6_laysWay_103 : decode cX6_laysWay 103 = .ok (.aload_n 0, 1) := by decide +kernel
theorem dX6_laysWay_104 : decode cX6_laysWay 104 = .ok (.iload 8, 2) := by decide +kernel
theorem dX6_laysWay_106 : decode cX6_laysWay 106 = .ok (.iload_n 2, 1) := by decide +kernel
theorem dX6_laysWay_107 : decode cX6_laysWay 107 = .ok (.iload_n 3, 1) := by decide +kernel
theorem dX6_laysWay_108 : decode cX6_laysWay 108 = .ok (.invokevirtual 314, 3) := by decide +kernel
theorem dX6_laysWay_111 : decode cX6_laysWay 111 = .ok (.aload_n 0, 1) := by decide +kernel
theorem dX6_laysWay_112 : decode cX6_laysWay 112 = .ok (.iload 4, 2) := by decide +kernel
theorem dX6_laysWay_114 : decode cX6_laysWay 114 = .ok (.iload_n 2, 1) := by decide +kernel
theorem dX6_laysWay_115 : decode cX6_laysWay 115 = .ok (.iload_n 3, 1) := by decide +kernel
theorem dX6_laysWay_116 : decode cX6_laysWay 116 = .ok (.invokevirtual 314, 3) := by decide +kernel
theorem dX6_laysWay_119 : decode cX6_laysWay 119 = .ok (.iconst 1, 1) := by decide +kernel
theorem dX6_laysWay_120 : decode cX6_laysWay 120 = .ok (.isub, 1) := by decide +kernel
theorem dX6_laysWay_121 : decode cX6_laysWay 121 = .ok (.if_icmp .ne 27, 3) := by decide +kernel
theorem dX6_laysWay_124 : decode cX6_laysWay 124 = .ok (.iload 5, 2) := by decide +kernel
theorem dX6_laysWay_126 : decode cX6_laysWay 126 = .ok (.iconst (-1), 1) := by decide +kernel
theorem dX6_laysWay_127 : decode cX6_laysWay 127 = .ok (.if_icmp .eq 13, 3) := by decide +kernel
theorem dX6_laysWay_130 : decode cX6_laysWay 130 = .ok (.iload 8, 2) := by decide +kernel
theorem dX6_laysWay_132 : decode cX6_laysWay 132 = .ok (.iload 5, 2) := by decide +kernel
theorem dX6_laysWay_134 : decode cX6_laysWay 134 = .ok (.if_icmp .lt 6, 3) := by decide +kernel
theorem dX6_laysWay_137 : decode cX6_laysWay 137 = .ok (.goto 11, 3) := by decide +kernel
theorem dX6_laysWay_140 : decode cX6_laysWay 140 = .ok (.iload 8, 2) := by decide +kernel
theorem dX6_laysWay_142 : decode cX6_laysWay 142 = .ok (.istore 5, 2) := by decide +kernel
theorem dX6_laysWay_144 : decode cX6_laysWay 144 = .ok (.iload 7, 2) := by decide +kernel
theorem dX6_laysWay_146 : decode cX6_laysWay 146 = .ok (.istore 6, 2) := by decide +kernel
theorem dX6_laysWay_148 : decode cX6_laysWay 148 = .ok (.iinc 7 1, 3) := by decide +kernel
theorem dX6_laysWay_151 : decode cX6_laysWay 151 = .ok (.goto (-100), 3) := by decide +kernel
theorem dX6_laysWay_154 : decode cX6_laysWay 154 = .ok (.aload_n 0, 1) := by decide +kernel
theorem dX6_laysWay_155 : decode cX6_laysWay 155 = .ok (.getfield 68, 3) := by decide +kernel
theorem dX6_laysWay_158 : decode cX6_laysWay 158 = .ok (.aload_n 0, 1) := by decide +kernel
theorem dX6_laysWay_159 : decode cX6_laysWay 159 = .ok (.getfield 311, 3) := by decide +kernel
theorem dX6_laysWay_162 : decode cX6_laysWay 162 = .ok (.iload 6, 2) := by decide +kernel
theorem dX6_laysWay_164 : decode cX6_laysWay 164 = .ok (.iastore, 1) := by decide +kernel
theorem dX6_laysWay_165 : decode cX6_laysWay 165 = .ok (.aload_n 0, 1) := by decide +kernel
theorem dX6_laysWay_166 : decode cX6_laysWay 166 = .ok (.aload_n 0, 1) := by decide +kernel
theorem dX6_laysWay_167 : decode cX6_laysWay 167 = .ok (.getfield 311, 3) := by decide +kernel
theorem dX6_laysWay_170 : decode cX6_laysWay 170 = .ok (.iconst 1, 1) := by decide +kernel
theorem dX6_laysWay_171 : decode cX6_laysWay 171 = .ok (.iadd, 1) := by decide +kernel
theorem dX6_laysWay_172 : decode cX6_laysWay 172 = .ok (.putfield 311, 3) := by decide +kernel
theorem dX6_laysWay_175 : decode cX6_laysWay 175 = .ok (.aload_n 0, 1) := by decide +kernel
theorem dX6_laysWay_176 : decode cX6_laysWay 176 = .ok (.getfield 65, 3) := by decide +kernel
theorem dX6_laysWay_179 : decode cX6_laysWay 179 = .ok (.aload_n 0, 1) := by decide +kernel
theorem dX6_laysWay_180 : decode cX6_laysWay 180 = .ok (.getfield 311, 3) := by decide +kernel
theorem dX6_laysWay_183 : decode cX6_laysWay 183 = .ok (.iload 5, 2) := by decide +kernel
theorem dX6_laysWay_185 : decode cX6_laysWay 185 = .ok (.iastore, 1) := by decide +kernel
theorem dX6_laysWay_186 : decode cX6_laysWay 186 = .ok (.iload 5, 2) := by decide +kernel
theorem dX6_laysWay_188 : decode cX6_laysWay 188 = .ok (.istore 4, 2) := by decide +kernel
theorem dX6_laysWay_190 : decode cX6_laysWay 190 = .ok (.goto (-154), 3) := by decide +kernel
theorem dX6_laysWay_193 : decode cX6_laysWay 193 = .ok (.iconst 1, 1) := by decide +kernel
theorem dX6_laysWay_194 : decode cX6_laysWay 194 = .ok (.ireturn, 1) := by decide +kernel
theorem dX6_steps_0 : decode cX6_steps 0 = .ok (.iconst 1, 1) := by decide +kernel
theorem dX6_steps_1 : decode cX6_steps 1 = .ok (.iload_n 1, 1) := by decide +kernel
theorem dX6_steps_2 : decode cX6_steps 2 = .ok (.ishl, 1) := by decide +kernel
theorem dX6_steps_3 : decode cX6_steps 3 = .ok (.istore 4, 2) := by decide +kernel
theorem dX6_steps_5 : decode cX6_steps 5 = .ok (.iconst 0, 1) := by decide +kernel
theorem dX6_steps_6 : decode cX6_steps 6 = .ok (.istore 5, 2) := by decide +kernel
theorem dX6_steps_8 : decode cX6_steps 8 = .ok (.aload_n 0, 1) := by decide +kernel
theorem dX6_steps_9 : decode cX6_steps 9 = .ok (.iload 4, 2) := by decide +kernel
theorem dX6_steps_11 : decode cX6_steps 11 = .ok (.iload_n 2, 1) := by decide +kernel
theorem dX6_steps_12 : decode cX6_steps 12 = .ok (.invokevirtual 85, 3) := by decide +kernel
theorem dX6_steps_15 : decode cX6_steps 15 = .ok (.ifCond .ne 114, 3) := by decide +kernel
theorem dX6_steps_18 : decode cX6_steps 18 = .ok (.iload 5, 2) := by decide +kernel
theorem dX6_steps_20 : decode cX6_steps 20 = .ok (.bipush 32, 2) := by decide +kernel
theorem dX6_steps_22 : decode cX6_steps 22 = .ok (.if_icmp .gt 107, 3) := by decide +kernel
theorem dX6_steps_25 : decode cX6_steps 25 = .ok (.iload 4, 2) := by decide +kernel
theorem dX6_steps_27 : decode cX6_steps 27 = .ok (.istore 6, 2) := by decide +kernel
theorem dX6_steps_29 : decode cX6_steps 29 = .ok (.iconst 0, 1) := by decide +kernel
theorem dX6_steps_30 : decode cX6_steps 30 = .ok (.istore 7, 2) := by decide +kernel
theorem dX6_steps_32 : decode cX6_steps 32 = .ok (.iload 7, 2) := by decide +kernel
theorem dX6_steps_34 : decode cX6_steps 34 = .ok (.aload_n 0, 1) := by decide +kernel
theorem dX6_steps_35 : decode cX6_steps 35 = .ok (.getfield 78, 3) := by decide +kernel
theorem dX6_steps_38 : decode cX6_steps 38 = .ok (.if_icmp .ge 78, 3) := by decide +kernel
theorem dX6_steps_41 : decode cX6_steps 41 = .ok (.iload 7, 2) := by decide +kernel
theorem dX6_steps_43 : decode cX6_steps 43 = .ok (.iload_n 3, 1) := by decide +kernel
theorem dX6_steps_44 : decode cX6_steps 44 = .ok (.if_icmp .ne 6, 3) := by decide +kernel
theorem dX6_steps_47 : decode cX6_steps 47 = .ok (.goto 63, 3) := by decide +kernel
theorem dX6_steps_50 : decode cX6_steps 50 = .ok (.aload_n 0, 1) := by decide +kernel
theorem dX6_steps_51 : decode cX6_steps 51 = .ok (.iload 4, 2) := by decide +kernel
theorem dX6_steps_53 : decode cX6_steps 53 = .ok (.aload_n 0, 1) := by decide +kernel
theorem dX6_steps_54 : decode cX6_steps 54 = .ok (.getfield 13, 3) := by decide +kernel
theorem dX6_steps_57 : decode cX6_steps 57 = .ok (.iload 7, 2) := by decide +kernel
theorem dX6_steps_59 : decode cX6_steps 59 = .ok (.iaload, 1) := by decide +kernel
theorem dX6_steps_60 : decode cX6_steps 60 = .ok (.invokevirtual 85, 3) := by decide +kernel
theorem dX6_steps_63 : decode cX6_steps 63 = .ok (.ifCond .eq 17, 3) := by decide +kernel
theorem dX6_steps_66 : decode cX6_steps 66 = .ok (.iload 6, 2) := by decide +kernel
theorem dX6_steps_68 : decode cX6_steps 68 = .ok (.iconst 1, 1) := by decide +kernel
theorem dX6_steps_69 : decode cX6_steps 69 = .ok (.aload_n 0, 1) := by decide +kernel
theorem dX6_steps_70 : decode cX6_steps 70 = .ok (.getfield 17, 3) := by decide +kernel
theorem dX6_steps_73 : decode cX6_steps 73 = .ok (.iload 7, 2) := by decide +kernel
theorem dX6_steps_75 : decode cX6_steps 75 = .ok (.iaload, 1) := by decide +kernel
theorem dX6_steps_76 : decode cX6_steps 76 = .ok (.ishl, 1) := by decide +kernel
theorem dX6_steps_77 : decode cX6_steps 77 = .ok (.ior, 1) := by decide +kernel
theorem dX6_steps_78 : decode cX6_steps 78 = .ok (.istore 6, 2) := by decide +kernel
theorem dX6_steps_80 : decode cX6_steps 80 = .ok (.aload_n 0, 1) := by decide +kernel
theorem dX6_steps_81 : decode cX6_steps 81 = .ok (.iload 4, 2) := by decide +kernel
theorem dX6_steps_83 : decode cX6_steps 83 = .ok (.aload_n 0, 1) := by decide +kernel
theorem dX6_steps_84 : decode cX6_steps 84 = .ok (.getfield 17, 3) := by decide +kernel
theorem dX6_steps_87 : decode cX6_steps 87 = .ok (.iload 7, 2) := by decide +kernel
theorem dX6_steps_89 : decode cX6_steps 89 = .ok (.iaload, 1) := by decide +kernel
theorem dX6_steps_90 : decode cX6_steps 90 = .ok (.invokevirtual 85, 3) := by decide +kernel
theorem dX6_steps_93 : decode cX6_steps 93 = .ok (.ifCond .eq 17, 3) := by decide +kernel
theorem dX6_steps_96 : decode cX6_steps 96 = .ok (.iload 6, 2) := by decide +kernel
theorem dX6_steps_98 : decode cX6_steps 98 = .ok (.iconst 1, 1) := by decide +kernel
theorem dX6_steps_99 : decode cX6_steps 99 = .ok (.aload_n 0, 1) := by decide +kernel
theorem dX6_steps_100 : decode cX6_steps 100 = .ok (.getfield 13, 3) := by decide +kernel
theorem dX6_steps_103 : decode cX6_steps 103 = .ok (.iload 7, 2) := by decide +kernel
theorem dX6_steps_105 : decode cX6_steps 105 = .ok (.iaload, 1) := by decide +kernel
theorem dX6_steps_106 : decode cX6_steps 106 = .ok (.ishl, 1) := by decide +kernel
theorem dX6_steps_107 : decode cX6_steps 107 = .ok (.ior, 1) := by decide +kernel
theorem dX6_steps_108 : decode cX6_steps 108 = .ok (.istore 6, 2) := by decide +kernel
theorem dX6_steps_110 : decode cX6_steps 110 = .ok (.iinc 7 1, 3) := by decide +kernel
theorem dX6_steps_113 : decode cX6_steps 113 = .ok (.goto (-81), 3) := by decide +kernel
theorem dX6_steps_116 : decode cX6_steps 116 = .ok (.iload 6, 2) := by decide +kernel
theorem dX6_steps_118 : decode cX6_steps 118 = .ok (.istore 4, 2) := by decide +kernel
theorem dX6_steps_120 : decode cX6_steps 120 = .ok (.iload 5, 2) := by decide +kernel
theorem dX6_steps_122 : decode cX6_steps 122 = .ok (.iconst 1, 1) := by decide +kernel
theorem dX6_steps_123 : decode cX6_steps 123 = .ok (.iadd, 1) := by decide +kernel
theorem dX6_steps_124 : decode cX6_steps 124 = .ok (.istore 5, 2) := by decide +kernel
theorem dX6_steps_126 : decode cX6_steps 126 = .ok (.goto (-118), 3) := by decide +kernel
theorem dX6_steps_129 : decode cX6_steps 129 = .ok (.iload 5, 2) := by decide +kernel
theorem dX6_steps_131 : decode cX6_steps 131 = .ok (.ireturn, 1) := by decide +kernel
theorem dX6_way_0 : decode cX6_way 0 = .ok (.aload_n 0, 1) := by decide +kernel
theorem dX6_way_1 : decode cX6_way 1 = .ok (.iconst 0, 1) := by decide +kernel
theorem dX6_way_2 : decode cX6_way 2 = .ok (.putfield 71, 3) := by decide +kernel
theorem dX6_way_5 : decode cX6_way 5 = .ok (.aload_n 0, 1) := by decide +kernel
theorem dX6_way_6 : decode cX6_way 6 = .ok (.iload_n 1, 1) := by decide +kernel
theorem dX6_way_7 : decode cX6_way 7 = .ok (.invokevirtual 81, 3) := by decide +kernel
theorem dX6_way_10 : decode cX6_way 10 = .ok (.ifCond .eq 11, 3) := by decide +kernel
theorem dX6_way_13 : decode cX6_way 13 = .ok (.aload_n 0, 1) := by decide +kernel
theorem dX6_way_14 : decode cX6_way 14 = .ok (.iload_n 2, 1) := by decide +kernel
theorem dX6_way_15 : decode cX6_way 15 = .ok (.invokevirtual 81, 3) := by decide +kernel
theorem dX6_way_18 : decode cX6_way 18 = .ok (.ifCond .ne 5, 3) := by decide +kernel
theorem dX6_way_21 : decode cX6_way 21 = .ok (.iconst (-1), 1) := by decide +kernel
theorem dX6_way_22 : decode cX6_way 22 = .ok (.ireturn, 1) := by decide +kernel
theorem dX6_way_23 : decode cX6_way 23 = .ok (.aload_n 0, 1) := by decide +kernel
theorem dX6_way_24 : decode cX6_way 24 = .ok (.invokevirtual 155, 3) := by decide +kernel
theorem dX6_way_27 : decode cX6_way 27 = .ok (.aload_n 0, 1) := by decide +kernel
theorem dX6_way_28 : decode cX6_way 28 = .ok (.iload_n 1, 1) := by decide +kernel
theorem dX6_way_29 : decode cX6_way 29 = .ok (.iload_n 2, 1) := by decide +kernel
theorem dX6_way_30 : decode cX6_way 30 = .ok (.iconst (-1), 1) := by decide +kernel
theorem dX6_way_31 : decode cX6_way 31 = .ok (.invokevirtual 317, 3) := by decide +kernel
theorem dX6_way_34 : decode cX6_way 34 = .ok (.ifCond .ne 5, 3) := by decide +kernel
theorem dX6_way_37 : decode cX6_way 37 = .ok (.iconst (-1), 1) := by decide +kernel
theorem dX6_way_38 : decode cX6_way 38 = .ok (.ireturn, 1) := by decide +kernel
theorem dX6_way_39 : decode cX6_way 39 = .ok (.iconst 0, 1) := by decide +kernel
theorem dX6_way_40 : decode cX6_way 40 = .ok (.istore 4, 2) := by decide +kernel
theorem dX6_way_42 : decode cX6_way 42 = .ok (.iconst 0, 1) := by decide +kernel
theorem dX6_way_43 : decode cX6_way 43 = .ok (.istore 5, 2) := by decide +kernel
theorem dX6_way_45 : decode cX6_way 45 = .ok (.iload 5, 2) := by decide +kernel
theorem dX6_way_47 : decode cX6_way 47 = .ok (.aload_n 0, 1) := by decide +kernel
theorem dX6_way_48 : decode cX6_way 48 = .ok (.getfield 311, 3) := by decide +kernel
theorem dX6_way_51 : decode cX6_way 51 = .ok (.if_icmp .ge 46, 3) := by decide +kernel
theorem dX6_way_54 : decode cX6_way 54 = .ok (.aload_n 0, 1) := by decide +kernel
theorem dX6_way_55 : decode cX6_way 55 = .ok (.aload_n 0, 1) := by decide +kernel
theorem dX6_way_56 : decode cX6_way 56 = .ok (.getfield 68, 3) := by decide +kernel
theorem dX6_way_59 : decode cX6_way 59 = .ok (.iload 5, 2) := by decide +kernel
theorem dX6_way_61 : decode cX6_way 61 = .ok (.iaload, 1) := by decide +kernel
theorem dX6_way_62 : decode cX6_way 62 = .ok (.invokevirtual 214, 3) := by decide +kernel
theorem dX6_way_65 : decode cX6_way 65 = .ok (.ifCond .ne 6, 3) := by decide +kernel
theorem dX6_way_68 : decode cX6_way 68 = .ok (.goto 23, 3) := by decide +kernel
theorem dX6_way_71 : decode cX6_way 71 = .ok (.iload 4, 2) := by decide +kernel
theorem dX6_way_73 : decode cX6_way 73 = .ok (.iload_n 3, 1) := by decide +kernel
theorem dX6_way_74 : decode cX6_way 74 = .ok (.if_icmp .ne 11, 3) := by decide +kernel
theorem dX6_way_77 : decode cX6_way 77 = .ok (.aload_n 0, 1) := by decide +kernel
theorem dX6_way_78 : decode cX6_way 78 = .ok (.getfield 68, 3) := by decide +kernel
theorem dX6_way_81 : decode cX6_way 81 = .ok (.iload 5, 2) := by decide +kernel
theorem dX6_way_83 : decode cX6_way 83 = .ok (.iaload, 1) := by decide +kernel
theorem dX6_way_84 : decode cX6_way 84 = .ok (.ireturn, 1) := by decide +kernel
theorem dX6_way_85 : decode cX6_way 85 = .ok (.iload 4, 2) := by decide +kernel
theorem dX6_way_87 : decode cX6_way 87 = .ok (.iconst 1, 1) := by decide +kernel
theorem dX6_way_88 : decode cX6_way 88 = .ok (.iadd, 1) := by decide +kernel
theorem dX6_way_89 : decode cX6_way 89 = .ok (.istore 4, 2) := by decide +kernel
theorem dX6_way_91 : decode cX6_way 91 = .ok (.iinc 5 1, 3) := by decide +kernel
theorem dX6_way_94 : decode cX6_way 94 = .ok (.goto (-49), 3) := by decide +kernel
theorem dX6_way_97 : decode cX6_way 97 = .ok (.iload_n 3, 1) := by decide +kernel
theorem dX6_way_98 : decode cX6_way 98 = .ok (.iconst (-1), 1) := by decide +kernel
theorem dX6_way_99 : decode cX6_way 99 = .ok (.if_icmp .ne 8, 3) := by decide +kernel
theorem dX6_way_102 : decode cX6_way 102 = .ok (.iload 4, 2) := by decide +kernel
theorem dX6_way_104 : decode cX6_way 104 = .ok (.goto 4, 3) := by decide +kernel
theorem dX6_way_107 : decode cX6_way 107 = .ok (.iconst (-1), 1) := by decide +kernel
theorem dX6_way_108 : decode cX6_way 108 = .ok (.ireturn, 1) := by decide +kernel
theorem dX6_between_0 : decode cX6_between 0 = .ok (.aload_n 0, 1) := by decide +kernel
theorem dX6_between_1 : decode cX6_between 1 = .ok (.iconst 0, 1) := by decide +kernel
theorem dX6_between_2 : decode cX6_between 2 = .ok (.putfield 71, 3) := by decide +kernel
theorem dX6_between_5 : decode cX6_between 5 = .ok (.aload_n 0, 1) := by decide +kernel
theorem dX6_between_6 : decode cX6_between 6 = .ok (.iload_n 1, 1) := by decide +kernel
theorem dX6_between_7 : decode cX6_between 7 = .ok (.iload_n 2, 1) := by decide +kernel
theorem dX6_between_8 : decode cX6_between 8 = .ok (.invokevirtual 152, 3) := by decide +kernel
theorem dX6_between_11 : decode cX6_between 11 = .ok (.ifCond .eq 13, 3) := by decide +kernel
theorem dX6_between_14 : decode cX6_between 14 = .ok (.aload_n 0, 1) := by decide +kernel
theorem dX6_between_15 : decode cX6_between 15 = .ok (.iload_n 1, 1) := by decide +kernel
theorem dX6_between_16 : decode cX6_between 16 = .ok (.iload_n 2, 1) := by decide +kernel
theorem dX6_between_17 : decode cX6_between 17 = .ok (.iconst (-1), 1) := by decide +kernel
theorem dX6_between_18 : decode cX6_between 18 = .ok (.invokevirtual 317, 3) := by decide +kernel
theorem dX6_between_21 : decode cX6_between 21 = .ok (.ifCond .ne 5, 3) := by decide +kernel
theorem dX6_between_24 : decode cX6_between 24 = .ok (.iconst (-1), 1) := by decide +kernel
theorem dX6_between_25 : decode cX6_between 25 = .ok (.ireturn, 1) := by decide +kernel
theorem dX6_between_26 : decode cX6_between 26 = .ok (.iconst 0, 1) := by decide +kernel
theorem dX6_between_27 : decode cX6_between 27 = .ok (.istore 4, 2) := by decide +kernel
theorem dX6_between_29 : decode cX6_between 29 = .ok (.iconst 1, 1) := by decide +kernel
theorem dX6_between_30 : decode cX6_between 30 = .ok (.istore 5, 2) := by decide +kernel
theorem dX6_between_32 : decode cX6_between 32 = .ok (.iload 5, 2) := by decide +kernel
theorem dX6_between_34 : decode cX6_between 34 = .ok (.aload_n 0, 1) := by decide +kernel
theorem dX6_between_35 : decode cX6_between 35 = .ok (.getfield 311, 3) := by decide +kernel
theorem dX6_between_38 : decode cX6_between 38 = .ok (.if_icmp .ge 57, 3) := by decide +kernel
theorem dX6_between_41 : decode cX6_between 41 = .ok (.aload_n 0, 1) := by decide +kernel
theorem dX6_between_42 : decode cX6_between 42 = .ok (.aload_n 0, 1) := by decide +kernel
theorem dX6_between_43 : decode cX6_between 43 = .ok (.iload_n 1, 1) := by decide +kernel
theorem dX6_between_44 : decode cX6_between 44 = .ok (.aload_n 0, 1) := by decide +kernel
theorem dX6_between_45 : decode cX6_between 45 = .ok (.getfield 78, 3) := by decide +kernel
theorem dX6_between_48 : decode cX6_between 48 = .ok (.iconst (-1), 1) := by decide +kernel
theorem dX6_between_49 : decode cX6_between 49 = .ok (.aload_n 0, 1) := by decide +kernel
theorem dX6_between_50 : decode cX6_between 50 = .ok (.getfield 65, 3) := by decide +kernel
theorem dX6_between_53 : decode cX6_between 53 = .ok (.iload 5, 2) := by decide +kernel
theorem dX6_between_55 : decode cX6_between 55 = .ok (.iaload, 1) := by decide +kernel
theorem dX6_between_56 : decode cX6_between 56 = .ok (.invokevirtual 220, 3) := by decide +kernel
theorem dX6_between_59 : decode cX6_between 59 = .ok (.iload_n 2, 1) := by decide +kernel
theorem dX6_between_60 : decode cX6_between 60 = .ok (.invokevirtual 85, 3) := by decide +kernel
theorem dX6_between_63 : decode cX6_between 63 = .ok (.ifCond .eq 6, 3) := by decide +kernel
theorem dX6_between_66 : decode cX6_between 66 = .ok (.goto 23, 3) := by decide +kernel
theorem dX6_between_69 : decode cX6_between 69 = .ok (.iload 4, 2) := by decide +kernel
theorem dX6_between_71 : decode cX6_between 71 = .ok (.iload_n 3, 1) := by decide +kernel
theorem dX6_between_72 : decode cX6_between 72 = .ok (.if_icmp .ne 11, 3) := by decide +kernel
theorem dX6_between_75 : decode cX6_between 75 = .ok (.aload_n 0, 1) := by decide +kernel
theorem dX6_between_76 : decode cX6_between 76 = .ok (.getfield 65, 3) := by decide +kernel
theorem dX6_between_79 : decode cX6_between 79 = .ok (.iload 5, 2) := by decide +kernel
theorem dX6_between_81 : decode cX6_between 81 = .ok (.iaload, 1) := by decide +kernel
theorem dX6_between_82 : decode cX6_between 82 = .ok (.ireturn, 1) := by decide +kernel
theorem dX6_between_83 : decode cX6_between 83 = .ok (.iload 4, 2) := by decide +kernel
theorem dX6_between_85 : decode cX6_between 85 = .ok (.iconst 1, 1) := by decide +kernel
theorem dX6_between_86 : decode cX6_between 86 = .ok (.iadd, 1) := by decide +kernel
theorem dX6_between_87 : decode cX6_between 87 = .ok (.istore 4, 2) := by decide +kernel
theorem dX6_between_89 : decode cX6_between 89 = .ok (.iinc 5 1, 3) := by decide +kernel
theorem dX6_between_92 : decode cX6_between 92 = .ok (.goto (-60), 3) := by decide +kernel
theorem dX6_between_95 : decode cX6_between 95 = .ok (.iload_n 3, 1) := by decide +kernel
theorem dX6_between_96 : decode cX6_between 96 = .ok (.iconst (-1), 1) := by decide +kernel
theorem dX6_between_97 : decode cX6_between 97 = .ok (.if_icmp .ne 8, 3) := by decide +kernel
theorem dX6_between_100 : decode cX6_between 100 = .ok (.iload 4, 2) := by decide +kernel
theorem dX6_between_102 : decode cX6_between 102 = .ok (.goto 4, 3) := by decide +kernel
theorem dX6_between_105 : decode cX6_between 105 = .ok (.iconst (-1), 1) := by decide +kernel
theorem dX6_between_106 : decode cX6_between 106 = .ok (.ireturn, 1) := by decide +kernel
theorem dX6_areBy_0 : decode cX6_areBy 0 = .ok (.aload_n 0, 1) := by decide +kernel
theorem dX6_areBy_1 : decode cX6_areBy 1 = .ok (.iload 4, 2) := by decide +kernel
theorem dX6_areBy_3 : decode cX6_areBy 3 = .ok (.invokevirtual 145, 3) := by decide +kernel
theorem dX6_areBy_6 : decode cX6_areBy 6 = .ok (.iload_n 3, 1) := by decide +kernel
theorem dX6_areBy_7 : decode cX6_areBy 7 = .ok (.ifCond .ne 22, 3) := by decide +kernel
theorem dX6_areBy_10 : decode cX6_areBy 10 = .ok (.aload_n 0, 1) := by decide +kernel
theorem dX6_areBy_11 : decode cX6_areBy 11 = .ok (.iload_n 1, 1) := by decide +kernel
theorem dX6_areBy_12 : decode cX6_areBy 12 = .ok (.invokevirtual 121, 3) := by decide +kernel
theorem dX6_areBy_15 : decode cX6_areBy 15 = .ok (.aload_n 0, 1) := by decide +kernel
theorem dX6_areBy_16 : decode cX6_areBy 16 = .ok (.iload_n 2, 1) := by decide +kernel
theorem dX6_areBy_17 : decode cX6_areBy 17 = .ok (.invokevirtual 121, 3) := by decide +kernel
theorem dX6_areBy_20 : decode cX6_areBy 20 = .ok (.if_icmp .ne 7, 3) := by decide +kernel
theorem dX6_areBy_23 : decode cX6_areBy 23 = .ok (.iconst 1, 1) := by decide +kernel
theorem dX6_areBy_24 : decode cX6_areBy 24 = .ok (.goto 4, 3) := by decide +kernel
theorem dX6_areBy_27 : decode cX6_areBy 27 = .ok (.iconst 0, 1) := by decide +kernel
theorem dX6_areBy_28 : decode cX6_areBy 28 = .ok (.ireturn, 1) := by decide +kernel
theorem dX6_areBy_29 : decode cX6_areBy 29 = .ok (.iload_n 3, 1) := by decide +kernel
theorem dX6_areBy_30 : decode cX6_areBy 30 = .ok (.iconst 1, 1) := by decide +kernel
theorem dX6_areBy_31 : decode cX6_areBy 31 = .ok (.if_icmp .ne 22, 3) := by decide +kernel
theorem dX6_areBy_34 : decode cX6_areBy 34 = .ok (.aload_n 0, 1) := by decide +kernel
theorem dX6_areBy_35 : decode cX6_areBy 35 = .ok (.iload_n 1, 1) := by decide +kernel
theorem dX6_areBy_36 : decode cX6_areBy 36 = .ok (.invokevirtual 98, 3) := by decide +kernel
theorem dX6_areBy_39 : decode cX6_areBy 39 = .ok (.aload_n 0, 1) := by decide +kernel
theorem dX6_areBy_40 : decode cX6_areBy 40 = .ok (.iload_n 2, 1) := by decide +kernel
theorem dX6_areBy_41 : decode cX6_areBy 41 = .ok (.invokevirtual 98, 3) := by decide +kernel
theorem dX6_areBy_44 : decode cX6_areBy 44 = .ok (.if_icmp .ne 7, 3) := by decide +kernel
theorem dX6_areBy_47 : decode cX6_areBy 47 = .ok (.iconst 1, 1) := by decide +kernel
theorem dX6_areBy_48 : decode cX6_areBy 48 = .ok (.goto 4, 3) := by decide +kernel
theorem dX6_areBy_51 : decode cX6_areBy 51 = .ok (.iconst 0, 1) := by decide +kernel
theorem dX6_areBy_52 : decode cX6_areBy 52 = .ok (.ireturn, 1) := by decide +kernel
theorem dX6_areBy_53 : decode cX6_areBy 53 = .ok (.aload_n 0, 1) := by decide +kernel
theorem dX6_areBy_54 : decode cX6_areBy 54 = .ok (.getfield 78, 3) := by decide +kernel
theorem dX6_areBy_57 : decode cX6_areBy 57 = .ok (.istore 5, 2) := by decide +kernel
theorem dX6_areBy_59 : decode cX6_areBy 59 = .ok (.aload_n 0, 1) := by decide +kernel
theorem dX6_areBy_60 : decode cX6_areBy 60 = .ok (.iload 4, 2) := by decide +kernel
theorem dX6_areBy_62 : decode cX6_areBy 62 = .ok (.putfield 78, 3) := by decide +kernel
theorem dX6_areBy_65 : decode cX6_areBy 65 = .ok (.aload_n 0, 1) := by decide +kernel
theorem dX6_areBy_66 : decode cX6_areBy 66 = .ok (.invokevirtual 224, 3) := by decide +kernel
theorem dX6_areBy_69 : decode cX6_areBy 69 = .ok (.aload_n 0, 1) := by decide +kernel
theorem dX6_areBy_70 : decode cX6_areBy 70 = .ok (.iload_n 1, 1) := by decide +kernel
theorem dX6_areBy_71 : decode cX6_areBy 71 = .ok (.iload_n 2, 1) := by decide +kernel
theorem dX6_areBy_72 : decode cX6_areBy 72 = .ok (.invokevirtual 308, 3) := by decide +kernel
theorem dX6_areBy_75 : decode cX6_areBy 75 = .ok (.istore 6, 2) := by decide +kernel
theorem dX6_areBy_77 : decode cX6_areBy 77 = .ok (.aload_n 0, 1) := by decide +kernel
theorem dX6_areBy_78 : decode cX6_areBy 78 = .ok (.iload 5, 2) := by decide +kernel
theorem dX6_areBy_80 : decode cX6_areBy 80 = .ok (.putfield 78, 3) := by decide +kernel
theorem dX6_areBy_83 : decode cX6_areBy 83 = .ok (.iload 6, 2) := by decide +kernel
theorem dX6_areBy_85 : decode cX6_areBy 85 = .ok (.ireturn, 1) := by decide +kernel
theorem dX6_since_0 : decode cX6_since 0 = .ok (.aload_n 0, 1) := by decide +kernel
theorem dX6_since_1 : decode cX6_since 1 = .ok (.iconst 0, 1) := by decide +kernel
theorem dX6_since_2 : decode cX6_since 2 = .ok (.putfield 71, 3) := by decide +kernel
theorem dX6_since_5 : decode cX6_since 5 = .ok (.aload_n 0, 1) := by decide +kernel
theorem dX6_since_6 : decode cX6_since 6 = .ok (.iload_n 1, 1) := by decide +kernel
theorem dX6_since_7 : decode cX6_since 7 = .ok (.iload_n 2, 1) := by decide +kernel
theorem dX6_since_8 : decode cX6_since 8 = .ok (.invokevirtual 152, 3) := by decide +kernel
theorem dX6_since_11 : decode cX6_since 11 = .ok (.ifCond .eq 16, 3) := by decide +kernel
theorem dX6_since_14 : decode cX6_since 14 = .ok (.aload_n 0, 1) := by decide +kernel
theorem dX6_since_15 : decode cX6_since 15 = .ok (.iload_n 3, 1) := by decide +kernel
theorem dX6_since_16 : decode cX6_since 16 = .ok (.i2l, 1) := by decide +kernel
theorem dX6_since_17 : decode cX6_since 17 = .ok (.lconst 0, 1) := by decide +kernel
theorem dX6_since_18 : decode cX6_since 18 = .ok (.ldc2_w 148, 3) := by decide +kernel
theorem dX6_since_21 : decode cX6_since 21 = .ok (.invokevirtual 74, 3) := by decide +kernel
theorem dX6_since_24 : decode cX6_since 24 = .ok (.ifCond .ne 5, 3) := by decide +kernel
theorem dX6_since_27 : decode cX6_since 27 = .ok (.iconst (-1), 1) := by decide +kernel
theorem dX6_since_28 : decode cX6_since 28 = .ok (.ireturn, 1) := by decide +kernel
theorem dX6_since_29 : decode cX6_since 29 = .ok (.iconst 0, 1) := by decide +kernel
theorem dX6_since_30 : decode cX6_since 30 = .ok (.istore 4, 2) := by decide +kernel
theorem dX6_since_32 : decode cX6_since 32 = .ok (.iload 4, 2) := by decide +kernel
theorem dX6_since_34 : decode cX6_since 34 = .ok (.aload_n 0, 1) := by decide +kernel
theorem dX6_since_35 : decode cX6_since 35 = .ok (.getfield 78, 3) := by decide +kernel
theorem dX6_since_38 : decode cX6_since 38 = .ok (.if_icmp .gt 29, 3) := by decide +kernel
theorem dX6_since_41 : decode cX6_since 41 = .ok (.aload_n 0, 1) := by decide +kernel
theorem dX6_since_42 : decode cX6_since 42 = .ok (.iconst (-1), 1) := by decide +kernel
theorem dX6_since_43 : decode cX6_since 43 = .ok (.putfield 20, 3) := by decide +kernel
theorem dX6_since_46 : decode cX6_since 46 = .ok (.aload_n 0, 1) := by decide +kernel
theorem dX6_since_47 : decode cX6_since 47 = .ok (.iload_n 1, 1) := by decide +kernel
theorem dX6_since_48 : decode cX6_since 48 = .ok (.iload_n 2, 1) := by decide +kernel
theorem dX6_since_49 : decode cX6_since 49 = .ok (.iload_n 3, 1) := by decide +kernel
theorem dX6_since_50 : decode cX6_since 50 = .ok (.iload 4, 2) := by decide +kernel
theorem dX6_since_52 : decode cX6_since 52 = .ok (.invokevirtual 320, 3) := by decide +kernel
theorem dX6_since_55 : decode cX6_since 55 = .ok (.ifCond .eq 6, 3) := by decide +kernel
theorem dX6_since_58 : decode cX6_since 58 = .ok (.iload 4, 2) := by decide +kernel
theorem dX6_since_60 : decode cX6_since 60 = .ok (.ireturn, 1) := by decide +kernel
theorem dX6_since_61 : decode cX6_since 61 = .ok (.iinc 4 1, 3) := by decide +kernel
theorem dX6_since_64 : decode cX6_since 64 = .ok (.goto (-32), 3) := by decide +kernel
theorem dX6_since_67 : decode cX6_since 67 = .ok (.iconst (-1), 1) := by decide +kernel
theorem dX6_since_68 : decode cX6_since 68 = .ok (.ireturn, 1) := by decide +kernel
theorem dX6_endedIf_0 : decode cX6_endedIf 0 = .ok (.aload_n 0, 1) := by decide +kernel
theorem dX6_endedIf_1 : decode cX6_endedIf 1 = .ok (.iload_n 1, 1) := by decide +kernel
theorem dX6_endedIf_2 : decode cX6_endedIf 2 = .ok (.invokevirtual 121, 3) := by decide +kernel
theorem dX6_endedIf_5 : decode cX6_endedIf 5 = .ok (.aload_n 0, 1) := by decide +kernel
theorem dX6_endedIf_6 : decode cX6_endedIf 6 = .ok (.iload_n 2, 1) := by decide +kernel
theorem dX6_endedIf_7 : decode cX6_endedIf 7 = .ok (.invokevirtual 121, 3) := by decide +kernel
theorem dX6_endedIf_10 : decode cX6_endedIf 10 = .ok (.if_icmp .ne 20, 3) := by decide +kernel
theorem dX6_endedIf_13 : decode cX6_endedIf 13 = .ok (.aload_n 0, 1) := by decide +kernel
theorem dX6_endedIf_14 : decode cX6_endedIf 14 = .ok (.aload_n 0, 1) := by decide +kernel
theorem dX6_endedIf_15 : decode cX6_endedIf 15 = .ok (.iload_n 1, 1) := by decide +kernel
theorem dX6_endedIf_16 : decode cX6_endedIf 16 = .ok (.invokevirtual 98, 3) := by decide +kernel
theorem dX6_endedIf_19 : decode cX6_endedIf 19 = .ok (.aload_n 0, 1) := by decide +kernel
theorem dX6_endedIf_20 : decode cX6_endedIf 20 = .ok (.iload_n 2, 1) := by decide +kernel
theorem dX6_endedIf_21 : decode cX6_endedIf 21 = .ok (.invokevirtual 98, 3) := by decide +kernel
theorem dX6_endedIf_24 : decode cX6_endedIf 24 = .ok (.invokevirtual 275, 3) := by decide +kernel
theorem dX6_endedIf_27 : decode cX6_endedIf 27 = .ok (.goto 4, 3) := by decide +kernel
theorem dX6_endedIf_30 : decode cX6_endedIf 30 = .ok (.iconst 0, 1) := by decide +kernel
theorem dX6_endedIf_31 : decode cX6_endedIf 31 = .ok (.ireturn, 1) := by decide +kernel
theorem dX6_blocksIf_0 : decode cX6_blocksIf 0 = .ok (.aload_n 0, 1) := by decide +kernel
theorem dX6_blocksIf_1 : decode cX6_blocksIf 1 = .ok (.iload_n 1, 1) := by decide +kernel
theorem dX6_blocksIf_2 : decode cX6_blocksIf 2 = .ok (.invokevirtual 121, 3) := by decide +kernel
theorem dX6_blocksIf_5 : decode cX6_blocksIf 5 = .ok (.aload_n 0, 1) := by decide +kernel
theorem dX6_blocksIf_6 : decode cX6_blocksIf 6 = .ok (.iload_n 2, 1) := by decide +kernel
theorem dX6_blocksIf_7 : decode cX6_blocksIf 7 = .ok (.invokevirtual 121, 3) := by decide +kernel
theorem dX6_blocksIf_10 : decode cX6_blocksIf 10 = .ok (.if_icmp .ne 20, 3) := by decide +kernel
theorem dX6_blocksIf_13 : decode cX6_blocksIf 13 = .ok (.aload_n 0, 1) := by decide +kernel
theorem dX6_blocksIf_14 : decode cX6_blocksIf 14 = .ok (.aload_n 0, 1) := by decide +kernel
theorem dX6_blocksIf_15 : decode cX6_blocksIf 15 = .ok (.iload_n 1, 1) := by decide +kernel
theorem dX6_blocksIf_16 : decode cX6_blocksIf 16 = .ok (.invokevirtual 98, 3) := by decide +kernel
theorem dX6_blocksIf_19 : decode cX6_blocksIf 19 = .ok (.aload_n 0, 1) := by decide +kernel
theorem dX6_blocksIf_20 : decode cX6_blocksIf 20 = .ok (.iload_n 2, 1) := by decide +kernel
theorem dX6_blocksIf_21 : decode cX6_blocksIf 21 = .ok (.invokevirtual 98, 3) := by decide +kernel
theorem dX6_blocksIf_24 : decode cX6_blocksIf 24 = .ok (.invokevirtual 128, 3) := by decide +kernel
theorem dX6_blocksIf_27 : decode cX6_blocksIf 27 = .ok (.goto 10, 3) := by decide +kernel
theorem dX6_blocksIf_30 : decode cX6_blocksIf 30 = .ok (.iconst 1, 1) := by decide +kernel
theorem dX6_blocksIf_31 : decode cX6_blocksIf 31 = .ok (.aload_n 0, 1) := by decide +kernel
theorem dX6_blocksIf_32 : decode cX6_blocksIf 32 = .ok (.iload_n 1, 1) := by decide +kernel
theorem dX6_blocksIf_33 : decode cX6_blocksIf 33 = .ok (.invokevirtual 98, 3) := by decide +kernel
theorem dX6_blocksIf_36 : decode cX6_blocksIf 36 = .ok (.ishl, 1) := by decide +kernel
theorem dX6_blocksIf_37 : decode cX6_blocksIf 37 = .ok (.ireturn, 1) := by decide +kernel
theorem dX6_would_0 : decode cX6_would 0 = .ok (.aload_n 0, 1) := by decide +kernel
theorem dX6_would_1 : decode cX6_would 1 = .ok (.iconst 0, 1) := by decide +kernel
theorem dX6_would_2 : decode cX6_would 2 = .ok (.putfield 71, 3) := by decide +kernel
theorem dX6_would_5 : decode cX6_would 5 = .ok (.aload_n 0, 1) := by decide +kernel
theorem dX6_would_6 : decode cX6_would 6 = .ok (.iload_n 1, 1) := by decide +kernel
theorem dX6_would_7 : decode cX6_would 7 = .ok (.iload_n 2, 1) := by decide +kernel
theorem dX6_would_8 : decode cX6_would 8 = .ok (.invokevirtual 152, 3) := by decide +kernel
theorem dX6_would_11 : decode cX6_would 11 = .ok (.ifCond .eq 14, 3) := by decide +kernel
theorem dX6_would_14 : decode cX6_would 14 = .ok (.aload_n 0, 1) := by decide +kernel
theorem dX6_would_15 : decode cX6_would 15 = .ok (.iload_n 3, 1) := by decide +kernel
theorem dX6_would_16 : decode cX6_would 16 = .ok (.i2l, 1) := by decide +kernel
theorem dX6_would_17 : decode cX6_would 17 = .ok (.lconst 0, 1) := by decide +kernel
theorem dX6_would_18 : decode cX6_would 18 = .ok (.lconst 1, 1) := by decide +kernel
theorem dX6_would_19 : decode cX6_would 19 = .ok (.invokevirtual 74, 3) := by decide +kernel
theorem dX6_would_22 : decode cX6_would 22 = .ok (.ifCond .ne 5, 3) := by decide +kernel
theorem dX6_would_25 : decode cX6_would 25 = .ok (.iconst (-1), 1) := by decide +kernel
theorem dX6_would_26 : decode cX6_would 26 = .ok (.ireturn, 1) := by decide +kernel
theorem dX6_would_27 : decode cX6_would 27 = .ok (.aload_n 0, 1) := by decide +kernel
theorem dX6_would_28 : decode cX6_would 28 = .ok (.invokevirtual 155, 3) := by decide +kernel
theorem dX6_would_31 : decode cX6_would 31 = .ok (.iload_n 3, 1) := by decide +kernel
theorem dX6_would_32 : decode cX6_would 32 = .ok (.ifCond .ne 10, 3) := by decide +kernel
theorem dX6_would_35 : decode cX6_would 35 = .ok (.aload_n 0, 1) := by decide +kernel
theorem dX6_would_36 : decode cX6_would 36 = .ok (.iload_n 1, 1) := by decide +kernel
theorem dX6_would_37 : decode cX6_would 37 = .ok (.iload_n 2, 1) := by decide +kernel
theorem dX6_would_38 : decode cX6_would 38 = .ok (.invokevirtual 324, 3) := by decide +kernel
theorem dX6_would_41 : decode cX6_would 41 = .ok (.ireturn, 1) := by decide +kernel
theorem dX6_would_42 : decode cX6_would 42 = .ok (.iconst 0, 1) := by decide +kernel
theorem dX6_would_43 : decode cX6_would 43 = .ok (.istore 4, 2) := by decide +kernel
theorem dX6_would_45 : decode cX6_would 45 = .ok (.iconst 0, 1) := by decide +kernel
theorem dX6_would_46 : decode cX6_would 46 = .ok (.istore 5, 2) := by decide +kernel
theorem dX6_would_48 : decode cX6_would 48 = .ok (.iload 5, 2) := by decide +kernel
theorem dX6_would_50 : decode cX6_would 50 = .ok (.aload_n 0, 1) := by decide +kernel
theorem dX6_would_51 : decode cX6_would 51 = .ok (.getfield 7, 3) := by decide +kernel
theorem dX6_would_54 : decode cX6_would 54 = .ok (.if_icmp .ge 36, 3) := by decide +kernel
theorem dX6_would_57 : decode cX6_would 57 = .ok (.aload_n 0, 1) := by decide +kernel
theorem dX6_would_58 : decode cX6_would 58 = .ok (.aload_n 0, 1) := by decide +kernel
theorem dX6_would_59 : decode cX6_would 59 = .ok (.iload_n 1, 1) := by decide +kernel
theorem dX6_would_60 : decode cX6_would 60 = .ok (.iload_n 2, 1) := by decide +kernel
theorem dX6_would_61 : decode cX6_would 61 = .ok (.invokevirtual 327, 3) := by decide +kernel
theorem dX6_would_64 : decode cX6_would 64 = .ok (.iload 5, 2) := by decide +kernel
theorem dX6_would_66 : decode cX6_would 66 = .ok (.invokevirtual 85, 3) := by decide +kernel
theorem dX6_would_69 : decode cX6_would 69 = .ok (.ifCond .eq 15, 3) := by decide +kernel
theorem dX6_would_72 : decode cX6_would 72 = .ok (.iload 4, 2) := by decide +kernel
theorem dX6_would_74 : decode cX6_would 74 = .ok (.aload_n 0, 1) := by decide +kernel
theorem dX6_would_75 : decode cX6_would 75 = .ok (.iconst 0, 1) := by decide +kernel
theorem dX6_would_76 : decode cX6_would 76 = .ok (.iload 5, 2) := by decide +kernel
theorem dX6_would_78 : decode cX6_would 78 = .ok (.invokevirtual 89, 3) := by decide +kernel
theorem dX6_would_81 : decode cX6_would 81 = .ok (.iadd, 1) := by decide +kernel
theorem dX6_would_82 : decode cX6_would 82 = .ok (.istore 4, 2) := by decide +kernel
theorem dX6_would_84 : decode cX6_would 84 = .ok (.iinc 5 1, 3) := by decide +kernel
theorem dX6_would_87 : decode cX6_would 87 = .ok (.goto (-39), 3) := by decide +kernel
theorem dX6_would_90 : decode cX6_would 90 = .ok (.iload 4, 2) := by decide +kernel
theorem dX6_would_92 : decode cX6_would 92 = .ok (.ireturn, 1) := by decide +kernel
theorem dX6_nameIf_0 : decode cX6_nameIf 0 = .ok (.iconst (-1), 1) := by decide +kernel
theorem dX6_nameIf_1 : decode cX6_nameIf 1 = .ok (.istore_n 3, 1) := by decide +kernel
theorem dX6_nameIf_2 : decode cX6_nameIf 2 = .ok (.iconst 0, 1) := by decide +kernel
theorem dX6_nameIf_3 : decode cX6_nameIf 3 = .ok (.istore 4, 2) := by decide +kernel
theorem dX6_nameIf_5 : decode cX6_nameIf 5 = .ok (.iload 4, 2) := by decide +kernel
theorem dX6_nameIf_7 : decode cX6_nameIf 7 = .ok (.aload_n 0, 1) := by decide +kernel
theorem dX6_nameIf_8 : decode cX6_nameIf 8 = .ok (.getfield 7, 3) := by decide +kernel
theorem dX6_nameIf_11 : decode cX6_nameIf 11 = .ok (.if_icmp .ge 43, 3) := by decide +kernel
theorem dX6_nameIf_14 : decode cX6_nameIf 14 = .ok (.aload_n 0, 1) := by decide +kernel
theorem dX6_nameIf_15 : decode cX6_nameIf 15 = .ok (.iload_n 2, 1) := by decide +kernel
theorem dX6_nameIf_16 : decode cX6_nameIf 16 = .ok (.iload 4, 2) := by decide +kernel
theorem dX6_nameIf_18 : decode cX6_nameIf 18 = .ok (.invokevirtual 85, 3) := by decide +kernel
theorem dX6_nameIf_21 : decode cX6_nameIf 21 = .ok (.ifCond .eq 27, 3) := by decide +kernel
theorem dX6_nameIf_24 : decode cX6_nameIf 24 = .ok (.iload_n 3, 1) := by decide +kernel
theorem dX6_nameIf_25 : decode cX6_nameIf 25 = .ok (.iconst (-1), 1) := by decide +kernel
theorem dX6_nameIf_26 : decode cX6_nameIf 26 = .ok (.if_icmp .eq 19, 3) := by decide +kernel
theorem dX6_nameIf_29 : decode cX6_nameIf 29 = .ok (.aload_n 0, 1) := by decide +kernel
theorem dX6_nameIf_30 : decode cX6_nameIf 30 = .ok (.iload_n 1, 1) := by decide +kernel
theorem dX6_nameIf_31 : decode cX6_nameIf 31 = .ok (.iload 4, 2) := by decide +kernel
theorem dX6_nameIf_33 : decode cX6_nameIf 33 = .ok (.invokevirtual 89, 3) := by decide +kernel
theorem dX6_nameIf_36 : decode cX6_nameIf 36 = .ok (.aload_n 0, 1) := by decide +kernel
theorem dX6_nameIf_37 : decode cX6_nameIf 37 = .ok (.iload_n 1, 1) := by decide +kernel
theorem dX6_nameIf_38 : decode cX6_nameIf 38 = .ok (.iload_n 3, 1) := by decide +kernel
theorem dX6_nameIf_39 : decode cX6_nameIf 39 = .ok (.invokevirtual 89, 3) := by decide +kernel
theorem dX6_nameIf_42 : decode cX6_nameIf 42 = .ok (.if_icmp .le 6, 3) := by decide +kernel
theorem dX6_nameIf_45 : decode cX6_nameIf 45 = .ok (.iload 4, 2) := by decide +kernel
theorem dX6_nameIf_47 : decode cX6_nameIf 47 = .ok (.istore_n 3, 1) := by decide +kernel
theorem dX6_nameIf_48 : decode cX6_nameIf 48 = .ok (.iinc 4 1, 3) := by decide +kernel
theorem dX6_nameIf_51 : decode cX6_nameIf 51 = .ok (.goto (-46), 3) := by decide +kernel
theorem dX6_nameIf_54 : decode cX6_nameIf 54 = .ok (.iload_n 3, 1) := by decide +kernel
theorem dX6_nameIf_55 : decode cX6_nameIf 55 = .ok (.ireturn, 1) := by decide +kernel
theorem dX6_wouldName_0 : decode cX6_wouldName 0 = .ok (.aload_n 0, 1) := by decide +kernel
theorem dX6_wouldName_1 : decode cX6_wouldName 1 = .ok (.iconst 0, 1) := by decide +kernel
theorem dX6_wouldName_2 : decode cX6_wouldName 2 = .ok (.putfield 71, 3) := by decide +kernel
theorem dX6_wouldName_5 : decode cX6_wouldName 5 = .ok (.aload_n 0, 1) := by decide +kernel
theorem dX6_wouldName_6 : decode cX6_wouldName 6 = .ok (.iload_n 1, 1) := by decide +kernel
theorem dX6_wouldName_7 : decode cX6_wouldName 7 = .ok (.iload_n 2, 1) := by decide +kernel
theorem dX6_wouldName_8 : decode cX6_wouldName 8 = .ok (.invokevirtual 152, 3) := by decide +kernel
theorem dX6_wouldName_11 : decode cX6_wouldName 11 = .ok (.ifCond .eq 14, 3) := by decide +kernel
theorem dX6_wouldName_14 : decode cX6_wouldName 14 = .ok (.aload_n 0, 1) := by decide +kernel
theorem dX6_wouldName_15 : decode cX6_wouldName 15 = .ok (.iload_n 3, 1) := by decide +kernel
theorem dX6_wouldName_16 : decode cX6_wouldName 16 = .ok (.i2l, 1) := by decide +kernel
theorem dX6_wouldName_17 : decode cX6_wouldName 17 = .ok (.lconst 0, 1) := by decide +kernel
theorem dX6_wouldName_18 : decode cX6_wouldName 18 = .ok (.lconst 1, 1) := by decide +kernel
theorem dX6_wouldName_19 : decode cX6_wouldName 19 = .ok (.invokevirtual 74, 3) := by decide +kernel
theorem dX6_wouldName_22 : decode cX6_wouldName 22 = .ok (.ifCond .ne 5, 3) := by decide +kernel
theorem dX6_wouldName_25 : decode cX6_wouldName 25 = .ok (.iconst (-1), 1) := by decide +kernel
theorem dX6_wouldName_26 : decode cX6_wouldName 26 = .ok (.ireturn, 1) := by decide +kernel
theorem dX6_wouldName_27 : decode cX6_wouldName 27 = .ok (.aload_n 0, 1) := by decide +kernel
theorem dX6_wouldName_28 : decode cX6_wouldName 28 = .ok (.invokevirtual 155, 3) := by decide +kernel
theorem dX6_wouldName_31 : decode cX6_wouldName 31 = .ok (.iload_n 3, 1) := by decide +kernel
theorem dX6_wouldName_32 : decode cX6_wouldName 32 = .ok (.ifCond .ne 17, 3) := by decide +kernel
theorem dX6_wouldName_35 : decode cX6_wouldName 35 = .ok (.aload_n 0, 1) := by decide +kernel
theorem dX6_wouldName_36 : decode cX6_wouldName 36 = .ok (.iconst 0, 1) := by decide +kernel
theorem dX6_wouldName_37 : decode cX6_wouldName 37 = .ok (.aload_n 0, 1) := by decide +kernel
theorem dX6_wouldName_38 : decode cX6_wouldName 38 = .ok (.iload_n 1, 1) := by decide +kernel
theorem dX6_wouldName_39 : decode cX6_wouldName 39 = .ok (.iload_n 2, 1) := by decide +kernel
theorem dX6_wouldName_40 : decode cX6_wouldName 40 = .ok (.invokevirtual 327, 3) := by decide +kernel
theorem dX6_wouldName_43 : decode cX6_wouldName 43 = .ok (.invokevirtual 330, 3) := by decide +kernel
theorem dX6_wouldName_46 : decode cX6_wouldName 46 = .ok (.goto 23, 3) := by decide +kernel
theorem dX6_wouldName_49 : decode cX6_wouldName 49 = .ok (.aload_n 0, 1) := by decide +kernel
theorem dX6_wouldName_50 : decode cX6_wouldName 50 = .ok (.iconst 1, 1) := by decide +kernel
theorem dX6_wouldName_51 : decode cX6_wouldName 51 = .ok (.iconst 1, 1) := by decide +kernel
theorem dX6_wouldName_52 : decode cX6_wouldName 52 = .ok (.aload_n 0, 1) := by decide +kernel
theorem dX6_wouldName_53 : decode cX6_wouldName 53 = .ok (.iload_n 1, 1) := by decide +kernel
theorem dX6_wouldName_54 : decode cX6_wouldName 54 = .ok (.invokevirtual 121, 3) := by decide +kernel
theorem dX6_wouldName_57 : decode cX6_wouldName 57 = .ok (.ishl, 1) := by decide +kernel
theorem dX6_wouldName_58 : decode cX6_wouldName 58 = .ok (.iconst 1, 1) := by decide +kernel
theorem dX6_wouldName_59 : decode cX6_wouldName 59 = .ok (.aload_n 0, 1) := by decide +kernel
theorem dX6_wouldName_60 : decode cX6_wouldName 60 = .ok (.iload_n 2, 1) := by decide +kernel
theorem dX6_wouldName_61 : decode cX6_wouldName 61 = .ok (.invokevirtual 121, 3) := by decide +kernel
theorem dX6_wouldName_64 : decode cX6_wouldName 64 = .ok (.ishl, 1) := by decide +kernel
theorem dX6_wouldName_65 : decode cX6_wouldName 65 = .ok (.ior, 1) := by decide +kernel
theorem dX6_wouldName_66 : decode cX6_wouldName 66 = .ok (.invokevirtual 330, 3) := by decide +kernel
theorem dX6_wouldName_69 : decode cX6_wouldName 69 = .ok (.ireturn, 1) := by decide +kernel
theorem dX6_best_0 : decode cX6_best 0 = .ok (.aload_n 0, 1) := by decide +kernel
theorem dX6_best_1 : decode cX6_best 1 = .ok (.iconst 0, 1) := by decide +kernel
theorem dX6_best_2 : decode cX6_best 2 = .ok (.putfield 71, 3) := by decide +kernel
theorem dX6_best_5 : decode cX6_best 5 = .ok (.aload_n 0, 1) := by decide +kernel
theorem dX6_best_6 : decode cX6_best 6 = .ok (.iload_n 1, 1) := by decide +kernel
theorem dX6_best_7 : decode cX6_best 7 = .ok (.i2l, 1) := by decide +kernel
theorem dX6_best_8 : decode cX6_best 8 = .ok (.lconst 0, 1) := by decide +kernel
theorem dX6_best_9 : decode cX6_best 9 = .ok (.ldc2_w 148, 3) := by decide +kernel
theorem dX6_best_12 : decode cX6_best 12 = .ok (.invokevirtual 74, 3) := by decide +kernel
theorem dX6_best_15 : decode cX6_best 15 = .ok (.ifCond .ne 5, 3) := by decide +kernel
theorem dX6_best_18 : decode cX6_best 18 = .ok (.iconst (-1), 1) := by decide +kernel
theorem dX6_best_19 : decode cX6_best 19 = .ok (.ireturn, 1) := by decide +kernel
theorem dX6_best_20 : decode cX6_best 20 = .ok (.aload_n 0, 1) := by decide +kernel
theorem dX6_best_21 : decode cX6_best 21 = .ok (.invokevirtual 155, 3) := by decide +kernel
theorem dX6_best_24 : decode cX6_best 24 = .ok (.iconst 0, 1) := by decide +kernel
theorem dX6_best_25 : decode cX6_best 25 = .ok (.istore_n 2, 1) := by decide +kernel
theorem dX6_best_26 : decode cX6_best 26 = .ok (.iconst (-1), 1) := by decide +kernel
theorem dX6_best_27 : decode cX6_best 27 = .ok (.istore_n 3, 1) := by decide +kernel
theorem dX6_best_28 : decode cX6_best 28 = .ok (.iconst (-1), 1) := by decide +kernel
theorem dX6_best_29 : decode cX6_best 29 = .ok (.istore 4, 2) := by decide +kernel
theorem dX6_best_31 : decode cX6_best 31 = .ok (.iconst 0, 1) := by decide +kernel
theorem dX6_best_32 : decode cX6_best 32 = .ok (.istore 5, 2) := by decide +kernel
theorem dX6_best_34 : decode cX6_best 34 = .ok (.iload 5, 2) := by decide +kernel
theorem dX6_best_36 : decode cX6_best 36 = .ok (.aload_n 0, 1) := by decide +kernel
theorem dX6_best_37 : decode cX6_best 37 = .ok (.getfield 7, 3) := by decide +kernel
theorem dX6_best_40 : decode cX6_best 40 = .ok (.if_icmp .ge 61, 3) := by decide +kernel
theorem dX6_best_43 : decode cX6_best 43 = .ok (.iload 5, 2) := by decide +kernel
theorem dX6_best_45 : decode cX6_best 45 = .ok (.iconst 1, 1) := by decide +kernel
theorem dX6_best_46 : decode cX6_best 46 = .ok (.iadd, 1) := by decide +kernel
theorem dX6_best_47 : decode cX6_best 47 = .ok (.istore 6, 2) := by decide +kernel
theorem dX6_best_49 : decode cX6_best 49 = .ok (.iload 6, 2) := by decide +kernel
theorem dX6_best_51 : decode cX6_best 51 = .ok (.aload_n 0, 1) := by decide +kernel
theorem dX6_best_52 : decode cX6_best 52 = .ok (.getfield 7, 3) := by decide +kernel
theorem dX6_best_55 : decode cX6_best 55 = .ok (.if_icmp .ge 40, 3) := by decide +kernel
theorem dX6_best_58 : decode cX6_best 58 = .ok (.aload_n 0, 1) := by decide +kernel
theorem dX6_best_59 : decode cX6_best 59 = .ok (.iload 5, 2) := by decide +kernel
theorem dX6_best_61 : decode cX6_best 61 = .ok (.iload 6, 2) := by decide +kernel
theorem dX6_best_63 : decode cX6_best 63 = .ok (.invokevirtual 324, 3) := by decide +kernel
theorem dX6_best_66 : decode cX6_best 66 = .ok (.iload_n 2, 1) := by decide +kernel
theorem dX6_best_67 : decode cX6_best 67 = .ok (.if_icmp .gt 6, 3) := by decide +kernel
theorem dX6_best_70 : decode cX6_best 70 = .ok (.goto 19, 3) := by decide +kernel
theorem dX6_best_73 : decode cX6_best 73 = .ok (.aload_n 0, 1) := by decide +kernel
theorem dX6_best_74 : decode cX6_best 74 = .ok (.iload 5, 2) := by decide +kernel
theorem dX6_best_76 : decode cX6_best 76 = .ok (.iload 6, 2) := by decide +kernel
theorem dX6_best_78 : decode cX6_best 78 = .ok (.invokevirtual 324, 3) := by decide +kernel
theorem dX6_best_81 : decode cX6_best 81 = .ok (.istore_n 2, 1) := by decide +kernel
theorem dX6_best_82 : decode cX6_best 82 = .ok (.iload 5, 2) := by decide +kernel
theorem dX6_best_84 : decode cX6_best 84 = .ok (.istore_n 3, 1) := by decide +kernel
theorem dX6_best_85 : decode cX6_best 85 = .ok (.iload 6, 2) := by decide +kernel
theorem dX6_best_87 : decode cX6_best 87 = .ok (.istore 4, 2) := by decide +kernel
theorem dX6_best_89 : decode cX6_best 89 = .ok (.iinc 6 1, 3) := by decide +kernel
theorem dX6_best_92 : decode cX6_best 92 = .ok (.goto (-43), 3) := by decide +kernel
theorem dX6_best_95 : decode cX6_best 95 = .ok (.iinc 5 1, 3) := by decide +kernel
theorem dX6_best_98 : decode cX6_best 98 = .ok (.goto (-64), 3) := by decide +kernel
theorem dX6_best_101 : decode cX6_best 101 = .ok (.iload_n 2, 1) := by decide +kernel
theorem dX6_best_102 : decode cX6_best 102 = .ok (.ifCond .ne 5, 3) := by decide +kernel
theorem dX6_best_105 : decode cX6_best 105 = .ok (.iconst (-1), 1) := by decide +kernel
theorem dX6_best_106 : decode cX6_best 106 = .ok (.ireturn, 1) := by decide +kernel
theorem dX6_best_107 : decode cX6_best 107 = .ok (.iload_n 1, 1) := by decide +kernel
theorem dX6_best_108 : decode cX6_best 108 = .ok (.ifCond .ne 7, 3) := by decide +kernel
theorem dX6_best_111 : decode cX6_best 111 = .ok (.iload_n 2, 1) := by decide +kernel
theorem dX6_best_112 : decode cX6_best 112 = .ok (.goto 14, 3) := by decide +kernel
theorem dX6_best_115 : decode cX6_best 115 = .ok (.iload_n 1, 1) := by decide +kernel
theorem dX6_best_116 : decode cX6_best 116 = .ok (.iconst 1, 1) := by decide +kernel
theorem dX6_best_117 : decode cX6_best 117 = .ok (.if_icmp .ne 7, 3) := by decide +kernel
theorem dX6_best_120 : decode cX6_best 120 = .ok (.iload_n 3, 1) := by decide +kernel
theorem dX6_best_121 : decode cX6_best 121 = .ok (.goto 5, 3) := by decide +kernel
theorem dX6_best_124 : decode cX6_best 124 = .ok (.iload 4, 2) := by decide +kernel
theorem dX6_best_126 : decode cX6_best 126 = .ok (.ireturn, 1) := by decide +kernel
theorem dX6_worst_0 : decode cX6_worst 0 = .ok (.aload_n 0, 1) := by decide +kernel
theorem dX6_worst_1 : decode cX6_worst 1 = .ok (.iconst 0, 1) := by decide +kernel
theorem dX6_worst_2 : decode cX6_worst 2 = .ok (.putfield 71, 3) := by decide +kernel
theorem dX6_worst_5 : decode cX6_worst 5 = .ok (.aload_n 0, 1) := by decide +kernel
theorem dX6_worst_6 : decode cX6_worst 6 = .ok (.iload_n 1, 1) := by decide +kernel
theorem dX6_worst_7 : decode cX6_worst 7 = .ok (.i2l, 1) := by decide +kernel
theorem dX6_worst_8 : decode cX6_worst 8 = .ok (.lconst 0, 1) := by decide +kernel
theorem dX6_worst_9 : decode cX6_worst 9 = .ok (.lconst 1, 1) := by decide +kernel
theorem dX6_worst_10 : decode cX6_worst 10 = .ok (.invokevirtual 74, 3) := by decide +kernel
theorem dX6_worst_13 : decode cX6_worst 13 = .ok (.ifCond .ne 5, 3) := by decide +kernel
theorem dX6_worst_16 : decode cX6_worst 16 = .ok (.iconst (-1), 1) := by decide +kernel
theorem dX6_worst_17 : decode cX6_worst 17 = .ok (.ireturn, 1) := by decide +kernel
theorem dX6_worst_18 : decode cX6_worst 18 = .ok (.aload_n 0, 1) := by decide +kernel
theorem dX6_worst_19 : decode cX6_worst 19 = .ok (.invokevirtual 155, 3) := by decide +kernel
theorem dX6_worst_22 : decode cX6_worst 22 = .ok (.iconst (-1), 1) := by decide +kernel
theorem dX6_worst_23 : decode cX6_worst 23 = .ok (.istore_n 2, 1) := by decide +kernel
theorem dX6_worst_24 : decode cX6_worst 24 = .ok (.iconst (-1), 1) := by decide +kernel
theorem dX6_worst_25 : decode cX6_worst 25 = .ok (.istore_n 3, 1) := by decide +kernel
theorem dX6_worst_26 : decode cX6_worst 26 = .ok (.iconst 0, 1) := by decide +kernel
theorem dX6_worst_27 : decode cX6_worst 27 = .ok (.istore 4, 2) := by decide +kernel
theorem dX6_worst_29 : decode cX6_worst 29 = .ok (.iload 4, 2) := by decide +kernel
theorem dX6_worst_31 : decode cX6_worst 31 = .ok (.aload_n 0, 1) := by decide +kernel
theorem dX6_worst_32 : decode cX6_worst 32 = .ok (.getfield 78, 3) := by decide +kernel
theorem dX6_worst_35 : decode cX6_worst 35 = .ok (.if_icmp .ge 65, 3) := by decide +kernel
theorem dX6_worst_38 : decode cX6_worst 38 = .ok (.aload_n 0, 1) := by decide +kernel
theorem dX6_worst_39 : decode cX6_worst 39 = .ok (.iload 4, 2) := by decide +kernel
theorem dX6_worst_41 : decode cX6_worst 41 = .ok (.invokevirtual 214, 3) := by decide +kernel
theorem dX6_worst_44 : decode cX6_worst 44 = .ok (.ifCond .ne 6, 3) := by decide +kernel
theorem dX6_worst_47 : decode cX6_worst 47 = .ok (.goto 47, 3) := by decide +kernel
theorem dX6_worst_50 : decode cX6_worst 50 = .ok (.aload_n 0, 1) := by decide +kernel
theorem dX6_worst_51 : decode cX6_worst 51 = .ok (.iload 4, 2) := by decide +kernel
theorem dX6_worst_53 : decode cX6_worst 53 = .ok (.aload_n 0, 1) := by decide +kernel
theorem dX6_worst_54 : decode cX6_worst 54 = .ok (.getfield 13, 3) := by decide +kernel
theorem dX6_worst_57 : decode cX6_worst 57 = .ok (.iload 4, 2) := by decide +kernel
theorem dX6_worst_59 : decode cX6_worst 59 = .ok (.iaload, 1) := by decide +kernel
theorem dX6_worst_60 : decode cX6_worst 60 = .ok (.invokevirtual 230, 3) := by decide +kernel
theorem dX6_worst_63 : decode cX6_worst 63 = .ok (.aload_n 0, 1) := by decide +kernel
theorem dX6_worst_64 : decode cX6_worst 64 = .ok (.iload 4, 2) := by decide +kernel
theorem dX6_worst_66 : decode cX6_worst 66 = .ok (.aload_n 0, 1) := by decide +kernel
theorem dX6_worst_67 : decode cX6_worst 67 = .ok (.getfield 17, 3) := by decide +kernel
theorem dX6_worst_70 : decode cX6_worst 70 = .ok (.iload 4, 2) := by decide +kernel
theorem dX6_worst_72 : decode cX6_worst 72 = .ok (.iaload, 1) := by decide +kernel
theorem dX6_worst_73 : decode cX6_worst 73 = .ok (.invokevirtual 230, 3) := by decide +kernel
theorem dX6_worst_76 : decode cX6_worst 76 = .ok (.imul, 1) := by decide +kernel
theorem dX6_worst_77 : decode cX6_worst 77 = .ok (.istore 5, 2) := by decide +kernel
theorem dX6_worst_79 : decode cX6_worst 79 = .ok (.iload 5, 2) := by decide +kernel
theorem dX6_worst_81 : decode cX6_worst 81 = .ok (.iload_n 2, 1) := by decide +kernel
theorem dX6_worst_82 : decode cX6_worst 82 = .ok (.if_icmp .gt 6, 3) := by decide +kernel
theorem dX6_worst_85 : decode cX6_worst 85 = .ok (.goto 9, 3) := by decide +kernel
theorem dX6_worst_88 : decode cX6_worst 88 = .ok (.iload 5, 2) := by decide +kernel
theorem dX6_worst_90 : decode cX6_worst 90 = .ok (.istore_n 2, 1) := by decide +kernel
theorem dX6_worst_91 : decode cX6_worst 91 = .ok (.iload 4, 2) := by decide +kernel
theorem dX6_worst_93 : decode cX6_worst 93 = .ok (.istore_n 3, 1) := by decide +kernel
theorem dX6_worst_94 : decode cX6_worst 94 = .ok (.iinc 4 1, 3) := by decide +kernel
theorem dX6_worst_97 : decode cX6_worst 97 = .ok (.goto (-68), 3) := by decide +kernel
theorem dX6_worst_100 : decode cX6_worst 100 = .ok (.iload_n 1, 1) := by decide +kernel
theorem dX6_worst_101 : decode cX6_worst 101 = .ok (.ifCond .ne 7, 3) := by decide +kernel
theorem dX6_worst_104 : decode cX6_worst 104 = .ok (.iload_n 3, 1) := by decide +kernel
theorem dX6_worst_105 : decode cX6_worst 105 = .ok (.goto 4, 3) := by decide +kernel
theorem dX6_worst_108 : decode cX6_worst 108 = .ok (.iload_n 2, 1) := by decide +kernel
theorem dX6_worst_109 : decode cX6_worst 109 = .ok (.ireturn, 1) := by decide +kernel
theorem dX6_part_0 : decode cX6_part 0 = .ok (.aload_n 0, 1) := by decide +kernel
theorem dX6_part_1 : decode cX6_part 1 = .ok (.iconst 0, 1) := by decide +kernel
theorem dX6_part_2 : decode cX6_part 2 = .ok (.putfield 71, 3) := by decide +kernel
theorem dX6_part_5 : decode cX6_part 5 = .ok (.aload_n 0, 1) := by decide +kernel
theorem dX6_part_6 : decode cX6_part 6 = .ok (.invokevirtual 155, 3) := by decide +kernel
theorem dX6_part_9 : decode cX6_part 9 = .ok (.aload_n 0, 1) := by decide +kernel
theorem dX6_part_10 : decode cX6_part 10 = .ok (.invokevirtual 224, 3) := by decide +kernel
theorem dX6_part_13 : decode cX6_part 13 = .ok (.aload_n 0, 1) := by decide +kernel
theorem dX6_part_14 : decode cX6_part 14 = .ok (.iload_n 1, 1) := by decide +kernel
theorem dX6_part_15 : decode cX6_part 15 = .ok (.i2l, 1) := by decide +kernel
theorem dX6_part_16 : decode cX6_part 16 = .ok (.lconst 0, 1) := by decide +kernel
theorem dX6_part_17 : decode cX6_part 17 = .ok (.aload_n 0, 1) := by decide +kernel
theorem dX6_part_18 : decode cX6_part 18 = .ok (.getfield 192, 3) := by decide +kernel
theorem dX6_part_21 : decode cX6_part 21 = .ok (.i2l, 1) := by decide +kernel
theorem dX6_part_22 : decode cX6_part 22 = .ok (.lconst 1, 1) := by decide +kernel
theorem dX6_part_23 : decode cX6_part 23 = .ok (.lsub, 1) := by decide +kernel
theorem dX6_part_24 : decode cX6_part 24 = .ok (.invokevirtual 74, 3) := by decide +kernel
theorem dX6_part_27 : decode cX6_part 27 = .ok (.ifCond .ne 5, 3) := by decide +kernel
theorem dX6_part_30 : decode cX6_part 30 = .ok (.iconst (-1), 1) := by decide +kernel
theorem dX6_part_31 : decode cX6_part 31 = .ok (.ireturn, 1) := by decide +kernel
theorem dX6_part_32 : decode cX6_part 32 = .ok (.iconst 0, 1) := by decide +kernel
theorem dX6_part_33 : decode cX6_part 33 = .ok (.istore_n 3, 1) := by decide +kernel
theorem dX6_part_34 : decode cX6_part 34 = .ok (.aload_n 0, 1) := by decide +kernel
theorem dX6_part_35 : decode cX6_part 35 = .ok (.getfield 44, 3) := by decide +kernel
theorem dX6_part_38 : decode cX6_part 38 = .ok (.iload_n 3, 1) := by decide +kernel
theorem dX6_part_39 : decode cX6_part 39 = .ok (.iaload, 1) := by decide +kernel
theorem dX6_part_40 : decode cX6_part 40 = .ok (.iload_n 3, 1) := by decide +kernel
theorem dX6_part_41 : decode cX6_part 41 = .ok (.if_icmp .ne 12, 3) := by decide +kernel
theorem dX6_part_44 : decode cX6_part 44 = .ok (.aload_n 0, 1) := by decide +kernel
theorem dX6_part_45 : decode cX6_part 45 = .ok (.iload_n 3, 1) := by decide +kernel
theorem dX6_part_46 : decode cX6_part 46 = .ok (.invokevirtual 227, 3) := by decide +kernel
theorem dX6_part_49 : decode cX6_part 49 = .ok (.iload_n 1, 1) := by decide +kernel
theorem dX6_part_50 : decode cX6_part 50 = .ok (.if_icmp .eq 10, 3) := by decide +kernel
theorem dX6_part_53 : decode cX6_part 53 = .ok (.iload_n 3, 1) := by decide +kernel
theorem dX6_part_54 : decode cX6_part 54 = .ok (.iconst 1, 1) := by decide +kernel
theorem dX6_part_55 : decode cX6_part 55 = .ok (.iadd, 1) := by decide +kernel
theorem dX6_part_56 : decode cX6_part 56 = .ok (.istore_n 3, 1) := by decide +kernel
theorem dX6_part_57 : decode cX6_part 57 = .ok (.goto (-23), 3) := by decide +kernel
theorem dX6_part_60 : decode cX6_part 60 = .ok (.iload_n 2, 1) := by decide +kernel
theorem dX6_part_61 : decode cX6_part 61 = .ok (.iconst 2, 1) := by decide +kernel
theorem dX6_part_62 : decode cX6_part 62 = .ok (.if_icmp .ne 5, 3) := by decide +kernel
theorem dX6_part_65 : decode cX6_part 65 = .ok (.iload_n 3, 1) := by decide +kernel
theorem dX6_part_66 : decode cX6_part 66 = .ok (.ireturn, 1) := by decide +kernel
theorem dX6_part_67 : decode cX6_part 67 = .ok (.iload_n 2, 1) := by decide +kernel
theorem dX6_part_68 : decode cX6_part 68 = .ok (.iconst 1, 1) := by decide +kernel
theorem dX6_part_69 : decode cX6_part 69 = .ok (.if_icmp .ne 13, 3) := by decide +kernel
theorem dX6_part_72 : decode cX6_part 72 = .ok (.aload_n 0, 1) := by decide +kernel
theorem dX6_part_73 : decode cX6_part 73 = .ok (.aload_n 0, 1) := by decide +kernel
theorem dX6_part_74 : decode cX6_part 74 = .ok (.iload_n 3, 1) := by decide +kernel
theorem dX6_part_75 : decode cX6_part 75 = .ok (.invokevirtual 217, 3) := by decide +kernel
theorem dX6_part_78 : decode cX6_part 78 = .ok (.invokevirtual 131, 3) := by decide +kernel
theorem dX6_part_81 : decode cX6_part 81 = .ok (.ireturn, 1) := by decide +kernel
theorem dX6_part_82 : decode cX6_part 82 = .ok (.iload_n 2, 1) := by decide +kernel
theorem dX6_part_83 : decode cX6_part 83 = .ok (.ifCond .eq 5, 3) := by decide +kernel
theorem dX6_part_86 : decode cX6_part 86 = .ok (.iconst (-1), 1) := by decide +kernel
theorem dX6_part_87 : decode cX6_part 87 = .ok (.ireturn, 1) := by decide +kernel
theorem dX6_part_88 : decode cX6_part 88 = .ok (.iconst 0, 1) := by decide +kernel
theorem dX6_part_89 : decode cX6_part 89 = .ok (.istore 4, 2) := by decide +kernel
theorem dX6_part_91 : decode cX6_part 91 = .ok (.iconst 0, 1) := by decide +kernel
theorem dX6_part_92 : decode cX6_part 92 = .ok (.istore 5, 2) := by decide +kernel
theorem dX6_part_94 : decode cX6_part 94 = .ok (.iload 5, 2) := by decide +kernel
theorem dX6_part_96 : decode cX6_part 96 = .ok (.aload_n 0, 1) := by decide +kernel
theorem dX6_part_97 : decode cX6_part 97 = .ok (.getfield 78, 3) := by decide +kernel
theorem dX6_part_100 : decode cX6_part 100 = .ok (.if_icmp .ge 26, 3) := by decide +kernel
theorem dX6_part_103 : decode cX6_part 103 = .ok (.aload_n 0, 1) := by decide +kernel
theorem dX6_part_104 : decode cX6_part 104 = .ok (.getfield 44, 3) := by decide +kernel
theorem dX6_part_107 : decode cX6_part 107 = .ok (.iload 5, 2) := by decide +kernel
theorem dX6_part_109 : decode cX6_part 109 = .ok (.iaload, 1) := by decide +kernel
theorem dX6_part_110 : decode cX6_part 110 = .ok (.iload_n 3, 1) := by decide +kernel
theorem dX6_part_111 : decode cX6_part 111 = .ok (.if_icmp .ne 9, 3) := by decide +kernel
theorem dX6_part_114 : decode cX6_part 114 = .ok (.iload 4, 2) := by decide +kernel
theorem dX6_part_116 : decode cX6_part 116 = .ok (.iconst 1, 1) := by decide +kernel
theorem dX6_part_117 : decode cX6_part 117 = .ok (.iadd, 1) := by decide +kernel
theorem dX6_part_118 : decode cX6_part 118 = .ok (.istore 4, 2) := by decide +kernel
theorem dX6_part_120 : decode cX6_part 120 = .ok (.iinc 5 1, 3) := by decide +kernel
theorem dX6_part_123 : decode cX6_part 123 = .ok (.goto (-29), 3) := by decide +kernel
theorem dX6_part_126 : decode cX6_part 126 = .ok (.iload 4, 2) := by decide +kernel
theorem dX6_part_128 : decode cX6_part 128 = .ok (.ireturn, 1) := by decide +kernel
theorem dX6_landsWithout_0 : decode cX6_landsWithout 0 = .ok (.iconst 0, 1) := by decide +kernel
theorem dX6_landsWithout_1 : decode cX6_landsWithout 1 = .ok (.istore_n 3, 1) := by decide +kernel
theorem dX6_landsWithout_2 : decode cX6_landsWithout 2 = .ok (.iconst 0, 1) := by decide +kernel
theorem dX6_landsWithout_3 : decode cX6_landsWithout 3 = .ok (.istore 4, 2) := by decide +kernel
theorem dX6_landsWithout_5 : decode cX6_landsWithout 5 = .ok (.iconst 0, 1) := by decide +kernel
theorem dX6_landsWithout_6 : decode cX6_landsWithout 6 = .ok (.istore 5, 2) := by decide +kernel
theorem dX6_landsWithout_8 : decode cX6_landsWithout 8 = .ok (.iload 5, 2) := by decide +kernel
theorem dX6_landsWithout_10 : decode cX6_landsWithout 10 = .ok (.aload_n 0, 1) := by decide +kernel
theorem dX6_landsWithout_11 : decode cX6_landsWithout 11 = .ok (.getfield 7, 3) := by decide +kernel
theorem dX6_landsWithout_14 : decode cX6_landsWithout 14 = .ok (.if_icmp .ge 43, 3) := by decide +kernel
theorem dX6_landsWithout_17 : decode cX6_landsWithout 17 = .ok (.aload_n 0, 1) := by decide +kernel
theorem dX6_landsWithout_18 : decode cX6_landsWithout 18 = .ok (.iload_n 3, 1) := by decide +kernel
theorem dX6_landsWithout_19 : decode cX6_landsWithout 19 = .ok (.iload 5, 2) := by decide +kernel
theorem dX6_landsWithout_21 : decode cX6_landsWithout 21 = .ok (.invokevirtual 85, 3) := by decide +kernel
theorem dX6_landsWithout_24 : decode cX6_landsWithout 24 = .ok (.ifCond .eq 6, 3) := by decide +kernel
theorem dX6_landsWithout_27 : decode cX6_landsWithout 27 = .ok (.goto 24, 3) := by decide +kernel
theorem dX6_landsWithout_30 : decode cX6_landsWithout 30 = .ok (.iload_n 3, 1) := by decide +kernel
theorem dX6_landsWithout_31 : decode cX6_landsWithout 31 = .ok (.aload_n 0, 1) := by decide +kernel
theorem dX6_landsWithout_32 : decode cX6_landsWithout 32 = .ok (.iload 5, 2) := by decide +kernel
theorem dX6_landsWithout_34 : decode cX6_landsWithout 34 = .ok (.aload_n 0, 1) := by decide +kernel
theorem dX6_landsWithout_35 : decode cX6_landsWithout 35 = .ok (.getfield 78, 3) := by decide +kernel
theorem dX6_landsWithout_38 : decode cX6_landsWithout 38 = .ok (.iload_n 1, 1) := by decide +kernel
theorem dX6_landsWithout_39 : decode cX6_landsWithout 39 = .ok (.iload_n 2, 1) := by decide +kernel
theorem dX6_landsWithout_40 : decode cX6_landsWithout 40 = .ok (.invokevirtual 220, 3) := by decide +kernel
theorem dX6_landsWithout_43 : decode cX6_landsWithout 43 = .ok (.ior, 1) := by decide +kernel
theorem dX6_landsWithout_44 : decode cX6_landsWithout 44 = .ok (.istore_n 3, 1) := by decide +kernel
theorem dX6_landsWithout_45 : decode cX6_landsWithout 45 = .ok (.iload 4, 2) := by decide +kernel
theorem dX6_landsWithout_47 : decode cX6_landsWithout 47 = .ok (.iconst 1, 1) := by decide +kernel
theorem dX6_landsWithout_48 : decode cX6_landsWithout 48 = .ok (.iadd, 1) := by decide +kernel
theorem dX6_landsWithout_49 : decode cX6_landsWithout 49 = .ok (.istore 4, 2) := by decide +kernel
theorem dX6_landsWithout_51 : decode cX6_landsWithout 51 = .ok (.iinc 5 1, 3) := by decide +kernel
theorem dX6_landsWithout_54 : decode cX6_landsWithout 54 = .ok (.goto (-46), 3) := by decide +kernel
theorem dX6_landsWithout_57 : decode cX6_landsWithout 57 = .ok (.iload 4, 2) := by decide +kernel
theorem dX6_landsWithout_59 : decode cX6_landsWithout 59 = .ok (.ireturn, 1) := by decide +kernel
theorem dX6_bridgesWithout_0 : decode cX6_bridgesWithout 0 = .ok (.iconst 0, 1) := by decide +kernel
theorem dX6_bridgesWithout_1 : decode cX6_bridgesWithout 1 = .ok (.istore_n 3, 1) := by decide +kernel
theorem dX6_bridgesWithout_2 : decode cX6_bridgesWithout 2 = .ok (.iconst 0, 1) := by decide +kernel
theorem dX6_bridgesWithout_3 : decode cX6_bridgesWithout 3 = .ok (.istore 4, 2) := by decide +kernel
theorem dX6_bridgesWithout_5 : decode cX6_bridgesWithout 5 = .ok (.iload 4, 2) := by decide +kernel
theorem dX6_bridgesWithout_7 : decode cX6_bridgesWithout 7 = .ok (.aload_n 0, 1) := by decide +kernel
theorem dX6_bridgesWithout_8 : decode cX6_bridgesWithout 8 = .ok (.getfield 78, 3) := by decide +kernel
theorem dX6_bridgesWithout_11 : decode cX6_bridgesWithout 11 = .ok (.if_icmp .ge 53, 3) := by decide +kernel
theorem dX6_bridgesWithout_14 : decode cX6_bridgesWithout 14 = .ok (.aload_n 0, 1) := by decide +kernel
theorem dX6_bridgesWithout_15 : decode cX6_bridgesWithout 15 = .ok (.iload 4, 2) := by decide +kernel
theorem dX6_bridgesWithout_17 : decode cX6_bridgesWithout 17 = .ok (.iload_n 1, 1) := by decide +kernel
theorem dX6_bridgesWithout_18 : decode cX6_bridgesWithout 18 = .ok (.iload_n 2, 1) := by decide +kernel
theorem dX6_bridgesWithout_19 : decode cX6_bridgesWithout 19 = .ok (.invokevirtual 175, 3) := by decide +kernel
theorem dX6_bridgesWithout_22 : decode cX6_bridgesWithout 22 = .ok (.ifCond .ne 36, 3) := by decide +kernel
theorem dX6_bridgesWithout_25 : decode cX6_bridgesWithout 25 = .ok (.aload_n 0, 1) := by decide +kernel
theorem dX6_bridgesWithout_26 : decode cX6_bridgesWithout 26 = .ok (.aload_n 0, 1) := by decide +kernel
theorem dX6_bridgesWithout_27 : decode cX6_bridgesWithout 27 = .ok (.aload_n 0, 1) := by decide +kernel
theorem dX6_bridgesWithout_28 : decode cX6_bridgesWithout 28 = .ok (.getfield 13, 3) := by decide +kernel
theorem dX6_bridgesWithout_31 : decode cX6_bridgesWithout 31 = .ok (.iload 4, 2) := by decide +kernel
theorem dX6_bridgesWithout_33 : decode cX6_bridgesWithout 33 = .ok (.iaload, 1) := by decide +kernel
theorem dX6_bridgesWithout_34 : decode cX6_bridgesWithout 34 = .ok (.iload 4, 2) := by decide +kernel
theorem dX6_bridgesWithout_36 : decode cX6_bridgesWithout 36 = .ok (.iload_n 1, 1) := by decide +kernel
theorem dX6_bridgesWithout_37 : decode cX6_bridgesWithout 37 = .ok (.iload_n 2, 1) := by decide +kernel
theorem dX6_bridgesWithout_38 : decode cX6_bridgesWithout 38 = .ok (.invokevirtual 333, 3) := by decide +kernel
theorem dX6_bridgesWithout_41 : decode cX6_bridgesWithout 41 = .ok (.aload_n 0, 1) := by decide +kernel
theorem dX6_bridgesWithout_42 : decode cX6_bridgesWithout 42 = .ok (.getfield 17, 3) := by decide +kernel
theorem dX6_bridgesWithout_45 : decode cX6_bridgesWithout 45 = .ok (.iload 4, 2) := by decide +kernel
theorem dX6_bridgesWithout_47 : decode cX6_bridgesWithout 47 = .ok (.iaload, 1) := by decide +kernel
theorem dX6_bridgesWithout_48 : decode cX6_bridgesWithout 48 = .ok (.invokevirtual 85, 3) := by decide +kernel
theorem dX6_bridgesWithout_51 : decode cX6_bridgesWithout 51 = .ok (.ifCond .ne 7, 3) := by decide +kernel
theorem dX6_bridgesWithout_54 : decode cX6_bridgesWithout 54 = .ok (.iload_n 3, 1) := by decide +kernel
theorem dX6_bridgesWithout_55 : decode cX6_bridgesWithout 55 = .ok (.iconst 1, 1) := by decide +kernel
theorem dX6_bridgesWithout_56 : decode cX6_bridgesWithout 56 = .ok (.iadd, 1) := by decide +kernel
theorem dX6_bridgesWithout_57 : decode cX6_bridgesWithout 57 = .ok (.istore_n 3, 1) := by decide +kernel
theorem dX6_bridgesWithout_58 : decode cX6_bridgesWithout 58 = .ok (.iinc 4 1, 3) := by decide +kernel
theorem dX6_bridgesWithout_61 : decode cX6_bridgesWithout 61 = .ok (.goto (-56), 3) := by decide +kernel
theorem dX6_bridgesWithout_64 : decode cX6_bridgesWithout 64 = .ok (.iload_n 3, 1) := by decide +kernel
theorem dX6_bridgesWithout_65 : decode cX6_bridgesWithout 65 = .ok (.ireturn, 1) := by decide +kernel
theorem dX6_reachedBut_0 : decode cX6_reachedBut 0 = .ok (.iconst 1, 1) := by decide +kernel
theorem dX6_reachedBut_1 : decode cX6_reachedBut 1 = .ok (.iload_n 1, 1) := by decide +kernel
theorem dX6_reachedBut_2 : decode cX6_reachedBut 2 = .ok (.ishl, 1) := by decide +kernel
theorem dX6_reachedBut_3 : decode cX6_reachedBut 3 = .ok (.istore 5, 2) := by decide +kernel
theorem dX6_reachedBut_5 : decode cX6_reachedBut 5 = .ok (.iconst 1, 1) := by decide +kernel
theorem dX6_reachedBut_6 : decode cX6_reachedBut 6 = .ok (.istore 6, 2) := by decide +kernel
theorem dX6_reachedBut_8 : decode cX6_reachedBut 8 = .ok (.iload 6, 2) := by decide +kernel
theorem dX6_reachedBut_10 : decode cX6_reachedBut 10 = .ok (.ifCond .eq 116, 3) := by decide +kernel
theorem dX6_reachedBut_13 : decode cX6_reachedBut 13 = .ok (.iload 5, 2) := by decide +kernel
theorem dX6_reachedBut_15 : decode cX6_reachedBut 15 = .ok (.istore 7, 2) := by decide +kernel
theorem dX6_reachedBut_17 : decode cX6_reachedBut 17 = .ok (.iconst 0, 1) := by decide +kernel
theorem dX6_reachedBut_18 : decode cX6_reachedBut 18 = .ok (.istore 8, 2) := by decide +kernel
theorem dX6_reachedBut_20 : decode cX6_reachedBut 20 = .ok (.iload 8, 2) := by decide +kernel
theorem dX6_reachedBut_22 : decode cX6_reachedBut 22 = .ok (.aload_n 0, 1) := by decide +kernel
theorem dX6_reachedBut_23 : decode cX6_reachedBut 23 = .ok (.getfield 78, 3) := by decide +kernel
theorem dX6_reachedBut_26 : decode cX6_reachedBut 26 = .ok (.if_icmp .ge 83, 3) := by decide +kernel
theorem dX6_reachedBut_29 : decode cX6_reachedBut 29 = .ok (.iload 8, 2) := by decide +kernel
theorem dX6_reachedBut_31 : decode cX6_reachedBut 31 = .ok (.iload_n 2, 1) := by decide +kernel
theorem dX6_reachedBut_32 : decode cX6_reachedBut 32 = .ok (.if_icmp .eq 71, 3) := by decide +kernel
theorem dX6_reachedBut_35 : decode cX6_reachedBut 35 = .ok (.aload_n 0, 1) := by decide +kernel
theorem dX6_reachedBut_36 : decode cX6_reachedBut 36 = .ok (.iload 8, 2) := by decide +kernel
theorem dX6_reachedBut_38 : decode cX6_reachedBut 38 = .ok (.iload_n 3, 1) := by decide +kernel
theorem dX6_reachedBut_39 : decode cX6_reachedBut 39 = .ok (.iload 4, 2) := by decide +kernel
theorem dX6_reachedBut_41 : decode cX6_reachedBut 41 = .ok (.invokevirtual 175, 3) := by decide +kernel
theorem dX6_reachedBut_44 : decode cX6_reachedBut 44 = .ok (.ifCond .ne 59, 3) := by decide +kernel
theorem dX6_reachedBut_47 : decode cX6_reachedBut 47 = .ok (.aload_n 0, 1) := by decide +kernel
theorem dX6_reachedBut_48 : decode cX6_reachedBut 48 = .ok (.iload 5, 2) := by decide +kernel
theorem dX6_reachedBut_50 : decode cX6_reachedBut 50 = .ok (.aload_n 0, 1) := by decide +kernel
theorem dX6_reachedBut_51 : decode cX6_reachedBut 51 = .ok (.getfield 13, 3) := by decide +kernel
theorem dX6_reachedBut_54 : decode cX6_reachedBut 54 = .ok (.iload 8, 2) := by decide +kernel
theorem dX6_reachedBut_56 : decode cX6_reachedBut 56 = .ok (.iaload, 1) := by decide +kernel
theorem dX6_reachedBut_57 : decode cX6_reachedBut 57 = .ok (.invokevirtual 85, 3) := by decide +kernel
theorem dX6_reachedBut_60 : decode cX6_reachedBut 60 = .ok (.ifCond .ne 19, 3) := by decide +kernel
theorem dX6_reachedBut_63 : decode cX6_reachedBut 63 = .ok (.aload_n 0, 1) := by decide +kernel
theorem dX6_reachedBut_64 : decode cX6_reachedBut 64 = .ok (.iload 5, 2) := by decide +kernel
theorem dX6_reachedBut_66 : decode cX6_reachedBut 66 = .ok (.aload_n 0, 1) := by decide +kernel
theorem dX6_reachedBut_67 : decode cX6_reachedBut 67 = .ok (.getfield 17, 3) := by decide +kernel
theorem dX6_reachedBut_70 : decode cX6_reachedBut 70 = .ok (.iload 8, 2) := by decide +kernel
theorem dX6_reachedBut_72 : decode cX6_reachedBut 72 = .ok (.iaload, 1) := by decide +kernel
theorem dX6_reachedBut_73 : decode cX6_reachedBut 73 = .ok (.invokevirtual 85, 3) := by decide +kernel
theorem dX6_reachedBut_76 : decode cX6_reachedBut 76 = .ok (.ifCond .eq 27, 3) := by decide +kernel
theorem dX6_reachedBut_79 : decode cX6_reachedBut 79 = .ok (.iload 5, 2) := by decide +kernel
theorem dX6_reachedBut_81 : decode cX6_reachedBut 81 = .ok (.iconst 1, 1) := by decide +kernel
theorem dX6_reachedBut_82 : decode cX6_reachedBut 82 = .ok (.aload_n 0, 1) := by decide +kernel
theorem dX6_reachedBut_83 : decode cX6_reachedBut 83 = .ok (.getfield 13, 3) := by decide +kernel
theorem dX6_reachedBut_86 : decode cX6_reachedBut 86 = .ok (.iload 8, 2) := by decide +kernel
theorem dX6_reachedBut_88 : decode cX6_reachedBut 88 = .ok (.iaload, 1) := by decide +kernel
theorem dX6_reachedBut_89 : decode cX6_reachedBut 89 = .ok (.ishl, 1) := by decide +kernel
theorem dX6_reachedBut_90 : decode cX6_reachedBut 90 = .ok (.ior, 1) := by decide +kernel
theorem dX6_reachedBut_91 : decode cX6_reachedBut 91 = .ok (.iconst 1, 1) := by decide +kernel
theorem dX6_reachedBut_92 : decode cX6_reachedBut 92 = .ok (.aload_n 0, 1) := by decide +kernel
theorem dX6_reachedBut_93 : decode cX6_reachedBut 93 = .ok (.getfield 17, 3) := by decide +kernel
theorem dX6_reachedBut_96 : decode cX6_reachedBut 96 = .ok (.iload 8, 2) := by decide +kernel
theorem dX6_reachedBut_98 : decode cX6_reachedBut 98 = .ok (.iaload, 1) := by decide +kernel
theorem dX6_reachedBut_99 : decode cX6_reachedBut 99 = .ok (.ishl, 1) := by decide +kernel
theorem dX6_reachedBut_100 : decode cX6_reachedBut 100 = .ok (.ior, 1) := by decide +kernel
theorem dX6_reachedBut_101 : decode cX6_reachedBut 101 = .ok (.istore 5, 2) := by decide +kernel
theorem dX6_reachedBut_103 : decode cX6_reachedBut 103 = .ok (.iinc 8 1, 3) := by decide +kernel
theorem dX6_reachedBut_106 : decode cX6_reachedBut 106 = .ok (.goto (-86), 3) := by decide +kernel
theorem dX6_reachedBut_109 : decode cX6_reachedBut 109 = .ok (.iload 7, 2) := by decide +kernel
theorem dX6_reachedBut_111 : decode cX6_reachedBut 111 = .ok (.iload 5, 2) := by decide +kernel
theorem dX6_reachedBut_113 : decode cX6_reachedBut 113 = .ok (.if_icmp .eq 7, 3) := by decide +kernel
theorem dX6_reachedBut_116 : decode cX6_reachedBut 116 = .ok (.iconst 1, 1) := by decide +kernel
theorem dX6_reachedBut_117 : decode cX6_reachedBut 117 = .ok (.goto 4, 3) := by decide +kernel
theorem dX6_reachedBut_120 : decode cX6_reachedBut 120 = .ok (.iconst 0, 1) := by decide +kernel
theorem dX6_reachedBut_121 : decode cX6_reachedBut 121 = .ok (.istore 6, 2) := by decide +kernel
theorem dX6_reachedBut_123 : decode cX6_reachedBut 123 = .ok (.goto (-115), 3) := by decide +kernel
theorem dX6_reachedBut_126 : decode cX6_reachedBut 126 = .ok (.iload 5, 2) := by decide +kernel
theorem dX6_reachedBut_128 : decode cX6_reachedBut 128 = .ok (.ireturn, 1) := by decide +kernel
theorem dX6_without_0 : decode cX6_without 0 = .ok (.aload_n 0, 1) := by decide +kernel
theorem dX6_without_1 : decode cX6_without 1 = .ok (.iconst 0, 1) := by decide +kernel
theorem dX6_without_2 : decode cX6_without 2 = .ok (.putfield 71, 3) := by decide +kernel
theorem dX6_without_5 : decode cX6_without 5 = .ok (.aload_n 0, 1) := by decide +kernel
theorem dX6_without_6 : decode cX6_without 6 = .ok (.iload_n 1, 1) := by decide +kernel
theorem dX6_without_7 : decode cX6_without 7 = .ok (.i2l, 1) := by decide +kernel
theorem dX6_without_8 : decode cX6_without 8 = .ok (.lconst 0, 1) := by decide +kernel
theorem dX6_without_9 : decode cX6_without 9 = .ok (.lconst 1, 1) := by decide +kernel
theorem dX6_without_10 : decode cX6_without 10 = .ok (.invokevirtual 74, 3) := by decide +kernel
theorem dX6_without_13 : decode cX6_without 13 = .ok (.ifCond .eq 39, 3) := by decide +kernel
theorem dX6_without_16 : decode cX6_without 16 = .ok (.aload_n 0, 1) := by decide +kernel
theorem dX6_without_17 : decode cX6_without 17 = .ok (.iload_n 3, 1) := by decide +kernel
theorem dX6_without_18 : decode cX6_without 18 = .ok (.i2l, 1) := by decide +kernel
theorem dX6_without_19 : decode cX6_without 19 = .ok (.lconst 0, 1) := by decide +kernel
theorem dX6_without_20 : decode cX6_without 20 = .ok (.ldc2_w 336, 3) := by decide +kernel
theorem dX6_without_23 : decode cX6_without 23 = .ok (.invokevirtual 74, 3) := by decide +kernel
theorem dX6_without_26 : decode cX6_without 26 = .ok (.ifCond .eq 26, 3) := by decide +kernel
theorem dX6_without_29 : decode cX6_without 29 = .ok (.iload_n 1, 1) := by decide +kernel
theorem dX6_without_30 : decode cX6_without 30 = .ok (.ifCond .ne 14, 3) := by decide +kernel
theorem dX6_without_33 : decode cX6_without 33 = .ok (.aload_n 0, 1) := by decide +kernel
theorem dX6_without_34 : decode cX6_without 34 = .ok (.iload_n 2, 1) := by decide +kernel
theorem dX6_without_35 : decode cX6_without 35 = .ok (.invokevirtual 204, 3) := by decide +kernel
theorem dX6_without_38 : decode cX6_without 38 = .ok (.ifCond .eq 14, 3) := by decide +kernel
theorem dX6_without_41 : decode cX6_without 41 = .ok (.goto 13, 3) := by decide +kernel
theorem dX6_without_44 : decode cX6_without 44 = .ok (.aload_n 0, 1) := by decide +kernel
theorem dX6_without_45 : decode cX6_without 45 = .ok (.iload_n 2, 1) := by decide +kernel
theorem dX6_without_46 : decode cX6_without 46 = .ok (.invokevirtual 81, 3) := by decide +kernel
theorem dX6_without_49 : decode cX6_without 49 = .ok (.ifCond .ne 5, 3) := by decide +kernel
theorem dX6_without_52 : decode cX6_without 52 = .ok (.iconst (-1), 1) := by decide +kernel
theorem dX6_without_53 : decode cX6_without 53 = .ok (.ireturn, 1) := by decide +kernel
theorem dX6_without_54 : decode cX6_without 54 = .ok (.iload_n 1, 1) := by decide +kernel
theorem dX6_without_55 : decode cX6_without 55 = .ok (.ifCond .ne 7, 3) := by decide +kernel
theorem dX6_without_58 : decode cX6_without 58 = .ok (.iload_n 2, 1) := by decide +kernel
theorem dX6_without_59 : decode cX6_without 59 = .ok (.goto 4, 3) := by decide +kernel
theorem dX6_without_62 : decode cX6_without 62 = .ok (.iconst (-1), 1) := by decide +kernel
theorem dX6_without_63 : decode cX6_without 63 = .ok (.istore 4, 2) := by decide +kernel
theorem dX6_without_65 : decode cX6_without 65 = .ok (.iload_n 1, 1) := by decide +kernel
theorem dX6_without_66 : decode cX6_without 66 = .ok (.iconst 1, 1) := by decide +kernel
theorem dX6_without_67 : decode cX6_without 67 = .ok (.if_icmp .ne 7, 3) := by decide +kernel
theorem dX6_without_70 : decode cX6_without 70 = .ok (.iload_n 2, 1) := by decide +kernel
theorem dX6_without_71 : decode cX6_without 71 = .ok (.goto 4, 3) := by decide +kernel
theorem dX6_without_74 : decode cX6_without 74 = .ok (.iconst (-1), 1) := by decide +kernel
theorem dX6_without_75 : decode cX6_without 75 = .ok (.istore 5, 2) := by decide +kernel
theorem dX6_without_77 : decode cX6_without 77 = .ok (.iload_n 3, 1) := by decide +kernel
theorem dX6_without_78 : decode cX6_without 78 = .ok (.ifCond .ne 12, 3) := by decide +kernel
theorem dX6_without_81 : decode cX6_without 81 = .ok (.aload_n 0, 1) := by decide +kernel
theorem dX6_without_82 : decode cX6_without 82 = .ok (.iload 4, 2) := by decide +kernel
theorem dX6_without_84 : decode cX6_without 84 = .ok (.iload 5, 2) := by decide +kernel
theorem dX6_without_86 : decode cX6_without 86 = .ok (.invokevirtual 338, 3) := by decide +kernel
theorem dX6_without_89 : decode cX6_without 89 = .ok (.ireturn, 1) := by decide +kernel
theorem dX6_without_90 : decode cX6_without 90 = .ok (.iload_n 3, 1) := by decide +kernel
theorem dX6_without_91 : decode cX6_without 91 = .ok (.iconst 2, 1) := by decide +kernel
theorem dX6_without_92 : decode cX6_without 92 = .ok (.if_icmp .ne 12, 3) := by decide +kernel
theorem dX6_without_95 : decode cX6_without 95 = .ok (.aload_n 0, 1) := by decide +kernel
theorem dX6_without_96 : decode cX6_without 96 = .ok (.iload 4, 2) := by decide +kernel
theorem dX6_without_98 : decode cX6_without 98 = .ok (.iload 5, 2) := by decide +kernel
theorem dX6_without_100 : decode cX6_without 100 = .ok (.invokevirtual 341, 3) := by decide +kernel
theorem dX6_without_103 : decode cX6_without 103 = .ok (.ireturn, 1) := by decide +kernel
theorem dX6_without_104 : decode cX6_without 104 = .ok (.iload_n 3, 1) := by decide +kernel
theorem dX6_without_105 : decode cX6_without 105 = .ok (.iconst 1, 1) := by decide +kernel
theorem dX6_without_106 : decode cX6_without 106 = .ok (.if_icmp .ne 21, 3) := by decide +kernel
theorem dX6_without_109 : decode cX6_without 109 = .ok (.aload_n 0, 1) := by decide +kernel
theorem dX6_without_110 : decode cX6_without 110 = .ok (.iload 4, 2) := by decide +kernel
theorem dX6_without_112 : decode cX6_without 112 = .ok (.iload 5, 2) := by decide +kernel
theorem dX6_without_114 : decode cX6_without 114 = .ok (.invokevirtual 338, 3) := by decide +kernel
theorem dX6_without_117 : decode cX6_without 117 = .ok (.aload_n 0, 1) := by decide +kernel
theorem dX6_without_118 : decode cX6_without 118 = .ok (.iload 4, 2) := by decide +kernel
theorem dX6_without_120 : decode cX6_without 120 = .ok (.iload 5, 2) := by decide +kernel
theorem dX6_without_122 : decode cX6_without 122 = .ok (.invokevirtual 341, 3) := by decide +kernel
theorem dX6_without_125 : decode cX6_without 125 = .ok (.iadd, 1) := by decide +kernel
theorem dX6_without_126 : decode cX6_without 126 = .ok (.ireturn, 1) := by decide +kernel
theorem dX6_without_127 : decode cX6_without 127 = .ok (.aload_n 0, 1) := by decide +kernel
theorem dX6_without_128 : decode cX6_without 128 = .ok (.aload_n 0, 1) := by decide +kernel
theorem dX6_without_129 : decode cX6_without 129 = .ok (.getfield 78, 3) := by decide +kernel
theorem dX6_without_132 : decode cX6_without 132 = .ok (.iload 4, 2) := by decide +kernel
theorem dX6_without_134 : decode cX6_without 134 = .ok (.iload 5, 2) := by decide +kernel
theorem dX6_without_136 : decode cX6_without 136 = .ok (.invokevirtual 195, 3) := by decide +kernel
theorem dX6_without_139 : decode cX6_without 139 = .ok (.aload_n 0, 1) := by decide +kernel
theorem dX6_without_140 : decode cX6_without 140 = .ok (.getfield 192, 3) := by decide +kernel
theorem dX6_without_143 : decode cX6_without 143 = .ok (.ireturn, 1) := by decide +kernel
theorem dX6_ring_0 : decode cX6_ring 0 = .ok (.aload_n 0, 1) := by decide +kernel
theorem dX6_ring_1 : decode cX6_ring 1 = .ok (.iconst 0, 1) := by decide +kernel
theorem dX6_ring_2 : decode cX6_ring 2 = .ok (.putfield 71, 3) := by decide +kernel
theorem dX6_ring_5 : decode cX6_ring 5 = .ok (.aload_n 0, 1) := by decide +kernel
theorem dX6_ring_6 : decode cX6_ring 6 = .ok (.iload_n 1, 1) := by decide +kernel
theorem dX6_ring_7 : decode cX6_ring 7 = .ok (.invokevirtual 204, 3) := by decide +kernel
theorem dX6_ring_10 : decode cX6_ring 10 = .ok (.ifCond .ne 5, 3) := by decide +kernel
theorem dX6_ring_13 : decode cX6_ring 13 = .ok (.iconst (-1), 1) := by decide +kernel
theorem dX6_ring_14 : decode cX6_ring 14 = .ok (.ireturn, 1) := by decide +kernel
theorem dX6_ring_15 : decode cX6_ring 15 = .ok (.aload_n 0, 1) := by decide +kernel
theorem dX6_ring_16 : decode cX6_ring 16 = .ok (.invokevirtual 155, 3) := by decide +kernel
theorem dX6_ring_19 : decode cX6_ring 19 = .ok (.aload_n 0, 1) := by decide +kernel
theorem dX6_ring_20 : decode cX6_ring 20 = .ok (.iload_n 1, 1) := by decide +kernel
theorem dX6_ring_21 : decode cX6_ring 21 = .ok (.invokevirtual 214, 3) := by decide +kernel
theorem dX6_ring_24 : decode cX6_ring 24 = .ok (.ifCond .eq 5, 3) := by decide +kernel
theorem dX6_ring_27 : decode cX6_ring 27 = .ok (.iconst (-1), 1) := by decide +kernel
theorem dX6_ring_28 : decode cX6_ring 28 = .ok (.ireturn, 1) := by decide +kernel
theorem dX6_ring_29 : decode cX6_ring 29 = .ok (.aload_n 0, 1) := by decide +kernel
theorem dX6_ring_30 : decode cX6_ring 30 = .ok (.aload_n 0, 1) := by decide +kernel
theorem dX6_ring_31 : decode cX6_ring 31 = .ok (.getfield 17, 3) := by decide +kernel
theorem dX6_ring_34 : decode cX6_ring 34 = .ok (.iload_n 1, 1) := by decide +kernel
theorem dX6_ring_35 : decode cX6_ring 35 = .ok (.iaload, 1) := by decide +kernel
theorem dX6_ring_36 : decode cX6_ring 36 = .ok (.aload_n 0, 1) := by decide +kernel
theorem dX6_ring_37 : decode cX6_ring 37 = .ok (.getfield 13, 3) := by decide +kernel
theorem dX6_ring_40 : decode cX6_ring 40 = .ok (.iload_n 1, 1) := by decide +kernel
theorem dX6_ring_41 : decode cX6_ring 41 = .ok (.iaload, 1) := by decide +kernel
theorem dX6_ring_42 : decode cX6_ring 42 = .ok (.iload_n 1, 1) := by decide +kernel
theorem dX6_ring_43 : decode cX6_ring 43 = .ok (.invokevirtual 317, 3) := by decide +kernel
theorem dX6_ring_46 : decode cX6_ring 46 = .ok (.pop, 1) := by decide +kernel
theorem dX6_ring_47 : decode cX6_ring 47 = .ok (.iload_n 2, 1) := by decide +kernel
theorem dX6_ring_48 : decode cX6_ring 48 = .ok (.iconst (-1), 1) := by decide +kernel
theorem dX6_ring_49 : decode cX6_ring 49 = .ok (.if_icmp .ne 10, 3) := by decide +kernel
theorem dX6_ring_52 : decode cX6_ring 52 = .ok (.aload_n 0, 1) := by decide +kernel
theorem dX6_ring_53 : decode cX6_ring 53 = .ok (.getfield 311, 3) := by decide +kernel
theorem dX6_ring_56 : decode cX6_ring 56 = .ok (.iconst 1, 1) := by decide +kernel
theorem dX6_ring_57 : decode cX6_ring 57 = .ok (.iadd, 1) := by decide +kernel
theorem dX6_ring_58 : decode cX6_ring 58 = .ok (.ireturn, 1) := by decide +kernel
theorem dX6_ring_59 : decode cX6_ring 59 = .ok (.aload_n 0, 1) := by decide +kernel
theorem dX6_ring_60 : decode cX6_ring 60 = .ok (.iload_n 2, 1) := by decide +kernel
theorem dX6_ring_61 : decode cX6_ring 61 = .ok (.i2l, 1) := by decide +kernel
theorem dX6_ring_62 : decode cX6_ring 62 = .ok (.lconst 0, 1) := by decide +kernel
theorem dX6_ring_63 : decode cX6_ring 63 = .ok (.aload_n 0, 1) := by decide +kernel
theorem dX6_ring_64 : decode cX6_ring 64 = .ok (.getfield 311, 3) := by decide +kernel
theorem dX6_ring_67 : decode cX6_ring 67 = .ok (.i2l, 1) := by decide +kernel
theorem dX6_ring_68 : decode cX6_ring 68 = .ok (.invokevirtual 74, 3) := by decide +kernel
theorem dX6_ring_71 : decode cX6_ring 71 = .ok (.ifCond .eq 12, 3) := by decide +kernel
theorem dX6_ring_74 : decode cX6_ring 74 = .ok (.aload_n 0, 1) := by decide +kernel
theorem dX6_ring_75 : decode cX6_ring 75 = .ok (.getfield 65, 3) := by decide +kernel
theorem dX6_ring_78 : decode cX6_ring 78 = .ok (.iload_n 2, 1) := by decide +kernel
theorem dX6_ring_79 : decode cX6_ring 79 = .ok (.iaload, 1) := by decide +kernel
theorem dX6_ring_80 : decode cX6_ring 80 = .ok (.goto 4, 3) := by decide +kernel
theorem dX6_ring_83 : decode cX6_ring 83 = .ok (.iconst (-1), 1) := by decide +kernel
theorem dX6_ring_84 : decode cX6_ring 84 = .ok (.ireturn, 1) := by decide +kernel
theorem dX6_bridgesBy_0 : decode cX6_bridgesBy 0 = .ok (.aload_n 0, 1) := by decide +kernel
theorem dX6_bridgesBy_1 : decode cX6_bridgesBy 1 = .ok (.iconst 0, 1) := by decide +kernel
theorem dX6_bridgesBy_2 : decode cX6_bridgesBy 2 = .ok (.putfield 71, 3) := by decide +kernel
theorem dX6_bridgesBy_5 : decode cX6_bridgesBy 5 = .ok (.aload_n 0, 1) := by decide +kernel
theorem dX6_bridgesBy_6 : decode cX6_bridgesBy 6 = .ok (.iload_n 1, 1) := by decide +kernel
theorem dX6_bridgesBy_7 : decode cX6_bridgesBy 7 = .ok (.i2l, 1) := by decide +kernel
theorem dX6_bridgesBy_8 : decode cX6_bridgesBy 8 = .ok (.lconst 0, 1) := by decide +kernel
theorem dX6_bridgesBy_9 : decode cX6_bridgesBy 9 = .ok (.aload_n 0, 1) := by decide +kernel
theorem dX6_bridgesBy_10 : decode cX6_bridgesBy 10 = .ok (.getfield 78, 3) := by decide +kernel
theorem dX6_bridgesBy_13 : decode cX6_bridgesBy 13 = .ok (.i2l, 1) := by decide +kernel
theorem dX6_bridgesBy_14 : decode cX6_bridgesBy 14 = .ok (.invokevirtual 74, 3) := by decide +kernel
theorem dX6_bridgesBy_17 : decode cX6_bridgesBy 17 = .ok (.ifCond .ne 5, 3) := by decide +kernel
theorem dX6_bridgesBy_20 : decode cX6_bridgesBy 20 = .ok (.iconst (-1), 1) := by decide +kernel
theorem dX6_bridgesBy_21 : decode cX6_bridgesBy 21 = .ok (.ireturn, 1) := by decide +kernel
theorem dX6_bridgesBy_22 : decode cX6_bridgesBy 22 = .ok (.aload_n 0, 1) := by decide +kernel
theorem dX6_bridgesBy_23 : decode cX6_bridgesBy 23 = .ok (.iconst (-1), 1) := by decide +kernel
theorem dX6_bridgesBy_24 : decode cX6_bridgesBy 24 = .ok (.putfield 20, 3) := by decide +kernel
theorem dX6_bridgesBy_27 : decode cX6_bridgesBy 27 = .ok (.aload_n 0, 1) := by decide +kernel
theorem dX6_bridgesBy_28 : decode cX6_bridgesBy 28 = .ok (.iload_n 1, 1) := by decide +kernel
theorem dX6_bridgesBy_29 : decode cX6_bridgesBy 29 = .ok (.invokevirtual 145, 3) := by decide +kernel
theorem dX6_bridgesBy_32 : decode cX6_bridgesBy 32 = .ok (.aload_n 0, 1) := by decide +kernel
theorem dX6_bridgesBy_33 : decode cX6_bridgesBy 33 = .ok (.invokevirtual 158, 3) := by decide +kernel
theorem dX6_bridgesBy_36 : decode cX6_bridgesBy 36 = .ok (.ireturn, 1) := by decide +kernel
theorem dX6_names_0 : decode cX6_names 0 = .ok (.iconst 0, 1) := by decide +kernel
theorem dX6_names_1 : decode cX6_names 1 = .ok (.istore_n 2, 1) := by decide +kernel
theorem dX6_names_2 : decode cX6_names 2 = .ok (.iconst 0, 1) := by decide +kernel
theorem dX6_names_3 : decode cX6_names 3 = .ok (.istore_n 3, 1) := by decide +kernel
theorem dX6_names_4 : decode cX6_names 4 = .ok (.iload_n 3, 1) := by decide +kernel
theorem dX6_names_5 : decode cX6_names 5 = .ok (.aload_n 0, 1) := by decide +kernel
theorem dX6_names_6 : decode cX6_names 6 = .ok (.getfield 7, 3) := by decide +kernel
theorem dX6_names_9 : decode cX6_names 9 = .ok (.if_icmp .ge 28, 3) := by decide +kernel
theorem dX6_names_12 : decode cX6_names 12 = .ok (.aload_n 0, 1) := by decide +kernel
theorem dX6_names_13 : decode cX6_names 13 = .ok (.getfield 32, 3) := by decide +kernel
theorem dX6_names_16 : decode cX6_names 16 = .ok (.bipush 32, 2) := by decide +kernel
theorem dX6_names_18 : decode cX6_names 18 = .ok (.iload_n 1, 1) := by decide +kernel
theorem dX6_names_19 : decode cX6_names 19 = .ok (.imul, 1) := by decide +kernel
theorem dX6_names_20 : decode cX6_names 20 = .ok (.iload_n 3, 1) := by decide +kernel
theorem dX6_names_21 : decode cX6_names 21 = .ok (.iadd, 1) := by decide +kernel
theorem dX6_names_22 : decode cX6_names 22 = .ok (.iaload, 1) := by decide +kernel
theorem dX6_names_23 : decode cX6_names 23 = .ok (.iconst (-1), 1) := by decide +kernel
theorem dX6_names_24 : decode cX6_names 24 = .ok (.if_icmp .ne 7, 3) := by decide +kernel
theorem dX6_names_27 : decode cX6_names 27 = .ok (.iload_n 2, 1) := by decide +kernel
theorem dX6_names_28 : decode cX6_names 28 = .ok (.iconst 1, 1) := by decide +kernel
theorem dX6_names_29 : decode cX6_names 29 = .ok (.iadd, 1) := by decide +kernel
theorem dX6_names_30 : decode cX6_names 30 = .ok (.istore_n 2, 1) := by decide +kernel
theorem dX6_names_31 : decode cX6_names 31 = .ok (.iinc 3 1, 3) := by decide +kernel
theorem dX6_names_34 : decode cX6_names 34 = .ok (.goto (-30), 3) := by decide +kernel
theorem dX6_names_37 : decode cX6_names 37 = .ok (.iload_n 2, 1) := by decide +kernel
theorem dX6_names_38 : decode cX6_names 38 = .ok (.ireturn, 1) := by decide +kernel
theorem dX6_frail_0 : decode cX6_frail 0 = .ok (.iconst 0, 1) := by decide +kernel
theorem dX6_frail_1 : decode cX6_frail 1 = .ok (.istore_n 1, 1) := by decide +kernel
theorem dX6_frail_2 : decode cX6_frail 2 = .ok (.iconst 0, 1) := by decide +kernel
theorem dX6_frail_3 : decode cX6_frail 3 = .ok (.istore_n 2, 1) := by decide +kernel
theorem dX6_frail_4 : decode cX6_frail 4 = .ok (.iload_n 2, 1) := by decide +kernel
theorem dX6_frail_5 : decode cX6_frail 5 = .ok (.aload_n 0, 1) := by decide +kernel
theorem dX6_frail_6 : decode cX6_frail 6 = .ok (.getfield 7, 3) := by decide +kernel
theorem dX6_frail_9 : decode cX6_frail 9 = .ok (.if_icmp .ge 52, 3) := by decide +kernel
theorem dX6_frail_12 : decode cX6_frail 12 = .ok (.iconst 0, 1) := by decide +kernel
theorem dX6_frail_13 : decode cX6_frail 13 = .ok (.istore_n 3, 1) := by decide +kernel
theorem dX6_frail_14 : decode cX6_frail 14 = .ok (.iload_n 3, 1) := by decide +kernel
theorem dX6_frail_15 : decode cX6_frail 15 = .ok (.iload_n 2, 1) := by decide +kernel
theorem dX6_frail_16 : decode cX6_frail 16 = .ok (.if_icmp .ge 39, 3) := by decide +kernel
theorem dX6_frail_19 : decode cX6_frail 19 = .ok (.aload_n 0, 1) := by decide +kernel
theorem dX6_frail_20 : decode cX6_frail 20 = .ok (.iload_n 2, 1) := by decide +kernel
theorem dX6_frail_21 : decode cX6_frail 21 = .ok (.invokevirtual 121, 3) := by decide +kernel
theorem dX6_frail_24 : decode cX6_frail 24 = .ok (.aload_n 0, 1) := by decide +kernel
theorem dX6_frail_25 : decode cX6_frail 25 = .ok (.iload_n 3, 1) := by decide +kernel
theorem dX6_frail_26 : decode cX6_frail 26 = .ok (.invokevirtual 121, 3) := by decide +kernel
theorem dX6_frail_29 : decode cX6_frail 29 = .ok (.if_icmp .ne 20, 3) := by decide +kernel
theorem dX6_frail_32 : decode cX6_frail 32 = .ok (.aload_n 0, 1) := by decide +kernel
theorem dX6_frail_33 : decode cX6_frail 33 = .ok (.iload_n 2, 1) := by decide +kernel
theorem dX6_frail_34 : decode cX6_frail 34 = .ok (.invokevirtual 98, 3) := by decide +kernel
theorem dX6_frail_37 : decode cX6_frail 37 = .ok (.aload_n 0, 1) := by decide +kernel
theorem dX6_frail_38 : decode cX6_frail 38 = .ok (.iload_n 3, 1) := by decide +kernel
theorem dX6_frail_39 : decode cX6_frail 39 = .ok (.invokevirtual 98, 3) := by decide +kernel
theorem dX6_frail_42 : decode cX6_frail 42 = .ok (.if_icmp .eq 7, 3) := by decide +kernel
theorem dX6_frail_45 : decode cX6_frail 45 = .ok (.iload_n 1, 1) := by decide +kernel
theorem dX6_frail_46 : decode cX6_frail 46 = .ok (.iconst 1, 1) := by decide +kernel
theorem dX6_frail_47 : decode cX6_frail 47 = .ok (.iadd, 1) := by decide +kernel
theorem dX6_frail_48 : decode cX6_frail 48 = .ok (.istore_n 1, 1) := by decide +kernel
theorem dX6_frail_49 : decode cX6_frail 49 = .ok (.iinc 3 1, 3) := by decide +kernel
theorem dX6_frail_52 : decode cX6_frail 52 = .ok (.goto (-38), 3) := by decide +kernel
theorem dX6_frail_55 : decode cX6_frail 55 = .ok (.iinc 2 1, 3) := by decide +kernel
theorem dX6_frail_58 : decode cX6_frail 58 = .ok (.goto (-54), 3) := by decide +kernel
theorem dX6_frail_61 : decode cX6_frail 61 = .ok (.iload_n 1, 1) := by decide +kernel
theorem dX6_frail_62 : decode cX6_frail 62 = .ok (.ireturn, 1) := by decide +kernel
theorem dX6_safePairs_0 : decode cX6_safePairs 0 = .ok (.iconst 0, 1) := by decide +kernel
theorem dX6_safePairs_1 : decode cX6_safePairs 1 = .ok (.istore_n 1, 1) := by decide +kernel
theorem dX6_safePairs_2 : decode cX6_safePairs 2 = .ok (.iconst 0, 1) := by decide +kernel
theorem dX6_safePairs_3 : decode cX6_safePairs 3 = .ok (.istore_n 2, 1) := by decide +kernel
theorem dX6_safePairs_4 : decode cX6_safePairs 4 = .ok (.iload_n 2, 1) := by decide +kernel
theorem dX6_safePairs_5 : decode cX6_safePairs 5 = .ok (.aload_n 0, 1) := by decide +kernel
theorem dX6_safePairs_6 : decode cX6_safePairs 6 = .ok (.getfield 7, 3) := by decide +kernel
theorem dX6_safePairs_9 : decode cX6_safePairs 9 = .ok (.if_icmp .ge 35, 3) := by decide +kernel
theorem dX6_safePairs_12 : decode cX6_safePairs 12 = .ok (.iconst 0, 1) := by decide +kernel
theorem dX6_safePairs_13 : decode cX6_safePairs 13 = .ok (.istore_n 3, 1) := by decide +kernel
theorem dX6_safePairs_14 : decode cX6_safePairs 14 = .ok (.iload_n 3, 1) := by decide +kernel
theorem dX6_safePairs_15 : decode cX6_safePairs 15 = .ok (.iload_n 2, 1) := by decide +kernel
theorem dX6_safePairs_16 : decode cX6_safePairs 16 = .ok (.if_icmp .ge 22, 3) := by decide +kernel
theorem dX6_safePairs_19 : decode cX6_safePairs 19 = .ok (.aload_n 0, 1) := by decide +kernel
theorem dX6_safePairs_20 : decode cX6_safePairs 20 = .ok (.iload_n 2, 1) := by decide +kernel
theorem dX6_safePairs_21 : decode cX6_safePairs 21 = .ok (.iload_n 3, 1) := by decide +kernel
theorem dX6_safePairs_22 : decode cX6_safePairs 22 = .ok (.invokevirtual 308, 3) := by decide +kernel
theorem dX6_safePairs_25 : decode cX6_safePairs 25 = .ok (.ifCond .eq 7, 3) := by decide +kernel
theorem dX6_safePairs_28 : decode cX6_safePairs 28 = .ok (.iload_n 1, 1) := by decide +kernel
theorem dX6_safePairs_29 : decode cX6_safePairs 29 = .ok (.iconst 1, 1) := by decide +kernel
theorem dX6_safePairs_30 : decode cX6_safePairs 30 = .ok (.iadd, 1) := by decide +kernel
theorem dX6_safePairs_31 : decode cX6_safePairs 31 = .ok (.istore_n 1, 1) := by decide +kernel
theorem dX6_safePairs_32 : decode cX6_safePairs 32 = .ok (.iinc 3 1, 3) := by decide +kernel
theorem dX6_safePairs_35 : decode cX6_safePairs 35 = .ok (.goto (-21), 3) := by decide +kernel
theorem dX6_safePairs_38 : decode cX6_safePairs 38 = .ok (.iinc 2 1, 3) := by decide +kernel
theorem dX6_safePairs_41 : decode cX6_safePairs 41 = .ok (.goto (-37), 3) := by decide +kernel
theorem dX6_safePairs_44 : decode cX6_safePairs 44 = .ok (.iload_n 1, 1) := by decide +kernel
theorem dX6_safePairs_45 : decode cX6_safePairs 45 = .ok (.ireturn, 1) := by decide +kernel
theorem dX6_mends_0 : decode cX6_mends 0 = .ok (.iconst 0, 1) := by decide +kernel
theorem dX6_mends_1 : decode cX6_mends 1 = .ok (.istore_n 1, 1) := by decide +kernel
theorem dX6_mends_2 : decode cX6_mends 2 = .ok (.iconst 0, 1) := by decide +kernel
theorem dX6_mends_3 : decode cX6_mends 3 = .ok (.istore_n 2, 1) := by decide +kernel
theorem dX6_mends_4 : decode cX6_mends 4 = .ok (.iload_n 2, 1) := by decide +kernel
theorem dX6_mends_5 : decode cX6_mends 5 = .ok (.aload_n 0, 1) := by decide +kernel
theorem dX6_mends_6 : decode cX6_mends 6 = .ok (.getfield 7, 3) := by decide +kernel
theorem dX6_mends_9 : decode cX6_mends 9 = .ok (.if_icmp .ge 25, 3) := by decide +kernel
theorem dX6_mends_12 : decode cX6_mends 12 = .ok (.aload_n 0, 1) := by decide +kernel
theorem dX6_mends_13 : decode cX6_mends 13 = .ok (.iload_n 2, 1) := by decide +kernel
theorem dX6_mends_14 : decode cX6_mends 14 = .ok (.invokevirtual 278, 3) := by decide +kernel
theorem dX6_mends_17 : decode cX6_mends 17 = .ok (.ifCond .eq 11, 3) := by decide +kernel
theorem dX6_mends_20 : decode cX6_mends 20 = .ok (.iload_n 1, 1) := by decide +kernel
theorem dX6_mends_21 : decode cX6_mends 21 = .ok (.aload_n 0, 1) := by decide +kernel
theorem dX6_mends_22 : decode cX6_mends 22 = .ok (.iload_n 2, 1) := by decide +kernel
theorem dX6_mends_23 : decode cX6_mends 23 = .ok (.invokevirtual 290, 3) := by decide +kernel
theorem dX6_mends_26 : decode cX6_mends 26 = .ok (.iadd, 1) := by decide +kernel
theorem dX6_mends_27 : decode cX6_mends 27 = .ok (.istore_n 1, 1) := by decide +kernel
theorem dX6_mends_28 : decode cX6_mends 28 = .ok (.iinc 2 1, 3) := by decide +kernel
theorem dX6_mends_31 : decode cX6_mends 31 = .ok (.goto (-27), 3) := by decide +kernel
theorem dX6_mends_34 : decode cX6_mends 34 = .ok (.iload_n 1, 1) := by decide +kernel
theorem dX6_mends_35 : decode cX6_mends 35 = .ok (.ireturn, 1) := by decide +kernel
theorem dX6_deepest_0 : decode cX6_deepest 0 = .ok (.iconst 0, 1) := by decide +kernel
theorem dX6_deepest_1 : decode cX6_deepest 1 = .ok (.istore_n 1, 1) := by decide +kernel
theorem dX6_deepest_2 : decode cX6_deepest 2 = .ok (.iconst 0, 1) := by decide +kernel
theorem dX6_deepest_3 : decode cX6_deepest 3 = .ok (.istore_n 2, 1) := by decide +kernel
theorem dX6_deepest_4 : decode cX6_deepest 4 = .ok (.iload_n 2, 1) := by decide +kernel
theorem dX6_deepest_5 : decode cX6_deepest 5 = .ok (.aload_n 0, 1) := by decide +kernel
theorem dX6_deepest_6 : decode cX6_deepest 6 = .ok (.getfield 7, 3) := by decide +kernel
theorem dX6_deepest_9 : decode cX6_deepest 9 = .ok (.if_icmp .ge 23, 3) := by decide +kernel
theorem dX6_deepest_12 : decode cX6_deepest 12 = .ok (.iload_n 1, 1) := by decide +kernel
theorem dX6_deepest_13 : decode cX6_deepest 13 = .ok (.aload_n 0, 1) := by decide +kernel
theorem dX6_deepest_14 : decode cX6_deepest 14 = .ok (.aload_n 0, 1) := by decide +kernel
theorem dX6_deepest_15 : decode cX6_deepest 15 = .ok (.iload_n 2, 1) := by decide +kernel
theorem dX6_deepest_16 : decode cX6_deepest 16 = .ok (.invokevirtual 98, 3) := by decide +kernel
theorem dX6_deepest_19 : decode cX6_deepest 19 = .ok (.invokevirtual 105, 3) := by decide +kernel
theorem dX6_deepest_22 : decode cX6_deepest 22 = .ok (.invokestatic 93, 3) := by decide +kernel
theorem dX6_deepest_25 : decode cX6_deepest 25 = .ok (.istore_n 1, 1) := by decide +kernel
theorem dX6_deepest_26 : decode cX6_deepest 26 = .ok (.iinc 2 1, 3) := by decide +kernel
theorem dX6_deepest_29 : decode cX6_deepest 29 = .ok (.goto (-25), 3) := by decide +kernel
theorem dX6_deepest_32 : decode cX6_deepest 32 = .ok (.iload_n 1, 1) := by decide +kernel
theorem dX6_deepest_33 : decode cX6_deepest 33 = .ok (.ireturn, 1) := by decide +kernel
theorem dX6_cuts_0 : decode cX6_cuts 0 = .ok (.iconst 0, 1) := by decide +kernel
theorem dX6_cuts_1 : decode cX6_cuts 1 = .ok (.istore_n 1, 1) := by decide +kernel
theorem dX6_cuts_2 : decode cX6_cuts 2 = .ok (.iconst 0, 1) := by decide +kernel
theorem dX6_cuts_3 : decode cX6_cuts 3 = .ok (.istore_n 2, 1) := by decide +kernel
theorem dX6_cuts_4 : decode cX6_cuts 4 = .ok (.iload_n 2, 1) := by decide +kernel
theorem dX6_cuts_5 : decode cX6_cuts 5 = .ok (.aload_n 0, 1) := by decide +kernel
theorem dX6_cuts_6 : decode cX6_cuts 6 = .ok (.getfield 7, 3) := by decide +kernel
theorem dX6_cuts_9 : decode cX6_cuts 9 = .ok (.if_icmp .ge 21, 3) := by decide +kernel
theorem dX6_cuts_12 : decode cX6_cuts 12 = .ok (.aload_n 0, 1) := by decide +kernel
theorem dX6_cuts_13 : decode cX6_cuts 13 = .ok (.iload_n 2, 1) := by decide +kernel
theorem dX6_cuts_14 : decode cX6_cuts 14 = .ok (.invokevirtual 236, 3) := by decide +kernel
theorem dX6_cuts_17 : decode cX6_cuts 17 = .ok (.ifCond .eq 7, 3) := by decide +kernel
theorem dX6_cuts_20 : decode cX6_cuts 20 = .ok (.iload_n 1, 1) := by decide +kernel
theorem dX6_cuts_21 : decode cX6_cuts 21 = .ok (.iconst 1, 1) := by decide +kernel
theorem dX6_cuts_22 : decode cX6_cuts 22 = .ok (.iadd, 1) := by decide +kernel
theorem dX6_cuts_23 : decode cX6_cuts 23 = .ok (.istore_n 1, 1) := by decide +kernel
theorem dX6_cuts_24 : decode cX6_cuts 24 = .ok (.iinc 2 1, 3) := by decide +kernel
theorem dX6_cuts_27 : decode cX6_cuts 27 = .ok (.goto (-23), 3) := by decide +kernel
theorem dX6_cuts_30 : decode cX6_cuts 30 = .ok (.iload_n 1, 1) := by decide +kernel
theorem dX6_cuts_31 : decode cX6_cuts 31 = .ok (.ireturn, 1) := by decide +kernel
theorem dX6_look_0 : decode cX6_look 0 = .ok (.aload_n 0, 1) := by decide +kernel
theorem dX6_look_1 : decode cX6_look 1 = .ok (.iconst 0, 1) := by decide +kernel
theorem dX6_look_2 : decode cX6_look 2 = .ok (.putfield 71, 3) := by decide +kernel
theorem dX6_look_5 : decode cX6_look 5 = .ok (.aload_n 0, 1) := by decide +kernel
theorem dX6_look_6 : decode cX6_look 6 = .ok (.invokevirtual 155, 3) := by decide +kernel
theorem dX6_look_9 : decode cX6_look 9 = .ok (.aload_n 0, 1) := by decide +kernel
theorem dX6_look_10 : decode cX6_look 10 = .ok (.invokevirtual 224, 3) := by decide +kernel
theorem dX6_look_13 : decode cX6_look 13 = .ok (.iload_n 1, 1) := by decide +kernel
theorem dX6_look_14 : decode cX6_look 14 = .ok (.tableswitch 115 0 10 #[58, 63, 68, 73, 79, 85, 90, 95, 100, 105, 110], 58) := by decide +kernel
theorem dX6_look_72 : decode cX6_look 72 = .ok (.aload_n 0, 1) := by decide +kernel
theorem dX6_look_73 : decode cX6_look 73 = .ok (.getfield 7, 3) := by decide +kernel
theorem dX6_look_76 : decode cX6_look 76 = .ok (.ireturn, 1) := by decide +kernel
theorem dX6_look_77 : decode cX6_look 77 = .ok (.aload_n 0, 1) := by decide +kernel
theorem dX6_look_78 : decode cX6_look 78 = .ok (.getfield 78, 3) := by decide +kernel
theorem dX6_look_81 : decode cX6_look 81 = .ok (.ireturn, 1) := by decide +kernel
theorem dX6_look_82 : decode cX6_look 82 = .ok (.aload_n 0, 1) := by decide +kernel
theorem dX6_look_83 : decode cX6_look 83 = .ok (.invokevirtual 158, 3) := by decide +kernel
theorem dX6_look_86 : decode cX6_look 86 = .ok (.ireturn, 1) := by decide +kernel
theorem dX6_look_87 : decode cX6_look 87 = .ok (.aload_n 0, 1) := by decide +kernel
theorem dX6_look_88 : decode cX6_look 88 = .ok (.iconst 0, 1) := by decide +kernel
theorem dX6_look_89 : decode cX6_look 89 = .ok (.invokevirtual 344, 3) := by decide +kernel
theorem dX6_look_92 : decode cX6_look 92 = .ok (.ireturn, 1) := by decide +kernel
theorem dX6_look_93 : decode cX6_look 93 = .ok (.aload_n 0, 1) := by decide +kernel
theorem dX6_look_94 : decode cX6_look 94 = .ok (.iconst 1, 1) := by decide +kernel
theorem dX6_look_95 : decode cX6_look 95 = .ok (.invokevirtual 344, 3) := by decide +kernel
theorem dX6_look_98 : decode cX6_look 98 = .ok (.ireturn, 1) := by decide +kernel
theorem dX6_look_99 : decode cX6_look 99 = .ok (.aload_n 0, 1) := by decide +kernel
theorem dX6_look_100 : decode cX6_look 100 = .ok (.getfield 192, 3) := by decide +kernel
theorem dX6_look_103 : decode cX6_look 103 = .ok (.ireturn, 1) := by decide +kernel
theorem dX6_look_104 : decode cX6_look 104 = .ok (.aload_n 0, 1) := by decide +kernel
theorem dX6_look_105 : decode cX6_look 105 = .ok (.invokevirtual 347, 3) := by decide +kernel
theorem dX6_look_108 : decode cX6_look 108 = .ok (.ireturn, 1) := by decide +kernel
theorem dX6_look_109 : decode cX6_look 109 = .ok (.aload_n 0, 1) := by decide +kernel
theorem dX6_look_110 : decode cX6_look 110 = .ok (.invokevirtual 350, 3) := by decide +kernel
theorem dX6_look_113 : decode cX6_look 113 = .ok (.ireturn, 1) := by decide +kernel
theorem dX6_look_114 : decode cX6_look 114 = .ok (.aload_n 0, 1) := by decide +kernel
theorem dX6_look_115 : decode cX6_look 115 = .ok (.invokevirtual 353, 3) := by decide +kernel
theorem dX6_look_118 : decode cX6_look 118 = .ok (.ireturn, 1) := by decide +kernel
theorem dX6_look_119 : decode cX6_look 119 = .ok (.aload_n 0, 1) := by decide +kernel
theorem dX6_look_120 : decode cX6_look 120 = .ok (.getfield 166, 3) := by decide +kernel
theorem dX6_look_123 : decode cX6_look 123 = .ok (.ireturn, 1) := by decide +kernel
theorem dX6_look_124 : decode cX6_look 124 = .ok (.aload_n 0, 1) := by decide +kernel
theorem dX6_look_125 : decode cX6_look 125 = .ok (.invokevirtual 356, 3) := by decide +kernel
theorem dX6_look_128 : decode cX6_look 128 = .ok (.ireturn, 1) := by decide +kernel
theorem dX6_look_129 : decode cX6_look 129 = .ok (.iload_n 1, 1) := by decide +kernel
theorem dX6_look_130 : decode cX6_look 130 = .ok (.bipush 11, 2) := by decide +kernel
theorem dX6_look_132 : decode cX6_look 132 = .ok (.if_icmp .ne 10, 3) := by decide +kernel
theorem dX6_look_135 : decode cX6_look 135 = .ok (.aload_n 0, 1) := by decide +kernel
theorem dX6_look_136 : decode cX6_look 136 = .ok (.invokevirtual 359, 3) := by decide +kernel
theorem dX6_look_139 : decode cX6_look 139 = .ok (.goto 5, 3) := by decide +kernel
theorem dX6_look_142 : decode cX6_look 142 = .ok (.bipush (-10), 2) := by decide +kernel
theorem dX6_look_144 : decode cX6_look 144 = .ok (.ireturn, 1) := by decide +kernel
theorem dJ13_bitCount_95d88_0 : decode cJ13_bitCount_95d88 0 = .ok (.lload_n 0, 1) := by decide +kernel
theorem dJ13_bitCount_95d88_1 : decode cJ13_bitCount_95d88 1 = .ok (.lload_n 0, 1) := by decide +kernel
theorem dJ13_bitCount_95d88_2 : decode cJ13_bitCount_95d88 2 = .ok (.iconst 1, 1) := by decide +kernel
theorem dJ13_bitCount_95d88_3 : decode cJ13_bitCount_95d88 3 = .ok (.lushr, 1) := by decide +kernel
theorem dJ13_bitCount_95d88_4 : decode cJ13_bitCount_95d88 4 = .ok (.ldc2_w 314, 3) := by decide +kernel
theorem dJ13_bitCount_95d88_7 : decode cJ13_bitCount_95d88 7 = .ok (.land, 1) := by decide +kernel
theorem dJ13_bitCount_95d88_8 : decode cJ13_bitCount_95d88 8 = .ok (.lsub, 1) := by decide +kernel
theorem dJ13_bitCount_95d88_9 : decode cJ13_bitCount_95d88 9 = .ok (.lstore_n 0, 1) := by decide +kernel
theorem dJ13_bitCount_95d88_10 : decode cJ13_bitCount_95d88 10 = .ok (.lload_n 0, 1) := by decide +kernel
theorem dJ13_bitCount_95d88_11 : decode cJ13_bitCount_95d88 11 = .ok (.ldc2_w 316, 3) := by decide +kernel
theorem dJ13_bitCount_95d88_14 : decode cJ13_bitCount_95d88 14 = .ok (.land, 1) := by decide +kernel
theorem dJ13_bitCount_95d88_15 : decode cJ13_bitCount_95d88 15 = .ok (.lload_n 0, 1) := by decide +kernel
theorem dJ13_bitCount_95d88_16 : decode cJ13_bitCount_95d88 16 = .ok (.iconst 2, 1) := by decide +kernel
theorem dJ13_bitCount_95d88_17 : decode cJ13_bitCount_95d88 17 = .ok (.lushr, 1) := by decide +kernel
theorem dJ13_bitCount_95d88_18 : decode cJ13_bitCount_95d88 18 = .ok (.ldc2_w 316, 3) := by decide +kernel
theorem dJ13_bitCount_95d88_21 : decode cJ13_bitCount_95d88 21 = .ok (.land, 1) := by decide +kernel
theorem dJ13_bitCount_95d88_22 : decode cJ13_bitCount_95d88 22 = .ok (.ladd, 1) := by decide +kernel
theorem dJ13_bitCount_95d88_23 : decode cJ13_bitCount_95d88 23 = .ok (.lstore_n 0, 1) := by decide +kernel
theorem dJ13_bitCount_95d88_24 : decode cJ13_bitCount_95d88 24 = .ok (.lload_n 0, 1) := by decide +kernel
theorem dJ13_bitCount_95d88_25 : decode cJ13_bitCount_95d88 25 = .ok (.lload_n 0, 1) := by decide +kernel
theorem dJ13_bitCount_95d88_26 : decode cJ13_bitCount_95d88 26 = .ok (.iconst 4, 1) := by decide +kernel
theorem dJ13_bitCount_95d88_27 : decode cJ13_bitCount_95d88 27 = .ok (.lushr, 1) := by decide +kernel
theorem dJ13_bitCount_95d88_28 : decode cJ13_bitCount_95d88 28 = .ok (.ladd, 1) := by decide +kernel
theorem dJ13_bitCount_95d88_29 : decode cJ13_bitCount_95d88 29 = .ok (.ldc2_w 318, 3) := by decide +kernel
theorem dJ13_bitCount_95d88_32 : decode cJ13_bitCount_95d88 32 = .ok (.land, 1) := by decide +kernel
theorem dJ13_bitCount_95d88_33 : decode cJ13_bitCount_95d88 33 = .ok (.lstore_n 0, 1) := by decide +kernel
theorem dJ13_bitCount_95d88_34 : decode cJ13_bitCount_95d88 34 = .ok (.lload_n 0, 1) := by decide +kernel
theorem dJ13_bitCount_95d88_35 : decode cJ13_bitCount_95d88 35 = .ok (.lload_n 0, 1) := by decide +kernel
theorem dJ13_bitCount_95d88_36 : decode cJ13_bitCount_95d88 36 = .ok (.bipush 8, 2) := by decide +kernel
theorem dJ13_bitCount_95d88_38 : decode cJ13_bitCount_95d88 38 = .ok (.lushr, 1) := by decide +kernel
theorem dJ13_bitCount_95d88_39 : decode cJ13_bitCount_95d88 39 = .ok (.ladd, 1) := by decide +kernel
theorem dJ13_bitCount_95d88_40 : decode cJ13_bitCount_95d88 40 = .ok (.lstore_n 0, 1) := by decide +kernel
theorem dJ13_bitCount_95d88_41 : decode cJ13_bitCount_95d88 41 = .ok (.lload_n 0, 1) := by decide +kernel
theorem dJ13_bitCount_95d88_42 : decode cJ13_bitCount_95d88 42 = .ok (.lload_n 0, 1) := by decide +kernel
theorem dJ13_bitCount_95d88_43 : decode cJ13_bitCount_95d88 43 = .ok (.bipush 16, 2) := by decide +kernel
theorem dJ13_bitCount_95d88_45 : decode cJ13_bitCount_95d88 45 = .ok (.lushr, 1) := by decide +kernel
theorem dJ13_bitCount_95d88_46 : decode cJ13_bitCount_95d88 46 = .ok (.ladd, 1) := by decide +kernel
theorem dJ13_bitCount_95d88_47 : decode cJ13_bitCount_95d88 47 = .ok (.lstore_n 0, 1) := by decide +kernel
theorem dJ13_bitCount_95d88_48 : decode cJ13_bitCount_95d88 48 = .ok (.lload_n 0, 1) := by decide +kernel
theorem dJ13_bitCount_95d88_49 : decode cJ13_bitCount_95d88 49 = .ok (.lload_n 0, 1) := by decide +kernel
theorem dJ13_bitCount_95d88_50 : decode cJ13_bitCount_95d88 50 = .ok (.bipush 32, 2) := by decide +kernel
theorem dJ13_bitCount_95d88_52 : decode cJ13_bitCount_95d88 52 = .ok (.lushr, 1) := by decide +kernel
theorem dJ13_bitCount_95d88_53 : decode cJ13_bitCount_95d88 53 = .ok (.ladd, 1) := by decide +kernel
theorem dJ13_bitCount_95d88_54 : decode cJ13_bitCount_95d88 54 = .ok (.lstore_n 0, 1) := by decide +kernel
theorem dJ13_bitCount_95d88_55 : decode cJ13_bitCount_95d88 55 = .ok (.lload_n 0, 1) := by decide +kernel
theorem dJ13_bitCount_95d88_56 : decode cJ13_bitCount_95d88 56 = .ok (.l2i, 1) := by decide +kernel
theorem dJ13_bitCount_95d88_57 : decode cJ13_bitCount_95d88 57 = .ok (.bipush 127, 2) := by decide +kernel
theorem dJ13_bitCount_95d88_59 : decode cJ13_bitCount_95d88 59 = .ok (.iand, 1) := by decide +kernel
theorem dJ13_bitCount_95d88_60 : decode cJ13_bitCount_95d88 60 = .ok (.ireturn, 1) := by decide +kernel
theorem dJ9_max_7cf53_0 : decode cJ9_max_7cf53 0 = .ok (.iload_n 0, 1) := by decide +kernel
theorem dJ9_max_7cf53_1 : decode cJ9_max_7cf53 1 = .ok (.iload_n 1, 1) := by decide +kernel
theorem dJ9_max_7cf53_2 : decode cJ9_max_7cf53 2 = .ok (.if_icmp .lt 7, 3) := by decide +kernel
theorem dJ9_max_7cf53_5 : decode cJ9_max_7cf53 5 = .ok (.iload_n 0, 1) := by decide +kernel
theorem dJ9_max_7cf53_6 : decode cJ9_max_7cf53 6 = .ok (.goto 4, 3) := by decide +kernel
theorem dJ9_max_7cf53_9 : decode cJ9_max_7cf53 9 = .ok (.iload_n 1, 1) := by decide +kernel
theorem dJ9_max_7cf53_10 : decode cJ9_max_7cf53 10 = .ok (.ireturn, 1) := by decide +kernel
theorem dJ9_min_7cf53_0 : decode cJ9_min_7cf53 0 = .ok (.iload_n 0, 1) := by decide +kernel
theorem dJ9_min_7cf53_1 : decode cJ9_min_7cf53 1 = .ok (.iload_n 1, 1) := by decide +kernel
theorem dJ9_min_7cf53_2 : decode cJ9_min_7cf53 2 = .ok (.if_icmp .gt 7, 3) := by decide +kernel
theorem dJ9_min_7cf53_5 : decode cJ9_min_7cf53 5 = .ok (.iload_n 0, 1) := by decide +kernel
theorem dJ9_min_7cf53_6 : decode cJ9_min_7cf53 6 = .ok (.goto 4, 3) := by decide +kernel
theorem dJ9_min_7cf53_9 : decode cJ9_min_7cf53 9 = .ok (.iload_n 1, 1) := by decide +kernel
theorem dJ9_min_7cf53_10 : decode cJ9_min_7cf53 10 = .ok (.ireturn, 1) := by decide +kernel
theorem dJ7_fill_d0a16_0 : decode cJ7_fill_d0a16 0 = .ok (.iconst 0, 1) := by decide +kernel
theorem dJ7_fill_d0a16_1 : decode cJ7_fill_d0a16 1 = .ok (.istore_n 3, 1) := by decide +kernel
theorem dJ7_fill_d0a16_2 : decode cJ7_fill_d0a16 2 = .ok (.aload_n 0, 1) := by decide +kernel
theorem dJ7_fill_d0a16_3 : decode cJ7_fill_d0a16 3 = .ok (.arraylength, 1) := by decide +kernel
theorem dJ7_fill_d0a16_4 : decode cJ7_fill_d0a16 4 = .ok (.istore 4, 2) := by decide +kernel
theorem dJ7_fill_d0a16_6 : decode cJ7_fill_d0a16 6 = .ok (.iload_n 3, 1) := by decide +kernel
theorem dJ7_fill_d0a16_7 : decode cJ7_fill_d0a16 7 = .ok (.iload 4, 2) := by decide +kernel
theorem dJ7_fill_d0a16_9 : decode cJ7_fill_d0a16 9 = .ok (.if_icmp .ge 13, 3) := by decide +kernel
theorem dJ7_fill_d0a16_12 : decode cJ7_fill_d0a16 12 = .ok (.aload_n 0, 1) := by decide +kernel
theorem dJ7_fill_d0a16_13 : decode cJ7_fill_d0a16 13 = .ok (.iload_n 3, 1) := by decide +kernel
theorem dJ7_fill_d0a16_14 : decode cJ7_fill_d0a16 14 = .ok (.lload_n 1, 1) := by decide +kernel
theorem dJ7_fill_d0a16_15 : decode cJ7_fill_d0a16 15 = .ok (.lastore, 1) := by decide +kernel
theorem dJ7_fill_d0a16_16 : decode cJ7_fill_d0a16 16 = .ok (.iinc 3 1, 3) := by decide +kernel
theorem dJ7_fill_d0a16_19 : decode cJ7_fill_d0a16 19 = .ok (.goto (-13), 3) := by decide +kernel
theorem dJ7_fill_d0a16_22 : decode cJ7_fill_d0a16 22 = .ok (.return_, 1) := by decide +kernel
theorem dJ7_fill_53178_0 : decode cJ7_fill_53178 0 = .ok (.iconst 0, 1) := by decide +kernel
theorem dJ7_fill_53178_1 : decode cJ7_fill_53178 1 = .ok (.istore_n 2, 1) := by decide +kernel
theorem dJ7_fill_53178_2 : decode cJ7_fill_53178 2 = .ok (.aload_n 0, 1) := by decide +kernel
theorem dJ7_fill_53178_3 : decode cJ7_fill_53178 3 = .ok (.arraylength, 1) := by decide +kernel
theorem dJ7_fill_53178_4 : decode cJ7_fill_53178 4 = .ok (.istore_n 3, 1) := by decide +kernel
theorem dJ7_fill_53178_5 : decode cJ7_fill_53178 5 = .ok (.iload_n 2, 1) := by decide +kernel
theorem dJ7_fill_53178_6 : decode cJ7_fill_53178 6 = .ok (.iload_n 3, 1) := by decide +kernel
theorem dJ7_fill_53178_7 : decode cJ7_fill_53178 7 = .ok (.if_icmp .ge 13, 3) := by decide +kernel
theorem dJ7_fill_53178_10 : decode cJ7_fill_53178 10 = .ok (.aload_n 0, 1) := by decide +kernel
theorem dJ7_fill_53178_11 : decode cJ7_fill_53178 11 = .ok (.iload_n 2, 1) := by decide +kernel
theorem dJ7_fill_53178_12 : decode cJ7_fill_53178 12 = .ok (.iload_n 1, 1) := by decide +kernel
theorem dJ7_fill_53178_13 : decode cJ7_fill_53178 13 = .ok (.iastore, 1) := by decide +kernel
theorem dJ7_fill_53178_14 : decode cJ7_fill_53178 14 = .ok (.iinc 2 1, 3) := by decide +kernel
theorem dJ7_fill_53178_17 : decode cJ7_fill_53178 17 = .ok (.goto (-12), 3) := by decide +kernel
theorem dJ7_fill_53178_20 : decode cJ7_fill_53178 20 = .ok (.return_, 1) := by decide +kernel
theorem dL_law_0 : decode cL_law 0 = .ok (.new 7, 3) := by decide +kernel
theorem dL_law_3 : decode cL_law 3 = .ok (.dup, 1) := by decide +kernel
theorem dL_law_4 : decode cL_law 4 = .ok (.invokespecial 9, 3) := by decide +kernel
theorem dL_law_7 : decode cL_law 7 = .ok (.astore_n 1, 1) := by decide +kernel
theorem dL_law_8 : decode cL_law 8 = .ok (.new 10, 3) := by decide +kernel
theorem dL_law_11 : decode cL_law 11 = .ok (.dup, 1) := by decide +kernel
theorem dL_law_12 : decode cL_law 12 = .ok (.invokespecial 12, 3) := by decide +kernel
theorem dL_law_15 : decode cL_law 15 = .ok (.astore_n 2, 1) := by decide +kernel
theorem dL_law_16 : decode cL_law 16 = .ok (.iconst 0, 1) := by decide +kernel
theorem dL_law_17 : decode cL_law 17 = .ok (.istore_n 3, 1) := by decide +kernel
theorem dL_law_18 : decode cL_law 18 = .ok (.iload_n 3, 1) := by decide +kernel
theorem dL_law_19 : decode cL_law 19 = .ok (.aload_n 0, 1) := by decide +kernel
theorem dL_law_20 : decode cL_law 20 = .ok (.arraylength, 1) := by decide +kernel
theorem dL_law_21 : decode cL_law 21 = .ok (.iconst 4, 1) := by decide +kernel
theorem dL_law_22 : decode cL_law 22 = .ok (.isub, 1) := by decide +kernel
theorem dL_law_23 : decode cL_law 23 = .ok (.if_icmp .gt 1074, 3) := by decide +kernel
theorem dL_law_26 : decode cL_law 26 = .ok (.aload_n 0, 1) := by decide +kernel
theorem dL_law_27 : decode cL_law 27 = .ok (.iload_n 3, 1) := by decide +kernel
theorem dL_law_28 : decode cL_law 28 = .ok (.iaload, 1) := by decide +kernel
theorem dL_law_29 : decode cL_law 29 = .ok (.bipush 31, 2) := by decide +kernel
theorem dL_law_31 : decode cL_law 31 = .ok (.iand, 1) := by decide +kernel
theorem dL_law_32 : decode cL_law 32 = .ok (.tableswitch 1059 0 28 #[132, 155, 188, 211, 234, 257, 290, 313, 346, 379, 412, 445, 478, 521, 544, 577, 620, 663, 706, 729, 752, 785, 808, 851, 894, 937, 970, 1013, 1036], 132) := by decide +kernel
theorem dL_law_164 : decode cL_law 164 = .ok (.aload_n 1, 1) := by decide +kernel
theorem dL_law_165 : decode cL_law 165 = .ok (.aload_n 0, 1) := by decide +kernel
theorem dL_law_166 : decode cL_law 166 = .ok (.iload_n 3, 1) := by decide +kernel
theorem dL_law_167 : decode cL_law 167 = .ok (.iconst 1, 1) := by decide +kernel
theorem dL_law_168 : decode cL_law 168 = .ok (.iadd, 1) := by decide +kernel
theorem dL_law_169 : decode cL_law 169 = .ok (.iaload, 1) := by decide +kernel
theorem dL_law_170 : decode cL_law 170 = .ok (.invokevirtual 13, 3) := by decide +kernel
theorem dL_law_173 : decode cL_law 173 = .ok (.aload_n 2, 1) := by decide +kernel
theorem dL_law_174 : decode cL_law 174 = .ok (.aload_n 0, 1) := by decide +kernel
theorem dL_law_175 : decode cL_law 175 = .ok (.iload_n 3, 1) := by decide +kernel
theorem dL_law_176 : decode cL_law 176 = .ok (.iconst 1, 1) := by decide +kernel
theorem dL_law_177 : decode cL_law 177 = .ok (.iadd, 1) := by decide +kernel
theorem dL_law_178 : decode cL_law 178 = .ok (.iaload, 1) := by decide +kernel
theorem dL_law_179 : decode cL_law 179 = .ok (.invokevirtual 17, 3) := by decide +kernel
theorem dL_law_182 : decode cL_law 182 = .ok (.if_icmp .eq 909, 3) := by decide +kernel
theorem dL_law_185 : decode cL_law 185 = .ok (.iconst 0, 1) := by decide +kernel
theorem dL_law_186 : decode cL_law 186 = .ok (.ireturn, 1) := by decide +kernel
theorem dL_law_187 : decode cL_law 187 = .ok (.aload_n 1, 1) := by decide +kernel
theorem dL_law_188 : decode cL_law 188 = .ok (.aload_n 0, 1) := by decide +kernel
theorem dL_law_189 : decode cL_law 189 = .ok (.iload_n 3, 1) := by decide +kernel
theorem dL_law_190 : decode cL_law 190 = .ok (.iconst 1, 1) := by decide +kernel
theorem dL_law_191 : decode cL_law 191 = .ok (.iadd, 1) := by decide +kernel
theorem dL_law_192 : decode cL_law 192 = .ok (.iaload, 1) := by decide +kernel
theorem dL_law_193 : decode cL_law 193 = .ok (.aload_n 0, 1) := by decide +kernel
theorem dL_law_194 : decode cL_law 194 = .ok (.iload_n 3, 1) := by decide +kernel
theorem dL_law_195 : decode cL_law 195 = .ok (.iconst 2, 1) := by decide +kernel
theorem dL_law_196 : decode cL_law 196 = .ok (.iadd, 1) := by decide +kernel
theorem dL_law_197 : decode cL_law 197 = .ok (.iaload, 1) := by decide +kernel
theorem dL_law_198 : decode cL_law 198 = .ok (.invokevirtual 18, 3) := by decide +kernel
theorem dL_law_201 : decode cL_law 201 = .ok (.aload_n 2, 1) := by decide +kernel
theorem dL_law_202 : decode cL_law 202 = .ok (.aload_n 0, 1) := by decide +kernel
theorem dL_law_203 : decode cL_law 203 = .ok (.iload_n 3, 1) := by decide +kernel
theorem dL_law_204 : decode cL_law 204 = .ok (.iconst 1, 1) := by decide +kernel
theorem dL_law_205 : decode cL_law 205 = .ok (.iadd, 1) := by decide +kernel
theorem dL_law_206 : decode cL_law 206 = .ok (.iaload, 1) := by decide +kernel
theorem dL_law_207 : decode cL_law 207 = .ok (.aload_n 0, 1) := by decide +kernel
theorem dL_law_208 : decode cL_law 208 = .ok (.iload_n 3, 1) := by decide +kernel
theorem dL_law_209 : decode cL_law 209 = .ok (.iconst 2, 1) := by decide +kernel
theorem dL_law_210 : decode cL_law 210 = .ok (.iadd, 1) := by decide +kernel
theorem dL_law_211 : decode cL_law 211 = .ok (.iaload, 1) := by decide +kernel
theorem dL_law_212 : decode cL_law 212 = .ok (.invokevirtual 22, 3) := by decide +kernel
theorem dL_law_215 : decode cL_law 215 = .ok (.if_icmp .eq 876, 3) := by decide +kernel
theorem dL_law_218 : decode cL_law 218 = .ok (.iconst 0, 1) := by decide +kernel
theorem dL_law_219 : decode cL_law 219 = .ok (.ireturn, 1) := by decide +kernel
theorem dL_law_220 : decode cL_law 220 = .ok (.aload_n 1, 1) := by decide +kernel
theorem dL_law_221 : decode cL_law 221 = .ok (.aload_n 0, 1) := by decide +kernel
theorem dL_law_222 : decode cL_law 222 = .ok (.iload_n 3, 1) := by decide +kernel
theorem dL_law_223 : decode cL_law 223 = .ok (.iconst 1, 1) := by decide +kernel
theorem dL_law_224 : decode cL_law 224 = .ok (.iadd, 1) := by decide +kernel
theorem dL_law_225 : decode cL_law 225 = .ok (.iaload, 1) := by decide +kernel
theorem dL_law_226 : decode cL_law 226 = .ok (.invokevirtual 23, 3) := by decide +kernel
theorem dL_law_229 : decode cL_law 229 = .ok (.aload_n 2, 1) := by decide +kernel
theorem dL_law_230 : decode cL_law 230 = .ok (.aload_n 0, 1) := by decide +kernel
theorem dL_law_231 : decode cL_law 231 = .ok (.iload_n 3, 1) := by decide +kernel
theorem dL_law_232 : decode cL_law 232 = .ok (.iconst 1, 1) := by decide +kernel
theorem dL_law_233 : decode cL_law 233 = .ok (.iadd, 1) := by decide +kernel
theorem dL_law_234 : decode cL_law 234 = .ok (.iaload, 1) := by decide +kernel
theorem dL_law_235 : decode cL_law 235 = .ok (.invokevirtual 27, 3) := by decide +kernel
theorem dL_law_238 : decode cL_law 238 = .ok (.if_icmp .eq 853, 3) := by decide +kernel
theorem dL_law_241 : decode cL_law 241 = .ok (.iconst 0, 1) := by decide +kernel
theorem dL_law_242 : decode cL_law 242 = .ok (.ireturn, 1) := by decide +kernel
theorem dL_law_243 : decode cL_law 243 = .ok (.aload_n 1, 1) := by decide +kernel
theorem dL_law_244 : decode cL_law 244 = .ok (.aload_n 0, 1) := by decide +kernel
theorem dL_law_245 : decode cL_law 245 = .ok (.iload_n 3, 1) := by decide +kernel
theorem dL_law_246 : decode cL_law 246 = .ok (.iconst 1, 1) := by decide +kernel
theorem dL_law_247 : decode cL_law 247 = .ok (.iadd, 1) := by decide +kernel
theorem dL_law_248 : decode cL_law 248 = .ok (.iaload, 1) := by decide +kernel
theorem dL_law_249 : decode cL_law 249 = .ok (.invokevirtual 28, 3) := by decide +kernel
theorem dL_law_252 : decode cL_law 252 = .ok (.aload_n 2, 1) := by decide +kernel
theorem dL_law_253 : decode cL_law 253 = .ok (.aload_n 0, 1) := by decide +kernel
theorem dL_law_254 : decode cL_law 254 = .ok (.iload_n 3, 1) := by decide +kernel
theorem dL_law_255 : decode cL_law 255 = .ok (.iconst 1, 1) := by decide +kernel
theorem dL_law_256 : decode cL_law 256 = .ok (.iadd, 1) := by decide +kernel
theorem dL_law_257 : decode cL_law 257 = .ok (.iaload, 1) := by decide +kernel
theorem dL_law_258 : decode cL_law 258 = .ok (.invokevirtual 31, 3) := by decide +kernel
theorem dL_law_261 : decode cL_law 261 = .ok (.if_icmp .eq 830, 3) := by decide +kernel
theorem dL_law_264 : decode cL_law 264 = .ok (.iconst 0, 1) := by decide +kernel
theorem dL_law_265 : decode cL_law 265 = .ok (.ireturn, 1) := by decide +kernel
theorem dL_law_266 : decode cL_law 266 = .ok (.aload_n 1, 1) := by decide +kernel
theorem dL_law_267 : decode cL_law 267 = .ok (.aload_n 0, 1) := by decide +kernel
theorem dL_law_268 : decode cL_law 268 = .ok (.iload_n 3, 1) := by decide +kernel
theorem dL_law_269 : decode cL_law 269 = .ok (.iconst 1, 1) := by decide +kernel
theorem dL_law_270 : decode cL_law 270 = .ok (.iadd, 1) := by decide +kernel
theorem dL_law_271 : decode cL_law 271 = .ok (.iaload, 1) := by decide +kernel
theorem dL_law_272 : decode cL_law 272 = .ok (.invokevirtual 32, 3) := by decide +kernel
theorem dL_law_275 : decode cL_law 275 = .ok (.aload_n 2, 1) := by decide +kernel
theorem dL_law_276 : decode cL_law 276 = .ok (.aload_n 0, 1) := by decide +kernel
theorem dL_law_277 : decode cL_law 277 = .ok (.iload_n 3, 1) := by decide +kernel
theorem dL_law_278 : decode cL_law 278 = .ok (.iconst 1, 1) := by decide +kernel
theorem dL_law_279 : decode cL_law 279 = .ok (.iadd, 1) := by decide +kernel
theorem dL_law_280 : decode cL_law 280 = .ok (.iaload, 1) := by decide +kernel
theorem dL_law_281 : decode cL_law 281 = .ok (.invokevirtual 35, 3) := by decide +kernel
theorem dL_law_284 : decode cL_law 284 = .ok (.if_icmp .eq 807, 3) := by decide +kernel
theorem dL_law_287 : decode cL_law 287 = .ok (.iconst 0, 1) := by decide +kernel
theorem dL_law_288 : decode cL_law 288 = .ok (.ireturn, 1) := by decide +kernel
theorem dL_law_289 : decode cL_law 289 = .ok (.aload_n 1, 1) := by decide +kernel
theorem dL_law_290 : decode cL_law 290 = .ok (.aload_n 0, 1) := by decide +kernel
theorem dL_law_291 : decode cL_law 291 = .ok (.iload_n 3, 1) := by decide +kernel
theorem dL_law_292 : decode cL_law 292 = .ok (.iconst 1, 1) := by decide +kernel
theorem dL_law_293 : decode cL_law 293 = .ok (.iadd, 1) := by decide +kernel
theorem dL_law_294 : decode cL_law 294 = .ok (.iaload, 1) := by decide +kernel
theorem dL_law_295 : decode cL_law 295 = .ok (.aload_n 0, 1) := by decide +kernel
theorem dL_law_296 : decode cL_law 296 = .ok (.iload_n 3, 1) := by decide +kernel
theorem dL_law_297 : decode cL_law 297 = .ok (.iconst 2, 1) := by decide +kernel
theorem dL_law_298 : decode cL_law 298 = .ok (.iadd, 1) := by decide +kernel
theorem dL_law_299 : decode cL_law 299 = .ok (.iaload, 1) := by decide +kernel
theorem dL_law_300 : decode cL_law 300 = .ok (.invokevirtual 36, 3) := by decide +kernel
theorem dL_law_303 : decode cL_law 303 = .ok (.aload_n 2, 1) := by decide +kernel
theorem dL_law_304 : decode cL_law 304 = .ok (.aload_n 0, 1) := by decide +kernel
theorem dL_law_305 : decode cL_law 305 = .ok (.iload_n 3, 1) := by decide +kernel
theorem dL_law_306 : decode cL_law 306 = .ok (.iconst 1, 1) := by decide +kernel
theorem dL_law_307 : decode cL_law 307 = .ok (.iadd, 1) := by decide +kernel
theorem dL_law_308 : decode cL_law 308 = .ok (.iaload, 1) := by decide +kernel
theorem dL_law_309 : decode cL_law 309 = .ok (.aload_n 0, 1) := by decide +kernel
theorem dL_law_310 : decode cL_law 310 = .ok (.iload_n 3, 1) := by decide +kernel
theorem dL_law_311 : decode cL_law 311 = .ok (.iconst 2, 1) := by decide +kernel
theorem dL_law_312 : decode cL_law 312 = .ok (.iadd, 1) := by decide +kernel
theorem dL_law_313 : decode cL_law 313 = .ok (.iaload, 1) := by decide +kernel
theorem dL_law_314 : decode cL_law 314 = .ok (.invokevirtual 39, 3) := by decide +kernel
theorem dL_law_317 : decode cL_law 317 = .ok (.if_icmp .eq 774, 3) := by decide +kernel
theorem dL_law_320 : decode cL_law 320 = .ok (.iconst 0, 1) := by decide +kernel
theorem dL_law_321 : decode cL_law 321 = .ok (.ireturn, 1) := by decide +kernel
theorem dL_law_322 : decode cL_law 322 = .ok (.aload_n 1, 1) := by decide +kernel
theorem dL_law_323 : decode cL_law 323 = .ok (.aload_n 0, 1) := by decide +kernel
theorem dL_law_324 : decode cL_law 324 = .ok (.iload_n 3, 1) := by decide +kernel
theorem dL_law_325 : decode cL_law 325 = .ok (.iconst 1, 1) := by decide +kernel
theorem dL_law_326 : decode cL_law 326 = .ok (.iadd, 1) := by decide +kernel
theorem dL_law_327 : decode cL_law 327 = .ok (.iaload, 1) := by decide +kernel
theorem dL_law_328 : decode cL_law 328 = .ok (.invokevirtual 40, 3) := by decide +kernel
theorem dL_law_331 : decode cL_law 331 = .ok (.aload_n 2, 1) := by decide +kernel
theorem dL_law_332 : decode cL_law 332 = .ok (.aload_n 0, 1) := by decide +kernel
theorem dL_law_333 : decode cL_law 333 = .ok (.iload_n 3, 1) := by decide +kernel
theorem dL_law_334 : decode cL_law 334 = .ok (.iconst 1, 1) := by decide +kernel
theorem dL_law_335 : decode cL_law 335 = .ok (.iadd, 1) := by decide +kernel
theorem dL_law_336 : decode cL_law 336 = .ok (.iaload, 1) := by decide +kernel
theorem dL_law_337 : decode cL_law 337 = .ok (.invokevirtual 43, 3) := by decide +kernel
theorem dL_law_340 : decode cL_law 340 = .ok (.if_icmp .eq 751, 3) := by decide +kernel
theorem dL_law_343 : decode cL_law 343 = .ok (.iconst 0, 1) := by decide +kernel
theorem dL_law_344 : decode cL_law 344 = .ok (.ireturn, 1) := by decide +kernel
theorem dL_law_345 : decode cL_law 345 = .ok (.aload_n 1, 1) := by decide +kernel
theorem dL_law_346 : decode cL_law 346 = .ok (.aload_n 0, 1) := by decide +kernel
theorem dL_law_347 : decode cL_law 347 = .ok (.iload_n 3, 1) := by decide +kernel
theorem dL_law_348 : decode cL_law 348 = .ok (.iconst 1, 1) := by decide +kernel
theorem dL_law_349 : decode cL_law 349 = .ok (.iadd, 1) := by decide +kernel
theorem dL_law_350 : decode cL_law 350 = .ok (.iaload, 1) := by decide +kernel
theorem dL_law_351 : decode cL_law 351 = .ok (.aload_n 0, 1) := by decide +kernel
theorem dL_law_352 : decode cL_law 352 = .ok (.iload_n 3, 1) := by decide +kernel
theorem dL_law_353 : decode cL_law 353 = .ok (.iconst 2, 1) := by decide +kernel
theorem dL_law_354 : decode cL_law 354 = .ok (.iadd, 1) := by decide +kernel
theorem dL_law_355 : decode cL_law 355 = .ok (.iaload, 1) := by decide +kernel
theorem dL_law_356 : decode cL_law 356 = .ok (.invokevirtual 44, 3) := by decide +kernel
theorem dL_law_359 : decode cL_law 359 = .ok (.aload_n 2, 1) := by decide +kernel
theorem dL_law_360 : decode cL_law 360 = .ok (.aload_n 0, 1) := by decide +kernel
theorem dL_law_361 : decode cL_law 361 = .ok (.iload_n 3, 1) := by decide +kernel
theorem dL_law_362 : decode cL_law 362 = .ok (.iconst 1, 1) := by decide +kernel
theorem dL_law_363 : decode cL_law 363 = .ok (.iadd, 1) := by decide +kernel
theorem dL_law_364 : decode cL_law 364 = .ok (.iaload, 1) := by decide +kernel
theorem dL_law_365 : decode cL_law 365 = .ok (.aload_n 0, 1) := by decide +kernel
theorem dL_law_366 : decode cL_law 366 = .ok (.iload_n 3, 1) := by decide +kernel
theorem dL_law_367 : decode cL_law 367 = .ok (.iconst 2, 1) := by decide +kernel
theorem dL_law_368 : decode cL_law 368 = .ok (.iadd, 1) := by decide +kernel
theorem dL_law_369 : decode cL_law 369 = .ok (.iaload, 1) := by decide +kernel
theorem dL_law_370 : decode cL_law 370 = .ok (.invokevirtual 47, 3) := by decide +kernel
theorem dL_law_373 : decode cL_law 373 = .ok (.if_icmp .eq 718, 3) := by decide +kernel
theorem dL_law_376 : decode cL_law 376 = .ok (.iconst 0, 1) := by decide +kernel
theorem dL_law_377 : decode cL_law 377 = .ok (.ireturn, 1) := by decide +kernel
theorem dL_law_378 : decode cL_law 378 = .ok (.aload_n 1, 1) := by decide +kernel
theorem dL_law_379 : decode cL_law 379 = .ok (.aload_n 0, 1) := by decide +kernel
theorem dL_law_380 : decode cL_law 380 = .ok (.iload_n 3, 1) := by decide +kernel
theorem dL_law_381 : decode cL_law 381 = .ok (.iconst 1, 1) := by decide +kernel
theorem dL_law_382 : decode cL_law 382 = .ok (.iadd, 1) := by decide +kernel
theorem dL_law_383 : decode cL_law 383 = .ok (.iaload, 1) := by decide +kernel
theorem dL_law_384 : decode cL_law 384 = .ok (.aload_n 0, 1) := by decide +kernel
theorem dL_law_385 : decode cL_law 385 = .ok (.iload_n 3, 1) := by decide +kernel
theorem dL_law_386 : decode cL_law 386 = .ok (.iconst 2, 1) := by decide +kernel
theorem dL_law_387 : decode cL_law 387 = .ok (.iadd, 1) := by decide +kernel
theorem dL_law_388 : decode cL_law 388 = .ok (.iaload, 1) := by decide +kernel
theorem dL_law_389 : decode cL_law 389 = .ok (.invokevirtual 48, 3) := by decide +kernel
theorem dL_law_392 : decode cL_law 392 = .ok (.aload_n 2, 1) := by decide +kernel
theorem dL_law_393 : decode cL_law 393 = .ok (.aload_n 0, 1) := by decide +kernel
theorem dL_law_394 : decode cL_law 394 = .ok (.iload_n 3, 1) := by decide +kernel
theorem dL_law_395 : decode cL_law 395 = .ok (.iconst 1, 1) := by decide +kernel
theorem dL_law_396 : decode cL_law 396 = .ok (.iadd, 1) := by decide +kernel
theorem dL_law_397 : decode cL_law 397 = .ok (.iaload, 1) := by decide +kernel
theorem dL_law_398 : decode cL_law 398 = .ok (.aload_n 0, 1) := by decide +kernel
theorem dL_law_399 : decode cL_law 399 = .ok (.iload_n 3, 1) := by decide +kernel
theorem dL_law_400 : decode cL_law 400 = .ok (.iconst 2, 1) := by decide +kernel
theorem dL_law_401 : decode cL_law 401 = .ok (.iadd, 1) := by decide +kernel
theorem dL_law_402 : decode cL_law 402 = .ok (.iaload, 1) := by decide +kernel
theorem dL_law_403 : decode cL_law 403 = .ok (.invokevirtual 51, 3) := by decide +kernel
theorem dL_law_406 : decode cL_law 406 = .ok (.if_icmp .eq 685, 3) := by decide +kernel
theorem dL_law_409 : decode cL_law 409 = .ok (.iconst 0, 1) := by decide +kernel
theorem dL_law_410 : decode cL_law 410 = .ok (.ireturn, 1) := by decide +kernel
theorem dL_law_411 : decode cL_law 411 = .ok (.aload_n 1, 1) := by decide +kernel
theorem dL_law_412 : decode cL_law 412 = .ok (.aload_n 0, 1) := by decide +kernel
theorem dL_law_413 : decode cL_law 413 = .ok (.iload_n 3, 1) := by decide +kernel
theorem dL_law_414 : decode cL_law 414 = .ok (.iconst 1, 1) := by decide +kernel
theorem dL_law_415 : decode cL_law 415 = .ok (.iadd, 1) := by decide +kernel
theorem dL_law_416 : decode cL_law 416 = .ok (.iaload, 1) := by decide +kernel
theorem dL_law_417 : decode cL_law 417 = .ok (.aload_n 0, 1) := by decide +kernel
theorem dL_law_418 : decode cL_law 418 = .ok (.iload_n 3, 1) := by decide +kernel
theorem dL_law_419 : decode cL_law 419 = .ok (.iconst 2, 1) := by decide +kernel
theorem dL_law_420 : decode cL_law 420 = .ok (.iadd, 1) := by decide +kernel
theorem dL_law_421 : decode cL_law 421 = .ok (.iaload, 1) := by decide +kernel
theorem dL_law_422 : decode cL_law 422 = .ok (.invokevirtual 52, 3) := by decide +kernel
theorem dL_law_425 : decode cL_law 425 = .ok (.aload_n 2, 1) := by decide +kernel
theorem dL_law_426 : decode cL_law 426 = .ok (.aload_n 0, 1) := by decide +kernel
theorem dL_law_427 : decode cL_law 427 = .ok (.iload_n 3, 1) := by decide +kernel
theorem dL_law_428 : decode cL_law 428 = .ok (.iconst 1, 1) := by decide +kernel
theorem dL_law_429 : decode cL_law 429 = .ok (.iadd, 1) := by decide +kernel
theorem dL_law_430 : decode cL_law 430 = .ok (.iaload, 1) := by decide +kernel
theorem dL_law_431 : decode cL_law 431 = .ok (.aload_n 0, 1) := by decide +kernel
theorem dL_law_432 : decode cL_law 432 = .ok (.iload_n 3, 1) := by decide +kernel
theorem dL_law_433 : decode cL_law 433 = .ok (.iconst 2, 1) := by decide +kernel
theorem dL_law_434 : decode cL_law 434 = .ok (.iadd, 1) := by decide +kernel
theorem dL_law_435 : decode cL_law 435 = .ok (.iaload, 1) := by decide +kernel
theorem dL_law_436 : decode cL_law 436 = .ok (.invokevirtual 55, 3) := by decide +kernel
theorem dL_law_439 : decode cL_law 439 = .ok (.if_icmp .eq 652, 3) := by decide +kernel
theorem dL_law_442 : decode cL_law 442 = .ok (.iconst 0, 1) := by decide +kernel
theorem dL_law_443 : decode cL_law 443 = .ok (.ireturn, 1) := by decide +kernel
theorem dL_law_444 : decode cL_law 444 = .ok (.aload_n 1, 1) := by decide +kernel
theorem dL_law_445 : decode cL_law 445 = .ok (.aload_n 0, 1) := by decide +kernel
theorem dL_law_446 : decode cL_law 446 = .ok (.iload_n 3, 1) := by decide +kernel
theorem dL_law_447 : decode cL_law 447 = .ok (.iconst 1, 1) := by decide +kernel
theorem dL_law_448 : decode cL_law 448 = .ok (.iadd, 1) := by decide +kernel
theorem dL_law_449 : decode cL_law 449 = .ok (.iaload, 1) := by decide +kernel
theorem dL_law_450 : decode cL_law 450 = .ok (.aload_n 0, 1) := by decide +kernel
theorem dL_law_451 : decode cL_law 451 = .ok (.iload_n 3, 1) := by decide +kernel
theorem dL_law_452 : decode cL_law 452 = .ok (.iconst 2, 1) := by decide +kernel
theorem dL_law_453 : decode cL_law 453 = .ok (.iadd, 1) := by decide +kernel
theorem dL_law_454 : decode cL_law 454 = .ok (.iaload, 1) := by decide +kernel
theorem dL_law_455 : decode cL_law 455 = .ok (.invokevirtual 56, 3) := by decide +kernel
theorem dL_law_458 : decode cL_law 458 = .ok (.aload_n 2, 1) := by decide +kernel
theorem dL_law_459 : decode cL_law 459 = .ok (.aload_n 0, 1) := by decide +kernel
theorem dL_law_460 : decode cL_law 460 = .ok (.iload_n 3, 1) := by decide +kernel
theorem dL_law_461 : decode cL_law 461 = .ok (.iconst 1, 1) := by decide +kernel
theorem dL_law_462 : decode cL_law 462 = .ok (.iadd, 1) := by decide +kernel
theorem dL_law_463 : decode cL_law 463 = .ok (.iaload, 1) := by decide +kernel
theorem dL_law_464 : decode cL_law 464 = .ok (.aload_n 0, 1) := by decide +kernel
theorem dL_law_465 : decode cL_law 465 = .ok (.iload_n 3, 1) := by decide +kernel
theorem dL_law_466 : decode cL_law 466 = .ok (.iconst 2, 1) := by decide +kernel
theorem dL_law_467 : decode cL_law 467 = .ok (.iadd, 1) := by decide +kernel
theorem dL_law_468 : decode cL_law 468 = .ok (.iaload, 1) := by decide +kernel
theorem dL_law_469 : decode cL_law 469 = .ok (.invokevirtual 59, 3) := by decide +kernel
theorem dL_law_472 : decode cL_law 472 = .ok (.if_icmp .eq 619, 3) := by decide +kernel
theorem dL_law_475 : decode cL_law 475 = .ok (.iconst 0, 1) := by decide +kernel
theorem dL_law_476 : decode cL_law 476 = .ok (.ireturn, 1) := by decide +kernel
theorem dL_law_477 : decode cL_law 477 = .ok (.aload_n 1, 1) := by decide +kernel
theorem dL_law_478 : decode cL_law 478 = .ok (.aload_n 0, 1) := by decide +kernel
theorem dL_law_479 : decode cL_law 479 = .ok (.iload_n 3, 1) := by decide +kernel
theorem dL_law_480 : decode cL_law 480 = .ok (.iconst 1, 1) := by decide +kernel
theorem dL_law_481 : decode cL_law 481 = .ok (.iadd, 1) := by decide +kernel
theorem dL_law_482 : decode cL_law 482 = .ok (.iaload, 1) := by decide +kernel
theorem dL_law_483 : decode cL_law 483 = .ok (.aload_n 0, 1) := by decide +kernel
theorem dL_law_484 : decode cL_law 484 = .ok (.iload_n 3, 1) := by decide +kernel
theorem dL_law_485 : decode cL_law 485 = .ok (.iconst 2, 1) := by decide +kernel
theorem dL_law_486 : decode cL_law 486 = .ok (.iadd, 1) := by decide +kernel
theorem dL_law_487 : decode cL_law 487 = .ok (.iaload, 1) := by decide +kernel
theorem dL_law_488 : decode cL_law 488 = .ok (.invokevirtual 60, 3) := by decide +kernel
theorem dL_law_491 : decode cL_law 491 = .ok (.aload_n 2, 1) := by decide +kernel
theorem dL_law_492 : decode cL_law 492 = .ok (.aload_n 0, 1) := by decide +kernel
theorem dL_law_493 : decode cL_law 493 = .ok (.iload_n 3, 1) := by decide +kernel
theorem dL_law_494 : decode cL_law 494 = .ok (.iconst 1, 1) := by decide +kernel
theorem dL_law_495 : decode cL_law 495 = .ok (.iadd, 1) := by decide +kernel
theorem dL_law_496 : decode cL_law 496 = .ok (.iaload, 1) := by decide +kernel
theorem dL_law_497 : decode cL_law 497 = .ok (.aload_n 0, 1) := by decide +kernel
theorem dL_law_498 : decode cL_law 498 = .ok (.iload_n 3, 1) := by decide +kernel
theorem dL_law_499 : decode cL_law 499 = .ok (.iconst 2, 1) := by decide +kernel
theorem dL_law_500 : decode cL_law 500 = .ok (.iadd, 1) := by decide +kernel
theorem dL_law_501 : decode cL_law 501 = .ok (.iaload, 1) := by decide +kernel
theorem dL_law_502 : decode cL_law 502 = .ok (.invokevirtual 63, 3) := by decide +kernel
theorem dL_law_505 : decode cL_law 505 = .ok (.if_icmp .eq 586, 3) := by decide +kernel
theorem dL_law_508 : decode cL_law 508 = .ok (.iconst 0, 1) := by decide +kernel
theorem dL_law_509 : decode cL_law 509 = .ok (.ireturn, 1) := by decide +kernel
theorem dL_law_510 : decode cL_law 510 = .ok (.aload_n 1, 1) := by decide +kernel
theorem dL_law_511 : decode cL_law 511 = .ok (.aload_n 0, 1) := by decide +kernel
theorem dL_law_512 : decode cL_law 512 = .ok (.iload_n 3, 1) := by decide +kernel
theorem dL_law_513 : decode cL_law 513 = .ok (.iconst 1, 1) := by decide +kernel
theorem dL_law_514 : decode cL_law 514 = .ok (.iadd, 1) := by decide +kernel
theorem dL_law_515 : decode cL_law 515 = .ok (.iaload, 1) := by decide +kernel
theorem dL_law_516 : decode cL_law 516 = .ok (.aload_n 0, 1) := by decide +kernel
theorem dL_law_517 : decode cL_law 517 = .ok (.iload_n 3, 1) := by decide +kernel
theorem dL_law_518 : decode cL_law 518 = .ok (.iconst 2, 1) := by decide +kernel
theorem dL_law_519 : decode cL_law 519 = .ok (.iadd, 1) := by decide +kernel
theorem dL_law_520 : decode cL_law 520 = .ok (.iaload, 1) := by decide +kernel
theorem dL_law_521 : decode cL_law 521 = .ok (.aload_n 0, 1) := by decide +kernel
theorem dL_law_522 : decode cL_law 522 = .ok (.iload_n 3, 1) := by decide +kernel
theorem dL_law_523 : decode cL_law 523 = .ok (.iconst 3, 1) := by decide +kernel
theorem dL_law_524 : decode cL_law 524 = .ok (.iadd, 1) := by decide +kernel
theorem dL_law_525 : decode cL_law 525 = .ok (.iaload, 1) := by decide +kernel
theorem dL_law_526 : decode cL_law 526 = .ok (.invokevirtual 64, 3) := by decide +kernel
theorem dL_law_529 : decode cL_law 529 = .ok (.aload_n 2, 1) := by decide +kernel
theorem dL_law_530 : decode cL_law 530 = .ok (.aload_n 0, 1) := by decide +kernel
theorem dL_law_531 : decode cL_law 531 = .ok (.iload_n 3, 1) := by decide +kernel
theorem dL_law_532 : decode cL_law 532 = .ok (.iconst 1, 1) := by decide +kernel
theorem dL_law_533 : decode cL_law 533 = .ok (.iadd, 1) := by decide +kernel
theorem dL_law_534 : decode cL_law 534 = .ok (.iaload, 1) := by decide +kernel
theorem dL_law_535 : decode cL_law 535 = .ok (.aload_n 0, 1) := by decide +kernel
theorem dL_law_536 : decode cL_law 536 = .ok (.iload_n 3, 1) := by decide +kernel
theorem dL_law_537 : decode cL_law 537 = .ok (.iconst 2, 1) := by decide +kernel
theorem dL_law_538 : decode cL_law 538 = .ok (.iadd, 1) := by decide +kernel
theorem dL_law_539 : decode cL_law 539 = .ok (.iaload, 1) := by decide +kernel
theorem dL_law_540 : decode cL_law 540 = .ok (.aload_n 0, 1) := by decide +kernel
theorem dL_law_541 : decode cL_law 541 = .ok (.iload_n 3, 1) := by decide +kernel
theorem dL_law_542 : decode cL_law 542 = .ok (.iconst 3, 1) := by decide +kernel
theorem dL_law_543 : decode cL_law 543 = .ok (.iadd, 1) := by decide +kernel
theorem dL_law_544 : decode cL_law 544 = .ok (.iaload, 1) := by decide +kernel
theorem dL_law_545 : decode cL_law 545 = .ok (.invokevirtual 68, 3) := by decide +kernel
theorem dL_law_548 : decode cL_law 548 = .ok (.if_icmp .eq 543, 3) := by decide +kernel
theorem dL_law_551 : decode cL_law 551 = .ok (.iconst 0, 1) := by decide +kernel
theorem dL_law_552 : decode cL_law 552 = .ok (.ireturn, 1) := by decide +kernel
theorem dL_law_553 : decode cL_law 553 = .ok (.aload_n 1, 1) := by decide +kernel
theorem dL_law_554 : decode cL_law 554 = .ok (.aload_n 0, 1) := by decide +kernel
theorem dL_law_555 : decode cL_law 555 = .ok (.iload_n 3, 1) := by decide +kernel
theorem dL_law_556 : decode cL_law 556 = .ok (.iconst 1, 1) := by decide +kernel
theorem dL_law_557 : decode cL_law 557 = .ok (.iadd, 1) := by decide +kernel
theorem dL_law_558 : decode cL_law 558 = .ok (.iaload, 1) := by decide +kernel
theorem dL_law_559 : decode cL_law 559 = .ok (.invokevirtual 69, 3) := by decide +kernel
theorem dL_law_562 : decode cL_law 562 = .ok (.aload_n 2, 1) := by decide +kernel
theorem dL_law_563 : decode cL_law 563 = .ok (.aload_n 0, 1) := by decide +kernel
theorem dL_law_564 : decode cL_law 564 = .ok (.iload_n 3, 1) := by decide +kernel
theorem dL_law_565 : decode cL_law 565 = .ok (.iconst 1, 1) := by decide +kernel
theorem dL_law_566 : decode cL_law 566 = .ok (.iadd, 1) := by decide +kernel
theorem dL_law_567 : decode cL_law 567 = .ok (.iaload, 1) := by decide +kernel
theorem dL_law_568 : decode cL_law 568 = .ok (.invokevirtual 72, 3) := by decide +kernel
theorem dL_law_571 : decode cL_law 571 = .ok (.if_icmp .eq 520, 3) := by decide +kernel
theorem dL_law_574 : decode cL_law 574 = .ok (.iconst 0, 1) := by decide +kernel
theorem dL_law_575 : decode cL_law 575 = .ok (.ireturn, 1) := by decide +kernel
theorem dL_law_576 : decode cL_law 576 = .ok (.aload_n 1, 1) := by decide +kernel
theorem dL_law_577 : decode cL_law 577 = .ok (.aload_n 0, 1) := by decide +kernel
theorem dL_law_578 : decode cL_law 578 = .ok (.iload_n 3, 1) := by decide +kernel
theorem dL_law_579 : decode cL_law 579 = .ok (.iconst 1, 1) := by decide +kernel
theorem dL_law_580 : decode cL_law 580 = .ok (.iadd, 1) := by decide +kernel
theorem dL_law_581 : decode cL_law 581 = .ok (.iaload, 1) := by decide +kernel
theorem dL_law_582 : decode cL_law 582 = .ok (.aload_n 0, 1) := by decide +kernel
theorem dL_law_583 : decode cL_law 583 = .ok (.iload_n 3, 1) := by decide +kernel
theorem dL_law_584 : decode cL_law 584 = .ok (.iconst 2, 1) := by decide +kernel
theorem dL_law_585 : decode cL_law 585 = .ok (.iadd, 1) := by decide +kernel
theorem dL_law_586 : decode cL_law 586 = .ok (.iaload, 1) := by decide +kernel
theorem dL_law_587 : decode cL_law 587 = .ok (.invokevirtual 73, 3) := by decide +kernel
theorem dL_law_590 : decode cL_law 590 = .ok (.aload_n 2, 1) := by decide +kernel
theorem dL_law_591 : decode cL_law 591 = .ok (.aload_n 0, 1) := by decide +kernel
theorem dL_law_592 : decode cL_law 592 = .ok (.iload_n 3, 1) := by decide +kernel
theorem dL_law_593 : decode cL_law 593 = .ok (.iconst 1, 1) := by decide +kernel
theorem dL_law_594 : decode cL_law 594 = .ok (.iadd, 1) := by decide +kernel
theorem dL_law_595 : decode cL_law 595 = .ok (.iaload, 1) := by decide +kernel
theorem dL_law_596 : decode cL_law 596 = .ok (.aload_n 0, 1) := by decide +kernel
theorem dL_law_597 : decode cL_law 597 = .ok (.iload_n 3, 1) := by decide +kernel
theorem dL_law_598 : decode cL_law 598 = .ok (.iconst 2, 1) := by decide +kernel
theorem dL_law_599 : decode cL_law 599 = .ok (.iadd, 1) := by decide +kernel
theorem dL_law_600 : decode cL_law 600 = .ok (.iaload, 1) := by decide +kernel
theorem dL_law_601 : decode cL_law 601 = .ok (.invokevirtual 76, 3) := by decide +kernel
theorem dL_law_604 : decode cL_law 604 = .ok (.if_icmp .eq 487, 3) := by decide +kernel
theorem dL_law_607 : decode cL_law 607 = .ok (.iconst 0, 1) := by decide +kernel
theorem dL_law_608 : decode cL_law 608 = .ok (.ireturn, 1) := by decide +kernel
theorem dL_law_609 : decode cL_law 609 = .ok (.aload_n 1, 1) := by decide +kernel
theorem dL_law_610 : decode cL_law 610 = .ok (.aload_n 0, 1) := by decide +kernel
theorem dL_law_611 : decode cL_law 611 = .ok (.iload_n 3, 1) := by decide +kernel
theorem dL_law_612 : decode cL_law 612 = .ok (.iconst 1, 1) := by decide +kernel
theorem dL_law_613 : decode cL_law 613 = .ok (.iadd, 1) := by decide +kernel
theorem dL_law_614 : decode cL_law 614 = .ok (.iaload, 1) := by decide +kernel
theorem dL_law_615 : decode cL_law 615 = .ok (.aload_n 0, 1) := by decide +kernel
theorem dL_law_616 : decode cL_law 616 = .ok (.iload_n 3, 1) := by decide +kernel
theorem dL_law_617 : decode cL_law 617 = .ok (.iconst 2, 1) := by decide +kernel
theorem dL_law_618 : decode cL_law 618 = .ok (.iadd, 1) := by decide +kernel
theorem dL_law_619 : decode cL_law 619 = .ok (.iaload, 1) := by decide +kernel
theorem dL_law_620 : decode cL_law 620 = .ok (.aload_n 0, 1) := by decide +kernel
theorem dL_law_621 : decode cL_law 621 = .ok (.iload_n 3, 1) := by decide +kernel
theorem dL_law_622 : decode cL_law 622 = .ok (.iconst 3, 1) := by decide +kernel
theorem dL_law_623 : decode cL_law 623 = .ok (.iadd, 1) := by decide +kernel
theorem dL_law_624 : decode cL_law 624 = .ok (.iaload, 1) := by decide +kernel
theorem dL_law_625 : decode cL_law 625 = .ok (.invokevirtual 77, 3) := by decide +kernel
theorem dL_law_628 : decode cL_law 628 = .ok (.aload_n 2, 1) := by decide +kernel
theorem dL_law_629 : decode cL_law 629 = .ok (.aload_n 0, 1) := by decide +kernel
theorem dL_law_630 : decode cL_law 630 = .ok (.iload_n 3, 1) := by decide +kernel
theorem dL_law_631 : decode cL_law 631 = .ok (.iconst 1, 1) := by decide +kernel
theorem dL_law_632 : decode cL_law 632 = .ok (.iadd, 1) := by decide +kernel
theorem dL_law_633 : decode cL_law 633 = .ok (.iaload, 1) := by decide +kernel
theorem dL_law_634 : decode cL_law 634 = .ok (.aload_n 0, 1) := by decide +kernel
theorem dL_law_635 : decode cL_law 635 = .ok (.iload_n 3, 1) := by decide +kernel
theorem dL_law_636 : decode cL_law 636 = .ok (.iconst 2, 1) := by decide +kernel
theorem dL_law_637 : decode cL_law 637 = .ok (.iadd, 1) := by decide +kernel
theorem dL_law_638 : decode cL_law 638 = .ok (.iaload, 1) := by decide +kernel
theorem dL_law_639 : decode cL_law 639 = .ok (.aload_n 0, 1) := by decide +kernel
theorem dL_law_640 : decode cL_law 640 = .ok (.iload_n 3, 1) := by decide +kernel
theorem dL_law_641 : decode cL_law 641 = .ok (.iconst 3, 1) := by decide +kernel
theorem dL_law_642 : decode cL_law 642 = .ok (.iadd, 1) := by decide +kernel
theorem dL_law_643 : decode cL_law 643 = .ok (.iaload, 1) := by decide +kernel
theorem dL_law_644 : decode cL_law 644 = .ok (.invokevirtual 80, 3) := by decide +kernel
theorem dL_law_647 : decode cL_law 647 = .ok (.if_icmp .eq 444, 3) := by decide +kernel
theorem dL_law_650 : decode cL_law 650 = .ok (.iconst 0, 1) := by decide +kernel
theorem dL_law_651 : decode cL_law 651 = .ok (.ireturn, 1) := by decide +kernel
theorem dL_law_652 : decode cL_law 652 = .ok (.aload_n 1, 1) := by decide +kernel
theorem dL_law_653 : decode cL_law 653 = .ok (.aload_n 0, 1) := by decide +kernel
theorem dL_law_654 : decode cL_law 654 = .ok (.iload_n 3, 1) := by decide +kernel
theorem dL_law_655 : decode cL_law 655 = .ok (.iconst 1, 1) := by decide +kernel
theorem dL_law_656 : decode cL_law 656 = .ok (.iadd, 1) := by decide +kernel
theorem dL_law_657 : decode cL_law 657 = .ok (.iaload, 1) := by decide +kernel
theorem dL_law_658 : decode cL_law 658 = .ok (.aload_n 0, 1) := by decide +kernel
theorem dL_law_659 : decode cL_law 659 = .ok (.iload_n 3, 1) := by decide +kernel
theorem dL_law_660 : decode cL_law 660 = .ok (.iconst 2, 1) := by decide +kernel
theorem dL_law_661 : decode cL_law 661 = .ok (.iadd, 1) := by decide +kernel
theorem dL_law_662 : decode cL_law 662 = .ok (.iaload, 1) := by decide +kernel
theorem dL_law_663 : decode cL_law 663 = .ok (.aload_n 0, 1) := by decide +kernel
theorem dL_law_664 : decode cL_law 664 = .ok (.iload_n 3, 1) := by decide +kernel
theorem dL_law_665 : decode cL_law 665 = .ok (.iconst 3, 1) := by decide +kernel
theorem dL_law_666 : decode cL_law 666 = .ok (.iadd, 1) := by decide +kernel
theorem dL_law_667 : decode cL_law 667 = .ok (.iaload, 1) := by decide +kernel
theorem dL_law_668 : decode cL_law 668 = .ok (.invokevirtual 81, 3) := by decide +kernel
theorem dL_law_671 : decode cL_law 671 = .ok (.aload_n 2, 1) := by decide +kernel
theorem dL_law_672 : decode cL_law 672 = .ok (.aload_n 0, 1) := by decide +kernel
theorem dL_law_673 : decode cL_law 673 = .ok (.iload_n 3, 1) := by decide +kernel
theorem dL_law_674 : decode cL_law 674 = .ok (.iconst 1, 1) := by decide +kernel
theorem dL_law_675 : decode cL_law 675 = .ok (.iadd, 1) := by decide +kernel
theorem dL_law_676 : decode cL_law 676 = .ok (.iaload, 1) := by decide +kernel
theorem dL_law_677 : decode cL_law 677 = .ok (.aload_n 0, 1) := by decide +kernel
theorem dL_law_678 : decode cL_law 678 = .ok (.iload_n 3, 1) := by decide +kernel
theorem dL_law_679 : decode cL_law 679 = .ok (.iconst 2, 1) := by decide +kernel
theorem dL_law_680 : decode cL_law 680 = .ok (.iadd, 1) := by decide +kernel
theorem dL_law_681 : decode cL_law 681 = .ok (.iaload, 1) := by decide +kernel
theorem dL_law_682 : decode cL_law 682 = .ok (.aload_n 0, 1) := by decide +kernel
theorem dL_law_683 : decode cL_law 683 = .ok (.iload_n 3, 1) := by decide +kernel
theorem dL_law_684 : decode cL_law 684 = .ok (.iconst 3, 1) := by decide +kernel
theorem dL_law_685 : decode cL_law 685 = .ok (.iadd, 1) := by decide +kernel
theorem dL_law_686 : decode cL_law 686 = .ok (.iaload, 1) := by decide +kernel
theorem dL_law_687 : decode cL_law 687 = .ok (.invokevirtual 84, 3) := by decide +kernel
theorem dL_law_690 : decode cL_law 690 = .ok (.if_icmp .eq 401, 3) := by decide +kernel
theorem dL_law_693 : decode cL_law 693 = .ok (.iconst 0, 1) := by decide +kernel
theorem dL_law_694 : decode cL_law 694 = .ok (.ireturn, 1) := by decide +kernel
theorem dL_law_695 : decode cL_law 695 = .ok (.aload_n 1, 1) := by decide +kernel
theorem dL_law_696 : decode cL_law 696 = .ok (.aload_n 0, 1) := by decide +kernel
theorem dL_law_697 : decode cL_law 697 = .ok (.iload_n 3, 1) := by decide +kernel
theorem dL_law_698 : decode cL_law 698 = .ok (.iconst 1, 1) := by decide +kernel
theorem dL_law_699 : decode cL_law 699 = .ok (.iadd, 1) := by decide +kernel
theorem dL_law_700 : decode cL_law 700 = .ok (.iaload, 1) := by decide +kernel
theorem dL_law_701 : decode cL_law 701 = .ok (.aload_n 0, 1) := by decide +kernel
theorem dL_law_702 : decode cL_law 702 = .ok (.iload_n 3, 1) := by decide +kernel
theorem dL_law_703 : decode cL_law 703 = .ok (.iconst 2, 1) := by decide +kernel
theorem dL_law_704 : decode cL_law 704 = .ok (.iadd, 1) := by decide +kernel
theorem dL_law_705 : decode cL_law 705 = .ok (.iaload, 1) := by decide +kernel
theorem dL_law_706 : decode cL_law 706 = .ok (.aload_n 0, 1) := by decide +kernel
theorem dL_law_707 : decode cL_law 707 = .ok (.iload_n 3, 1) := by decide +kernel
theorem dL_law_708 : decode cL_law 708 = .ok (.iconst 3, 1) := by decide +kernel
theorem dL_law_709 : decode cL_law 709 = .ok (.iadd, 1) := by decide +kernel
theorem dL_law_710 : decode cL_law 710 = .ok (.iaload, 1) := by decide +kernel
theorem dL_law_711 : decode cL_law 711 = .ok (.invokevirtual 85, 3) := by decide +kernel
theorem dL_law_714 : decode cL_law 714 = .ok (.aload_n 2, 1) := by decide +kernel
theorem dL_law_715 : decode cL_law 715 = .ok (.aload_n 0, 1) := by decide +kernel
theorem dL_law_716 : decode cL_law 716 = .ok (.iload_n 3, 1) := by decide +kernel
theorem dL_law_717 : decode cL_law 717 = .ok (.iconst 1, 1) := by decide +kernel
theorem dL_law_718 : decode cL_law 718 = .ok (.iadd, 1) := by decide +kernel
theorem dL_law_719 : decode cL_law 719 = .ok (.iaload, 1) := by decide +kernel
theorem dL_law_720 : decode cL_law 720 = .ok (.aload_n 0, 1) := by decide +kernel
theorem dL_law_721 : decode cL_law 721 = .ok (.iload_n 3, 1) := by decide +kernel
theorem dL_law_722 : decode cL_law 722 = .ok (.iconst 2, 1) := by decide +kernel
theorem dL_law_723 : decode cL_law 723 = .ok (.iadd, 1) := by decide +kernel
theorem dL_law_724 : decode cL_law 724 = .ok (.iaload, 1) := by decide +kernel
theorem dL_law_725 : decode cL_law 725 = .ok (.aload_n 0, 1) := by decide +kernel
theorem dL_law_726 : decode cL_law 726 = .ok (.iload_n 3, 1) := by decide +kernel
theorem dL_law_727 : decode cL_law 727 = .ok (.iconst 3, 1) := by decide +kernel
theorem dL_law_728 : decode cL_law 728 = .ok (.iadd, 1) := by decide +kernel
theorem dL_law_729 : decode cL_law 729 = .ok (.iaload, 1) := by decide +kernel
theorem dL_law_730 : decode cL_law 730 = .ok (.invokevirtual 88, 3) := by decide +kernel
theorem dL_law_733 : decode cL_law 733 = .ok (.if_icmp .eq 358, 3) := by decide +kernel
theorem dL_law_736 : decode cL_law 736 = .ok (.iconst 0, 1) := by decide +kernel
theorem dL_law_737 : decode cL_law 737 = .ok (.ireturn, 1) := by decide +kernel
theorem dL_law_738 : decode cL_law 738 = .ok (.aload_n 1, 1) := by decide +kernel
theorem dL_law_739 : decode cL_law 739 = .ok (.aload_n 0, 1) := by decide +kernel
theorem dL_law_740 : decode cL_law 740 = .ok (.iload_n 3, 1) := by decide +kernel
theorem dL_law_741 : decode cL_law 741 = .ok (.iconst 1, 1) := by decide +kernel
theorem dL_law_742 : decode cL_law 742 = .ok (.iadd, 1) := by decide +kernel
theorem dL_law_743 : decode cL_law 743 = .ok (.iaload, 1) := by decide +kernel
theorem dL_law_744 : decode cL_law 744 = .ok (.invokevirtual 89, 3) := by decide +kernel
theorem dL_law_747 : decode cL_law 747 = .ok (.aload_n 2, 1) := by decide +kernel
theorem dL_law_748 : decode cL_law 748 = .ok (.aload_n 0, 1) := by decide +kernel
theorem dL_law_749 : decode cL_law 749 = .ok (.iload_n 3, 1) := by decide +kernel
theorem dL_law_750 : decode cL_law 750 = .ok (.iconst 1, 1) := by decide +kernel
theorem dL_law_751 : decode cL_law 751 = .ok (.iadd, 1) := by decide +kernel
theorem dL_law_752 : decode cL_law 752 = .ok (.iaload, 1) := by decide +kernel
theorem dL_law_753 : decode cL_law 753 = .ok (.invokevirtual 92, 3) := by decide +kernel
theorem dL_law_756 : decode cL_law 756 = .ok (.if_icmp .eq 335, 3) := by decide +kernel
theorem dL_law_759 : decode cL_law 759 = .ok (.iconst 0, 1) := by decide +kernel
theorem dL_law_760 : decode cL_law 760 = .ok (.ireturn, 1) := by decide +kernel
theorem dL_law_761 : decode cL_law 761 = .ok (.aload_n 1, 1) := by decide +kernel
theorem dL_law_762 : decode cL_law 762 = .ok (.aload_n 0, 1) := by decide +kernel
theorem dL_law_763 : decode cL_law 763 = .ok (.iload_n 3, 1) := by decide +kernel
theorem dL_law_764 : decode cL_law 764 = .ok (.iconst 1, 1) := by decide +kernel
theorem dL_law_765 : decode cL_law 765 = .ok (.iadd, 1) := by decide +kernel
theorem dL_law_766 : decode cL_law 766 = .ok (.iaload, 1) := by decide +kernel
theorem dL_law_767 : decode cL_law 767 = .ok (.invokevirtual 93, 3) := by decide +kernel
theorem dL_law_770 : decode cL_law 770 = .ok (.aload_n 2, 1) := by decide +kernel
theorem dL_law_771 : decode cL_law 771 = .ok (.aload_n 0, 1) := by decide +kernel
theorem dL_law_772 : decode cL_law 772 = .ok (.iload_n 3, 1) := by decide +kernel
theorem dL_law_773 : decode cL_law 773 = .ok (.iconst 1, 1) := by decide +kernel
theorem dL_law_774 : decode cL_law 774 = .ok (.iadd, 1) := by decide +kernel
theorem dL_law_775 : decode cL_law 775 = .ok (.iaload, 1) := by decide +kernel
theorem dL_law_776 : decode cL_law 776 = .ok (.invokevirtual 96, 3) := by decide +kernel
theorem dL_law_779 : decode cL_law 779 = .ok (.if_icmp .eq 312, 3) := by decide +kernel
theorem dL_law_782 : decode cL_law 782 = .ok (.iconst 0, 1) := by decide +kernel
theorem dL_law_783 : decode cL_law 783 = .ok (.ireturn, 1) := by decide +kernel
theorem dL_law_784 : decode cL_law 784 = .ok (.aload_n 1, 1) := by decide +kernel
theorem dL_law_785 : decode cL_law 785 = .ok (.aload_n 0, 1) := by decide +kernel
theorem dL_law_786 : decode cL_law 786 = .ok (.iload_n 3, 1) := by decide +kernel
theorem dL_law_787 : decode cL_law 787 = .ok (.iconst 1, 1) := by decide +kernel
theorem dL_law_788 : decode cL_law 788 = .ok (.iadd, 1) := by decide +kernel
theorem dL_law_789 : decode cL_law 789 = .ok (.iaload, 1) := by decide +kernel
theorem dL_law_790 : decode cL_law 790 = .ok (.aload_n 0, 1) := by decide +kernel
theorem dL_law_791 : decode cL_law 791 = .ok (.iload_n 3, 1) := by decide +kernel
theorem dL_law_792 : decode cL_law 792 = .ok (.iconst 2, 1) := by decide +kernel
theorem dL_law_793 : decode cL_law 793 = .ok (.iadd, 1) := by decide +kernel
theorem dL_law_794 : decode cL_law 794 = .ok (.iaload, 1) := by decide +kernel
theorem dL_law_795 : decode cL_law 795 = .ok (.invokevirtual 97, 3) := by decide +kernel
theorem dL_law_798 : decode cL_law 798 = .ok (.aload_n 2, 1) := by decide +kernel
theorem dL_law_799 : decode cL_law 799 = .ok (.aload_n 0, 1) := by decide +kernel
theorem dL_law_800 : decode cL_law 800 = .ok (.iload_n 3, 1) := by decide +kernel
theorem dL_law_801 : decode cL_law 801 = .ok (.iconst 1, 1) := by decide +kernel
theorem dL_law_802 : decode cL_law 802 = .ok (.iadd, 1) := by decide +kernel
theorem dL_law_803 : decode cL_law 803 = .ok (.iaload, 1) := by decide +kernel
theorem dL_law_804 : decode cL_law 804 = .ok (.aload_n 0, 1) := by decide +kernel
theorem dL_law_805 : decode cL_law 805 = .ok (.iload_n 3, 1) := by decide +kernel
theorem dL_law_806 : decode cL_law 806 = .ok (.iconst 2, 1) := by decide +kernel
theorem dL_law_807 : decode cL_law 807 = .ok (.iadd, 1) := by decide +kernel
theorem dL_law_808 : decode cL_law 808 = .ok (.iaload, 1) := by decide +kernel
theorem dL_law_809 : decode cL_law 809 = .ok (.invokevirtual 100, 3) := by decide +kernel
theorem dL_law_812 : decode cL_law 812 = .ok (.if_icmp .eq 279, 3) := by decide +kernel
theorem dL_law_815 : decode cL_law 815 = .ok (.iconst 0, 1) := by decide +kernel
theorem dL_law_816 : decode cL_law 816 = .ok (.ireturn, 1) := by decide +kernel
theorem dL_law_817 : decode cL_law 817 = .ok (.aload_n 1, 1) := by decide +kernel
theorem dL_law_818 : decode cL_law 818 = .ok (.aload_n 0, 1) := by decide +kernel
theorem dL_law_819 : decode cL_law 819 = .ok (.iload_n 3, 1) := by decide +kernel
theorem dL_law_820 : decode cL_law 820 = .ok (.iconst 1, 1) := by decide +kernel
theorem dL_law_821 : decode cL_law 821 = .ok (.iadd, 1) := by decide +kernel
theorem dL_law_822 : decode cL_law 822 = .ok (.iaload, 1) := by decide +kernel
theorem dL_law_823 : decode cL_law 823 = .ok (.invokevirtual 101, 3) := by decide +kernel
theorem dL_law_826 : decode cL_law 826 = .ok (.aload_n 2, 1) := by decide +kernel
theorem dL_law_827 : decode cL_law 827 = .ok (.aload_n 0, 1) := by decide +kernel
theorem dL_law_828 : decode cL_law 828 = .ok (.iload_n 3, 1) := by decide +kernel
theorem dL_law_829 : decode cL_law 829 = .ok (.iconst 1, 1) := by decide +kernel
theorem dL_law_830 : decode cL_law 830 = .ok (.iadd, 1) := by decide +kernel
theorem dL_law_831 : decode cL_law 831 = .ok (.iaload, 1) := by decide +kernel
theorem dL_law_832 : decode cL_law 832 = .ok (.invokevirtual 104, 3) := by decide +kernel
theorem dL_law_835 : decode cL_law 835 = .ok (.if_icmp .eq 256, 3) := by decide +kernel
theorem dL_law_838 : decode cL_law 838 = .ok (.iconst 0, 1) := by decide +kernel
theorem dL_law_839 : decode cL_law 839 = .ok (.ireturn, 1) := by decide +kernel
theorem dL_law_840 : decode cL_law 840 = .ok (.aload_n 1, 1) := by decide +kernel
theorem dL_law_841 : decode cL_law 841 = .ok (.aload_n 0, 1) := by decide +kernel
theorem dL_law_842 : decode cL_law 842 = .ok (.iload_n 3, 1) := by decide +kernel
theorem dL_law_843 : decode cL_law 843 = .ok (.iconst 1, 1) := by decide +kernel
theorem dL_law_844 : decode cL_law 844 = .ok (.iadd, 1) := by decide +kernel
theorem dL_law_845 : decode cL_law 845 = .ok (.iaload, 1) := by decide +kernel
theorem dL_law_846 : decode cL_law 846 = .ok (.aload_n 0, 1) := by decide +kernel
theorem dL_law_847 : decode cL_law 847 = .ok (.iload_n 3, 1) := by decide +kernel
theorem dL_law_848 : decode cL_law 848 = .ok (.iconst 2, 1) := by decide +kernel
theorem dL_law_849 : decode cL_law 849 = .ok (.iadd, 1) := by decide +kernel
theorem dL_law_850 : decode cL_law 850 = .ok (.iaload, 1) := by decide +kernel
theorem dL_law_851 : decode cL_law 851 = .ok (.aload_n 0, 1) := by decide +kernel
theorem dL_law_852 : decode cL_law 852 = .ok (.iload_n 3, 1) := by decide +kernel
theorem dL_law_853 : decode cL_law 853 = .ok (.iconst 3, 1) := by decide +kernel
theorem dL_law_854 : decode cL_law 854 = .ok (.iadd, 1) := by decide +kernel
theorem dL_law_855 : decode cL_law 855 = .ok (.iaload, 1) := by decide +kernel
theorem dL_law_856 : decode cL_law 856 = .ok (.invokevirtual 105, 3) := by decide +kernel
theorem dL_law_859 : decode cL_law 859 = .ok (.aload_n 2, 1) := by decide +kernel
theorem dL_law_860 : decode cL_law 860 = .ok (.aload_n 0, 1) := by decide +kernel
theorem dL_law_861 : decode cL_law 861 = .ok (.iload_n 3, 1) := by decide +kernel
theorem dL_law_862 : decode cL_law 862 = .ok (.iconst 1, 1) := by decide +kernel
theorem dL_law_863 : decode cL_law 863 = .ok (.iadd, 1) := by decide +kernel
theorem dL_law_864 : decode cL_law 864 = .ok (.iaload, 1) := by decide +kernel
theorem dL_law_865 : decode cL_law 865 = .ok (.aload_n 0, 1) := by decide +kernel
theorem dL_law_866 : decode cL_law 866 = .ok (.iload_n 3, 1) := by decide +kernel
theorem dL_law_867 : decode cL_law 867 = .ok (.iconst 2, 1) := by decide +kernel
theorem dL_law_868 : decode cL_law 868 = .ok (.iadd, 1) := by decide +kernel
theorem dL_law_869 : decode cL_law 869 = .ok (.iaload, 1) := by decide +kernel
theorem dL_law_870 : decode cL_law 870 = .ok (.aload_n 0, 1) := by decide +kernel
theorem dL_law_871 : decode cL_law 871 = .ok (.iload_n 3, 1) := by decide +kernel
theorem dL_law_872 : decode cL_law 872 = .ok (.iconst 3, 1) := by decide +kernel
theorem dL_law_873 : decode cL_law 873 = .ok (.iadd, 1) := by decide +kernel
theorem dL_law_874 : decode cL_law 874 = .ok (.iaload, 1) := by decide +kernel
theorem dL_law_875 : decode cL_law 875 = .ok (.invokevirtual 108, 3) := by decide +kernel
theorem dL_law_878 : decode cL_law 878 = .ok (.if_icmp .eq 213, 3) := by decide +kernel
theorem dL_law_881 : decode cL_law 881 = .ok (.iconst 0, 1) := by decide +kernel
theorem dL_law_882 : decode cL_law 882 = .ok (.ireturn, 1) := by decide +kernel
theorem dL_law_883 : decode cL_law 883 = .ok (.aload_n 1, 1) := by decide +kernel
theorem dL_law_884 : decode cL_law 884 = .ok (.aload_n 0, 1) := by decide +kernel
theorem dL_law_885 : decode cL_law 885 = .ok (.iload_n 3, 1) := by decide +kernel
theorem dL_law_886 : decode cL_law 886 = .ok (.iconst 1, 1) := by decide +kernel
theorem dL_law_887 : decode cL_law 887 = .ok (.iadd, 1) := by decide +kernel
theorem dL_law_888 : decode cL_law 888 = .ok (.iaload, 1) := by decide +kernel
theorem dL_law_889 : decode cL_law 889 = .ok (.aload_n 0, 1) := by decide +kernel
theorem dL_law_890 : decode cL_law 890 = .ok (.iload_n 3, 1) := by decide +kernel
theorem dL_law_891 : decode cL_law 891 = .ok (.iconst 2, 1) := by decide +kernel
theorem dL_law_892 : decode cL_law 892 = .ok (.iadd, 1) := by decide +kernel
theorem dL_law_893 : decode cL_law 893 = .ok (.iaload, 1) := by decide +kernel
theorem dL_law_894 : decode cL_law 894 = .ok (.aload_n 0, 1) := by decide +kernel
theorem dL_law_895 : decode cL_law 895 = .ok (.iload_n 3, 1) := by decide +kernel
theorem dL_law_896 : decode cL_law 896 = .ok (.iconst 3, 1) := by decide +kernel
theorem dL_law_897 : decode cL_law 897 = .ok (.iadd, 1) := by decide +kernel
theorem dL_law_898 : decode cL_law 898 = .ok (.iaload, 1) := by decide +kernel
theorem dL_law_899 : decode cL_law 899 = .ok (.invokevirtual 109, 3) := by decide +kernel
theorem dL_law_902 : decode cL_law 902 = .ok (.aload_n 2, 1) := by decide +kernel
theorem dL_law_903 : decode cL_law 903 = .ok (.aload_n 0, 1) := by decide +kernel
theorem dL_law_904 : decode cL_law 904 = .ok (.iload_n 3, 1) := by decide +kernel
theorem dL_law_905 : decode cL_law 905 = .ok (.iconst 1, 1) := by decide +kernel
theorem dL_law_906 : decode cL_law 906 = .ok (.iadd, 1) := by decide +kernel
theorem dL_law_907 : decode cL_law 907 = .ok (.iaload, 1) := by decide +kernel
theorem dL_law_908 : decode cL_law 908 = .ok (.aload_n 0, 1) := by decide +kernel
theorem dL_law_909 : decode cL_law 909 = .ok (.iload_n 3, 1) := by decide +kernel
theorem dL_law_910 : decode cL_law 910 = .ok (.iconst 2, 1) := by decide +kernel
theorem dL_law_911 : decode cL_law 911 = .ok (.iadd, 1) := by decide +kernel
theorem dL_law_912 : decode cL_law 912 = .ok (.iaload, 1) := by decide +kernel
theorem dL_law_913 : decode cL_law 913 = .ok (.aload_n 0, 1) := by decide +kernel
theorem dL_law_914 : decode cL_law 914 = .ok (.iload_n 3, 1) := by decide +kernel
theorem dL_law_915 : decode cL_law 915 = .ok (.iconst 3, 1) := by decide +kernel
theorem dL_law_916 : decode cL_law 916 = .ok (.iadd, 1) := by decide +kernel
theorem dL_law_917 : decode cL_law 917 = .ok (.iaload, 1) := by decide +kernel
theorem dL_law_918 : decode cL_law 918 = .ok (.invokevirtual 112, 3) := by decide +kernel
theorem dL_law_921 : decode cL_law 921 = .ok (.if_icmp .eq 170, 3) := by decide +kernel
theorem dL_law_924 : decode cL_law 924 = .ok (.iconst 0, 1) := by decide +kernel
theorem dL_law_925 : decode cL_law 925 = .ok (.ireturn, 1) := by decide +kernel
theorem dL_law_926 : decode cL_law 926 = .ok (.aload_n 1, 1) := by decide +kernel
theorem dL_law_927 : decode cL_law 927 = .ok (.aload_n 0, 1) := by decide +kernel
theorem dL_law_928 : decode cL_law 928 = .ok (.iload_n 3, 1) := by decide +kernel
theorem dL_law_929 : decode cL_law 929 = .ok (.iconst 1, 1) := by decide +kernel
theorem dL_law_930 : decode cL_law 930 = .ok (.iadd, 1) := by decide +kernel
theorem dL_law_931 : decode cL_law 931 = .ok (.iaload, 1) := by decide +kernel
theorem dL_law_932 : decode cL_law 932 = .ok (.aload_n 0, 1) := by decide +kernel
theorem dL_law_933 : decode cL_law 933 = .ok (.iload_n 3, 1) := by decide +kernel
theorem dL_law_934 : decode cL_law 934 = .ok (.iconst 2, 1) := by decide +kernel
theorem dL_law_935 : decode cL_law 935 = .ok (.iadd, 1) := by decide +kernel
theorem dL_law_936 : decode cL_law 936 = .ok (.iaload, 1) := by decide +kernel
theorem dL_law_937 : decode cL_law 937 = .ok (.aload_n 0, 1) := by decide +kernel
theorem dL_law_938 : decode cL_law 938 = .ok (.iload_n 3, 1) := by decide +kernel
theorem dL_law_939 : decode cL_law 939 = .ok (.iconst 3, 1) := by decide +kernel
theorem dL_law_940 : decode cL_law 940 = .ok (.iadd, 1) := by decide +kernel
theorem dL_law_941 : decode cL_law 941 = .ok (.iaload, 1) := by decide +kernel
theorem dL_law_942 : decode cL_law 942 = .ok (.invokevirtual 113, 3) := by decide +kernel
theorem dL_law_945 : decode cL_law 945 = .ok (.aload_n 2, 1) := by decide +kernel
theorem dL_law_946 : decode cL_law 946 = .ok (.aload_n 0, 1) := by decide +kernel
theorem dL_law_947 : decode cL_law 947 = .ok (.iload_n 3, 1) := by decide +kernel
theorem dL_law_948 : decode cL_law 948 = .ok (.iconst 1, 1) := by decide +kernel
theorem dL_law_949 : decode cL_law 949 = .ok (.iadd, 1) := by decide +kernel
theorem dL_law_950 : decode cL_law 950 = .ok (.iaload, 1) := by decide +kernel
theorem dL_law_951 : decode cL_law 951 = .ok (.aload_n 0, 1) := by decide +kernel
theorem dL_law_952 : decode cL_law 952 = .ok (.iload_n 3, 1) := by decide +kernel
theorem dL_law_953 : decode cL_law 953 = .ok (.iconst 2, 1) := by decide +kernel
theorem dL_law_954 : decode cL_law 954 = .ok (.iadd, 1) := by decide +kernel
theorem dL_law_955 : decode cL_law 955 = .ok (.iaload, 1) := by decide +kernel
theorem dL_law_956 : decode cL_law 956 = .ok (.aload_n 0, 1) := by decide +kernel
theorem dL_law_957 : decode cL_law 957 = .ok (.iload_n 3, 1) := by decide +kernel
theorem dL_law_958 : decode cL_law 958 = .ok (.iconst 3, 1) := by decide +kernel
theorem dL_law_959 : decode cL_law 959 = .ok (.iadd, 1) := by decide +kernel
theorem dL_law_960 : decode cL_law 960 = .ok (.iaload, 1) := by decide +kernel
theorem dL_law_961 : decode cL_law 961 = .ok (.invokevirtual 116, 3) := by decide +kernel
theorem dL_law_964 : decode cL_law 964 = .ok (.if_icmp .eq 127, 3) := by decide +kernel
theorem dL_law_967 : decode cL_law 967 = .ok (.iconst 0, 1) := by decide +kernel
theorem dL_law_968 : decode cL_law 968 = .ok (.ireturn, 1) := by decide +kernel
theorem dL_law_969 : decode cL_law 969 = .ok (.aload_n 1, 1) := by decide +kernel
theorem dL_law_970 : decode cL_law 970 = .ok (.aload_n 0, 1) := by decide +kernel
theorem dL_law_971 : decode cL_law 971 = .ok (.iload_n 3, 1) := by decide +kernel
theorem dL_law_972 : decode cL_law 972 = .ok (.iconst 1, 1) := by decide +kernel
theorem dL_law_973 : decode cL_law 973 = .ok (.iadd, 1) := by decide +kernel
theorem dL_law_974 : decode cL_law 974 = .ok (.iaload, 1) := by decide +kernel
theorem dL_law_975 : decode cL_law 975 = .ok (.aload_n 0, 1) := by decide +kernel
theorem dL_law_976 : decode cL_law 976 = .ok (.iload_n 3, 1) := by decide +kernel
theorem dL_law_977 : decode cL_law 977 = .ok (.iconst 2, 1) := by decide +kernel
theorem dL_law_978 : decode cL_law 978 = .ok (.iadd, 1) := by decide +kernel
theorem dL_law_979 : decode cL_law 979 = .ok (.iaload, 1) := by decide +kernel
theorem dL_law_980 : decode cL_law 980 = .ok (.invokevirtual 117, 3) := by decide +kernel
theorem dL_law_983 : decode cL_law 983 = .ok (.aload_n 2, 1) := by decide +kernel
theorem dL_law_984 : decode cL_law 984 = .ok (.aload_n 0, 1) := by decide +kernel
theorem dL_law_985 : decode cL_law 985 = .ok (.iload_n 3, 1) := by decide +kernel
theorem dL_law_986 : decode cL_law 986 = .ok (.iconst 1, 1) := by decide +kernel
theorem dL_law_987 : decode cL_law 987 = .ok (.iadd, 1) := by decide +kernel
theorem dL_law_988 : decode cL_law 988 = .ok (.iaload, 1) := by decide +kernel
theorem dL_law_989 : decode cL_law 989 = .ok (.aload_n 0, 1) := by decide +kernel
theorem dL_law_990 : decode cL_law 990 = .ok (.iload_n 3, 1) := by decide +kernel
theorem dL_law_991 : decode cL_law 991 = .ok (.iconst 2, 1) := by decide +kernel
theorem dL_law_992 : decode cL_law 992 = .ok (.iadd, 1) := by decide +kernel
theorem dL_law_993 : decode cL_law 993 = .ok (.iaload, 1) := by decide +kernel
theorem dL_law_994 : decode cL_law 994 = .ok (.invokevirtual 120, 3) := by decide +kernel
theorem dL_law_997 : decode cL_law 997 = .ok (.if_icmp .eq 94, 3) := by decide +kernel
theorem dL_law_1000 : decode cL_law 1000 = .ok (.iconst 0, 1) := by decide +kernel
theorem dL_law_1001 : decode cL_law 1001 = .ok (.ireturn, 1) := by decide +kernel
theorem dL_law_1002 : decode cL_law 1002 = .ok (.aload_n 1, 1) := by decide +kernel
theorem dL_law_1003 : decode cL_law 1003 = .ok (.aload_n 0, 1) := by decide +kernel
theorem dL_law_1004 : decode cL_law 1004 = .ok (.iload_n 3, 1) := by decide +kernel
theorem dL_law_1005 : decode cL_law 1005 = .ok (.iconst 1, 1) := by decide +kernel
theorem dL_law_1006 : decode cL_law 1006 = .ok (.iadd, 1) := by decide +kernel
theorem dL_law_1007 : decode cL_law 1007 = .ok (.iaload, 1) := by decide +kernel
theorem dL_law_1008 : decode cL_law 1008 = .ok (.aload_n 0, 1) := by decide +kernel
theorem dL_law_1009 : decode cL_law 1009 = .ok (.iload_n 3, 1) := by decide +kernel
theorem dL_law_1010 : decode cL_law 1010 = .ok (.iconst 2, 1) := by decide +kernel
theorem dL_law_1011 : decode cL_law 1011 = .ok (.iadd, 1) := by decide +kernel
theorem dL_law_1012 : decode cL_law 1012 = .ok (.iaload, 1) := by decide +kernel
theorem dL_law_1013 : decode cL_law 1013 = .ok (.aload_n 0, 1) := by decide +kernel
theorem dL_law_1014 : decode cL_law 1014 = .ok (.iload_n 3, 1) := by decide +kernel
theorem dL_law_1015 : decode cL_law 1015 = .ok (.iconst 3, 1) := by decide +kernel
theorem dL_law_1016 : decode cL_law 1016 = .ok (.iadd, 1) := by decide +kernel
theorem dL_law_1017 : decode cL_law 1017 = .ok (.iaload, 1) := by decide +kernel
theorem dL_law_1018 : decode cL_law 1018 = .ok (.invokevirtual 121, 3) := by decide +kernel
theorem dL_law_1021 : decode cL_law 1021 = .ok (.aload_n 2, 1) := by decide +kernel
theorem dL_law_1022 : decode cL_law 1022 = .ok (.aload_n 0, 1) := by decide +kernel
theorem dL_law_1023 : decode cL_law 1023 = .ok (.iload_n 3, 1) := by decide +kernel
theorem dL_law_1024 : decode cL_law 1024 = .ok (.iconst 1, 1) := by decide +kernel
theorem dL_law_1025 : decode cL_law 1025 = .ok (.iadd, 1) := by decide +kernel
theorem dL_law_1026 : decode cL_law 1026 = .ok (.iaload, 1) := by decide +kernel
theorem dL_law_1027 : decode cL_law 1027 = .ok (.aload_n 0, 1) := by decide +kernel
theorem dL_law_1028 : decode cL_law 1028 = .ok (.iload_n 3, 1) := by decide +kernel
theorem dL_law_1029 : decode cL_law 1029 = .ok (.iconst 2, 1) := by decide +kernel
theorem dL_law_1030 : decode cL_law 1030 = .ok (.iadd, 1) := by decide +kernel
theorem dL_law_1031 : decode cL_law 1031 = .ok (.iaload, 1) := by decide +kernel
theorem dL_law_1032 : decode cL_law 1032 = .ok (.aload_n 0, 1) := by decide +kernel
theorem dL_law_1033 : decode cL_law 1033 = .ok (.iload_n 3, 1) := by decide +kernel
theorem dL_law_1034 : decode cL_law 1034 = .ok (.iconst 3, 1) := by decide +kernel
theorem dL_law_1035 : decode cL_law 1035 = .ok (.iadd, 1) := by decide +kernel
theorem dL_law_1036 : decode cL_law 1036 = .ok (.iaload, 1) := by decide +kernel
theorem dL_law_1037 : decode cL_law 1037 = .ok (.invokevirtual 124, 3) := by decide +kernel
theorem dL_law_1040 : decode cL_law 1040 = .ok (.if_icmp .eq 51, 3) := by decide +kernel
theorem dL_law_1043 : decode cL_law 1043 = .ok (.iconst 0, 1) := by decide +kernel
theorem dL_law_1044 : decode cL_law 1044 = .ok (.ireturn, 1) := by decide +kernel
theorem dL_law_1045 : decode cL_law 1045 = .ok (.aload_n 1, 1) := by decide +kernel
theorem dL_law_1046 : decode cL_law 1046 = .ok (.aload_n 0, 1) := by decide +kernel
theorem dL_law_1047 : decode cL_law 1047 = .ok (.iload_n 3, 1) := by decide +kernel
theorem dL_law_1048 : decode cL_law 1048 = .ok (.iconst 1, 1) := by decide +kernel
theorem dL_law_1049 : decode cL_law 1049 = .ok (.iadd, 1) := by decide +kernel
theorem dL_law_1050 : decode cL_law 1050 = .ok (.iaload, 1) := by decide +kernel
theorem dL_law_1051 : decode cL_law 1051 = .ok (.invokevirtual 125, 3) := by decide +kernel
theorem dL_law_1054 : decode cL_law 1054 = .ok (.aload_n 2, 1) := by decide +kernel
theorem dL_law_1055 : decode cL_law 1055 = .ok (.aload_n 0, 1) := by decide +kernel
theorem dL_law_1056 : decode cL_law 1056 = .ok (.iload_n 3, 1) := by decide +kernel
theorem dL_law_1057 : decode cL_law 1057 = .ok (.iconst 1, 1) := by decide +kernel
theorem dL_law_1058 : decode cL_law 1058 = .ok (.iadd, 1) := by decide +kernel
theorem dL_law_1059 : decode cL_law 1059 = .ok (.iaload, 1) := by decide +kernel
theorem dL_law_1060 : decode cL_law 1060 = .ok (.invokevirtual 128, 3) := by decide +kernel
theorem dL_law_1063 : decode cL_law 1063 = .ok (.if_icmp .eq 28, 3) := by decide +kernel
theorem dL_law_1066 : decode cL_law 1066 = .ok (.iconst 0, 1) := by decide +kernel
theorem dL_law_1067 : decode cL_law 1067 = .ok (.ireturn, 1) := by decide +kernel
theorem dL_law_1068 : decode cL_law 1068 = .ok (.aload_n 1, 1) := by decide +kernel
theorem dL_law_1069 : decode cL_law 1069 = .ok (.aload_n 0, 1) := by decide +kernel
theorem dL_law_1070 : decode cL_law 1070 = .ok (.iload_n 3, 1) := by decide +kernel
theorem dL_law_1071 : decode cL_law 1071 = .ok (.iconst 1, 1) := by decide +kernel
theorem dL_law_1072 : decode cL_law 1072 = .ok (.iadd, 1) := by decide +kernel
theorem dL_law_1073 : decode cL_law 1073 = .ok (.iaload, 1) := by decide +kernel
theorem dL_law_1074 : decode cL_law 1074 = .ok (.invokevirtual 129, 3) := by decide +kernel
theorem dL_law_1077 : decode cL_law 1077 = .ok (.aload_n 2, 1) := by decide +kernel
theorem dL_law_1078 : decode cL_law 1078 = .ok (.aload_n 0, 1) := by decide +kernel
theorem dL_law_1079 : decode cL_law 1079 = .ok (.iload_n 3, 1) := by decide +kernel
theorem dL_law_1080 : decode cL_law 1080 = .ok (.iconst 1, 1) := by decide +kernel
theorem dL_law_1081 : decode cL_law 1081 = .ok (.iadd, 1) := by decide +kernel
theorem dL_law_1082 : decode cL_law 1082 = .ok (.iaload, 1) := by decide +kernel
theorem dL_law_1083 : decode cL_law 1083 = .ok (.invokevirtual 132, 3) := by decide +kernel
theorem dL_law_1086 : decode cL_law 1086 = .ok (.if_icmp .eq 5, 3) := by decide +kernel
theorem dL_law_1089 : decode cL_law 1089 = .ok (.iconst 0, 1) := by decide +kernel
theorem dL_law_1090 : decode cL_law 1090 = .ok (.ireturn, 1) := by decide +kernel
theorem dL_law_1091 : decode cL_law 1091 = .ok (.iinc 3 4, 3) := by decide +kernel
theorem dL_law_1094 : decode cL_law 1094 = .ok (.goto (-1076), 3) := by decide +kernel
theorem dL_law_1097 : decode cL_law 1097 = .ok (.iconst 1, 1) := by decide +kernel
theorem dL_law_1098 : decode cL_law 1098 = .ok (.ireturn, 1) := by decide +kernel
