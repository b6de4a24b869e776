theorem dX5_land_118 : decode cX5_land 118 = .ok (.iload_n 1, 1) := by decide +kernel
theorem dX5_land_119 : decode cX5_land 119 = .ok (.invokevirtual 188, 3) := by decide +kernel
theorem dX5_land_122 : decode cX5_land 122 = .ok (.ireturn, 1) := by decide +kernel
theorem dX5_land_123 : decode cX5_land 123 = .ok (.aload_n 0, 1) := by decide +kernel
theorem dX5_land_124 : decode cX5_land 124 = .ok (.getfield 22, 3) := by decide +kernel
theorem dX5_land_127 : decode cX5_land 127 = .ok (.aload_n 0, 1) := by decide +kernel
theorem dX5_land_128 : decode cX5_land 128 = .ok (.getfield 12, 3) := by decide +kernel
theorem dX5_land_131 : decode cX5_land 131 = .ok (.getfield 121, 3) := by decide +kernel
theorem dX5_land_134 : decode cX5_land 134 = .ok (.iload_n 1, 1) := by decide +kernel
theorem dX5_land_135 : decode cX5_land 135 = .ok (.invokevirtual 191, 3) := by decide +kernel
theorem dX5_land_138 : decode cX5_land 138 = .ok (.ireturn, 1) := by decide +kernel
theorem dX5_land_139 : decode cX5_land 139 = .ok (.aload_n 0, 1) := by decide +kernel
theorem dX5_land_140 : decode cX5_land 140 = .ok (.iload_n 1, 1) := by decide +kernel
theorem dX5_land_141 : decode cX5_land 141 = .ok (.invokevirtual 194, 3) := by decide +kernel
theorem dX5_land_144 : decode cX5_land 144 = .ok (.ireturn, 1) := by decide +kernel
theorem dX5_land_145 : decode cX5_land 145 = .ok (.aload_n 0, 1) := by decide +kernel
theorem dX5_land_146 : decode cX5_land 146 = .ok (.getfield 29, 3) := by decide +kernel
theorem dX5_land_149 : decode cX5_land 149 = .ok (.aload_n 0, 1) := by decide +kernel
theorem dX5_land_150 : decode cX5_land 150 = .ok (.getfield 12, 3) := by decide +kernel
theorem dX5_land_153 : decode cX5_land 153 = .ok (.getfield 121, 3) := by decide +kernel
theorem dX5_land_156 : decode cX5_land 156 = .ok (.iload_n 1, 1) := by decide +kernel
theorem dX5_land_157 : decode cX5_land 157 = .ok (.invokevirtual 197, 3) := by decide +kernel
theorem dX5_land_160 : decode cX5_land 160 = .ok (.ireturn, 1) := by decide +kernel
theorem dX5_land_161 : decode cX5_land 161 = .ok (.aload_n 0, 1) := by decide +kernel
theorem dX5_land_162 : decode cX5_land 162 = .ok (.getfield 22, 3) := by decide +kernel
theorem dX5_land_165 : decode cX5_land 165 = .ok (.aload_n 0, 1) := by decide +kernel
theorem dX5_land_166 : decode cX5_land 166 = .ok (.getfield 12, 3) := by decide +kernel
theorem dX5_land_169 : decode cX5_land 169 = .ok (.getfield 121, 3) := by decide +kernel
theorem dX5_land_172 : decode cX5_land 172 = .ok (.iload_n 1, 1) := by decide +kernel
theorem dX5_land_173 : decode cX5_land 173 = .ok (.invokevirtual 200, 3) := by decide +kernel
theorem dX5_land_176 : decode cX5_land 176 = .ok (.ireturn, 1) := by decide +kernel
theorem dX5_land_177 : decode cX5_land 177 = .ok (.aload_n 0, 1) := by decide +kernel
theorem dX5_land_178 : decode cX5_land 178 = .ok (.getfield 22, 3) := by decide +kernel
theorem dX5_land_181 : decode cX5_land 181 = .ok (.aload_n 0, 1) := by decide +kernel
theorem dX5_land_182 : decode cX5_land 182 = .ok (.getfield 12, 3) := by decide +kernel
theorem dX5_land_185 : decode cX5_land 185 = .ok (.getfield 121, 3) := by decide +kernel
theorem dX5_land_188 : decode cX5_land 188 = .ok (.iload_n 1, 1) := by decide +kernel
theorem dX5_land_189 : decode cX5_land 189 = .ok (.invokevirtual 203, 3) := by decide +kernel
theorem dX5_land_192 : decode cX5_land 192 = .ok (.ireturn, 1) := by decide +kernel
theorem dX5_land_193 : decode cX5_land 193 = .ok (.aload_n 0, 1) := by decide +kernel
theorem dX5_land_194 : decode cX5_land 194 = .ok (.getfield 22, 3) := by decide +kernel
theorem dX5_land_197 : decode cX5_land 197 = .ok (.aload_n 0, 1) := by decide +kernel
theorem dX5_land_198 : decode cX5_land 198 = .ok (.getfield 12, 3) := by decide +kernel
theorem dX5_land_201 : decode cX5_land 201 = .ok (.getfield 121, 3) := by decide +kernel
theorem dX5_land_204 : decode cX5_land 204 = .ok (.iload_n 1, 1) := by decide +kernel
theorem dX5_land_205 : decode cX5_land 205 = .ok (.invokevirtual 206, 3) := by decide +kernel
theorem dX5_land_208 : decode cX5_land 208 = .ok (.ireturn, 1) := by decide +kernel
theorem dX5_land_209 : decode cX5_land 209 = .ok (.aload_n 0, 1) := by decide +kernel
theorem dX5_land_210 : decode cX5_land 210 = .ok (.getfield 29, 3) := by decide +kernel
theorem dX5_land_213 : decode cX5_land 213 = .ok (.aload_n 0, 1) := by decide +kernel
theorem dX5_land_214 : decode cX5_land 214 = .ok (.getfield 12, 3) := by decide +kernel
theorem dX5_land_217 : decode cX5_land 217 = .ok (.getfield 121, 3) := by decide +kernel
theorem dX5_land_220 : decode cX5_land 220 = .ok (.iload_n 1, 1) := by decide +kernel
theorem dX5_land_221 : decode cX5_land 221 = .ok (.invokevirtual 174, 3) := by decide +kernel
theorem dX5_land_224 : decode cX5_land 224 = .ok (.invokestatic 140, 3) := by decide +kernel
theorem dX5_land_227 : decode cX5_land 227 = .ok (.ireturn, 1) := by decide +kernel
theorem dX5_land_228 : decode cX5_land 228 = .ok (.iconst (-1), 1) := by decide +kernel
theorem dX5_land_229 : decode cX5_land 229 = .ok (.ireturn, 1) := by decide +kernel
theorem dX5_mendOf_0 : decode cX5_mendOf 0 = .ok (.aload_n 0, 1) := by decide +kernel
theorem dX5_mendOf_1 : decode cX5_mendOf 1 = .ok (.getfield 22, 3) := by decide +kernel
theorem dX5_mendOf_4 : decode cX5_mendOf 4 = .ok (.aload_n 0, 1) := by decide +kernel
theorem dX5_mendOf_5 : decode cX5_mendOf 5 = .ok (.getfield 12, 3) := by decide +kernel
theorem dX5_mendOf_8 : decode cX5_mendOf 8 = .ok (.getfield 121, 3) := by decide +kernel
theorem dX5_mendOf_11 : decode cX5_mendOf 11 = .ok (.iload_n 1, 1) := by decide +kernel
theorem dX5_mendOf_12 : decode cX5_mendOf 12 = .ok (.invokevirtual 209, 3) := by decide +kernel
theorem dX5_mendOf_15 : decode cX5_mendOf 15 = .ok (.iconst 1, 1) := by decide +kernel
theorem dX5_mendOf_16 : decode cX5_mendOf 16 = .ok (.iadd, 1) := by decide +kernel
theorem dX5_mendOf_17 : decode cX5_mendOf 17 = .ok (.iconst 2, 1) := by decide +kernel
theorem dX5_mendOf_18 : decode cX5_mendOf 18 = .ok (.idiv, 1) := by decide +kernel
theorem dX5_mendOf_19 : decode cX5_mendOf 19 = .ok (.ireturn, 1) := by decide +kernel
theorem dX5_centre_0 : decode cX5_centre 0 = .ok (.aload_n 0, 1) := by decide +kernel
theorem dX5_centre_1 : decode cX5_centre 1 = .ok (.getfield 12, 3) := by decide +kernel
theorem dX5_centre_4 : decode cX5_centre 4 = .ok (.getfield 121, 3) := by decide +kernel
theorem dX5_centre_7 : decode cX5_centre 7 = .ok (.iload_n 1, 1) := by decide +kernel
theorem dX5_centre_8 : decode cX5_centre 8 = .ok (.invokevirtual 152, 3) := by decide +kernel
theorem dX5_centre_11 : decode cX5_centre 11 = .ok (.ifCond .eq 21, 3) := by decide +kernel
theorem dX5_centre_14 : decode cX5_centre 14 = .ok (.aload_n 0, 1) := by decide +kernel
theorem dX5_centre_15 : decode cX5_centre 15 = .ok (.getfield 22, 3) := by decide +kernel
theorem dX5_centre_18 : decode cX5_centre 18 = .ok (.aload_n 0, 1) := by decide +kernel
theorem dX5_centre_19 : decode cX5_centre 19 = .ok (.getfield 12, 3) := by decide +kernel
theorem dX5_centre_22 : decode cX5_centre 22 = .ok (.getfield 121, 3) := by decide +kernel
theorem dX5_centre_25 : decode cX5_centre 25 = .ok (.iload_n 1, 1) := by decide +kernel
theorem dX5_centre_26 : decode cX5_centre 26 = .ok (.invokevirtual 212, 3) := by decide +kernel
theorem dX5_centre_29 : decode cX5_centre 29 = .ok (.goto 4, 3) := by decide +kernel
theorem dX5_centre_32 : decode cX5_centre 32 = .ok (.iconst (-1), 1) := by decide +kernel
theorem dX5_centre_33 : decode cX5_centre 33 = .ok (.ireturn, 1) := by decide +kernel
theorem dX5_mending_0 : decode cX5_mending 0 = .ok (.aload_n 0, 1) := by decide +kernel
theorem dX5_mending_1 : decode cX5_mending 1 = .ok (.getfield 12, 3) := by decide +kernel
theorem dX5_mending_4 : decode cX5_mending 4 = .ok (.getfield 121, 3) := by decide +kernel
theorem dX5_mending_7 : decode cX5_mending 7 = .ok (.iload_n 1, 1) := by decide +kernel
theorem dX5_mending_8 : decode cX5_mending 8 = .ok (.invokevirtual 152, 3) := by decide +kernel
theorem dX5_mending_11 : decode cX5_mending 11 = .ok (.ifCond .eq 16, 3) := by decide +kernel
theorem dX5_mending_14 : decode cX5_mending 14 = .ok (.iload_n 2, 1) := by decide +kernel
theorem dX5_mending_15 : decode cX5_mending 15 = .ok (.ifCond .lt 12, 3) := by decide +kernel
theorem dX5_mending_18 : decode cX5_mending 18 = .ok (.iload_n 2, 1) := by decide +kernel
theorem dX5_mending_19 : decode cX5_mending 19 = .ok (.aload_n 0, 1) := by decide +kernel
theorem dX5_mending_20 : decode cX5_mending 20 = .ok (.iload_n 1, 1) := by decide +kernel
theorem dX5_mending_21 : decode cX5_mending 21 = .ok (.invokevirtual 194, 3) := by decide +kernel
theorem dX5_mending_24 : decode cX5_mending 24 = .ok (.if_icmp .lt 5, 3) := by decide +kernel
theorem dX5_mending_27 : decode cX5_mending 27 = .ok (.iconst (-1), 1) := by decide +kernel
theorem dX5_mending_28 : decode cX5_mending 28 = .ok (.ireturn, 1) := by decide +kernel
theorem dX5_mending_29 : decode cX5_mending 29 = .ok (.aload_n 0, 1) := by decide +kernel
theorem dX5_mending_30 : decode cX5_mending 30 = .ok (.getfield 22, 3) := by decide +kernel
theorem dX5_mending_33 : decode cX5_mending 33 = .ok (.aload_n 0, 1) := by decide +kernel
theorem dX5_mending_34 : decode cX5_mending 34 = .ok (.getfield 12, 3) := by decide +kernel
theorem dX5_mending_37 : decode cX5_mending 37 = .ok (.getfield 121, 3) := by decide +kernel
theorem dX5_mending_40 : decode cX5_mending 40 = .ok (.iload_n 1, 1) := by decide +kernel
theorem dX5_mending_41 : decode cX5_mending 41 = .ok (.invokevirtual 209, 3) := by decide +kernel
theorem dX5_mending_44 : decode cX5_mending 44 = .ok (.iconst 2, 1) := by decide +kernel
theorem dX5_mending_45 : decode cX5_mending 45 = .ok (.idiv, 1) := by decide +kernel
theorem dX5_mending_46 : decode cX5_mending 46 = .ok (.istore 4, 2) := by decide +kernel
theorem dX5_mending_48 : decode cX5_mending 48 = .ok (.iload_n 3, 1) := by decide +kernel
theorem dX5_mending_49 : decode cX5_mending 49 = .ok (.lookupswitch 74 #[(0, 27), (1, 49)], 27) := by decide +kernel
theorem dX5_mending_76 : decode cX5_mending 76 = .ok (.aload_n 0, 1) := by decide +kernel
theorem dX5_mending_77 : decode cX5_mending 77 = .ok (.aload_n 0, 1) := by decide +kernel
theorem dX5_mending_78 : decode cX5_mending 78 = .ok (.getfield 22, 3) := by decide +kernel
theorem dX5_mending_81 : decode cX5_mending 81 = .ok (.aload_n 0, 1) := by decide +kernel
theorem dX5_mending_82 : decode cX5_mending 82 = .ok (.getfield 12, 3) := by decide +kernel
theorem dX5_mending_85 : decode cX5_mending 85 = .ok (.getfield 121, 3) := by decide +kernel
theorem dX5_mending_88 : decode cX5_mending 88 = .ok (.iload_n 1, 1) := by decide +kernel
theorem dX5_mending_89 : decode cX5_mending 89 = .ok (.iload_n 2, 1) := by decide +kernel
theorem dX5_mending_90 : decode cX5_mending 90 = .ok (.invokevirtual 215, 3) := by decide +kernel
theorem dX5_mending_93 : decode cX5_mending 93 = .ok (.iconst 0, 1) := by decide +kernel
theorem dX5_mending_94 : decode cX5_mending 94 = .ok (.invokevirtual 155, 3) := by decide +kernel
theorem dX5_mending_97 : decode cX5_mending 97 = .ok (.ireturn, 1) := by decide +kernel
theorem dX5_mending_98 : decode cX5_mending 98 = .ok (.aload_n 0, 1) := by decide +kernel
theorem dX5_mending_99 : decode cX5_mending 99 = .ok (.aload_n 0, 1) := by decide +kernel
theorem dX5_mending_100 : decode cX5_mending 100 = .ok (.getfield 22, 3) := by decide +kernel
theorem dX5_mending_103 : decode cX5_mending 103 = .ok (.aload_n 0, 1) := by decide +kernel
theorem dX5_mending_104 : decode cX5_mending 104 = .ok (.getfield 12, 3) := by decide +kernel
theorem dX5_mending_107 : decode cX5_mending 107 = .ok (.getfield 121, 3) := by decide +kernel
theorem dX5_mending_110 : decode cX5_mending 110 = .ok (.iload_n 1, 1) := by decide +kernel
theorem dX5_mending_111 : decode cX5_mending 111 = .ok (.iload_n 2, 1) := by decide +kernel
theorem dX5_mending_112 : decode cX5_mending 112 = .ok (.iload 4, 2) := by decide +kernel
theorem dX5_mending_114 : decode cX5_mending 114 = .ok (.iadd, 1) := by decide +kernel
theorem dX5_mending_115 : decode cX5_mending 115 = .ok (.invokevirtual 215, 3) := by decide +kernel
theorem dX5_mending_118 : decode cX5_mending 118 = .ok (.iconst 0, 1) := by decide +kernel
theorem dX5_mending_119 : decode cX5_mending 119 = .ok (.invokevirtual 155, 3) := by decide +kernel
theorem dX5_mending_122 : decode cX5_mending 122 = .ok (.ireturn, 1) := by decide +kernel
theorem dX5_mending_123 : decode cX5_mending 123 = .ok (.iconst (-1), 1) := by decide +kernel
theorem dX5_mending_124 : decode cX5_mending 124 = .ok (.ireturn, 1) := by decide +kernel
theorem dX5_story_0 : decode cX5_story 0 = .ok (.aload_n 0, 1) := by decide +kernel
theorem dX5_story_1 : decode cX5_story 1 = .ok (.iload_n 1, 1) := by decide +kernel
theorem dX5_story_2 : decode cX5_story 2 = .ok (.invokevirtual 219, 3) := by decide +kernel
theorem dX5_story_5 : decode cX5_story 5 = .ok (.astore 4, 2) := by decide +kernel
theorem dX5_story_7 : decode cX5_story 7 = .ok (.aload 4, 2) := by decide +kernel
theorem dX5_story_9 : decode cX5_story 9 = .ok (.ifnull 16, 3) := by decide +kernel
theorem dX5_story_12 : decode cX5_story 12 = .ok (.iload_n 2, 1) := by decide +kernel
theorem dX5_story_13 : decode cX5_story 13 = .ok (.ifCond .lt 12, 3) := by decide +kernel
theorem dX5_story_16 : decode cX5_story 16 = .ok (.iload_n 2, 1) := by decide +kernel
theorem dX5_story_17 : decode cX5_story 17 = .ok (.aload 4, 2) := by decide +kernel
theorem dX5_story_19 : decode cX5_story 19 = .ok (.getfield 223, 3) := by decide +kernel
theorem dX5_story_22 : decode cX5_story 22 = .ok (.if_icmp .lt 5, 3) := by decide +kernel
theorem dX5_story_25 : decode cX5_story 25 = .ok (.iconst (-1), 1) := by decide +kernel
theorem dX5_story_26 : decode cX5_story 26 = .ok (.ireturn, 1) := by decide +kernel
theorem dX5_story_27 : decode cX5_story 27 = .ok (.iload_n 3, 1) := by decide +kernel
theorem dX5_story_28 : decode cX5_story 28 = .ok (.tableswitch 82 0 4 #[36, 51, 59, 67, 75], 36) := by decide +kernel
theorem dX5_story_64 : decode cX5_story 64 = .ok (.aload 4, 2) := by decide +kernel
theorem dX5_story_66 : decode cX5_story 66 = .ok (.iload_n 2, 1) := by decide +kernel
theorem dX5_story_67 : decode cX5_story 67 = .ok (.invokevirtual 152, 3) := by decide +kernel
theorem dX5_story_70 : decode cX5_story 70 = .ok (.ifCond .eq 7, 3) := by decide +kernel
theorem dX5_story_73 : decode cX5_story 73 = .ok (.iconst 1, 1) := by decide +kernel
theorem dX5_story_74 : decode cX5_story 74 = .ok (.goto 4, 3) := by decide +kernel
theorem dX5_story_77 : decode cX5_story 77 = .ok (.iconst 0, 1) := by decide +kernel
theorem dX5_story_78 : decode cX5_story 78 = .ok (.ireturn, 1) := by decide +kernel
theorem dX5_story_79 : decode cX5_story 79 = .ok (.aload 4, 2) := by decide +kernel
theorem dX5_story_81 : decode cX5_story 81 = .ok (.getfield 226, 3) := by decide +kernel
theorem dX5_story_84 : decode cX5_story 84 = .ok (.iload_n 2, 1) := by decide +kernel
theorem dX5_story_85 : decode cX5_story 85 = .ok (.iaload, 1) := by decide +kernel
theorem dX5_story_86 : decode cX5_story 86 = .ok (.ireturn, 1) := by decide +kernel
theorem dX5_story_87 : decode cX5_story 87 = .ok (.aload 4, 2) := by decide +kernel
theorem dX5_story_89 : decode cX5_story 89 = .ok (.getfield 227, 3) := by decide +kernel
theorem dX5_story_92 : decode cX5_story 92 = .ok (.iload_n 2, 1) := by decide +kernel
theorem dX5_story_93 : decode cX5_story 93 = .ok (.iaload, 1) := by decide +kernel
theorem dX5_story_94 : decode cX5_story 94 = .ok (.ireturn, 1) := by decide +kernel
theorem dX5_story_95 : decode cX5_story 95 = .ok (.aload 4, 2) := by decide +kernel
theorem dX5_story_97 : decode cX5_story 97 = .ok (.getfield 124, 3) := by decide +kernel
theorem dX5_story_100 : decode cX5_story 100 = .ok (.iload_n 2, 1) := by decide +kernel
theorem dX5_story_101 : decode cX5_story 101 = .ok (.iaload, 1) := by decide +kernel
theorem dX5_story_102 : decode cX5_story 102 = .ok (.ireturn, 1) := by decide +kernel
theorem dX5_story_103 : decode cX5_story 103 = .ok (.aload 4, 2) := by decide +kernel
theorem dX5_story_105 : decode cX5_story 105 = .ok (.iload_n 2, 1) := by decide +kernel
theorem dX5_story_106 : decode cX5_story 106 = .ok (.invokevirtual 230, 3) := by decide +kernel
theorem dX5_story_109 : decode cX5_story 109 = .ok (.ireturn, 1) := by decide +kernel
theorem dX5_story_110 : decode cX5_story 110 = .ok (.iconst (-1), 1) := by decide +kernel
theorem dX5_story_111 : decode cX5_story 111 = .ok (.ireturn, 1) := by decide +kernel
theorem dX5_namesOf_0 : decode cX5_namesOf 0 = .ok (.iload_n 1, 1) := by decide +kernel
theorem dX5_namesOf_1 : decode cX5_namesOf 1 = .ok (.tableswitch 51 0 2 #[27, 35, 43], 27) := by decide +kernel
theorem dX5_namesOf_28 : decode cX5_namesOf 28 = .ok (.aload_n 0, 1) := by decide +kernel
theorem dX5_namesOf_29 : decode cX5_namesOf 29 = .ok (.getfield 12, 3) := by decide +kernel
theorem dX5_namesOf_32 : decode cX5_namesOf 32 = .ok (.getfield 118, 3) := by decide +kernel
theorem dX5_namesOf_35 : decode cX5_namesOf 35 = .ok (.areturn, 1) := by decide +kernel
theorem dX5_namesOf_36 : decode cX5_namesOf 36 = .ok (.aload_n 0, 1) := by decide +kernel
theorem dX5_namesOf_37 : decode cX5_namesOf 37 = .ok (.getfield 12, 3) := by decide +kernel
theorem dX5_namesOf_40 : decode cX5_namesOf 40 = .ok (.getfield 121, 3) := by decide +kernel
theorem dX5_namesOf_43 : decode cX5_namesOf 43 = .ok (.areturn, 1) := by decide +kernel
theorem dX5_namesOf_44 : decode cX5_namesOf 44 = .ok (.aload_n 0, 1) := by decide +kernel
theorem dX5_namesOf_45 : decode cX5_namesOf 45 = .ok (.getfield 12, 3) := by decide +kernel
theorem dX5_namesOf_48 : decode cX5_namesOf 48 = .ok (.getfield 99, 3) := by decide +kernel
theorem dX5_namesOf_51 : decode cX5_namesOf 51 = .ok (.areturn, 1) := by decide +kernel
theorem dX5_namesOf_52 : decode cX5_namesOf 52 = .ok (.aconst_null, 1) := by decide +kernel
theorem dX5_namesOf_53 : decode cX5_namesOf 53 = .ok (.areturn, 1) := by decide +kernel
theorem dX5_latest_0 : decode cX5_latest 0 = .ok (.aload_n 0, 1) := by decide +kernel
theorem dX5_latest_1 : decode cX5_latest 1 = .ok (.getfield 12, 3) := by decide +kernel
theorem dX5_latest_4 : decode cX5_latest 4 = .ok (.getfield 55, 3) := by decide +kernel
theorem dX5_latest_7 : decode cX5_latest 7 = .ok (.ifCond .ne 5, 3) := by decide +kernel
theorem dX5_latest_10 : decode cX5_latest 10 = .ok (.iconst (-1), 1) := by decide +kernel
theorem dX5_latest_11 : decode cX5_latest 11 = .ok (.ireturn, 1) := by decide +kernel
theorem dX5_latest_12 : decode cX5_latest 12 = .ok (.iload_n 1, 1) := by decide +kernel
theorem dX5_latest_13 : decode cX5_latest 13 = .ok (.tableswitch 63 0 3 #[31, 39, 47, 55], 31) := by decide +kernel
theorem dX5_latest_44 : decode cX5_latest 44 = .ok (.aload_n 0, 1) := by decide +kernel
theorem dX5_latest_45 : decode cX5_latest 45 = .ok (.getfield 12, 3) := by decide +kernel
theorem dX5_latest_48 : decode cX5_latest 48 = .ok (.getfield 233, 3) := by decide +kernel
theorem dX5_latest_51 : decode cX5_latest 51 = .ok (.ireturn, 1) := by decide +kernel
theorem dX5_latest_52 : decode cX5_latest 52 = .ok (.aload_n 0, 1) := by decide +kernel
theorem dX5_latest_53 : decode cX5_latest 53 = .ok (.getfield 12, 3) := by decide +kernel
theorem dX5_latest_56 : decode cX5_latest 56 = .ok (.getfield 236, 3) := by decide +kernel
theorem dX5_latest_59 : decode cX5_latest 59 = .ok (.ireturn, 1) := by decide +kernel
theorem dX5_latest_60 : decode cX5_latest 60 = .ok (.aload_n 0, 1) := by decide +kernel
theorem dX5_latest_61 : decode cX5_latest 61 = .ok (.getfield 12, 3) := by decide +kernel
theorem dX5_latest_64 : decode cX5_latest 64 = .ok (.getfield 239, 3) := by decide +kernel
theorem dX5_latest_67 : decode cX5_latest 67 = .ok (.ireturn, 1) := by decide +kernel
theorem dX5_latest_68 : decode cX5_latest 68 = .ok (.aload_n 0, 1) := by decide +kernel
theorem dX5_latest_69 : decode cX5_latest 69 = .ok (.getfield 12, 3) := by decide +kernel
theorem dX5_latest_72 : decode cX5_latest 72 = .ok (.getfield 242, 3) := by decide +kernel
theorem dX5_latest_75 : decode cX5_latest 75 = .ok (.ireturn, 1) := by decide +kernel
theorem dX5_latest_76 : decode cX5_latest 76 = .ok (.iconst (-1), 1) := by decide +kernel
theorem dX5_latest_77 : decode cX5_latest 77 = .ok (.ireturn, 1) := by decide +kernel
theorem dX5_since_0 : decode cX5_since 0 = .ok (.aload_n 0, 1) := by decide +kernel
theorem dX5_since_1 : decode cX5_since 1 = .ok (.iload_n 1, 1) := by decide +kernel
theorem dX5_since_2 : decode cX5_since 2 = .ok (.iload_n 2, 1) := by decide +kernel
theorem dX5_since_3 : decode cX5_since 3 = .ok (.invokevirtual 51, 3) := by decide +kernel
theorem dX5_since_6 : decode cX5_since 6 = .ok (.ifCond .ne 5, 3) := by decide +kernel
theorem dX5_since_9 : decode cX5_since 9 = .ok (.iconst (-1), 1) := by decide +kernel
theorem dX5_since_10 : decode cX5_since 10 = .ok (.ireturn, 1) := by decide +kernel
theorem dX5_since_11 : decode cX5_since 11 = .ok (.aload_n 0, 1) := by decide +kernel
theorem dX5_since_12 : decode cX5_since 12 = .ok (.getfield 12, 3) := by decide +kernel
theorem dX5_since_15 : decode cX5_since 15 = .ok (.iload_n 1, 1) := by decide +kernel
theorem dX5_since_16 : decode cX5_since 16 = .ok (.iload_n 2, 1) := by decide +kernel
theorem dX5_since_17 : decode cX5_since 17 = .ok (.invokevirtual 245, 3) := by decide +kernel
theorem dX5_since_20 : decode cX5_since 20 = .ok (.istore 4, 2) := by decide +kernel
theorem dX5_since_22 : decode cX5_since 22 = .ok (.iload 4, 2) := by decide +kernel
theorem dX5_since_24 : decode cX5_since 24 = .ok (.iconst (-1), 1) := by decide +kernel
theorem dX5_since_25 : decode cX5_since 25 = .ok (.if_icmp .ne 5, 3) := by decide +kernel
theorem dX5_since_28 : decode cX5_since 28 = .ok (.iconst (-1), 1) := by decide +kernel
theorem dX5_since_29 : decode cX5_since 29 = .ok (.ireturn, 1) := by decide +kernel
theorem dX5_since_30 : decode cX5_since 30 = .ok (.iload_n 3, 1) := by decide +kernel
theorem dX5_since_31 : decode cX5_since 31 = .ok (.tableswitch 55 0 2 #[25, 35, 45], 25) := by decide +kernel
theorem dX5_since_56 : decode cX5_since 56 = .ok (.aload_n 0, 1) := by decide +kernel
theorem dX5_since_57 : decode cX5_since 57 = .ok (.getfield 12, 3) := by decide +kernel
theorem dX5_since_60 : decode cX5_since 60 = .ok (.iload 4, 2) := by decide +kernel
theorem dX5_since_62 : decode cX5_since 62 = .ok (.invokevirtual 248, 3) := by decide +kernel
theorem dX5_since_65 : decode cX5_since 65 = .ok (.ireturn, 1) := by decide +kernel
theorem dX5_since_66 : decode cX5_since 66 = .ok (.aload_n 0, 1) := by decide +kernel
theorem dX5_since_67 : decode cX5_since 67 = .ok (.getfield 12, 3) := by decide +kernel
theorem dX5_since_70 : decode cX5_since 70 = .ok (.iload 4, 2) := by decide +kernel
theorem dX5_since_72 : decode cX5_since 72 = .ok (.invokevirtual 251, 3) := by decide +kernel
theorem dX5_since_75 : decode cX5_since 75 = .ok (.ireturn, 1) := by decide +kernel
theorem dX5_since_76 : decode cX5_since 76 = .ok (.aload_n 0, 1) := by decide +kernel
theorem dX5_since_77 : decode cX5_since 77 = .ok (.getfield 12, 3) := by decide +kernel
theorem dX5_since_80 : decode cX5_since 80 = .ok (.iload 4, 2) := by decide +kernel
theorem dX5_since_82 : decode cX5_since 82 = .ok (.invokevirtual 254, 3) := by decide +kernel
theorem dX5_since_85 : decode cX5_since 85 = .ok (.ireturn, 1) := by decide +kernel
theorem dX5_since_86 : decode cX5_since 86 = .ok (.iconst (-1), 1) := by decide +kernel
theorem dX5_since_87 : decode cX5_since 87 = .ok (.ireturn, 1) := by decide +kernel
theorem dX5_bridgesBy_0 : decode cX5_bridgesBy 0 = .ok (.iload_n 1, 1) := by decide +kernel
theorem dX5_bridgesBy_1 : decode cX5_bridgesBy 1 = .ok (.ifCond .lt 14, 3) := by decide +kernel
theorem dX5_bridgesBy_4 : decode cX5_bridgesBy 4 = .ok (.iload_n 1, 1) := by decide +kernel
theorem dX5_bridgesBy_5 : decode cX5_bridgesBy 5 = .ok (.aload_n 0, 1) := by decide +kernel
theorem dX5_bridgesBy_6 : decode cX5_bridgesBy 6 = .ok (.getfield 12, 3) := by decide +kernel
theorem dX5_bridgesBy_9 : decode cX5_bridgesBy 9 = .ok (.getfield 55, 3) := by decide +kernel
theorem dX5_bridgesBy_12 : decode cX5_bridgesBy 12 = .ok (.if_icmp .le 7, 3) := by decide +kernel
theorem dX5_bridgesBy_15 : decode cX5_bridgesBy 15 = .ok (.iconst (-1), 1) := by decide +kernel
theorem dX5_bridgesBy_16 : decode cX5_bridgesBy 16 = .ok (.goto 11, 3) := by decide +kernel
theorem dX5_bridgesBy_19 : decode cX5_bridgesBy 19 = .ok (.aload_n 0, 1) := by decide +kernel
theorem dX5_bridgesBy_20 : decode cX5_bridgesBy 20 = .ok (.getfield 12, 3) := by decide +kernel
theorem dX5_bridgesBy_23 : decode cX5_bridgesBy 23 = .ok (.iload_n 1, 1) := by decide +kernel
theorem dX5_bridgesBy_24 : decode cX5_bridgesBy 24 = .ok (.invokevirtual 257, 3) := by decide +kernel
theorem dX5_bridgesBy_27 : decode cX5_bridgesBy 27 = .ok (.ireturn, 1) := by decide +kernel
theorem dX5_doubleSafe_0 : decode cX5_doubleSafe 0 = .ok (.aload_n 0, 1) := by decide +kernel
theorem dX5_doubleSafe_1 : decode cX5_doubleSafe 1 = .ok (.iload_n 1, 1) := by decide +kernel
theorem dX5_doubleSafe_2 : decode cX5_doubleSafe 2 = .ok (.iload_n 2, 1) := by decide +kernel
theorem dX5_doubleSafe_3 : decode cX5_doubleSafe 3 = .ok (.invokevirtual 51, 3) := by decide +kernel
theorem dX5_doubleSafe_6 : decode cX5_doubleSafe 6 = .ok (.ifCond .ne 5, 3) := by decide +kernel
theorem dX5_doubleSafe_9 : decode cX5_doubleSafe 9 = .ok (.iconst (-1), 1) := by decide +kernel
theorem dX5_doubleSafe_10 : decode cX5_doubleSafe 10 = .ok (.ireturn, 1) := by decide +kernel
theorem dX5_doubleSafe_11 : decode cX5_doubleSafe 11 = .ok (.aload_n 0, 1) := by decide +kernel
theorem dX5_doubleSafe_12 : decode cX5_doubleSafe 12 = .ok (.getfield 29, 3) := by decide +kernel
theorem dX5_doubleSafe_15 : decode cX5_doubleSafe 15 = .ok (.iload_n 1, 1) := by decide +kernel
theorem dX5_doubleSafe_16 : decode cX5_doubleSafe 16 = .ok (.iload_n 2, 1) := by decide +kernel
theorem dX5_doubleSafe_17 : decode cX5_doubleSafe 17 = .ok (.invokevirtual 260, 3) := by decide +kernel
theorem dX5_doubleSafe_20 : decode cX5_doubleSafe 20 = .ok (.ifCond .eq 7, 3) := by decide +kernel
theorem dX5_doubleSafe_23 : decode cX5_doubleSafe 23 = .ok (.iconst 1, 1) := by decide +kernel
theorem dX5_doubleSafe_24 : decode cX5_doubleSafe 24 = .ok (.goto 4, 3) := by decide +kernel
theorem dX5_doubleSafe_27 : decode cX5_doubleSafe 27 = .ok (.iconst 0, 1) := by decide +kernel
theorem dX5_doubleSafe_28 : decode cX5_doubleSafe 28 = .ok (.ireturn, 1) := by decide +kernel
theorem dX5_way_0 : decode cX5_way 0 = .ok (.aload_n 0, 1) := by decide +kernel
theorem dX5_way_1 : decode cX5_way 1 = .ok (.iload_n 1, 1) := by decide +kernel
theorem dX5_way_2 : decode cX5_way 2 = .ok (.invokevirtual 127, 3) := by decide +kernel
theorem dX5_way_5 : decode cX5_way 5 = .ok (.ifCond .eq 11, 3) := by decide +kernel
theorem dX5_way_8 : decode cX5_way 8 = .ok (.aload_n 0, 1) := by decide +kernel
theorem dX5_way_9 : decode cX5_way 9 = .ok (.iload_n 2, 1) := by decide +kernel
theorem dX5_way_10 : decode cX5_way 10 = .ok (.invokevirtual 127, 3) := by decide +kernel
theorem dX5_way_13 : decode cX5_way 13 = .ok (.ifCond .ne 5, 3) := by decide +kernel
theorem dX5_way_16 : decode cX5_way 16 = .ok (.iconst (-1), 1) := by decide +kernel
theorem dX5_way_17 : decode cX5_way 17 = .ok (.ireturn, 1) := by decide +kernel
theorem dX5_way_18 : decode cX5_way 18 = .ok (.aload_n 0, 1) := by decide +kernel
theorem dX5_way_19 : decode cX5_way 19 = .ok (.getfield 12, 3) := by decide +kernel
theorem dX5_way_22 : decode cX5_way 22 = .ok (.iload_n 1, 1) := by decide +kernel
theorem dX5_way_23 : decode cX5_way 23 = .ok (.iload_n 2, 1) := by decide +kernel
theorem dX5_way_24 : decode cX5_way 24 = .ok (.invokevirtual 245, 3) := by decide +kernel
theorem dX5_way_27 : decode cX5_way 27 = .ok (.istore 4, 2) := by decide +kernel
theorem dX5_way_29 : decode cX5_way 29 = .ok (.iload 4, 2) := by decide +kernel
theorem dX5_way_31 : decode cX5_way 31 = .ok (.iconst (-1), 1) := by decide +kernel
theorem dX5_way_32 : decode cX5_way 32 = .ok (.if_icmp .ne 5, 3) := by decide +kernel
theorem dX5_way_35 : decode cX5_way 35 = .ok (.iconst (-1), 1) := by decide +kernel
theorem dX5_way_36 : decode cX5_way 36 = .ok (.ireturn, 1) := by decide +kernel
theorem dX5_way_37 : decode cX5_way 37 = .ok (.iconst 0, 1) := by decide +kernel
theorem dX5_way_38 : decode cX5_way 38 = .ok (.istore 5, 2) := by decide +kernel
theorem dX5_way_40 : decode cX5_way 40 = .ok (.iconst 0, 1) := by decide +kernel
theorem dX5_way_41 : decode cX5_way 41 = .ok (.istore 6, 2) := by decide +kernel
theorem dX5_way_43 : decode cX5_way 43 = .ok (.iload 6, 2) := by decide +kernel
theorem dX5_way_45 : decode cX5_way 45 = .ok (.iload 4, 2) := by decide +kernel
theorem dX5_way_47 : decode cX5_way 47 = .ok (.if_icmp .ge 49, 3) := by decide +kernel
theorem dX5_way_50 : decode cX5_way 50 = .ok (.aload_n 0, 1) := by decide +kernel
theorem dX5_way_51 : decode cX5_way 51 = .ok (.getfield 12, 3) := by decide +kernel
theorem dX5_way_54 : decode cX5_way 54 = .ok (.aload_n 0, 1) := by decide +kernel
theorem dX5_way_55 : decode cX5_way 55 = .ok (.getfield 12, 3) := by decide +kernel
theorem dX5_way_58 : decode cX5_way 58 = .ok (.getfield 263, 3) := by decide +kernel
theorem dX5_way_61 : decode cX5_way 61 = .ok (.iload 6, 2) := by decide +kernel
theorem dX5_way_63 : decode cX5_way 63 = .ok (.iaload, 1) := by decide +kernel
theorem dX5_way_64 : decode cX5_way 64 = .ok (.invokevirtual 90, 3) := by decide +kernel
theorem dX5_way_67 : decode cX5_way 67 = .ok (.ifCond .eq 23, 3) := by decide +kernel
theorem dX5_way_70 : decode cX5_way 70 = .ok (.iload 5, 2) := by decide +kernel
theorem dX5_way_72 : decode cX5_way 72 = .ok (.iload_n 3, 1) := by decide +kernel
theorem dX5_way_73 : decode cX5_way 73 = .ok (.if_icmp .ne 14, 3) := by decide +kernel
theorem dX5_way_76 : decode cX5_way 76 = .ok (.aload_n 0, 1) := by decide +kernel
theorem dX5_way_77 : decode cX5_way 77 = .ok (.getfield 12, 3) := by decide +kernel
theorem dX5_way_80 : decode cX5_way 80 = .ok (.getfield 263, 3) := by decide +kernel
theorem dX5_way_83 : decode cX5_way 83 = .ok (.iload 6, 2) := by decide +kernel
theorem dX5_way_85 : decode cX5_way 85 = .ok (.iaload, 1) := by decide +kernel
theorem dX5_way_86 : decode cX5_way 86 = .ok (.ireturn, 1) := by decide +kernel
theorem dX5_way_87 : decode cX5_way 87 = .ok (.iinc 5 1, 3) := by decide +kernel
theorem dX5_way_90 : decode cX5_way 90 = .ok (.iinc 6 1, 3) := by decide +kernel
theorem dX5_way_93 : decode cX5_way 93 = .ok (.goto (-50), 3) := by decide +kernel
theorem dX5_way_96 : decode cX5_way 96 = .ok (.iload_n 3, 1) := by decide +kernel
theorem dX5_way_97 : decode cX5_way 97 = .ok (.iconst (-1), 1) := by decide +kernel
theorem dX5_way_98 : decode cX5_way 98 = .ok (.if_icmp .ne 8, 3) := by decide +kernel
theorem dX5_way_101 : decode cX5_way 101 = .ok (.iload 5, 2) := by decide +kernel
theorem dX5_way_103 : decode cX5_way 103 = .ok (.goto 4, 3) := by decide +kernel
theorem dX5_way_106 : decode cX5_way 106 = .ok (.iconst (-1), 1) := by decide +kernel
theorem dX5_way_107 : decode cX5_way 107 = .ok (.ireturn, 1) := by decide +kernel
theorem dX5_between_0 : decode cX5_between 0 = .ok (.aload_n 0, 1) := by decide +kernel
theorem dX5_between_1 : decode cX5_between 1 = .ok (.iload_n 1, 1) := by decide +kernel
theorem dX5_between_2 : decode cX5_between 2 = .ok (.iload_n 2, 1) := by decide +kernel
theorem dX5_between_3 : decode cX5_between 3 = .ok (.invokevirtual 51, 3) := by decide +kernel
theorem dX5_between_6 : decode cX5_between 6 = .ok (.ifCond .ne 5, 3) := by decide +kernel
theorem dX5_between_9 : decode cX5_between 9 = .ok (.iconst (-1), 1) := by decide +kernel
theorem dX5_between_10 : decode cX5_between 10 = .ok (.ireturn, 1) := by decide +kernel
theorem dX5_between_11 : decode cX5_between 11 = .ok (.aload_n 0, 1) := by decide +kernel
theorem dX5_between_12 : decode cX5_between 12 = .ok (.getfield 12, 3) := by decide +kernel
theorem dX5_between_15 : decode cX5_between 15 = .ok (.iload_n 1, 1) := by decide +kernel
theorem dX5_between_16 : decode cX5_between 16 = .ok (.iload_n 2, 1) := by decide +kernel
theorem dX5_between_17 : decode cX5_between 17 = .ok (.invokevirtual 245, 3) := by decide +kernel
theorem dX5_between_20 : decode cX5_between 20 = .ok (.istore 4, 2) := by decide +kernel
theorem dX5_between_22 : decode cX5_between 22 = .ok (.iload 4, 2) := by decide +kernel
theorem dX5_between_24 : decode cX5_between 24 = .ok (.iconst (-1), 1) := by decide +kernel
theorem dX5_between_25 : decode cX5_between 25 = .ok (.if_icmp .ne 5, 3) := by decide +kernel
theorem dX5_between_28 : decode cX5_between 28 = .ok (.iconst (-1), 1) := by decide +kernel
theorem dX5_between_29 : decode cX5_between 29 = .ok (.ireturn, 1) := by decide +kernel
theorem dX5_between_30 : decode cX5_between 30 = .ok (.iconst 0, 1) := by decide +kernel
theorem dX5_between_31 : decode cX5_between 31 = .ok (.istore 5, 2) := by decide +kernel
theorem dX5_between_33 : decode cX5_between 33 = .ok (.iconst 1, 1) := by decide +kernel
theorem dX5_between_34 : decode cX5_between 34 = .ok (.istore 6, 2) := by decide +kernel
theorem dX5_between_36 : decode cX5_between 36 = .ok (.iload 6, 2) := by decide +kernel
theorem dX5_between_38 : decode cX5_between 38 = .ok (.iload 4, 2) := by decide +kernel
theorem dX5_between_40 : decode cX5_between 40 = .ok (.if_icmp .ge 41, 3) := by decide +kernel
theorem dX5_between_43 : decode cX5_between 43 = .ok (.aload_n 0, 1) := by decide +kernel
theorem dX5_between_44 : decode cX5_between 44 = .ok (.getfield 12, 3) := by decide +kernel
theorem dX5_between_47 : decode cX5_between 47 = .ok (.iload 6, 2) := by decide +kernel
theorem dX5_between_49 : decode cX5_between 49 = .ok (.invokevirtual 266, 3) := by decide +kernel
theorem dX5_between_52 : decode cX5_between 52 = .ok (.ifCond .eq 23, 3) := by decide +kernel
theorem dX5_between_55 : decode cX5_between 55 = .ok (.iload 5, 2) := by decide +kernel
theorem dX5_between_57 : decode cX5_between 57 = .ok (.iload_n 3, 1) := by decide +kernel
theorem dX5_between_58 : decode cX5_between 58 = .ok (.if_icmp .ne 14, 3) := by decide +kernel
theorem dX5_between_61 : decode cX5_between 61 = .ok (.aload_n 0, 1) := by decide +kernel
theorem dX5_between_62 : decode cX5_between 62 = .ok (.getfield 12, 3) := by decide +kernel
theorem dX5_between_65 : decode cX5_between 65 = .ok (.getfield 269, 3) := by decide +kernel
theorem dX5_between_68 : decode cX5_between 68 = .ok (.iload 6, 2) := by decide +kernel
theorem dX5_between_70 : decode cX5_between 70 = .ok (.iaload, 1) := by decide +kernel
theorem dX5_between_71 : decode cX5_between 71 = .ok (.ireturn, 1) := by decide +kernel
theorem dX5_between_72 : decode cX5_between 72 = .ok (.iinc 5 1, 3) := by decide +kernel
theorem dX5_between_75 : decode cX5_between 75 = .ok (.iinc 6 1, 3) := by decide +kernel
theorem dX5_between_78 : decode cX5_between 78 = .ok (.goto (-42), 3) := by decide +kernel
theorem dX5_between_81 : decode cX5_between 81 = .ok (.iload_n 3, 1) := by decide +kernel
theorem dX5_between_82 : decode cX5_between 82 = .ok (.iconst (-1), 1) := by decide +kernel
theorem dX5_between_83 : decode cX5_between 83 = .ok (.if_icmp .ne 8, 3) := by decide +kernel
theorem dX5_between_86 : decode cX5_between 86 = .ok (.iload 5, 2) := by decide +kernel
theorem dX5_between_88 : decode cX5_between 88 = .ok (.goto 4, 3) := by decide +kernel
theorem dX5_between_91 : decode cX5_between 91 = .ok (.iconst (-1), 1) := by decide +kernel
theorem dX5_between_92 : decode cX5_between 92 = .ok (.ireturn, 1) := by decide +kernel
theorem dX5_would_0 : decode cX5_would 0 = .ok (.aload_n 0, 1) := by decide +kernel
theorem dX5_would_1 : decode cX5_would 1 = .ok (.iload_n 1, 1) := by decide +kernel
theorem dX5_would_2 : decode cX5_would 2 = .ok (.iload_n 2, 1) := by decide +kernel
theorem dX5_would_3 : decode cX5_would 3 = .ok (.invokevirtual 51, 3) := by decide +kernel
theorem dX5_would_6 : decode cX5_would 6 = .ok (.ifCond .ne 5, 3) := by decide +kernel
theorem dX5_would_9 : decode cX5_would 9 = .ok (.iconst (-1), 1) := by decide +kernel
theorem dX5_would_10 : decode cX5_would 10 = .ok (.ireturn, 1) := by decide +kernel
theorem dX5_would_11 : decode cX5_would 11 = .ok (.aload_n 0, 1) := by decide +kernel
theorem dX5_would_12 : decode cX5_would 12 = .ok (.getfield 12, 3) := by decide +kernel
theorem dX5_would_15 : decode cX5_would 15 = .ok (.iload_n 1, 1) := by decide +kernel
theorem dX5_would_16 : decode cX5_would 16 = .ok (.iload_n 2, 1) := by decide +kernel
theorem dX5_would_17 : decode cX5_would 17 = .ok (.invokevirtual 245, 3) := by decide +kernel
theorem dX5_would_20 : decode cX5_would 20 = .ok (.istore 4, 2) := by decide +kernel
theorem dX5_would_22 : decode cX5_would 22 = .ok (.iload_n 3, 1) := by decide +kernel
theorem dX5_would_23 : decode cX5_would 23 = .ok (.lookupswitch 63 #[(0, 25), (1, 45)], 25) := by decide +kernel
theorem dX5_would_48 : decode cX5_would 48 = .ok (.iload 4, 2) := by decide +kernel
theorem dX5_would_50 : decode cX5_would 50 = .ok (.iconst (-1), 1) := by decide +kernel
theorem dX5_would_51 : decode cX5_would 51 = .ok (.if_icmp .ne 7, 3) := by decide +kernel
theorem dX5_would_54 : decode cX5_would 54 = .ok (.iconst 0, 1) := by decide +kernel
theorem dX5_would_55 : decode cX5_would 55 = .ok (.goto 12, 3) := by decide +kernel
theorem dX5_would_58 : decode cX5_would 58 = .ok (.aload_n 0, 1) := by decide +kernel
theorem dX5_would_59 : decode cX5_would 59 = .ok (.getfield 12, 3) := by decide +kernel
theorem dX5_would_62 : decode cX5_would 62 = .ok (.iload 4, 2) := by decide +kernel
theorem dX5_would_64 : decode cX5_would 64 = .ok (.invokevirtual 272, 3) := by decide +kernel
theorem dX5_would_67 : decode cX5_would 67 = .ok (.ireturn, 1) := by decide +kernel
theorem dX5_would_68 : decode cX5_would 68 = .ok (.aload_n 0, 1) := by decide +kernel
theorem dX5_would_69 : decode cX5_would 69 = .ok (.getfield 12, 3) := by decide +kernel
theorem dX5_would_72 : decode cX5_would 72 = .ok (.getfield 118, 3) := by decide +kernel
theorem dX5_would_75 : decode cX5_would 75 = .ok (.aload_n 0, 1) := by decide +kernel
theorem dX5_would_76 : decode cX5_would 76 = .ok (.iload_n 1, 1) := by decide +kernel
theorem dX5_would_77 : decode cX5_would 77 = .ok (.iload 4, 2) := by decide +kernel
theorem dX5_would_79 : decode cX5_would 79 = .ok (.invokevirtual 275, 3) := by decide +kernel
theorem dX5_would_82 : decode cX5_would 82 = .ok (.invokevirtual 279, 3) := by decide +kernel
theorem dX5_would_85 : decode cX5_would 85 = .ok (.ireturn, 1) := by decide +kernel
theorem dX5_would_86 : decode cX5_would 86 = .ok (.iconst (-1), 1) := by decide +kernel
theorem dX5_would_87 : decode cX5_would 87 = .ok (.ireturn, 1) := by decide +kernel
theorem dX5_wouldName_0 : decode cX5_wouldName 0 = .ok (.aload_n 0, 1) := by decide +kernel
theorem dX5_wouldName_1 : decode cX5_wouldName 1 = .ok (.iload_n 1, 1) := by decide +kernel
theorem dX5_wouldName_2 : decode cX5_wouldName 2 = .ok (.iload_n 2, 1) := by decide +kernel
theorem dX5_wouldName_3 : decode cX5_wouldName 3 = .ok (.invokevirtual 51, 3) := by decide +kernel
theorem dX5_wouldName_6 : decode cX5_wouldName 6 = .ok (.ifCond .ne 5, 3) := by decide +kernel
theorem dX5_wouldName_9 : decode cX5_wouldName 9 = .ok (.iconst (-1), 1) := by decide +kernel
theorem dX5_wouldName_10 : decode cX5_wouldName 10 = .ok (.ireturn, 1) := by decide +kernel
theorem dX5_wouldName_11 : decode cX5_wouldName 11 = .ok (.iload_n 3, 1) := by decide +kernel
theorem dX5_wouldName_12 : decode cX5_wouldName 12 = .ok (.lookupswitch 95 #[(0, 28), (1, 53)], 28) := by decide +kernel
theorem dX5_wouldName_40 : decode cX5_wouldName 40 = .ok (.aload_n 0, 1) := by decide +kernel
theorem dX5_wouldName_41 : decode cX5_wouldName 41 = .ok (.getfield 12, 3) := by decide +kernel
theorem dX5_wouldName_44 : decode cX5_wouldName 44 = .ok (.getfield 118, 3) := by decide +kernel
theorem dX5_wouldName_47 : decode cX5_wouldName 47 = .ok (.aload_n 0, 1) := by decide +kernel
theorem dX5_wouldName_48 : decode cX5_wouldName 48 = .ok (.iload_n 1, 1) := by decide +kernel
theorem dX5_wouldName_49 : decode cX5_wouldName 49 = .ok (.aload_n 0, 1) := by decide +kernel
theorem dX5_wouldName_50 : decode cX5_wouldName 50 = .ok (.getfield 12, 3) := by decide +kernel
theorem dX5_wouldName_53 : decode cX5_wouldName 53 = .ok (.iload_n 1, 1) := by decide +kernel
theorem dX5_wouldName_54 : decode cX5_wouldName 54 = .ok (.iload_n 2, 1) := by decide +kernel
theorem dX5_wouldName_55 : decode cX5_wouldName 55 = .ok (.invokevirtual 245, 3) := by decide +kernel
theorem dX5_wouldName_58 : decode cX5_wouldName 58 = .ok (.invokevirtual 275, 3) := by decide +kernel
theorem dX5_wouldName_61 : decode cX5_wouldName 61 = .ok (.invokevirtual 282, 3) := by decide +kernel
theorem dX5_wouldName_64 : decode cX5_wouldName 64 = .ok (.ireturn, 1) := by decide +kernel
theorem dX5_wouldName_65 : decode cX5_wouldName 65 = .ok (.aload_n 0, 1) := by decide +kernel
theorem dX5_wouldName_66 : decode cX5_wouldName 66 = .ok (.getfield 12, 3) := by decide +kernel
theorem dX5_wouldName_69 : decode cX5_wouldName 69 = .ok (.getfield 121, 3) := by decide +kernel
theorem dX5_wouldName_72 : decode cX5_wouldName 72 = .ok (.aload_n 0, 1) := by decide +kernel
theorem dX5_wouldName_73 : decode cX5_wouldName 73 = .ok (.getfield 12, 3) := by decide +kernel
theorem dX5_wouldName_76 : decode cX5_wouldName 76 = .ok (.getfield 121, 3) := by decide +kernel
theorem dX5_wouldName_79 : decode cX5_wouldName 79 = .ok (.getfield 103, 3) := by decide +kernel
theorem dX5_wouldName_82 : decode cX5_wouldName 82 = .ok (.iload_n 1, 1) := by decide +kernel
theorem dX5_wouldName_83 : decode cX5_wouldName 83 = .ok (.iaload, 1) := by decide +kernel
theorem dX5_wouldName_84 : decode cX5_wouldName 84 = .ok (.invokestatic 285, 3) := by decide +kernel
theorem dX5_wouldName_87 : decode cX5_wouldName 87 = .ok (.aload_n 0, 1) := by decide +kernel
theorem dX5_wouldName_88 : decode cX5_wouldName 88 = .ok (.getfield 12, 3) := by decide +kernel
theorem dX5_wouldName_91 : decode cX5_wouldName 91 = .ok (.getfield 121, 3) := by decide +kernel
theorem dX5_wouldName_94 : decode cX5_wouldName 94 = .ok (.getfield 103, 3) := by decide +kernel
theorem dX5_wouldName_97 : decode cX5_wouldName 97 = .ok (.iload_n 2, 1) := by decide +kernel
theorem dX5_wouldName_98 : decode cX5_wouldName 98 = .ok (.iaload, 1) := by decide +kernel
theorem dX5_wouldName_99 : decode cX5_wouldName 99 = .ok (.invokestatic 285, 3) := by decide +kernel
theorem dX5_wouldName_102 : decode cX5_wouldName 102 = .ok (.lor, 1) := by decide +kernel
theorem dX5_wouldName_103 : decode cX5_wouldName 103 = .ok (.invokevirtual 282, 3) := by decide +kernel
theorem dX5_wouldName_106 : decode cX5_wouldName 106 = .ok (.ireturn, 1) := by decide +kernel
theorem dX5_wouldName_107 : decode cX5_wouldName 107 = .ok (.iconst (-1), 1) := by decide +kernel
theorem dX5_wouldName_108 : decode cX5_wouldName 108 = .ok (.ireturn, 1) := by decide +kernel
theorem dX5_wouldBeOne_0 : decode cX5_wouldBeOne 0 = .ok (.iload_n 2, 1) := by decide +kernel
theorem dX5_wouldBeOne_1 : decode cX5_wouldBeOne 1 = .ok (.iconst (-1), 1) := by decide +kernel
theorem dX5_wouldBeOne_2 : decode cX5_wouldBeOne 2 = .ok (.if_icmp .ne 21, 3) := by decide +kernel
theorem dX5_wouldBeOne_5 : decode cX5_wouldBeOne 5 = .ok (.aload_n 0, 1) := by decide +kernel
theorem dX5_wouldBeOne_6 : decode cX5_wouldBeOne 6 = .ok (.getfield 12, 3) := by decide +kernel
theorem dX5_wouldBeOne_9 : decode cX5_wouldBeOne 9 = .ok (.getfield 118, 3) := by decide +kernel
theorem dX5_wouldBeOne_12 : decode cX5_wouldBeOne 12 = .ok (.getfield 103, 3) := by decide +kernel
theorem dX5_wouldBeOne_15 : decode cX5_wouldBeOne 15 = .ok (.iload_n 1, 1) := by decide +kernel
theorem dX5_wouldBeOne_16 : decode cX5_wouldBeOne 16 = .ok (.iaload, 1) := by decide +kernel
theorem dX5_wouldBeOne_17 : decode cX5_wouldBeOne 17 = .ok (.invokestatic 285, 3) := by decide +kernel
theorem dX5_wouldBeOne_20 : decode cX5_wouldBeOne 20 = .ok (.goto 11, 3) := by decide +kernel
theorem dX5_wouldBeOne_23 : decode cX5_wouldBeOne 23 = .ok (.aload_n 0, 1) := by decide +kernel
theorem dX5_wouldBeOne_24 : decode cX5_wouldBeOne 24 = .ok (.getfield 12, 3) := by decide +kernel
theorem dX5_wouldBeOne_27 : decode cX5_wouldBeOne 27 = .ok (.iload_n 2, 1) := by decide +kernel
theorem dX5_wouldBeOne_28 : decode cX5_wouldBeOne 28 = .ok (.invokevirtual 289, 3) := by decide +kernel
theorem dX5_wouldBeOne_31 : decode cX5_wouldBeOne 31 = .ok (.lreturn, 1) := by decide +kernel
theorem dX5_best_0 : decode cX5_best 0 = .ok (.iconst 0, 1) := by decide +kernel
theorem dX5_best_1 : decode cX5_best 1 = .ok (.istore_n 2, 1) := by decide +kernel
theorem dX5_best_2 : decode cX5_best 2 = .ok (.iconst (-1), 1) := by decide +kernel
theorem dX5_best_3 : decode cX5_best 3 = .ok (.istore_n 3, 1) := by decide +kernel
theorem dX5_best_4 : decode cX5_best 4 = .ok (.iconst (-1), 1) := by decide +kernel
theorem dX5_best_5 : decode cX5_best 5 = .ok (.istore 4, 2) := by decide +kernel
theorem dX5_best_7 : decode cX5_best 7 = .ok (.iconst 0, 1) := by decide +kernel
theorem dX5_best_8 : decode cX5_best 8 = .ok (.istore 5, 2) := by decide +kernel
theorem dX5_best_10 : decode cX5_best 10 = .ok (.iload 5, 2) := by decide +kernel
theorem dX5_best_12 : decode cX5_best 12 = .ok (.aload_n 0, 1) := by decide +kernel
theorem dX5_best_13 : decode cX5_best 13 = .ok (.getfield 12, 3) := by decide +kernel
theorem dX5_best_16 : decode cX5_best 16 = .ok (.getfield 65, 3) := by decide +kernel
theorem dX5_best_19 : decode cX5_best 19 = .ok (.if_icmp .ge 92, 3) := by decide +kernel
theorem dX5_best_22 : decode cX5_best 22 = .ok (.aload_n 0, 1) := by decide +kernel
theorem dX5_best_23 : decode cX5_best 23 = .ok (.getfield 22, 3) := by decide +kernel
theorem dX5_best_26 : decode cX5_best 26 = .ok (.aload_n 0, 1) := by decide +kernel
theorem dX5_best_27 : decode cX5_best 27 = .ok (.getfield 12, 3) := by decide +kernel
theorem dX5_best_30 : decode cX5_best 30 = .ok (.getfield 118, 3) := by decide +kernel
theorem dX5_best_33 : decode cX5_best 33 = .ok (.getfield 103, 3) := by decide +kernel
theorem dX5_best_36 : decode cX5_best 36 = .ok (.iload 5, 2) := by decide +kernel
theorem dX5_best_38 : decode cX5_best 38 = .ok (.iaload, 1) := by decide +kernel
theorem dX5_best_39 : decode cX5_best 39 = .ok (.invokevirtual 292, 3) := by decide +kernel
theorem dX5_best_42 : decode cX5_best 42 = .ok (.iload 5, 2) := by decide +kernel
theorem dX5_best_44 : decode cX5_best 44 = .ok (.iconst 1, 1) := by decide +kernel
theorem dX5_best_45 : decode cX5_best 45 = .ok (.iadd, 1) := by decide +kernel
theorem dX5_best_46 : decode cX5_best 46 = .ok (.istore 6, 2) := by decide +kernel
theorem dX5_best_48 : decode cX5_best 48 = .ok (.iload 6, 2) := by decide +kernel
theorem dX5_best_50 : decode cX5_best 50 = .ok (.aload_n 0, 1) := by decide +kernel
theorem dX5_best_51 : decode cX5_best 51 = .ok (.getfield 12, 3) := by decide +kernel
theorem dX5_best_54 : decode cX5_best 54 = .ok (.getfield 65, 3) := by decide +kernel
theorem dX5_best_57 : decode cX5_best 57 = .ok (.if_icmp .ge 48, 3) := by decide +kernel
theorem dX5_best_60 : decode cX5_best 60 = .ok (.aload_n 0, 1) := by decide +kernel
theorem dX5_best_61 : decode cX5_best 61 = .ok (.getfield 22, 3) := by decide +kernel
theorem dX5_best_64 : decode cX5_best 64 = .ok (.getfield 295, 3) := by decide +kernel
theorem dX5_best_67 : decode cX5_best 67 = .ok (.aload_n 0, 1) := by decide +kernel
theorem dX5_best_68 : decode cX5_best 68 = .ok (.getfield 12, 3) := by decide +kernel
theorem dX5_best_71 : decode cX5_best 71 = .ok (.getfield 118, 3) := by decide +kernel
theorem dX5_best_74 : decode cX5_best 74 = .ok (.getfield 103, 3) := by decide +kernel
theorem dX5_best_77 : decode cX5_best 77 = .ok (.iload 6, 2) := by decide +kernel
theorem dX5_best_79 : decode cX5_best 79 = .ok (.iaload, 1) := by decide +kernel
theorem dX5_best_80 : decode cX5_best 80 = .ok (.iaload, 1) := by decide +kernel
theorem dX5_best_81 : decode cX5_best 81 = .ok (.istore 7, 2) := by decide +kernel
theorem dX5_best_83 : decode cX5_best 83 = .ok (.iload 7, 2) := by decide +kernel
theorem dX5_best_85 : decode cX5_best 85 = .ok (.iload_n 2, 1) := by decide +kernel
theorem dX5_best_86 : decode cX5_best 86 = .ok (.if_icmp .le 13, 3) := by decide +kernel
theorem dX5_best_89 : decode cX5_best 89 = .ok (.iload 7, 2) := by decide +kernel
theorem dX5_best_91 : decode cX5_best 91 = .ok (.istore_n 2, 1) := by decide +kernel
theorem dX5_best_92 : decode cX5_best 92 = .ok (.iload 5, 2) := by decide +kernel
theorem dX5_best_94 : decode cX5_best 94 = .ok (.istore_n 3, 1) := by decide +kernel
theorem dX5_best_95 : decode cX5_best 95 = .ok (.iload 6, 2) := by decide +kernel
theorem dX5_best_97 : decode cX5_best 97 = .ok (.istore 4, 2) := by decide +kernel
theorem dX5_best_99 : decode cX5_best 99 = .ok (.iinc 6 1, 3) := by decide +kernel
theorem dX5_best_102 : decode cX5_best 102 = .ok (.goto (-54), 3) := by decide +kernel
theorem dX5_best_105 : decode cX5_best 105 = .ok (.iinc 5 1, 3) := by decide +kernel
theorem dX5_best_108 : decode cX5_best 108 = .ok (.goto (-98), 3) := by decide +kernel
theorem dX5_best_111 : decode cX5_best 111 = .ok (.iload_n 1, 1) := by decide +kernel
theorem dX5_best_112 : decode cX5_best 112 = .ok (.tableswitch 43 0 2 #[28, 38, 40], 28) := by decide +kernel
theorem dX5_best_140 : decode cX5_best 140 = .ok (.iload_n 2, 1) := by decide +kernel
theorem dX5_best_141 : decode cX5_best 141 = .ok (.ifCond .ne 7, 3) := by decide +kernel
theorem dX5_best_144 : decode cX5_best 144 = .ok (.iconst (-1), 1) := by decide +kernel
theorem dX5_best_145 : decode cX5_best 145 = .ok (.goto 4, 3) := by decide +kernel
theorem dX5_best_148 : decode cX5_best 148 = .ok (.iload_n 2, 1) := by decide +kernel
theorem dX5_best_149 : decode cX5_best 149 = .ok (.ireturn, 1) := by decide +kernel
theorem dX5_best_150 : decode cX5_best 150 = .ok (.iload_n 3, 1) := by decide +kernel
theorem dX5_best_151 : decode cX5_best 151 = .ok (.ireturn, 1) := by decide +kernel
theorem dX5_best_152 : decode cX5_best 152 = .ok (.iload 4, 2) := by decide +kernel
theorem dX5_best_154 : decode cX5_best 154 = .ok (.ireturn, 1) := by decide +kernel
theorem dX5_best_155 : decode cX5_best 155 = .ok (.iconst (-1), 1) := by decide +kernel
theorem dX5_best_156 : decode cX5_best 156 = .ok (.ireturn, 1) := by decide +kernel
theorem dX5_worst_0 : decode cX5_worst 0 = .ok (.iconst (-1), 1) := by decide +kernel
theorem dX5_worst_1 : decode cX5_worst 1 = .ok (.istore_n 2, 1) := by decide +kernel
theorem dX5_worst_2 : decode cX5_worst 2 = .ok (.iconst (-1), 1) := by decide +kernel
theorem dX5_worst_3 : decode cX5_worst 3 = .ok (.istore_n 3, 1) := by decide +kernel
theorem dX5_worst_4 : decode cX5_worst 4 = .ok (.iconst 0, 1) := by decide +kernel
theorem dX5_worst_5 : decode cX5_worst 5 = .ok (.istore 4, 2) := by decide +kernel
theorem dX5_worst_7 : decode cX5_worst 7 = .ok (.iload 4, 2) := by decide +kernel
theorem dX5_worst_9 : decode cX5_worst 9 = .ok (.aload_n 0, 1) := by decide +kernel
theorem dX5_worst_10 : decode cX5_worst 10 = .ok (.getfield 12, 3) := by decide +kernel
theorem dX5_worst_13 : decode cX5_worst 13 = .ok (.getfield 55, 3) := by decide +kernel
theorem dX5_worst_16 : decode cX5_worst 16 = .ok (.if_icmp .ge 29, 3) := by decide +kernel
theorem dX5_worst_19 : decode cX5_worst 19 = .ok (.aload_n 0, 1) := by decide +kernel
theorem dX5_worst_20 : decode cX5_worst 20 = .ok (.iload 4, 2) := by decide +kernel
theorem dX5_worst_22 : decode cX5_worst 22 = .ok (.invokevirtual 298, 3) := by decide +kernel
theorem dX5_worst_25 : decode cX5_worst 25 = .ok (.istore 5, 2) := by decide +kernel
theorem dX5_worst_27 : decode cX5_worst 27 = .ok (.iload 5, 2) := by decide +kernel
theorem dX5_worst_29 : decode cX5_worst 29 = .ok (.iload_n 2, 1) := by decide +kernel
theorem dX5_worst_30 : decode cX5_worst 30 = .ok (.if_icmp .le 9, 3) := by decide +kernel
theorem dX5_worst_33 : decode cX5_worst 33 = .ok (.iload 5, 2) := by decide +kernel
theorem dX5_worst_35 : decode cX5_worst 35 = .ok (.istore_n 2, 1) := by decide +kernel
theorem dX5_worst_36 : decode cX5_worst 36 = .ok (.iload 4, 2) := by decide +kernel
theorem dX5_worst_38 : decode cX5_worst 38 = .ok (.istore_n 3, 1) := by decide +kernel
theorem dX5_worst_39 : decode cX5_worst 39 = .ok (.iinc 4 1, 3) := by decide +kernel
theorem dX5_worst_42 : decode cX5_worst 42 = .ok (.goto (-35), 3) := by decide +kernel
theorem dX5_worst_45 : decode cX5_worst 45 = .ok (.iload_n 1, 1) := by decide +kernel
theorem dX5_worst_46 : decode cX5_worst 46 = .ok (.lookupswitch 30 #[(0, 26), (1, 28)], 26) := by decide +kernel
theorem dX5_worst_72 : decode cX5_worst 72 = .ok (.iload_n 3, 1) := by decide +kernel
theorem dX5_worst_73 : decode cX5_worst 73 = .ok (.ireturn, 1) := by decide +kernel
theorem dX5_worst_74 : decode cX5_worst 74 = .ok (.iload_n 2, 1) := by decide +kernel
theorem dX5_worst_75 : decode cX5_worst 75 = .ok (.ireturn, 1) := by decide +kernel
theorem dX5_worst_76 : decode cX5_worst 76 = .ok (.iconst (-1), 1) := by decide +kernel
theorem dX5_worst_77 : decode cX5_worst 77 = .ok (.ireturn, 1) := by decide +kernel
theorem dX5_productOfSides_0 : decode cX5_productOfSides 0 = .ok (.aload_n 0, 1) := by decide +kernel
theorem dX5_productOfSides_1 : decode cX5_productOfSides 1 = .ok (.getfield 12, 3) := by decide +kernel
theorem dX5_productOfSides_4 : decode cX5_productOfSides 4 = .ok (.iload_n 1, 1) := by decide +kernel
theorem dX5_productOfSides_5 : decode cX5_productOfSides 5 = .ok (.invokevirtual 90, 3) := by decide +kernel
theorem dX5_productOfSides_8 : decode cX5_productOfSides 8 = .ok (.ifCond .ne 5, 3) := by decide +kernel
theorem dX5_productOfSides_11 : decode cX5_productOfSides 11 = .ok (.iconst (-1), 1) := by decide +kernel
theorem dX5_productOfSides_12 : decode cX5_productOfSides 12 = .ok (.ireturn, 1) := by decide +kernel
theorem dX5_productOfSides_13 : decode cX5_productOfSides 13 = .ok (.aload_n 0, 1) := by decide +kernel
theorem dX5_productOfSides_14 : decode cX5_productOfSides 14 = .ok (.getfield 12, 3) := by decide +kernel
theorem dX5_productOfSides_17 : decode cX5_productOfSides 17 = .ok (.getfield 83, 3) := by decide +kernel
theorem dX5_productOfSides_20 : decode cX5_productOfSides 20 = .ok (.iload_n 1, 1) := by decide +kernel
theorem dX5_productOfSides_21 : decode cX5_productOfSides 21 = .ok (.iaload, 1) := by decide +kernel
theorem dX5_productOfSides_22 : decode cX5_productOfSides 22 = .ok (.istore_n 2, 1) := by decide +kernel
theorem dX5_productOfSides_23 : decode cX5_productOfSides 23 = .ok (.aload_n 0, 1) := by decide +kernel
theorem dX5_productOfSides_24 : decode cX5_productOfSides 24 = .ok (.getfield 12, 3) := by decide +kernel
theorem dX5_productOfSides_27 : decode cX5_productOfSides 27 = .ok (.getfield 87, 3) := by decide +kernel
theorem dX5_productOfSides_30 : decode cX5_productOfSides 30 = .ok (.iload_n 1, 1) := by decide +kernel
theorem dX5_productOfSides_31 : decode cX5_productOfSides 31 = .ok (.iaload, 1) := by decide +kernel
theorem dX5_productOfSides_32 : decode cX5_productOfSides 32 = .ok (.istore_n 3, 1) := by decide +kernel
theorem dX5_productOfSides_33 : decode cX5_productOfSides 33 = .ok (.aload_n 0, 1) := by decide +kernel
theorem dX5_productOfSides_34 : decode cX5_productOfSides 34 = .ok (.iload_n 1, 1) := by decide +kernel
theorem dX5_productOfSides_35 : decode cX5_productOfSides 35 = .ok (.iload_n 2, 1) := by decide +kernel
theorem dX5_productOfSides_36 : decode cX5_productOfSides 36 = .ok (.iload_n 3, 1) := by decide +kernel
theorem dX5_productOfSides_37 : decode cX5_productOfSides 37 = .ok (.invokevirtual 108, 3) := by decide +kernel
theorem dX5_productOfSides_40 : decode cX5_productOfSides 40 = .ok (.aload_n 0, 1) := by decide +kernel
theorem dX5_productOfSides_41 : decode cX5_productOfSides 41 = .ok (.iload_n 1, 1) := by decide +kernel
theorem dX5_productOfSides_42 : decode cX5_productOfSides 42 = .ok (.iload_n 3, 1) := by decide +kernel
theorem dX5_productOfSides_43 : decode cX5_productOfSides 43 = .ok (.iload_n 2, 1) := by decide +kernel
theorem dX5_productOfSides_44 : decode cX5_productOfSides 44 = .ok (.invokevirtual 108, 3) := by decide +kernel
theorem dX5_productOfSides_47 : decode cX5_productOfSides 47 = .ok (.imul, 1) := by decide +kernel
theorem dX5_productOfSides_48 : decode cX5_productOfSides 48 = .ok (.ireturn, 1) := by decide +kernel
theorem dX5_part_0 : decode cX5_part 0 = .ok (.iload_n 1, 1) := by decide +kernel
theorem dX5_part_1 : decode cX5_part 1 = .ok (.ifCond .lt 14, 3) := by decide +kernel
theorem dX5_part_4 : decode cX5_part 4 = .ok (.iload_n 1, 1) := by decide +kernel
theorem dX5_part_5 : decode cX5_part 5 = .ok (.aload_n 0, 1) := by decide +kernel
theorem dX5_part_6 : decode cX5_part 6 = .ok (.getfield 29, 3) := by decide +kernel
theorem dX5_part_9 : decode cX5_part 9 = .ok (.getfield 301, 3) := by decide +kernel
theorem dX5_part_12 : decode cX5_part 12 = .ok (.if_icmp .lt 5, 3) := by decide +kernel
theorem dX5_part_15 : decode cX5_part 15 = .ok (.iconst (-1), 1) := by decide +kernel
theorem dX5_part_16 : decode cX5_part 16 = .ok (.ireturn, 1) := by decide +kernel
theorem dX5_part_17 : decode cX5_part 17 = .ok (.iload_n 2, 1) := by decide +kernel
theorem dX5_part_18 : decode cX5_part 18 = .ok (.tableswitch 74 0 2 #[26, 47, 64], 26) := by decide +kernel
theorem dX5_part_44 : decode cX5_part 44 = .ok (.aload_n 0, 1) := by decide +kernel
theorem dX5_part_45 : decode cX5_part 45 = .ok (.getfield 12, 3) := by decide +kernel
theorem dX5_part_48 : decode cX5_part 48 = .ok (.getfield 99, 3) := by decide +kernel
theorem dX5_part_51 : decode cX5_part 51 = .ok (.getfield 124, 3) := by decide +kernel
theorem dX5_part_54 : decode cX5_part 54 = .ok (.aload_n 0, 1) := by decide +kernel
theorem dX5_part_55 : decode cX5_part 55 = .ok (.getfield 29, 3) := by decide +kernel
theorem dX5_part_58 : decode cX5_part 58 = .ok (.getfield 304, 3) := by decide +kernel
theorem dX5_part_61 : decode cX5_part 61 = .ok (.iload_n 1, 1) := by decide +kernel
theorem dX5_part_62 : decode cX5_part 62 = .ok (.iaload, 1) := by decide +kernel
theorem dX5_part_63 : decode cX5_part 63 = .ok (.iaload, 1) := by decide +kernel
theorem dX5_part_64 : decode cX5_part 64 = .ok (.ireturn, 1) := by decide +kernel
theorem dX5_part_65 : decode cX5_part 65 = .ok (.aload_n 0, 1) := by decide +kernel
theorem dX5_part_66 : decode cX5_part 66 = .ok (.getfield 29, 3) := by decide +kernel
theorem dX5_part_69 : decode cX5_part 69 = .ok (.aload_n 0, 1) := by decide +kernel
theorem dX5_part_70 : decode cX5_part 70 = .ok (.getfield 29, 3) := by decide +kernel
theorem dX5_part_73 : decode cX5_part 73 = .ok (.getfield 304, 3) := by decide +kernel
theorem dX5_part_76 : decode cX5_part 76 = .ok (.iload_n 1, 1) := by decide +kernel
theorem dX5_part_77 : decode cX5_part 77 = .ok (.iaload, 1) := by decide +kernel
theorem dX5_part_78 : decode cX5_part 78 = .ok (.invokevirtual 307, 3) := by decide +kernel
theorem dX5_part_81 : decode cX5_part 81 = .ok (.ireturn, 1) := by decide +kernel
theorem dX5_part_82 : decode cX5_part 82 = .ok (.aload_n 0, 1) := by decide +kernel
theorem dX5_part_83 : decode cX5_part 83 = .ok (.getfield 29, 3) := by decide +kernel
theorem dX5_part_86 : decode cX5_part 86 = .ok (.getfield 310, 3) := by decide +kernel
theorem dX5_part_89 : decode cX5_part 89 = .ok (.iload_n 1, 1) := by decide +kernel
theorem dX5_part_90 : decode cX5_part 90 = .ok (.iaload, 1) := by decide +kernel
theorem dX5_part_91 : decode cX5_part 91 = .ok (.ireturn, 1) := by decide +kernel
theorem dX5_part_92 : decode cX5_part 92 = .ok (.iconst (-1), 1) := by decide +kernel
theorem dX5_part_93 : decode cX5_part 93 = .ok (.ireturn, 1) := by decide +kernel
theorem dX5_without_0 : decode cX5_without 0 = .ok (.iload_n 1, 1) := by decide +kernel
theorem dX5_without_1 : decode cX5_without 1 = .ok (.ifCond .ne 15, 3) := by decide +kernel
theorem dX5_without_4 : decode cX5_without 4 = .ok (.aload_n 0, 1) := by decide +kernel
theorem dX5_without_5 : decode cX5_without 5 = .ok (.iload_n 2, 1) := by decide +kernel
theorem dX5_without_6 : decode cX5_without 6 = .ok (.invokevirtual 79, 3) := by decide +kernel
theorem dX5_without_9 : decode cX5_without 9 = .ok (.ifCond .eq 7, 3) := by decide +kernel
theorem dX5_without_12 : decode cX5_without 12 = .ok (.iconst 1, 1) := by decide +kernel
theorem dX5_without_13 : decode cX5_without 13 = .ok (.goto 4, 3) := by decide +kernel
theorem dX5_without_16 : decode cX5_without 16 = .ok (.iconst 0, 1) := by decide +kernel
theorem dX5_without_17 : decode cX5_without 17 = .ok (.istore 4, 2) := by decide +kernel
theorem dX5_without_19 : decode cX5_without 19 = .ok (.iload_n 1, 1) := by decide +kernel
theorem dX5_without_20 : decode cX5_without 20 = .ok (.iconst 1, 1) := by decide +kernel
theorem dX5_without_21 : decode cX5_without 21 = .ok (.if_icmp .ne 15, 3) := by decide +kernel
theorem dX5_without_24 : decode cX5_without 24 = .ok (.aload_n 0, 1) := by decide +kernel
theorem dX5_without_25 : decode cX5_without 25 = .ok (.iload_n 2, 1) := by decide +kernel
theorem dX5_without_26 : decode cX5_without 26 = .ok (.invokevirtual 127, 3) := by decide +kernel
theorem dX5_without_29 : decode cX5_without 29 = .ok (.ifCond .eq 7, 3) := by decide +kernel
theorem dX5_without_32 : decode cX5_without 32 = .ok (.iconst 1, 1) := by decide +kernel
theorem dX5_without_33 : decode cX5_without 33 = .ok (.goto 4, 3) := by decide +kernel
theorem dX5_without_36 : decode cX5_without 36 = .ok (.iconst 0, 1) := by decide +kernel
theorem dX5_without_37 : decode cX5_without 37 = .ok (.istore 5, 2) := by decide +kernel
theorem dX5_without_39 : decode cX5_without 39 = .ok (.iload 4, 2) := by decide +kernel
theorem dX5_without_41 : decode cX5_without 41 = .ok (.ifCond .ne 8, 3) := by decide +kernel
theorem dX5_without_44 : decode cX5_without 44 = .ok (.iload 5, 2) := by decide +kernel
theorem dX5_without_46 : decode cX5_without 46 = .ok (.ifCond .eq 12, 3) := by decide +kernel
theorem dX5_without_49 : decode cX5_without 49 = .ok (.iload_n 3, 1) := by decide +kernel
theorem dX5_without_50 : decode cX5_without 50 = .ok (.ifCond .lt 8, 3) := by decide +kernel
theorem dX5_without_53 : decode cX5_without 53 = .ok (.iload_n 3, 1) := by decide +kernel
theorem dX5_without_54 : decode cX5_without 54 = .ok (.iconst 3, 1) := by decide +kernel
theorem dX5_without_55 : decode cX5_without 55 = .ok (.if_icmp .le 5, 3) := by decide +kernel
theorem dX5_without_58 : decode cX5_without 58 = .ok (.iconst (-1), 1) := by decide +kernel
theorem dX5_without_59 : decode cX5_without 59 = .ok (.ireturn, 1) := by decide +kernel
theorem dX5_without_60 : decode cX5_without 60 = .ok (.aload_n 0, 1) := by decide +kernel
theorem dX5_without_61 : decode cX5_without 61 = .ok (.getfield 16, 3) := by decide +kernel
theorem dX5_without_64 : decode cX5_without 64 = .ok (.aload_n 0, 1) := by decide +kernel
theorem dX5_without_65 : decode cX5_without 65 = .ok (.getfield 12, 3) := by decide +kernel
theorem dX5_without_68 : decode cX5_without 68 = .ok (.getfield 65, 3) := by decide +kernel
theorem dX5_without_71 : decode cX5_without 71 = .ok (.invokevirtual 44, 3) := by decide +kernel
theorem dX5_without_74 : decode cX5_without 74 = .ok (.iconst 0, 1) := by decide +kernel
theorem dX5_without_75 : decode cX5_without 75 = .ok (.istore 6, 2) := by decide +kernel
theorem dX5_without_77 : decode cX5_without 77 = .ok (.iload 6, 2) := by decide +kernel
theorem dX5_without_79 : decode cX5_without 79 = .ok (.aload_n 0, 1) := by decide +kernel
theorem dX5_without_80 : decode cX5_without 80 = .ok (.getfield 12, 3) := by decide +kernel
theorem dX5_without_83 : decode cX5_without 83 = .ok (.getfield 55, 3) := by decide +kernel
theorem dX5_without_86 : decode cX5_without 86 = .ok (.if_icmp .ge 64, 3) := by decide +kernel
theorem dX5_without_89 : decode cX5_without 89 = .ok (.iload 4, 2) := by decide +kernel
theorem dX5_without_91 : decode cX5_without 91 = .ok (.ifCond .eq 12, 3) := by decide +kernel
theorem dX5_without_94 : decode cX5_without 94 = .ok (.iload 6, 2) := by decide +kernel
theorem dX5_without_96 : decode cX5_without 96 = .ok (.iload_n 2, 1) := by decide +kernel
theorem dX5_without_97 : decode cX5_without 97 = .ok (.if_icmp .eq 47, 3) := by decide +kernel
theorem dX5_without_100 : decode cX5_without 100 = .ok (.goto 16, 3) := by decide +kernel
theorem dX5_without_103 : decode cX5_without 103 = .ok (.aload_n 0, 1) := by decide +kernel
theorem dX5_without_104 : decode cX5_without 104 = .ok (.getfield 12, 3) := by decide +kernel
theorem dX5_without_107 : decode cX5_without 107 = .ok (.iload 6, 2) := by decide +kernel
theorem dX5_without_109 : decode cX5_without 109 = .ok (.iload_n 2, 1) := by decide +kernel
theorem dX5_without_110 : decode cX5_without 110 = .ok (.invokevirtual 313, 3) := by decide +kernel
theorem dX5_without_113 : decode cX5_without 113 = .ok (.ifCond .ne 31, 3) := by decide +kernel
theorem dX5_without_116 : decode cX5_without 116 = .ok (.aload_n 0, 1) := by decide +kernel
theorem dX5_without_117 : decode cX5_without 117 = .ok (.getfield 16, 3) := by decide +kernel
theorem dX5_without_120 : decode cX5_without 120 = .ok (.aload_n 0, 1) := by decide +kernel
theorem dX5_without_121 : decode cX5_without 121 = .ok (.getfield 12, 3) := by decide +kernel
theorem dX5_without_124 : decode cX5_without 124 = .ok (.getfield 83, 3) := by decide +kernel
theorem dX5_without_127 : decode cX5_without 127 = .ok (.iload 6, 2) := by decide +kernel
theorem dX5_without_129 : decode cX5_without 129 = .ok (.iaload, 1) := by decide +kernel
theorem dX5_without_130 : decode cX5_without 130 = .ok (.aload_n 0, 1) := by decide +kernel
theorem dX5_without_131 : decode cX5_without 131 = .ok (.getfield 12, 3) := by decide +kernel
theorem dX5_without_134 : decode cX5_without 134 = .ok (.getfield 87, 3) := by decide +kernel
theorem dX5_without_137 : decode cX5_without 137 = .ok (.iload 6, 2) := by decide +kernel
theorem dX5_without_139 : decode cX5_without 139 = .ok (.iaload, 1) := by decide +kernel
theorem dX5_without_140 : decode cX5_without 140 = .ok (.invokevirtual 58, 3) := by decide +kernel
theorem dX5_without_143 : decode cX5_without 143 = .ok (.pop, 1) := by decide +kernel
theorem dX5_without_144 : decode cX5_without 144 = .ok (.iinc 6 1, 3) := by decide +kernel
theorem dX5_without_147 : decode cX5_without 147 = .ok (.goto (-70), 3) := by decide +kernel
theorem dX5_without_150 : decode cX5_without 150 = .ok (.iload_n 3, 1) := by decide +kernel
theorem dX5_without_151 : decode cX5_without 151 = .ok (.tableswitch 62 0 2 #[25, 36, 47], 25) := by decide +kernel
theorem dX5_without_176 : decode cX5_without 176 = .ok (.aload_n 0, 1) := by decide +kernel
theorem dX5_without_177 : decode cX5_without 177 = .ok (.getfield 16, 3) := by decide +kernel
theorem dX5_without_180 : decode cX5_without 180 = .ok (.getfield 121, 3) := by decide +kernel
theorem dX5_without_183 : decode cX5_without 183 = .ok (.getfield 316, 3) := by decide +kernel
theorem dX5_without_186 : decode cX5_without 186 = .ok (.ireturn, 1) := by decide +kernel
theorem dX5_without_187 : decode cX5_without 187 = .ok (.aload_n 0, 1) := by decide +kernel
theorem dX5_without_188 : decode cX5_without 188 = .ok (.getfield 16, 3) := by decide +kernel
theorem dX5_without_191 : decode cX5_without 191 = .ok (.getfield 118, 3) := by decide +kernel
theorem dX5_without_194 : decode cX5_without 194 = .ok (.getfield 316, 3) := by decide +kernel
theorem dX5_without_197 : decode cX5_without 197 = .ok (.ireturn, 1) := by decide +kernel
theorem dX5_without_198 : decode cX5_without 198 = .ok (.aload_n 0, 1) := by decide +kernel
theorem dX5_without_199 : decode cX5_without 199 = .ok (.getfield 16, 3) := by decide +kernel
theorem dX5_without_202 : decode cX5_without 202 = .ok (.aload_n 0, 1) := by decide +kernel
theorem dX5_without_203 : decode cX5_without 203 = .ok (.getfield 16, 3) := by decide +kernel
theorem dX5_without_206 : decode cX5_without 206 = .ok (.getfield 55, 3) := by decide +kernel
theorem dX5_without_209 : decode cX5_without 209 = .ok (.invokevirtual 257, 3) := by decide +kernel
theorem dX5_without_212 : decode cX5_without 212 = .ok (.ireturn, 1) := by decide +kernel
theorem dX5_without_213 : decode cX5_without 213 = .ok (.aload_n 0, 1) := by decide +kernel
theorem dX5_without_214 : decode cX5_without 214 = .ok (.getfield 16, 3) := by decide +kernel
theorem dX5_without_217 : decode cX5_without 217 = .ok (.getfield 99, 3) := by decide +kernel
theorem dX5_without_220 : decode cX5_without 220 = .ok (.getfield 316, 3) := by decide +kernel
theorem dX5_without_223 : decode cX5_without 223 = .ok (.ireturn, 1) := by decide +kernel
theorem dX5_ring_0 : decode cX5_ring 0 = .ok (.aload_n 0, 1) := by decide +kernel
theorem dX5_ring_1 : decode cX5_ring 1 = .ok (.iload_n 1, 1) := by decide +kernel
theorem dX5_ring_2 : decode cX5_ring 2 = .ok (.invokevirtual 79, 3) := by decide +kernel
theorem dX5_ring_5 : decode cX5_ring 5 = .ok (.ifCond .eq 14, 3) := by decide +kernel
theorem dX5_ring_8 : decode cX5_ring 8 = .ok (.aload_n 0, 1) := by decide +kernel
theorem dX5_ring_9 : decode cX5_ring 9 = .ok (.getfield 12, 3) := by decide +kernel
theorem dX5_ring_12 : decode cX5_ring 12 = .ok (.iload_n 1, 1) := by decide +kernel
theorem dX5_ring_13 : decode cX5_ring 13 = .ok (.invokevirtual 90, 3) := by decide +kernel
theorem dX5_ring_16 : decode cX5_ring 16 = .ok (.ifCond .eq 5, 3) := by decide +kernel
theorem dX5_ring_19 : decode cX5_ring 19 = .ok (.iconst (-1), 1) := by decide +kernel
theorem dX5_ring_20 : decode cX5_ring 20 = .ok (.ireturn, 1) := by decide +kernel
theorem dX5_ring_21 : decode cX5_ring 21 = .ok (.aload_n 0, 1) := by decide +kernel
theorem dX5_ring_22 : decode cX5_ring 22 = .ok (.getfield 36, 3) := by decide +kernel
theorem dX5_ring_25 : decode cX5_ring 25 = .ok (.aload_n 0, 1) := by decide +kernel
theorem dX5_ring_26 : decode cX5_ring 26 = .ok (.getfield 12, 3) := by decide +kernel
theorem dX5_ring_29 : decode cX5_ring 29 = .ok (.iload_n 1, 1) := by decide +kernel
theorem dX5_ring_30 : decode cX5_ring 30 = .ok (.invokevirtual 319, 3) := by decide +kernel
theorem dX5_ring_33 : decode cX5_ring 33 = .ok (.istore_n 3, 1) := by decide +kernel
theorem dX5_ring_34 : decode cX5_ring 34 = .ok (.iload_n 2, 1) := by decide +kernel
theorem dX5_ring_35 : decode cX5_ring 35 = .ok (.iconst (-1), 1) := by decide +kernel
theorem dX5_ring_36 : decode cX5_ring 36 = .ok (.if_icmp .ne 5, 3) := by decide +kernel
theorem dX5_ring_39 : decode cX5_ring 39 = .ok (.iload_n 3, 1) := by decide +kernel
theorem dX5_ring_40 : decode cX5_ring 40 = .ok (.ireturn, 1) := by decide +kernel
theorem dX5_ring_41 : decode cX5_ring 41 = .ok (.iload_n 2, 1) := by decide +kernel
theorem dX5_ring_42 : decode cX5_ring 42 = .ok (.ifCond .lt 8, 3) := by decide +kernel
theorem dX5_ring_45 : decode cX5_ring 45 = .ok (.iload_n 2, 1) := by decide +kernel
theorem dX5_ring_46 : decode cX5_ring 46 = .ok (.iload_n 3, 1) := by decide +kernel
theorem dX5_ring_47 : decode cX5_ring 47 = .ok (.if_icmp .lt 7, 3) := by decide +kernel
theorem dX5_ring_50 : decode cX5_ring 50 = .ok (.iconst (-1), 1) := by decide +kernel
theorem dX5_ring_51 : decode cX5_ring 51 = .ok (.goto 16, 3) := by decide +kernel
theorem dX5_ring_54 : decode cX5_ring 54 = .ok (.aload_n 0, 1) := by decide +kernel
theorem dX5_ring_55 : decode cX5_ring 55 = .ok (.getfield 36, 3) := by decide +kernel
theorem dX5_ring_58 : decode cX5_ring 58 = .ok (.aload_n 0, 1) := by decide +kernel
theorem dX5_ring_59 : decode cX5_ring 59 = .ok (.getfield 12, 3) := by decide +kernel
theorem dX5_ring_62 : decode cX5_ring 62 = .ok (.iload_n 1, 1) := by decide +kernel
theorem dX5_ring_63 : decode cX5_ring 63 = .ok (.iload_n 2, 1) := by decide +kernel
theorem dX5_ring_64 : decode cX5_ring 64 = .ok (.invokevirtual 322, 3) := by decide +kernel
theorem dX5_ring_67 : decode cX5_ring 67 = .ok (.ireturn, 1) := by decide +kernel
theorem dX5_look_0 : decode cX5_look 0 = .ok (.iload_n 1, 1) := by decide +kernel
theorem dX5_look_1 : decode cX5_look 1 = .ok (.tableswitch 183 0 11 #[63, 71, 79, 94, 105, 116, 127, 135, 157, 162, 167, 175], 63) := by decide +kernel
theorem dX5_look_64 : decode cX5_look 64 = .ok (.aload_n 0, 1) := by decide +kernel
theorem dX5_look_65 : decode cX5_look 65 = .ok (.getfield 12, 3) := by decide +kernel
theorem dX5_look_68 : decode cX5_look 68 = .ok (.getfield 65, 3) := by decide +kernel
theorem dX5_look_71 : decode cX5_look 71 = .ok (.ireturn, 1) := by decide +kernel
theorem dX5_look_72 : decode cX5_look 72 = .ok (.aload_n 0, 1) := by decide +kernel
theorem dX5_look_73 : decode cX5_look 73 = .ok (.getfield 12, 3) := by decide +kernel
theorem dX5_look_76 : decode cX5_look 76 = .ok (.getfield 55, 3) := by decide +kernel
theorem dX5_look_79 : decode cX5_look 79 = .ok (.ireturn, 1) := by decide +kernel
theorem dX5_look_80 : decode cX5_look 80 = .ok (.aload_n 0, 1) := by decide +kernel
theorem dX5_look_81 : decode cX5_look 81 = .ok (.getfield 12, 3) := by decide +kernel
theorem dX5_look_84 : decode cX5_look 84 = .ok (.aload_n 0, 1) := by decide +kernel
theorem dX5_look_85 : decode cX5_look 85 = .ok (.getfield 12, 3) := by decide +kernel
theorem dX5_look_88 : decode cX5_look 88 = .ok (.getfield 55, 3) := by decide +kernel
theorem dX5_look_91 : decode cX5_look 91 = .ok (.invokevirtual 257, 3) := by decide +kernel
theorem dX5_look_94 : decode cX5_look 94 = .ok (.ireturn, 1) := by decide +kernel
theorem dX5_look_95 : decode cX5_look 95 = .ok (.aload_n 0, 1) := by decide +kernel
theorem dX5_look_96 : decode cX5_look 96 = .ok (.getfield 12, 3) := by decide +kernel
theorem dX5_look_99 : decode cX5_look 99 = .ok (.getfield 118, 3) := by decide +kernel
theorem dX5_look_102 : decode cX5_look 102 = .ok (.getfield 316, 3) := by decide +kernel
theorem dX5_look_105 : decode cX5_look 105 = .ok (.ireturn, 1) := by decide +kernel
theorem dX5_look_106 : decode cX5_look 106 = .ok (.aload_n 0, 1) := by decide +kernel
theorem dX5_look_107 : decode cX5_look 107 = .ok (.getfield 12, 3) := by decide +kernel
theorem dX5_look_110 : decode cX5_look 110 = .ok (.getfield 121, 3) := by decide +kernel
theorem dX5_look_113 : decode cX5_look 113 = .ok (.getfield 316, 3) := by decide +kernel
theorem dX5_look_116 : decode cX5_look 116 = .ok (.ireturn, 1) := by decide +kernel
theorem dX5_look_117 : decode cX5_look 117 = .ok (.aload_n 0, 1) := by decide +kernel
theorem dX5_look_118 : decode cX5_look 118 = .ok (.getfield 12, 3) := by decide +kernel
theorem dX5_look_121 : decode cX5_look 121 = .ok (.getfield 99, 3) := by decide +kernel
theorem dX5_look_124 : decode cX5_look 124 = .ok (.getfield 316, 3) := by decide +kernel
theorem dX5_look_127 : decode cX5_look 127 = .ok (.ireturn, 1) := by decide +kernel
theorem dX5_look_128 : decode cX5_look 128 = .ok (.aload_n 0, 1) := by decide +kernel
theorem dX5_look_129 : decode cX5_look 129 = .ok (.getfield 29, 3) := by decide +kernel
theorem dX5_look_132 : decode cX5_look 132 = .ok (.invokevirtual 326, 3) := by decide +kernel
theorem dX5_look_135 : decode cX5_look 135 = .ok (.ireturn, 1) := by decide +kernel
theorem dX5_look_136 : decode cX5_look 136 = .ok (.aload_n 0, 1) := by decide +kernel
theorem dX5_look_137 : decode cX5_look 137 = .ok (.getfield 12, 3) := by decide +kernel
theorem dX5_look_140 : decode cX5_look 140 = .ok (.getfield 121, 3) := by decide +kernel
theorem dX5_look_143 : decode cX5_look 143 = .ok (.invokevirtual 330, 3) := by decide +kernel
theorem dX5_look_146 : decode cX5_look 146 = .ok (.aload_n 0, 1) := by decide +kernel
theorem dX5_look_147 : decode cX5_look 147 = .ok (.getfield 12, 3) := by decide +kernel
theorem dX5_look_150 : decode cX5_look 150 = .ok (.getfield 118, 3) := by decide +kernel
theorem dX5_look_153 : decode cX5_look 153 = .ok (.invokevirtual 330, 3) := by decide +kernel
theorem dX5_look_156 : decode cX5_look 156 = .ok (.isub, 1) := by decide +kernel
theorem dX5_look_157 : decode cX5_look 157 = .ok (.ireturn, 1) := by decide +kernel
theorem dX5_look_158 : decode cX5_look 158 = .ok (.aload_n 0, 1) := by decide +kernel
theorem dX5_look_159 : decode cX5_look 159 = .ok (.invokevirtual 333, 3) := by decide +kernel
theorem dX5_look_162 : decode cX5_look 162 = .ok (.ireturn, 1) := by decide +kernel
theorem dX5_look_163 : decode cX5_look 163 = .ok (.aload_n 0, 1) := by decide +kernel
theorem dX5_look_164 : decode cX5_look 164 = .ok (.getfield 40, 3) := by decide +kernel
theorem dX5_look_167 : decode cX5_look 167 = .ok (.ireturn, 1) := by decide +kernel
theorem dX5_look_168 : decode cX5_look 168 = .ok (.aload_n 0, 1) := by decide +kernel
theorem dX5_look_169 : decode cX5_look 169 = .ok (.getfield 29, 3) := by decide +kernel
theorem dX5_look_172 : decode cX5_look 172 = .ok (.invokevirtual 336, 3) := by decide +kernel
theorem dX5_look_175 : decode cX5_look 175 = .ok (.ireturn, 1) := by decide +kernel
theorem dX5_look_176 : decode cX5_look 176 = .ok (.aload_n 0, 1) := by decide +kernel
theorem dX5_look_177 : decode cX5_look 177 = .ok (.getfield 22, 3) := by decide +kernel
theorem dX5_look_180 : decode cX5_look 180 = .ok (.invokevirtual 339, 3) := by decide +kernel
theorem dX5_look_183 : decode cX5_look 183 = .ok (.ireturn, 1) := by decide +kernel
theorem dX5_look_184 : decode cX5_look 184 = .ok (.bipush (-10), 2) := by decide +kernel
theorem dX5_look_186 : decode cX5_look 186 = .ok (.ireturn, 1) := by decide +kernel
theorem dX5_mendOfAll_0 : decode cX5_mendOfAll 0 = .ok (.iconst 0, 1) := by decide +kernel
theorem dX5_mendOfAll_1 : decode cX5_mendOfAll 1 = .ok (.istore_n 1, 1) := by decide +kernel
theorem dX5_mendOfAll_2 : decode cX5_mendOfAll 2 = .ok (.iconst 0, 1) := by decide +kernel
theorem dX5_mendOfAll_3 : decode cX5_mendOfAll 3 = .ok (.istore_n 2, 1) := by decide +kernel
theorem dX5_mendOfAll_4 : decode cX5_mendOfAll 4 = .ok (.iload_n 2, 1) := by decide +kernel
theorem dX5_mendOfAll_5 : decode cX5_mendOfAll 5 = .ok (.aload_n 0, 1) := by decide +kernel
theorem dX5_mendOfAll_6 : decode cX5_mendOfAll 6 = .ok (.getfield 12, 3) := by decide +kernel
theorem dX5_mendOfAll_9 : decode cX5_mendOfAll 9 = .ok (.getfield 65, 3) := by decide +kernel
theorem dX5_mendOfAll_12 : decode cX5_mendOfAll 12 = .ok (.if_icmp .ge 31, 3) := by decide +kernel
theorem dX5_mendOfAll_15 : decode cX5_mendOfAll 15 = .ok (.aload_n 0, 1) := by decide +kernel
theorem dX5_mendOfAll_16 : decode cX5_mendOfAll 16 = .ok (.getfield 12, 3) := by decide +kernel
theorem dX5_mendOfAll_19 : decode cX5_mendOfAll 19 = .ok (.getfield 121, 3) := by decide +kernel
theorem dX5_mendOfAll_22 : decode cX5_mendOfAll 22 = .ok (.iload_n 2, 1) := by decide +kernel
theorem dX5_mendOfAll_23 : decode cX5_mendOfAll 23 = .ok (.invokevirtual 152, 3) := by decide +kernel
theorem dX5_mendOfAll_26 : decode cX5_mendOfAll 26 = .ok (.ifCond .eq 11, 3) := by decide +kernel
theorem dX5_mendOfAll_29 : decode cX5_mendOfAll 29 = .ok (.iload_n 1, 1) := by decide +kernel
theorem dX5_mendOfAll_30 : decode cX5_mendOfAll 30 = .ok (.aload_n 0, 1) := by decide +kernel
theorem dX5_mendOfAll_31 : decode cX5_mendOfAll 31 = .ok (.iload_n 2, 1) := by decide +kernel
theorem dX5_mendOfAll_32 : decode cX5_mendOfAll 32 = .ok (.invokevirtual 194, 3) := by decide +kernel
theorem dX5_mendOfAll_35 : decode cX5_mendOfAll 35 = .ok (.iadd, 1) := by decide +kernel
theorem dX5_mendOfAll_36 : decode cX5_mendOfAll 36 = .ok (.istore_n 1, 1) := by decide +kernel
theorem dX5_mendOfAll_37 : decode cX5_mendOfAll 37 = .ok (.iinc 2 1, 3) := by decide +kernel
theorem dX5_mendOfAll_40 : decode cX5_mendOfAll 40 = .ok (.goto (-36), 3) := by decide +kernel
theorem dX5_mendOfAll_43 : decode cX5_mendOfAll 43 = .ok (.iload_n 1, 1) := by decide +kernel
theorem dX5_mendOfAll_44 : decode cX5_mendOfAll 44 = .ok (.ireturn, 1) := by decide +kernel
theorem dX5_isNode_0 : decode cX5_isNode 0 = .ok (.iload_n 1, 1) := by decide +kernel
theorem dX5_isNode_1 : decode cX5_isNode 1 = .ok (.ifCond .lt 18, 3) := by decide +kernel
theorem dX5_isNode_4 : decode cX5_isNode 4 = .ok (.iload_n 1, 1) := by decide +kernel
theorem dX5_isNode_5 : decode cX5_isNode 5 = .ok (.aload_n 0, 1) := by decide +kernel
theorem dX5_isNode_6 : decode cX5_isNode 6 = .ok (.getfield 12, 3) := by decide +kernel
theorem dX5_isNode_9 : decode cX5_isNode 9 = .ok (.getfield 65, 3) := by decide +kernel
theorem dX5_isNode_12 : decode cX5_isNode 12 = .ok (.if_icmp .ge 7, 3) := by decide +kernel
theorem dX5_isNode_15 : decode cX5_isNode 15 = .ok (.iconst 1, 1) := by decide +kernel
theorem dX5_isNode_16 : decode cX5_isNode 16 = .ok (.goto 4, 3) := by decide +kernel
theorem dX5_isNode_19 : decode cX5_isNode 19 = .ok (.iconst 0, 1) := by decide +kernel
theorem dX5_isNode_20 : decode cX5_isNode 20 = .ok (.ireturn, 1) := by decide +kernel
theorem dX5_isLink_0 : decode cX5_isLink 0 = .ok (.iload_n 1, 1) := by decide +kernel
theorem dX5_isLink_1 : decode cX5_isLink 1 = .ok (.ifCond .lt 18, 3) := by decide +kernel
theorem dX5_isLink_4 : decode cX5_isLink 4 = .ok (.iload_n 1, 1) := by decide +kernel
theorem dX5_isLink_5 : decode cX5_isLink 5 = .ok (.aload_n 0, 1) := by decide +kernel
theorem dX5_isLink_6 : decode cX5_isLink 6 = .ok (.getfield 12, 3) := by decide +kernel
theorem dX5_isLink_9 : decode cX5_isLink 9 = .ok (.getfield 55, 3) := by decide +kernel
theorem dX5_isLink_12 : decode cX5_isLink 12 = .ok (.if_icmp .ge 7, 3) := by decide +kernel
theorem dX5_isLink_15 : decode cX5_isLink 15 = .ok (.iconst 1, 1) := by decide +kernel
theorem dX5_isLink_16 : decode cX5_isLink 16 = .ok (.goto 4, 3) := by decide +kernel
theorem dX5_isLink_19 : decode cX5_isLink 19 = .ok (.iconst 0, 1) := by decide +kernel
theorem dX5_isLink_20 : decode cX5_isLink 20 = .ok (.ireturn, 1) := by decide +kernel
theorem dX5_areTwoNodes_0 : decode cX5_areTwoNodes 0 = .ok (.aload_n 0, 1) := by decide +kernel
theorem dX5_areTwoNodes_1 : decode cX5_areTwoNodes 1 = .ok (.iload_n 1, 1) := by decide +kernel
theorem dX5_areTwoNodes_2 : decode cX5_areTwoNodes 2 = .ok (.invokevirtual 127, 3) := by decide +kernel
theorem dX5_areTwoNodes_5 : decode cX5_areTwoNodes 5 = .ok (.ifCond .eq 20, 3) := by decide +kernel
theorem dX5_areTwoNodes_8 : decode cX5_areTwoNodes 8 = .ok (.aload_n 0, 1) := by decide +kernel
theorem dX5_areTwoNodes_9 : decode cX5_areTwoNodes 9 = .ok (.iload_n 2, 1) := by decide +kernel
theorem dX5_areTwoNodes_10 : decode cX5_areTwoNodes 10 = .ok (.invokevirtual 127, 3) := by decide +kernel
theorem dX5_areTwoNodes_13 : decode cX5_areTwoNodes 13 = .ok (.ifCond .eq 12, 3) := by decide +kernel
theorem dX5_areTwoNodes_16 : decode cX5_areTwoNodes 16 = .ok (.iload_n 1, 1) := by decide +kernel
theorem dX5_areTwoNodes_17 : decode cX5_areTwoNodes 17 = .ok (.iload_n 2, 1) := by decide +kernel
theorem dX5_areTwoNodes_18 : decode cX5_areTwoNodes 18 = .ok (.if_icmp .eq 7, 3) := by decide +kernel
theorem dX5_areTwoNodes_21 : decode cX5_areTwoNodes 21 = .ok (.iconst 1, 1) := by decide +kernel
theorem dX5_areTwoNodes_22 : decode cX5_areTwoNodes 22 = .ok (.goto 4, 3) := by decide +kernel
theorem dX5_areTwoNodes_25 : decode cX5_areTwoNodes 25 = .ok (.iconst 0, 1) := by decide +kernel
theorem dX5_areTwoNodes_26 : decode cX5_areTwoNodes 26 = .ok (.ireturn, 1) := by decide +kernel
theorem dX5_bit_0 : decode cX5_bit 0 = .ok (.lconst 1, 1) := by decide +kernel
theorem dX5_bit_1 : decode cX5_bit 1 = .ok (.iload_n 0, 1) := by decide +kernel
theorem dX5_bit_2 : decode cX5_bit 2 = .ok (.lshl, 1) := by decide +kernel
theorem dX5_bit_3 : decode cX5_bit 3 = .ok (.lreturn, 1) := by decide +kernel
theorem dX5_holds_0 : decode cX5_holds 0 = .ok (.lload_n 0, 1) := by decide +kernel
theorem dX5_holds_1 : decode cX5_holds 1 = .ok (.iload_n 2, 1) := by decide +kernel
theorem dX5_holds_2 : decode cX5_holds 2 = .ok (.lushr, 1) := by decide +kernel
theorem dX5_holds_3 : decode cX5_holds 3 = .ok (.lconst 1, 1) := by decide +kernel
theorem dX5_holds_4 : decode cX5_holds 4 = .ok (.land, 1) := by decide +kernel
theorem dX5_holds_5 : decode cX5_holds 5 = .ok (.lconst 0, 1) := by decide +kernel
theorem dX5_holds_6 : decode cX5_holds 6 = .ok (.lcmp, 1) := by decide +kernel
theorem dX5_holds_7 : decode cX5_holds 7 = .ok (.ifCond .eq 7, 3) := by decide +kernel
theorem dX5_holds_10 : decode cX5_holds 10 = .ok (.iconst 1, 1) := by decide +kernel
theorem dX5_holds_11 : decode cX5_holds 11 = .ok (.goto 4, 3) := by decide +kernel
theorem dX5_holds_14 : decode cX5_holds 14 = .ok (.iconst 0, 1) := by decide +kernel
theorem dX5_holds_15 : decode cX5_holds 15 = .ok (.ireturn, 1) := by decide +kernel
theorem dX6_init_0 : decode cX6_init 0 = .ok (.aload_n 0, 1) := by decide +kernel
theorem dX6_init_1 : decode cX6_init 1 = .ok (.invokespecial 1, 3) := by decide +kernel
theorem dX6_init_4 : decode cX6_init 4 = .ok (.aload_n 0, 1) := by decide +kernel
theorem dX6_init_5 : decode cX6_init 5 = .ok (.bipush 8, 2) := by decide +kernel
theorem dX6_init_7 : decode cX6_init 7 = .ok (.putfield 7, 3) := by decide +kernel
theorem dX6_init_10 : decode cX6_init 10 = .ok (.aload_n 0, 1) := by decide +kernel
theorem dX6_init_11 : decode cX6_init 11 = .ok (.bipush 64, 2) := by decide +kernel
theorem dX6_init_13 : decode cX6_init 13 = .ok (.newarray .int, 2) := by decide +kernel
theorem dX6_init_15 : decode cX6_init 15 = .ok (.putfield 13, 3) := by decide +kernel
theorem dX6_init_18 : decode cX6_init 18 = .ok (.aload_n 0, 1) := by decide +kernel
theorem dX6_init_19 : decode cX6_init 19 = .ok (.bipush 64, 2) := by decide +kernel
theorem dX6_init_21 : decode cX6_init 21 = .ok (.newarray .int, 2) := by decide +kernel
theorem dX6_init_23 : decode cX6_init 23 = .ok (.putfield 17, 3) := by decide +kernel
theorem dX6_init_26 : decode cX6_init 26 = .ok (.aload_n 0, 1) := by decide +kernel
theorem dX6_init_27 : decode cX6_init 27 = .ok (.iconst (-1), 1) := by decide +kernel
theorem dX6_init_28 : decode cX6_init 28 = .ok (.putfield 20, 3) := by decide +kernel
theorem dX6_init_31 : decode cX6_init 31 = .ok (.aload_n 0, 1) := by decide +kernel
theorem dX6_init_32 : decode cX6_init 32 = .ok (.bipush 64, 2) := by decide +kernel
theorem dX6_init_34 : decode cX6_init 34 = .ok (.newarray .int, 2) := by decide +kernel
theorem dX6_init_36 : decode cX6_init 36 = .ok (.putfield 23, 3) := by decide +kernel
theorem dX6_init_39 : decode cX6_init 39 = .ok (.aload_n 0, 1) := by decide +kernel
theorem dX6_init_40 : decode cX6_init 40 = .ok (.bipush 32, 2) := by decide +kernel
theorem dX6_init_42 : decode cX6_init 42 = .ok (.newarray .int, 2) := by decide +kernel
theorem dX6_init_44 : decode cX6_init 44 = .ok (.putfield 26, 3) := by decide +kernel
theorem dX6_init_47 : decode cX6_init 47 = .ok (.aload_n 0, 1) := by decide +kernel
theorem dX6_init_48 : decode cX6_init 48 = .ok (.bipush 32, 2) := by decide +kernel
theorem dX6_init_50 : decode cX6_init 50 = .ok (.newarray .int, 2) := by decide +kernel
theorem dX6_init_52 : decode cX6_init 52 = .ok (.putfield 29, 3) := by decide +kernel
theorem dX6_init_55 : decode cX6_init 55 = .ok (.aload_n 0, 1) := by decide +kernel
theorem dX6_init_56 : decode cX6_init 56 = .ok (.bipush 64, 2) := by decide +kernel
theorem dX6_init_58 : decode cX6_init 58 = .ok (.newarray .int, 2) := by decide +kernel
theorem dX6_init_60 : decode cX6_init 60 = .ok (.putfield 32, 3) := by decide +kernel
theorem dX6_init_63 : decode cX6_init 63 = .ok (.aload_n 0, 1) := by decide +kernel
theorem dX6_init_64 : decode cX6_init 64 = .ok (.bipush 64, 2) := by decide +kernel
theorem dX6_init_66 : decode cX6_init 66 = .ok (.newarray .int, 2) := by decide +kernel
theorem dX6_init_68 : decode cX6_init 68 = .ok (.putfield 35, 3) := by decide +kernel
theorem dX6_init_71 : decode cX6_init 71 = .ok (.aload_n 0, 1) := by decide +kernel
theorem dX6_init_72 : decode cX6_init 72 = .ok (.bipush 64, 2) := by decide +kernel
theorem dX6_init_74 : decode cX6_init 74 = .ok (.newarray .int, 2) := by decide +kernel
theorem dX6_init_76 : decode cX6_init 76 = .ok (.putfield 38, 3) := by decide +kernel
theorem dX6_init_79 : decode cX6_init 79 = .ok (.aload_n 0, 1) := by decide +kernel
theorem dX6_init_80 : decode cX6_init 80 = .ok (.bipush 64, 2) := by decide +kernel
theorem dX6_init_82 : decode cX6_init 82 = .ok (.newarray .int, 2) := by decide +kernel
theorem dX6_init_84 : decode cX6_init 84 = .ok (.putfield 41, 3) := by decide +kernel
theorem dX6_init_87 : decode cX6_init 87 = .ok (.aload_n 0, 1) := by decide +kernel
theorem dX6_init_88 : decode cX6_init 88 = .ok (.bipush 64, 2) := by decide +kernel
theorem dX6_init_90 : decode cX6_init 90 = .ok (.newarray .int, 2) := by decide +kernel
theorem dX6_init_92 : decode cX6_init 92 = .ok (.putfield 44, 3) := by decide +kernel
theorem dX6_init_95 : decode cX6_init 95 = .ok (.aload_n 0, 1) := by decide +kernel
theorem dX6_init_96 : decode cX6_init 96 = .ok (.iconst (-1), 1) := by decide +kernel
theorem dX6_init_97 : decode cX6_init 97 = .ok (.putfield 47, 3) := by decide +kernel
theorem dX6_init_100 : decode cX6_init 100 = .ok (.aload_n 0, 1) := by decide +kernel
theorem dX6_init_101 : decode cX6_init 101 = .ok (.bipush 64, 2) := by decide +kernel
theorem dX6_init_103 : decode cX6_init 103 = .ok (.newarray .int, 2) := by decide +kernel
theorem dX6_init_105 : decode cX6_init 105 = .ok (.putfield 50, 3) := by decide +kernel
theorem dX6_init_108 : decode cX6_init 108 = .ok (.aload_n 0, 1) := by decide +kernel
theorem dX6_init_109 : decode cX6_init 109 = .ok (.bipush 64, 2) := by decide +kernel
theorem dX6_init_111 : decode cX6_init 111 = .ok (.newarray .int, 2) := by decide +kernel
theorem dX6_init_113 : decode cX6_init 113 = .ok (.putfield 53, 3) := by decide +kernel
theorem dX6_init_116 : decode cX6_init 116 = .ok (.aload_n 0, 1) := by decide +kernel
theorem dX6_init_117 : decode cX6_init 117 = .ok (.bipush 64, 2) := by decide +kernel
theorem dX6_init_119 : decode cX6_init 119 = .ok (.newarray .int, 2) := by decide +kernel
theorem dX6_init_121 : decode cX6_init 121 = .ok (.putfield 56, 3) := by decide +kernel
theorem dX6_init_124 : decode cX6_init 124 = .ok (.aload_n 0, 1) := by decide +kernel
theorem dX6_init_125 : decode cX6_init 125 = .ok (.bipush 64, 2) := by decide +kernel
theorem dX6_init_127 : decode cX6_init 127 = .ok (.newarray .int, 2) := by decide +kernel
theorem dX6_init_129 : decode cX6_init 129 = .ok (.putfield 59, 3) := by decide +kernel
theorem dX6_init_132 : decode cX6_init 132 = .ok (.aload_n 0, 1) := by decide +kernel
theorem dX6_init_133 : decode cX6_init 133 = .ok (.bipush 32, 2) := by decide +kernel
theorem dX6_init_135 : decode cX6_init 135 = .ok (.newarray .int, 2) := by decide +kernel
theorem dX6_init_137 : decode cX6_init 137 = .ok (.putfield 62, 3) := by decide +kernel
theorem dX6_init_140 : decode cX6_init 140 = .ok (.aload_n 0, 1) := by decide +kernel
theorem dX6_init_141 : decode cX6_init 141 = .ok (.bipush 33, 2) := by decide +kernel
theorem dX6_init_143 : decode cX6_init 143 = .ok (.newarray .int, 2) := by decide +kernel
theorem dX6_init_145 : decode cX6_init 145 = .ok (.putfield 65, 3) := by decide +kernel
theorem dX6_init_148 : decode cX6_init 148 = .ok (.aload_n 0, 1) := by decide +kernel
theorem dX6_init_149 : decode cX6_init 149 = .ok (.bipush 33, 2) := by decide +kernel
theorem dX6_init_151 : decode cX6_init 151 = .ok (.newarray .int, 2) := by decide +kernel
theorem dX6_init_153 : decode cX6_init 153 = .ok (.putfield 68, 3) := by decide +kernel
theorem dX6_init_156 : decode cX6_init 156 = .ok (.return_, 1) := by decide +kernel
theorem dX6_isIn_0 : decode cX6_isIn 0 = .ok (.lload_n 1, 1) := by decide +kernel
theorem dX6_isIn_1 : decode cX6_isIn 1 = .ok (.lload_n 3, 1) := by decide +kernel
theorem dX6_isIn_2 : decode cX6_isIn 2 = .ok (.lcmp, 1) := by decide +kernel
theorem dX6_isIn_3 : decode cX6_isIn 3 = .ok (.ifCond .lt 14, 3) := by decide +kernel
theorem dX6_isIn_6 : decode cX6_isIn 6 = .ok (.lload_n 1, 1) := by decide +kernel
theorem dX6_isIn_7 : decode cX6_isIn 7 = .ok (.lload 5, 2) := by decide +kernel
theorem dX6_isIn_9 : decode cX6_isIn 9 = .ok (.lcmp, 1) := by decide +kernel
theorem dX6_isIn_10 : decode cX6_isIn 10 = .ok (.ifCond .gt 7, 3) := by decide +kernel
theorem dX6_isIn_13 : decode cX6_isIn 13 = .ok (.iconst 1, 1) := by decide +kernel
theorem dX6_isIn_14 : decode cX6_isIn 14 = .ok (.goto 4, 3) := by decide +kernel
theorem dX6_isIn_17 : decode cX6_isIn 17 = .ok (.iconst 0, 1) := by decide +kernel
theorem dX6_isIn_18 : decode cX6_isIn 18 = .ok (.ireturn, 1) := by decide +kernel
theorem dX6_has_0 : decode cX6_has 0 = .ok (.iload_n 1, 1) := by decide +kernel
theorem dX6_has_1 : decode cX6_has 1 = .ok (.iload_n 2, 1) := by decide +kernel
theorem dX6_has_2 : decode cX6_has 2 = .ok (.ishr, 1) := by decide +kernel
theorem dX6_has_3 : decode cX6_has 3 = .ok (.iconst 1, 1) := by decide +kernel
theorem dX6_has_4 : decode cX6_has 4 = .ok (.iand, 1) := by decide +kernel
theorem dX6_has_5 : decode cX6_has 5 = .ok (.iconst 1, 1) := by decide +kernel
theorem dX6_has_6 : decode cX6_has 6 = .ok (.if_icmp .ne 7, 3) := by decide +kernel
theorem dX6_has_9 : decode cX6_has 9 = .ok (.iconst 1, 1) := by decide +kernel
theorem dX6_has_10 : decode cX6_has 10 = .ok (.goto 4, 3) := by decide +kernel
theorem dX6_has_13 : decode cX6_has 13 = .ok (.iconst 0, 1) := by decide +kernel
theorem dX6_has_14 : decode cX6_has 14 = .ok (.ireturn, 1) := by decide +kernel
theorem dX6_isNode_0 : decode cX6_isNode 0 = .ok (.aload_n 0, 1) := by decide +kernel
theorem dX6_isNode_1 : decode cX6_isNode 1 = .ok (.iload_n 1, 1) := by decide +kernel
theorem dX6_isNode_2 : decode cX6_isNode 2 = .ok (.i2l, 1) := by decide +kernel
theorem dX6_isNode_3 : decode cX6_isNode 3 = .ok (.lconst 0, 1) := by decide +kernel
theorem dX6_isNode_4 : decode cX6_isNode 4 = .ok (.aload_n 0, 1) := by decide +kernel
theorem dX6_isNode_5 : decode cX6_isNode 5 = .ok (.getfield 7, 3) := by decide +kernel
theorem dX6_isNode_8 : decode cX6_isNode 8 = .ok (.i2l, 1) := by decide +kernel
theorem dX6_isNode_9 : decode cX6_isNode 9 = .ok (.lconst 1, 1) := by decide +kernel
theorem dX6_isNode_10 : decode cX6_isNode 10 = .ok (.lsub, 1) := by decide +kernel
theorem dX6_isNode_11 : decode cX6_isNode 11 = .ok (.invokevirtual 74, 3) := by decide +kernel
theorem dX6_isNode_14 : decode cX6_isNode 14 = .ok (.ireturn, 1) := by decide +kernel
theorem dX6_isLink_0 : decode cX6_isLink 0 = .ok (.aload_n 0, 1) := by decide +kernel
theorem dX6_isLink_1 : decode cX6_isLink 1 = .ok (.iload_n 1, 1) := by decide +kernel
theorem dX6_isLink_2 : decode cX6_isLink 2 = .ok (.i2l, 1) := by decide +kernel
theorem dX6_isLink_3 : decode cX6_isLink 3 = .ok (.lconst 0, 1) := by decide +kernel
theorem dX6_isLink_4 : decode cX6_isLink 4 = .ok (.aload_n 0, 1) := by decide +kernel
theorem dX6_isLink_5 : decode cX6_isLink 5 = .ok (.getfield 78, 3) := by decide +kernel
theorem dX6_isLink_8 : decode cX6_isLink 8 = .ok (.i2l, 1) := by decide +kernel
theorem dX6_isLink_9 : decode cX6_isLink 9 = .ok (.lconst 1, 1) := by decide +kernel
theorem dX6_isLink_10 : decode cX6_isLink 10 = .ok (.lsub, 1) := by decide +kernel
theorem dX6_isLink_11 : decode cX6_isLink 11 = .ok (.invokevirtual 74, 3) := by decide +kernel
theorem dX6_isLink_14 : decode cX6_isLink 14 = .ok (.ireturn, 1) := by decide +kernel
theorem dX6_areTwo_0 : decode cX6_areTwo 0 = .ok (.aload_n 0, 1) := by decide +kernel
theorem dX6_areTwo_1 : decode cX6_areTwo 1 = .ok (.iload_n 1, 1) := by decide +kernel
theorem dX6_areTwo_2 : decode cX6_areTwo 2 = .ok (.invokevirtual 81, 3) := by decide +kernel
theorem dX6_areTwo_5 : decode cX6_areTwo 5 = .ok (.ifCond .eq 20, 3) := by decide +kernel
theorem dX6_areTwo_8 : decode cX6_areTwo 8 = .ok (.aload_n 0, 1) := by decide +kernel
theorem dX6_areTwo_9 : decode cX6_areTwo 9 = .ok (.iload_n 2, 1) := by decide +kernel
theorem dX6_areTwo_10 : decode cX6_areTwo 10 = .ok (.invokevirtual 81, 3) := by decide +kernel
theorem dX6_areTwo_13 : decode cX6_areTwo 13 = .ok (.ifCond .eq 12, 3) := by decide +kernel
theorem dX6_areTwo_16 : decode cX6_areTwo 16 = .ok (.iload_n 1, 1) := by decide +kernel
theorem dX6_areTwo_17 : decode cX6_areTwo 17 = .ok (.iload_n 2, 1) := by decide +kernel
theorem dX6_areTwo_18 : decode cX6_areTwo 18 = .ok (.if_icmp .eq 7, 3) := by decide +kernel
theorem dX6_areTwo_21 : decode cX6_areTwo 21 = .ok (.iconst 1, 1) := by decide +kernel
theorem dX6_areTwo_22 : decode cX6_areTwo 22 = .ok (.goto 4, 3) := by decide +kernel
theorem dX6_areTwo_25 : decode cX6_areTwo 25 = .ok (.iconst 0, 1) := by decide +kernel
theorem dX6_areTwo_26 : decode cX6_areTwo 26 = .ok (.ireturn, 1) := by decide +kernel
theorem dX6_blockAt_0 : decode cX6_blockAt 0 = .ok (.aload_n 0, 1) := by decide +kernel
theorem dX6_blockAt_1 : decode cX6_blockAt 1 = .ok (.getfield 23, 3) := by decide +kernel
theorem dX6_blockAt_4 : decode cX6_blockAt 4 = .ok (.iload_n 1, 1) := by decide +kernel
theorem dX6_blockAt_5 : decode cX6_blockAt 5 = .ok (.iaload, 1) := by decide +kernel
theorem dX6_blockAt_6 : decode cX6_blockAt 6 = .ok (.ireturn, 1) := by decide +kernel
theorem dX6_landOf_0 : decode cX6_landOf 0 = .ok (.aload_n 0, 1) := by decide +kernel
theorem dX6_landOf_1 : decode cX6_landOf 1 = .ok (.getfield 23, 3) := by decide +kernel
theorem dX6_landOf_4 : decode cX6_landOf 4 = .ok (.bipush 32, 2) := by decide +kernel
theorem dX6_landOf_6 : decode cX6_landOf 6 = .ok (.iload_n 1, 1) := by decide +kernel
theorem dX6_landOf_7 : decode cX6_landOf 7 = .ok (.iadd, 1) := by decide +kernel
theorem dX6_landOf_8 : decode cX6_landOf 8 = .ok (.iaload, 1) := by decide +kernel
theorem dX6_landOf_9 : decode cX6_landOf 9 = .ok (.ireturn, 1) := by decide +kernel
theorem dX6_sizeOf_0 : decode cX6_sizeOf 0 = .ok (.iconst 0, 1) := by decide +kernel
theorem dX6_sizeOf_1 : decode cX6_sizeOf 1 = .ok (.istore_n 3, 1) := by decide +kernel
theorem dX6_sizeOf_2 : decode cX6_sizeOf 2 = .ok (.iconst 0, 1) := by decide +kernel
theorem dX6_sizeOf_3 : decode cX6_sizeOf 3 = .ok (.istore 4, 2) := by decide +kernel
theorem dX6_sizeOf_5 : decode cX6_sizeOf 5 = .ok (.iload 4, 2) := by decide +kernel
theorem dX6_sizeOf_7 : decode cX6_sizeOf 7 = .ok (.aload_n 0, 1) := by decide +kernel
theorem dX6_sizeOf_8 : decode cX6_sizeOf 8 = .ok (.getfield 7, 3) := by decide +kernel
theorem dX6_sizeOf_11 : decode cX6_sizeOf 11 = .ok (.if_icmp .ge 29, 3) := by decide +kernel
theorem dX6_sizeOf_14 : decode cX6_sizeOf 14 = .ok (.aload_n 0, 1) := by decide +kernel
theorem dX6_sizeOf_15 : decode cX6_sizeOf 15 = .ok (.getfield 23, 3) := by decide +kernel
theorem dX6_sizeOf_18 : decode cX6_sizeOf 18 = .ok (.bipush 32, 2) := by decide +kernel
theorem dX6_sizeOf_20 : decode cX6_sizeOf 20 = .ok (.iload_n 1, 1) := by decide +kernel
theorem dX6_sizeOf_21 : decode cX6_sizeOf 21 = .ok (.imul, 1) := by decide +kernel
theorem dX6_sizeOf_22 : decode cX6_sizeOf 22 = .ok (.iload 4, 2) := by decide +kernel
theorem dX6_sizeOf_24 : decode cX6_sizeOf 24 = .ok (.iadd, 1) := by decide +kernel
theorem dX6_sizeOf_25 : decode cX6_sizeOf 25 = .ok (.iaload, 1) := by decide +kernel
theorem dX6_sizeOf_26 : decode cX6_sizeOf 26 = .ok (.iload_n 2, 1) := by decide +kernel
theorem dX6_sizeOf_27 : decode cX6_sizeOf 27 = .ok (.if_icmp .ne 7, 3) := by decide +kernel
theorem dX6_sizeOf_30 : decode cX6_sizeOf 30 = .ok (.iload_n 3, 1) := by decide +kernel
theorem dX6_sizeOf_31 : decode cX6_sizeOf 31 = .ok (.iconst 1, 1) := by decide +kernel
theorem dX6_sizeOf_32 : decode cX6_sizeOf 32 = .ok (.iadd, 1) := by decide +kernel
theorem dX6_sizeOf_33 : decode cX6_sizeOf 33 = .ok (.istore_n 3, 1) := by decide +kernel
theorem dX6_sizeOf_34 : decode cX6_sizeOf 34 = .ok (.iinc 4 1, 3) := by decide +kernel
theorem dX6_sizeOf_37 : decode cX6_sizeOf 37 = .ok (.goto (-32), 3) := by decide +kernel
theorem dX6_sizeOf_40 : decode cX6_sizeOf 40 = .ok (.iload_n 3, 1) := by decide +kernel
theorem dX6_sizeOf_41 : decode cX6_sizeOf 41 = .ok (.ireturn, 1) := by decide +kernel
theorem dX6_begins_0 : decode cX6_begins 0 = .ok (.aload_n 0, 1) := by decide +kernel
theorem dX6_begins_1 : decode cX6_begins 1 = .ok (.iconst 0, 1) := by decide +kernel
theorem dX6_begins_2 : decode cX6_begins 2 = .ok (.putfield 20, 3) := by decide +kernel
theorem dX6_begins_5 : decode cX6_begins 5 = .ok (.iconst 0, 1) := by decide +kernel
theorem dX6_begins_6 : decode cX6_begins 6 = .ok (.istore_n 1, 1) := by decide +kernel
theorem dX6_begins_7 : decode cX6_begins 7 = .ok (.iload_n 1, 1) := by decide +kernel
theorem dX6_begins_8 : decode cX6_begins 8 = .ok (.bipush 32, 2) := by decide +kernel
theorem dX6_begins_10 : decode cX6_begins 10 = .ok (.if_icmp .ge 84, 3) := by decide +kernel
theorem dX6_begins_13 : decode cX6_begins 13 = .ok (.aload_n 0, 1) := by decide +kernel
theorem dX6_begins_14 : decode cX6_begins 14 = .ok (.getfield 26, 3) := by decide +kernel
theorem dX6_begins_17 : decode cX6_begins 17 = .ok (.iload_n 1, 1) := by decide +kernel
theorem dX6_begins_18 : decode cX6_begins 18 = .ok (.iconst (-1), 1) := by decide +kernel
theorem dX6_begins_19 : decode cX6_begins 19 = .ok (.iastore, 1) := by decide +kernel
theorem dX6_begins_20 : decode cX6_begins 20 = .ok (.aload_n 0, 1) := by decide +kernel
theorem dX6_begins_21 : decode cX6_begins 21 = .ok (.getfield 29, 3) := by decide +kernel
theorem dX6_begins_24 : decode cX6_begins 24 = .ok (.iload_n 1, 1) := by decide +kernel
theorem dX6_begins_25 : decode cX6_begins 25 = .ok (.iconst (-1), 1) := by decide +kernel
theorem dX6_begins_26 : decode cX6_begins 26 = .ok (.iastore, 1) := by decide +kernel
theorem dX6_begins_27 : decode cX6_begins 27 = .ok (.iconst 0, 1) := by decide +kernel
theorem dX6_begins_28 : decode cX6_begins 28 = .ok (.istore_n 2, 1) := by decide +kernel
theorem dX6_begins_29 : decode cX6_begins 29 = .ok (.iload_n 2, 1) := by decide +kernel
theorem dX6_begins_30 : decode cX6_begins 30 = .ok (.iconst 2, 1) := by decide +kernel
theorem dX6_begins_31 : decode cX6_begins 31 = .ok (.if_icmp .ge 57, 3) := by decide +kernel
theorem dX6_begins_34 : decode cX6_begins 34 = .ok (.aload_n 0, 1) := by decide +kernel
theorem dX6_begins_35 : decode cX6_begins 35 = .ok (.getfield 23, 3) := by decide +kernel
theorem dX6_begins_38 : decode cX6_begins 38 = .ok (.bipush 32, 2) := by decide +kernel
theorem dX6_begins_40 : decode cX6_begins 40 = .ok (.iload_n 2, 1) := by decide +kernel
theorem dX6_begins_41 : decode cX6_begins 41 = .ok (.imul, 1) := by decide +kernel
theorem dX6_begins_42 : decode cX6_begins 42 = .ok (.iload_n 1, 1) := by decide +kernel
theorem dX6_begins_43 : decode cX6_begins 43 = .ok (.iadd, 1) := by decide +kernel
theorem dX6_begins_44 : decode cX6_begins 44 = .ok (.iload_n 1, 1) := by decide +kernel
theorem dX6_begins_45 : decode cX6_begins 45 = .ok (.iastore, 1) := by decide +kernel
theorem dX6_begins_46 : decode cX6_begins 46 = .ok (.aload_n 0, 1) := by decide +kernel
theorem dX6_begins_47 : decode cX6_begins 47 = .ok (.getfield 32, 3) := by decide +kernel
theorem dX6_begins_50 : decode cX6_begins 50 = .ok (.bipush 32, 2) := by decide +kernel
theorem dX6_begins_52 : decode cX6_begins 52 = .ok (.iload_n 2, 1) := by decide +kernel
theorem dX6_begins_53 : decode cX6_begins 53 = .ok (.imul, 1) := by decide +kernel
theorem dX6_begins_54 : decode cX6_begins 54 = .ok (.iload_n 1, 1) := by decide +kernel
theorem dX6_begins_55 : decode cX6_begins 55 = .ok (.iadd, 1) := by decide +kernel
theorem dX6_begins_56 : decode cX6_begins 56 = .ok (.iconst (-1), 1) := by decide +kernel
theorem dX6_begins_57 : decode cX6_begins 57 = .ok (.iastore, 1) := by decide +kernel
theorem dX6_begins_58 : decode cX6_begins 58 = .ok (.aload_n 0, 1) := by decide +kernel
theorem dX6_begins_59 : decode cX6_begins 59 = .ok (.getfield 35, 3) := by decide +kernel
theorem dX6_begins_62 : decode cX6_begins 62 = .ok (.bipush 32, 2) := by decide +kernel
theorem dX6_begins_64 : decode cX6_begins 64 = .ok (.iload_n 2, 1) := by decide +kernel
theorem dX6_begins_65 : decode cX6_begins 65 = .ok (.imul, 1) := by decide +kernel
theorem dX6_begins_66 : decode cX6_begins 66 = .ok (.iload_n 1, 1) := by decide +kernel
theorem dX6_begins_67 : decode cX6_begins 67 = .ok (.iadd, 1) := by decide +kernel
theorem dX6_begins_68 : decode cX6_begins 68 = .ok (.iconst (-1), 1) := by decide +kernel
theorem dX6_begins_69 : decode cX6_begins 69 = .ok (.iastore, 1) := by decide +kernel
theorem dX6_begins_70 : decode cX6_begins 70 = .ok (.aload_n 0, 1) := by decide +kernel
theorem dX6_begins_71 : decode cX6_begins 71 = .ok (.getfield 38, 3) := by decide +kernel
theorem dX6_begins_74 : decode cX6_begins 74 = .ok (.bipush 32, 2) := by decide +kernel
theorem dX6_begins_76 : decode cX6_begins 76 = .ok (.iload_n 2, 1) := by decide +kernel
theorem dX6_begins_77 : decode cX6_begins 77 = .ok (.imul, 1) := by decide +kernel
theorem dX6_begins_78 : decode cX6_begins 78 = .ok (.iload_n 1, 1) := by decide +kernel
theorem dX6_begins_79 : decode cX6_begins 79 = .ok (.iadd, 1) := by decide +kernel
theorem dX6_begins_80 : decode cX6_begins 80 = .ok (.iconst 1, 1) := by decide +kernel
theorem dX6_begins_81 : decode cX6_begins 81 = .ok (.iastore, 1) := by decide +kernel
theorem dX6_begins_82 : decode cX6_begins 82 = .ok (.iinc 2 1, 3) := by decide +kernel
theorem dX6_begins_85 : decode cX6_begins 85 = .ok (.goto (-56), 3) := by decide +kernel
theorem dX6_begins_88 : decode cX6_begins 88 = .ok (.iinc 1 1, 3) := by decide +kernel
theorem dX6_begins_91 : decode cX6_begins 91 = .ok (.goto (-84), 3) := by decide +kernel
theorem dX6_begins_94 : decode cX6_begins 94 = .ok (.return_, 1) := by decide +kernel
theorem dX6_unites_0 : decode cX6_unites 0 = .ok (.iconst (-1), 1) := by decide +kernel
theorem dX6_unites_1 : decode cX6_unites 1 = .ok (.istore 4, 2) := by decide +kernel
theorem dX6_unites_3 : decode cX6_unites 3 = .ok (.iconst 0, 1) := by decide +kernel
theorem dX6_unites_4 : decode cX6_unites 4 = .ok (.istore 5, 2) := by decide +kernel
theorem dX6_unites_6 : decode cX6_unites 6 = .ok (.iload 5, 2) := by decide +kernel
theorem dX6_unites_8 : decode cX6_unites 8 = .ok (.aload_n 0, 1) := by decide +kernel
theorem dX6_unites_9 : decode cX6_unites 9 = .ok (.getfield 7, 3) := by decide +kernel
theorem dX6_unites_12 : decode cX6_unites 12 = .ok (.if_icmp .ge 46, 3) := by decide +kernel
theorem dX6_unites_15 : decode cX6_unites 15 = .ok (.aload_n 0, 1) := by decide +kernel
theorem dX6_unites_16 : decode cX6_unites 16 = .ok (.iload_n 2, 1) := by decide +kernel
theorem dX6_unites_17 : decode cX6_unites 17 = .ok (.iload 5, 2) := by decide +kernel
theorem dX6_unites_19 : decode cX6_unites 19 = .ok (.invokevirtual 85, 3) := by decide +kernel
theorem dX6_unites_22 : decode cX6_unites 22 = .ok (.ifCond .eq 30, 3) := by decide +kernel
theorem dX6_unites_25 : decode cX6_unites 25 = .ok (.iload 4, 2) := by decide +kernel
theorem dX6_unites_27 : decode cX6_unites 27 = .ok (.iconst (-1), 1) := by decide +kernel
theorem dX6_unites_28 : decode cX6_unites 28 = .ok (.if_icmp .eq 20, 3) := by decide +kernel
theorem dX6_unites_31 : decode cX6_unites 31 = .ok (.aload_n 0, 1) := by decide +kernel
theorem dX6_unites_32 : decode cX6_unites 32 = .ok (.iload_n 1, 1) := by decide +kernel
theorem dX6_unites_33 : decode cX6_unites 33 = .ok (.iload 5, 2) := by decide +kernel
theorem dX6_unites_35 : decode cX6_unites 35 = .ok (.invokevirtual 89, 3) := by decide +kernel
theorem dX6_unites_38 : decode cX6_unites 38 = .ok (.aload_n 0, 1) := by decide +kernel
theorem dX6_unites_39 : decode cX6_unites 39 = .ok (.iload_n 1, 1) := by decide +kernel
theorem dX6_unites_40 : decode cX6_unites 40 = .ok (.iload 4, 2) := by decide +kernel
theorem dX6_unites_42 : decode cX6_unites 42 = .ok (.invokevirtual 89, 3) := by decide +kernel
theorem dX6_unites_45 : decode cX6_unites 45 = .ok (.if_icmp .le 7, 3) := by decide +kernel
theorem dX6_unites_48 : decode cX6_unites 48 = .ok (.iload 5, 2) := by decide +kernel
theorem dX6_unites_50 : decode cX6_unites 50 = .ok (.istore 4, 2) := by decide +kernel
theorem dX6_unites_52 : decode cX6_unites 52 = .ok (.iinc 5 1, 3) := by decide +kernel
theorem dX6_unites_55 : decode cX6_unites 55 = .ok (.goto (-49), 3) := by decide +kernel
theorem dX6_unites_58 : decode cX6_unites 58 = .ok (.iconst 0, 1) := by decide +kernel
theorem dX6_unites_59 : decode cX6_unites 59 = .ok (.istore 5, 2) := by decide +kernel
theorem dX6_unites_61 : decode cX6_unites 61 = .ok (.iload 5, 2) := by decide +kernel
theorem dX6_unites_63 : decode cX6_unites 63 = .ok (.aload_n 0, 1) := by decide +kernel
theorem dX6_unites_64 : decode cX6_unites 64 = .ok (.getfield 7, 3) := by decide +kernel
theorem dX6_unites_67 : decode cX6_unites 67 = .ok (.if_icmp .ge 56, 3) := by decide +kernel
theorem dX6_unites_70 : decode cX6_unites 70 = .ok (.aload_n 0, 1) := by decide +kernel
theorem dX6_unites_71 : decode cX6_unites 71 = .ok (.iload_n 2, 1) := by decide +kernel
theorem dX6_unites_72 : decode cX6_unites 72 = .ok (.iload 5, 2) := by decide +kernel
theorem dX6_unites_74 : decode cX6_unites 74 = .ok (.invokevirtual 85, 3) := by decide +kernel
theorem dX6_unites_77 : decode cX6_unites 77 = .ok (.ifCond .eq 40, 3) := by decide +kernel
theorem dX6_unites_80 : decode cX6_unites 80 = .ok (.iload 5, 2) := by decide +kernel
theorem dX6_unites_82 : decode cX6_unites 82 = .ok (.iload 4, 2) := by decide +kernel
theorem dX6_unites_84 : decode cX6_unites 84 = .ok (.if_icmp .ne 6, 3) := by decide +kernel
theorem dX6_unites_87 : decode cX6_unites 87 = .ok (.goto 30, 3) := by decide +kernel
theorem dX6_unites_90 : decode cX6_unites 90 = .ok (.aload_n 0, 1) := by decide +kernel
theorem dX6_unites_91 : decode cX6_unites 91 = .ok (.getfield 32, 3) := by decide +kernel
theorem dX6_unites_94 : decode cX6_unites 94 = .ok (.bipush 32, 2) := by decide +kernel
theorem dX6_unites_96 : decode cX6_unites 96 = .ok (.iload_n 1, 1) := by decide +kernel
theorem dX6_unites_97 : decode cX6_unites 97 = .ok (.imul, 1) := by decide +kernel
theorem dX6_unites_98 : decode cX6_unites 98 = .ok (.iload 5, 2) := by decide +kernel
theorem dX6_unites_100 : decode cX6_unites 100 = .ok (.iadd, 1) := by decide +kernel
theorem dX6_unites_101 : decode cX6_unites 101 = .ok (.iload_n 3, 1) := by decide +kernel
theorem dX6_unites_102 : decode cX6_unites 102 = .ok (.iastore, 1) := by decide +kernel
theorem dX6_unites_103 : decode cX6_unites 103 = .ok (.aload_n 0, 1) := by decide +kernel
theorem dX6_unites_104 : decode cX6_unites 104 = .ok (.getfield 35, 3) := by decide +kernel
theorem dX6_unites_107 : decode cX6_unites 107 = .ok (.bipush 32, 2) := by decide +kernel
theorem dX6_unites_109 : decode cX6_unites 109 = .ok (.iload_n 1, 1) := by decide +kernel
theorem dX6_unites_110 : decode cX6_unites 110 = .ok (.imul, 1) := by decide +kernel
theorem dX6_unites_111 : decode cX6_unites 111 = .ok (.iload 5, 2) := by decide +kernel
theorem dX6_unites_113 : decode cX6_unites 113 = .ok (.iadd, 1) := by decide +kernel
theorem dX6_unites_114 : decode cX6_unites 114 = .ok (.iload 4, 2) := by decide +kernel
theorem dX6_unites_116 : decode cX6_unites 116 = .ok (.iastore, 1) := by decide +kernel
theorem dX6_unites_117 : decode cX6_unites 117 = .ok (.iinc 5 1, 3) := by decide +kernel
theorem dX6_unites_120 : decode cX6_unites 120 = .ok (.goto (-59), 3) := by decide +kernel
theorem dX6_unites_123 : decode cX6_unites 123 = .ok (.iconst 0, 1) := by decide +kernel
theorem dX6_unites_124 : decode cX6_unites 124 = .ok (.istore 5, 2) := by decide +kernel
theorem dX6_unites_126 : decode cX6_unites 126 = .ok (.iload 5, 2) := by decide +kernel
theorem dX6_unites_128 : decode cX6_unites 128 = .ok (.aload_n 0, 1) := by decide +kernel
theorem dX6_unites_129 : decode cX6_unites 129 = .ok (.getfield 7, 3) := by decide +kernel
theorem dX6_unites_132 : decode cX6_unites 132 = .ok (.if_icmp .ge 43, 3) := by decide +kernel
theorem dX6_unites_135 : decode cX6_unites 135 = .ok (.aload_n 0, 1) := by decide +kernel
theorem dX6_unites_136 : decode cX6_unites 136 = .ok (.iload_n 2, 1) := by decide +kernel
theorem dX6_unites_137 : decode cX6_unites 137 = .ok (.aload_n 0, 1) := by decide +kernel
theorem dX6_unites_138 : decode cX6_unites 138 = .ok (.getfield 23, 3) := by decide +kernel
theorem dX6_unites_141 : decode cX6_unites 141 = .ok (.bipush 32, 2) := by decide +kernel
theorem dX6_unites_143 : decode cX6_unites 143 = .ok (.iload_n 1, 1) := by decide +kernel
theorem dX6_unites_144 : decode cX6_unites 144 = .ok (.imul, 1) := by decide +kernel
theorem dX6_unites_145 : decode cX6_unites 145 = .ok (.iload 5, 2) := by decide +kernel
theorem dX6_unites_147 : decode cX6_unites 147 = .ok (.iadd, 1) := by decide +kernel
theorem dX6_unites_148 : decode cX6_unites 148 = .ok (.iaload, 1) := by decide +kernel
theorem dX6_unites_149 : decode cX6_unites 149 = .ok (.invokevirtual 85, 3) := by decide +kernel
theorem dX6_unites_152 : decode cX6_unites 152 = .ok (.ifCond .eq 17, 3) := by decide +kernel
theorem dX6_unites_155 : decode cX6_unites 155 = .ok (.aload_n 0, 1) := by decide +kernel
theorem dX6_unites_156 : decode cX6_unites 156 = .ok (.getfield 23, 3) := by decide +kernel
theorem dX6_unites_159 : decode cX6_unites 159 = .ok (.bipush 32, 2) := by decide +kernel
theorem dX6_unites_161 : decode cX6_unites 161 = .ok (.iload_n 1, 1) := by decide +kernel
theorem dX6_unites_162 : decode cX6_unites 162 = .ok (.imul, 1) := by decide +kernel
theorem dX6_unites_163 : decode cX6_unites 163 = .ok (.iload 5, 2) := by decide +kernel
theorem dX6_unites_165 : decode cX6_unites 165 = .ok (.iadd, 1) := by decide +kernel
theorem dX6_unites_166 : decode cX6_unites 166 = .ok (.iload 4, 2) := by decide +kernel
theorem dX6_unites_168 : decode cX6_unites 168 = .ok (.iastore, 1) := by decide +kernel
theorem dX6_unites_169 : decode cX6_unites 169 = .ok (.iinc 5 1, 3) := by decide +kernel
theorem dX6_unites_172 : decode cX6_unites 172 = .ok (.goto (-46), 3) := by decide +kernel
theorem dX6_unites_175 : decode cX6_unites 175 = .ok (.aload_n 0, 1) := by decide +kernel
theorem dX6_unites_176 : decode cX6_unites 176 = .ok (.getfield 38, 3) := by decide +kernel
theorem dX6_unites_179 : decode cX6_unites 179 = .ok (.bipush 32, 2) := by decide +kernel
theorem dX6_unites_181 : decode cX6_unites 181 = .ok (.iload_n 1, 1) := by decide +kernel
theorem dX6_unites_182 : decode cX6_unites 182 = .ok (.imul, 1) := by decide +kernel
theorem dX6_unites_183 : decode cX6_unites 183 = .ok (.iload 4, 2) := by decide +kernel
theorem dX6_unites_185 : decode cX6_unites 185 = .ok (.iadd, 1) := by decide +kernel
theorem dX6_unites_186 : decode cX6_unites 186 = .ok (.aload_n 0, 1) := by decide +kernel
theorem dX6_unites_187 : decode cX6_unites 187 = .ok (.getfield 38, 3) := by decide +kernel
theorem dX6_unites_190 : decode cX6_unites 190 = .ok (.bipush 32, 2) := by decide +kernel
theorem dX6_unites_192 : decode cX6_unites 192 = .ok (.iload_n 1, 1) := by decide +kernel
theorem dX6_unites_193 : decode cX6_unites 193 = .ok (.imul, 1) := by decide +kernel
theorem dX6_unites_194 : decode cX6_unites 194 = .ok (.iload 4, 2) := by decide +kernel
theorem dX6_unites_196 : decode cX6_unites 196 = .ok (.iadd, 1) := by decide +kernel
theorem dX6_unites_197 : decode cX6_unites 197 = .ok (.iaload, 1) := by decide +kernel
theorem dX6_unites_198 : decode cX6_unites 198 = .ok (.aload_n 0, 1) := by decide +kernel
theorem dX6_unites_199 : decode cX6_unites 199 = .ok (.iload_n 1, 1) := by decide +kernel
theorem dX6_unites_200 : decode cX6_unites 200 = .ok (.iload 4, 2) := by decide +kernel
theorem dX6_unites_202 : decode cX6_unites 202 = .ok (.invokevirtual 89, 3) := by decide +kernel
theorem dX6_unites_205 : decode cX6_unites 205 = .ok (.invokestatic 93, 3) := by decide +kernel
theorem dX6_unites_208 : decode cX6_unites 208 = .ok (.iastore, 1) := by decide +kernel
theorem dX6_unites_209 : decode cX6_unites 209 = .ok (.iload 4, 2) := by decide +kernel
theorem dX6_unites_211 : decode cX6_unites 211 = .ok (.ireturn, 1) := by decide +kernel
theorem dX6_turns_0 : decode cX6_turns 0 = .ok (.aload_n 0, 1) := by decide +kernel
theorem dX6_turns_1 : decode cX6_turns 1 = .ok (.iload_n 1, 1) := by decide +kernel
theorem dX6_turns_2 : decode cX6_turns 2 = .ok (.invokevirtual 98, 3) := by decide +kernel
theorem dX6_turns_5 : decode cX6_turns 5 = .ok (.istore 4, 2) := by decide +kernel
theorem dX6_turns_7 : decode cX6_turns 7 = .ok (.aload_n 0, 1) := by decide +kernel
theorem dX6_turns_8 : decode cX6_turns 8 = .ok (.iload_n 2, 1) := by decide +kernel
theorem dX6_turns_9 : decode cX6_turns 9 = .ok (.invokevirtual 98, 3) := by decide +kernel
theorem dX6_turns_12 : decode cX6_turns 12 = .ok (.istore 5, 2) := by decide +kernel
theorem dX6_turns_14 : decode cX6_turns 14 = .ok (.iload_n 3, 1) := by decide +kernel
theorem dX6_turns_15 : decode cX6_turns 15 = .ok (.istore 6, 2) := by decide +kernel
theorem dX6_turns_17 : decode cX6_turns 17 = .ok (.iload 4, 2) := by decide +kernel
theorem dX6_turns_19 : decode cX6_turns 19 = .ok (.iconst (-1), 1) := by decide +kernel
theorem dX6_turns_20 : decode cX6_turns 20 = .ok (.if_icmp .eq 64, 3) := by decide +kernel
theorem dX6_turns_23 : decode cX6_turns 23 = .ok (.aload_n 0, 1) := by decide +kernel
theorem dX6_turns_24 : decode cX6_turns 24 = .ok (.getfield 26, 3) := by decide +kernel
theorem dX6_turns_27 : decode cX6_turns 27 = .ok (.iload 4, 2) := by decide +kernel
theorem dX6_turns_29 : decode cX6_turns 29 = .ok (.iaload, 1) := by decide +kernel
theorem dX6_turns_30 : decode cX6_turns 30 = .ok (.istore 7, 2) := by decide +kernel
theorem dX6_turns_32 : decode cX6_turns 32 = .ok (.aload_n 0, 1) := by decide +kernel
theorem dX6_turns_33 : decode cX6_turns 33 = .ok (.getfield 29, 3) := by decide +kernel
theorem dX6_turns_36 : decode cX6_turns 36 = .ok (.iload 4, 2) := by decide +kernel
theorem dX6_turns_38 : decode cX6_turns 38 = .ok (.iaload, 1) := by decide +kernel
theorem dX6_turns_39 : decode cX6_turns 39 = .ok (.istore 8, 2) := by decide +kernel
theorem dX6_turns_41 : decode cX6_turns 41 = .ok (.aload_n 0, 1) := by decide +kernel
theorem dX6_turns_42 : decode cX6_turns 42 = .ok (.getfield 26, 3) := by decide +kernel
theorem dX6_turns_45 : decode cX6_turns 45 = .ok (.iload 4, 2) := by decide +kernel
theorem dX6_turns_47 : decode cX6_turns 47 = .ok (.iload 5, 2) := by decide +kernel
theorem dX6_turns_49 : decode cX6_turns 49 = .ok (.iastore, 1) := by decide +kernel
theorem dX6_turns_50 : decode cX6_turns 50 = .ok (.aload_n 0, 1) := by decide +kernel
theorem dX6_turns_51 : decode cX6_turns 51 = .ok (.getfield 29, 3) := by decide +kernel
theorem dX6_turns_54 : decode cX6_turns 54 = .ok (.iload 4, 2) := by decide +kernel
theorem dX6_turns_56 : decode cX6_turns 56 = .ok (.iload 6, 2) := by decide +kernel
theorem dX6_turns_58 : decode cX6_turns 58 = .ok (.iastore, 1) := by decide +kernel
theorem dX6_turns_59 : decode cX6_turns 59 = .ok (.aload_n 0, 1) := by decide +kernel
theorem dX6_turns_60 : decode cX6_turns 60 = .ok (.aload_n 0, 1) := by decide +kernel
theorem dX6_turns_61 : decode cX6_turns 61 = .ok (.getfield 102, 3) := by decide +kernel
theorem dX6_turns_64 : decode cX6_turns 64 = .ok (.iconst 1, 1) := by decide +kernel
theorem dX6_turns_65 : decode cX6_turns 65 = .ok (.iadd, 1) := by decide +kernel
theorem dX6_turns_66 : decode cX6_turns 66 = .ok (.putfield 102, 3) := by decide +kernel
theorem dX6_turns_69 : decode cX6_turns 69 = .ok (.iload 4, 2) := by decide +kernel
theorem dX6_turns_71 : decode cX6_turns 71 = .ok (.istore 5, 2) := by decide +kernel
theorem dX6_turns_73 : decode cX6_turns 73 = .ok (.iload 8, 2) := by decide +kernel
theorem dX6_turns_75 : decode cX6_turns 75 = .ok (.istore 6, 2) := by decide +kernel
theorem dX6_turns_77 : decode cX6_turns 77 = .ok (.iload 7, 2) := by decide +kernel
theorem dX6_turns_79 : decode cX6_turns 79 = .ok (.istore 4, 2) := by decide +kernel
theorem dX6_turns_81 : decode cX6_turns 81 = .ok (.goto (-64), 3) := by decide +kernel
theorem dX6_turns_84 : decode cX6_turns 84 = .ok (.return_, 1) := by decide +kernel
theorem dX6_deep_0 : decode cX6_deep 0 = .ok (.iconst 0, 1) := by decide +kernel
theorem dX6_deep_1 : decode cX6_deep 1 = .ok (.istore_n 2, 1) := by decide +kernel
theorem dX6_deep_2 : decode cX6_deep 2 = .ok (.aload_n 0, 1) := by decide +kernel
theorem dX6_deep_3 : decode cX6_deep 3 = .ok (.getfield 26, 3) := by decide +kernel
theorem dX6_deep_6 : decode cX6_deep 6 = .ok (.iload_n 1, 1) := by decide +kernel
theorem dX6_deep_7 : decode cX6_deep 7 = .ok (.iaload, 1) := by decide +kernel
theorem dX6_deep_8 : decode cX6_deep 8 = .ok (.istore_n 3, 1) := by decide +kernel
theorem dX6_deep_9 : decode cX6_deep 9 = .ok (.iload_n 3, 1) := by decide +kernel
theorem dX6_deep_10 : decode cX6_deep 10 = .ok (.iconst (-1), 1) := by decide +kernel
theorem dX6_deep_11 : decode cX6_deep 11 = .ok (.if_icmp .eq 17, 3) := by decide +kernel
theorem dX6_deep_14 : decode cX6_deep 14 = .ok (.iload_n 2, 1) := by decide +kernel
theorem dX6_deep_15 : decode cX6_deep 15 = .ok (.iconst 1, 1) := by decide +kernel
theorem dX6_deep_16 : decode cX6_deep 16 = .ok (.iadd, 1) := by decide +kernel
theorem dX6_deep_17 : decode cX6_deep 17 = .ok (.istore_n 2, 1) := by decide +kernel
theorem dX6_deep_18 : decode cX6_deep 18 = .ok (.aload_n 0, 1) := by decide +kernel
theorem dX6_deep_19 : decode cX6_deep 19 = .ok (.getfield 26, 3) := by decide +kernel
theorem dX6_deep_22 : decode cX6_deep 22 = .ok (.iload_n 3, 1) := by decide +kernel
theorem dX6_deep_23 : decode cX6_deep 23 = .ok (.iaload, 1) := by decide +kernel
theorem dX6_deep_24 : decode cX6_deep 24 = .ok (.istore_n 3, 1) := by decide +kernel
theorem dX6_deep_25 : decode cX6_deep 25 = .ok (.goto (-16), 3) := by decide +kernel
theorem dX6_deep_28 : decode cX6_deep 28 = .ok (.iload_n 2, 1) := by decide +kernel
theorem dX6_deep_29 : decode cX6_deep 29 = .ok (.ireturn, 1) := by decide +kernel
theorem dX6_onWay_0 : decode cX6_onWay 0 = .ok (.iconst 1, 1) := by decide +kernel
theorem dX6_onWay_1 : decode cX6_onWay 1 = .ok (.iload_n 1, 1) := by decide +kernel
theorem dX6_onWay_2 : decode cX6_onWay 2 = .ok (.ishl, 1) := by decide +kernel
theorem dX6_onWay_3 : decode cX6_onWay 3 = .ok (.iconst 1, 1) := by decide +kernel
theorem dX6_onWay_4 : decode cX6_onWay 4 = .ok (.iload_n 2, 1) := by decide +kernel
theorem dX6_onWay_5 : decode cX6_onWay 5 = .ok (.ishl, 1) := by decide +kernel
theorem dX6_onWay_6 : decode cX6_onWay 6 = .ok (.ior, 1) := by decide +kernel
theorem dX6_onWay_7 : decode cX6_onWay 7 = .ok (.istore_n 3, 1) := by decide +kernel
theorem dX6_onWay_8 : decode cX6_onWay 8 = .ok (.iload_n 1, 1) := by decide +kernel
theorem dX6_onWay_9 : decode cX6_onWay 9 = .ok (.istore 4, 2) := by decide +kernel
theorem dX6_onWay_11 : decode cX6_onWay 11 = .ok (.iload_n 2, 1) := by decide +kernel
theorem dX6_onWay_12 : decode cX6_onWay 12 = .ok (.istore 5, 2) := by decide +kernel
theorem dX6_onWay_14 : decode cX6_onWay 14 = .ok (.iload 4, 2) := by decide +kernel
theorem dX6_onWay_16 : decode cX6_onWay 16 = .ok (.iload 5, 2) := by decide +kernel
theorem dX6_onWay_18 : decode cX6_onWay 18 = .ok (.if_icmp .eq 54, 3) := by decide +kernel
theorem dX6_onWay_21 : decode cX6_onWay 21 = .ok (.aload_n 0, 1) := by decide +kernel
theorem dX6_onWay_22 : decode cX6_onWay 22 = .ok (.iload 4, 2) := by decide +kernel
theorem dX6_onWay_24 : decode cX6_onWay 24 = .ok (.invokevirtual 105, 3) := by decide +kernel
theorem dX6_onWay_27 : decode cX6_onWay 27 = .ok (.aload_n 0, 1) := by decide +kernel
theorem dX6_onWay_28 : decode cX6_onWay 28 = .ok (.iload 5, 2) := by decide +kernel
theorem dX6_onWay_30 : decode cX6_onWay 30 = .ok (.invokevirtual 105, 3) := by decide +kernel
theorem dX6_onWay_33 : decode cX6_onWay 33 = .ok (.if_icmp .lt 15, 3) := by decide +kernel
theorem dX6_onWay_36 : decode cX6_onWay 36 = .ok (.aload_n 0, 1) := by decide +kernel
theorem dX6_onWay_37 : decode cX6_onWay 37 = .ok (.getfield 26, 3) := by decide +kernel
theorem dX6_onWay_40 : decode cX6_onWay 40 = .ok (.iload 4, 2) := by decide +kernel
theorem dX6_onWay_42 : decode cX6_onWay 42 = .ok (.iaload, 1) := by decide +kernel
theorem dX6_onWay_43 : decode cX6_onWay 43 = .ok (.istore 4, 2) := by decide +kernel
theorem dX6_onWay_45 : decode cX6_onWay 45 = .ok (.goto 12, 3) := by decide +kernel
theorem dX6_onWay_48 : decode cX6_onWay 48 = .ok (.aload_n 0, 1) := by decide +kernel
theorem dX6_onWay_49 : decode cX6_onWay 49 = .ok (.getfield 26, 3) := by decide +kernel
theorem dX6_onWay_52 : decode cX6_onWay 52 = .ok (.iload 5, 2) := by decide +kernel
theorem dX6_onWay_54 : decode cX6_onWay 54 = .ok (.iaload, 1) := by decide +kernel
theorem dX6_onWay_55 : decode cX6_onWay 55 = .ok (.istore 5, 2) := by decide +kernel
theorem dX6_onWay_57 : decode cX6_onWay 57 = .ok (.iload_n 3, 1) := by decide +kernel
theorem dX6_onWay_58 : decode cX6_onWay 58 = .ok (.iconst 1, 1) := by decide +kernel
theorem dX6_onWay_59 : decode cX6_onWay 59 = .ok (.iload 4, 2) := by decide +kernel
theorem dX6_onWay_61 : decode cX6_onWay 61 = .ok (.ishl, 1) := by decide +kernel
theorem dX6_onWay_62 : decode cX6_onWay 62 = .ok (.ior, 1) := by decide +kernel
theorem dX6_onWay_63 : decode cX6_onWay 63 = .ok (.iconst 1, 1) := by decide +kernel
theorem dX6_onWay_64 : decode cX6_onWay 64 = .ok (.iload 5, 2) := by decide +kernel
theorem dX6_onWay_66 : decode cX6_onWay 66 = .ok (.ishl, 1) := by decide +kernel
theorem dX6_onWay_67 : decode cX6_onWay 67 = .ok (.ior, 1) := by decide +kernel
theorem dX6_onWay_68 : decode cX6_onWay 68 = .ok (.istore_n 3, 1) := by decide +kernel
theorem dX6_onWay_69 : decode cX6_onWay 69 = .ok (.goto (-55), 3) := by decide +kernel
theorem dX6_onWay_72 : decode cX6_onWay 72 = .ok (.iload_n 3, 1) := by decide +kernel
theorem dX6_onWay_73 : decode cX6_onWay 73 = .ok (.ireturn, 1) := by decide +kernel
theorem dX6_count_0 : decode cX6_count 0 = .ok (.iconst 0, 1) := by decide +kernel
theorem dX6_count_1 : decode cX6_count 1 = .ok (.istore_n 2, 1) := by decide +kernel
theorem dX6_count_2 : decode cX6_count 2 = .ok (.iconst 0, 1) := by decide +kernel
theorem dX6_count_3 : decode cX6_count 3 = .ok (.istore_n 3, 1) := by decide +kernel
theorem dX6_count_4 : decode cX6_count 4 = .ok (.iload_n 3, 1) := by decide +kernel
theorem dX6_count_5 : decode cX6_count 5 = .ok (.bipush 32, 2) := by decide +kernel
theorem dX6_count_7 : decode cX6_count 7 = .ok (.if_icmp .ge 22, 3) := by decide +kernel
theorem dX6_count_10 : decode cX6_count 10 = .ok (.aload_n 0, 1) := by decide +kernel
theorem dX6_count_11 : decode cX6_count 11 = .ok (.iload_n 1, 1) := by decide +kernel
theorem dX6_count_12 : decode cX6_count 12 = .ok (.iload_n 3, 1) := by decide +kernel
theorem dX6_count_13 : decode cX6_count 13 = .ok (.invokevirtual 85, 3) := by decide +kernel
theorem dX6_count_16 : decode cX6_count 16 = .ok (.ifCond .eq 7, 3) := by decide +kernel
theorem dX6_count_19 : decode cX6_count 19 = .ok (.iload_n 2, 1) := by decide +kernel
theorem dX6_count_20 : decode cX6_count 20 = .ok (.iconst 1, 1) := by decide +kernel
theorem dX6_count_21 : decode cX6_count 21 = .ok (.iadd, 1) := by decide +kernel
theorem dX6_count_22 : decode cX6_count 22 = .ok (.istore_n 2, 1) := by decide +kernel
theorem dX6_count_23 : decode cX6_count 23 = .ok (.iinc 3 1, 3) := by decide +kernel
theorem dX6_count_26 : decode cX6_count 26 = .ok (.goto (-22), 3) := by decide +kernel
theorem dX6_count_29 : decode cX6_count 29 = .ok (.iload_n 2, 1) := by decide +kernel
theorem dX6_count_30 : decode cX6_count 30 = .ok (.ireturn, 1) := by decide +kernel
theorem dX6_shrinks_0 : decode cX6_shrinks 0 = .ok (.iconst (-1), 1) := by decide +kernel
theorem dX6_shrinks_1 : decode cX6_shrinks 1 = .ok (.istore_n 3, 1) := by decide +kernel
theorem dX6_shrinks_2 : decode cX6_shrinks 2 = .ok (.iconst 0, 1) := by decide +kernel
theorem dX6_shrinks_3 : decode cX6_shrinks 3 = .ok (.istore 4, 2) := by decide +kernel
theorem dX6_shrinks_5 : decode cX6_shrinks 5 = .ok (.iload 4, 2) := by decide +kernel
theorem dX6_shrinks_7 : decode cX6_shrinks 7 = .ok (.aload_n 0, 1) := by decide +kernel
theorem dX6_shrinks_8 : decode cX6_shrinks 8 = .ok (.getfield 7, 3) := by decide +kernel
theorem dX6_shrinks_11 : decode cX6_shrinks 11 = .ok (.if_icmp .ge 41, 3) := by decide +kernel
theorem dX6_shrinks_14 : decode cX6_shrinks 14 = .ok (.aload_n 0, 1) := by decide +kernel
theorem dX6_shrinks_15 : decode cX6_shrinks 15 = .ok (.iload_n 1, 1) := by decide +kernel
theorem dX6_shrinks_16 : decode cX6_shrinks 16 = .ok (.iload 4, 2) := by decide +kernel
theorem dX6_shrinks_18 : decode cX6_shrinks 18 = .ok (.invokevirtual 85, 3) := by decide +kernel
theorem dX6_shrinks_21 : decode cX6_shrinks 21 = .ok (.ifCond .eq 25, 3) := by decide +kernel
theorem dX6_shrinks_24 : decode cX6_shrinks 24 = .ok (.iload_n 3, 1) := by decide +kernel
theorem dX6_shrinks_25 : decode cX6_shrinks 25 = .ok (.iconst (-1), 1) := by decide +kernel
theorem dX6_shrinks_26 : decode cX6_shrinks 26 = .ok (.if_icmp .eq 17, 3) := by decide +kernel
theorem dX6_shrinks_29 : decode cX6_shrinks 29 = .ok (.aload_n 0, 1) := by decide +kernel
theorem dX6_shrinks_30 : decode cX6_shrinks 30 = .ok (.iload 4, 2) := by decide +kernel
theorem dX6_shrinks_32 : decode cX6_shrinks 32 = .ok (.invokevirtual 105, 3) := by decide +kernel
theorem dX6_shrinks_35 : decode cX6_shrinks 35 = .ok (.aload_n 0, 1) := by decide +kernel
theorem dX6_shrinks_36 : decode cX6_shrinks 36 = .ok (.iload_n 3, 1) := by decide +kernel
theorem dX6_shrinks_37 : decode cX6_shrinks 37 = .ok (.invokevirtual 105, 3) := by decide +kernel
theorem dX6_shrinks_40 : decode cX6_shrinks 40 = .ok (.if_icmp .ge 6, 3) := by decide +kernel
theorem dX6_shrinks_43 : decode cX6_shrinks 43 = .ok (.iload 4, 2) := by decide +kernel
theorem dX6_shrinks_45 : decode cX6_shrinks 45 = .ok (.istore_n 3, 1) := by decide +kernel
theorem dX6_shrinks_46 : decode cX6_shrinks 46 = .ok (.iinc 4 1, 3) := by decide +kernel
theorem dX6_shrinks_49 : decode cX6_shrinks 49 = .ok (.goto (-44), 3) := by decide +kernel
theorem dX6_shrinks_52 : decode cX6_shrinks 52 = .ok (.iconst 0, 1) := by decide +kernel
theorem dX6_shrinks_53 : decode cX6_shrinks 53 = .ok (.istore 4, 2) := by decide +kernel
theorem dX6_shrinks_55 : decode cX6_shrinks 55 = .ok (.iload 4, 2) := by decide +kernel
theorem dX6_shrinks_57 : decode cX6_shrinks 57 = .ok (.aload_n 0, 1) := by decide +kernel
theorem dX6_shrinks_58 : decode cX6_shrinks 58 = .ok (.getfield 7, 3) := by decide +kernel
theorem dX6_shrinks_61 : decode cX6_shrinks 61 = .ok (.if_icmp .ge 38, 3) := by decide +kernel
theorem dX6_shrinks_64 : decode cX6_shrinks 64 = .ok (.aload_n 0, 1) := by decide +kernel
theorem dX6_shrinks_65 : decode cX6_shrinks 65 = .ok (.iload_n 1, 1) := by decide +kernel
theorem dX6_shrinks_66 : decode cX6_shrinks 66 = .ok (.iload 4, 2) := by decide +kernel
theorem dX6_shrinks_68 : decode cX6_shrinks 68 = .ok (.invokevirtual 85, 3) := by decide +kernel
theorem dX6_shrinks_71 : decode cX6_shrinks 71 = .ok (.ifCond .eq 22, 3) := by decide +kernel
theorem dX6_shrinks_74 : decode cX6_shrinks 74 = .ok (.iload 4, 2) := by decide +kernel
theorem dX6_shrinks_76 : decode cX6_shrinks 76 = .ok (.iload_n 3, 1) := by decide +kernel
theorem dX6_shrinks_77 : decode cX6_shrinks 77 = .ok (.if_icmp .eq 16, 3) := by decide +kernel
theorem dX6_shrinks_80 : decode cX6_shrinks 80 = .ok (.aload_n 0, 1) := by decide +kernel
theorem dX6_shrinks_81 : decode cX6_shrinks 81 = .ok (.getfield 41, 3) := by decide +kernel
theorem dX6_shrinks_84 : decode cX6_shrinks 84 = .ok (.aload_n 0, 1) := by decide +kernel
theorem dX6_shrinks_85 : decode cX6_shrinks 85 = .ok (.getfield 29, 3) := by decide +kernel
theorem dX6_shrinks_88 : decode cX6_shrinks 88 = .ok (.iload 4, 2) := by decide +kernel
theorem dX6_shrinks_90 : decode cX6_shrinks 90 = .ok (.iaload, 1) := by decide +kernel
theorem dX6_shrinks_91 : decode cX6_shrinks 91 = .ok (.iload_n 2, 1) := by decide +kernel
theorem dX6_shrinks_92 : decode cX6_shrinks 92 = .ok (.iastore, 1) := by decide +kernel
theorem dX6_shrinks_93 : decode cX6_shrinks 93 = .ok (.iinc 4 1, 3) := by decide +kernel
theorem dX6_shrinks_96 : decode cX6_shrinks 96 = .ok (.goto (-41), 3) := by decide +kernel
theorem dX6_shrinks_99 : decode cX6_shrinks 99 = .ok (.aload_n 0, 1) := by decide +kernel
theorem dX6_shrinks_100 : decode cX6_shrinks 100 = .ok (.getfield 26, 3) := by decide +kernel
theorem dX6_shrinks_103 : decode cX6_shrinks 103 = .ok (.iload_n 3, 1) := by decide +kernel
theorem dX6_shrinks_104 : decode cX6_shrinks 104 = .ok (.iaload, 1) := by decide +kernel
theorem dX6_shrinks_105 : decode cX6_shrinks 105 = .ok (.istore 4, 2) := by decide +kernel
theorem dX6_shrinks_107 : decode cX6_shrinks 107 = .ok (.aload_n 0, 1) := by decide +kernel
theorem dX6_shrinks_108 : decode cX6_shrinks 108 = .ok (.getfield 29, 3) := by decide +kernel
theorem dX6_shrinks_111 : decode cX6_shrinks 111 = .ok (.iload_n 3, 1) := by decide +kernel
theorem dX6_shrinks_112 : decode cX6_shrinks 112 = .ok (.iaload, 1) := by decide +kernel
theorem dX6_shrinks_113 : decode cX6_shrinks 113 = .ok (.istore 5, 2) := by decide +kernel
theorem dX6_shrinks_115 : decode cX6_shrinks 115 = .ok (.aload_n 0, 1) := by decide +kernel
theorem dX6_shrinks_116 : decode cX6_shrinks 116 = .ok (.iconst 0, 1) := by decide +kernel
theorem dX6_shrinks_117 : decode cX6_shrinks 117 = .ok (.iload_n 1, 1) := by decide +kernel
theorem dX6_shrinks_118 : decode cX6_shrinks 118 = .ok (.iload_n 2, 1) := by decide +kernel
theorem dX6_shrinks_119 : decode cX6_shrinks 119 = .ok (.invokevirtual 108, 3) := by decide +kernel
theorem dX6_shrinks_122 : decode cX6_shrinks 122 = .ok (.istore 6, 2) := by decide +kernel
theorem dX6_shrinks_124 : decode cX6_shrinks 124 = .ok (.iconst 0, 1) := by decide +kernel
theorem dX6_shrinks_125 : decode cX6_shrinks 125 = .ok (.istore 7, 2) := by decide +kernel
theorem dX6_shrinks_127 : decode cX6_shrinks 127 = .ok (.iload 7, 2) := by decide +kernel
theorem dX6_shrinks_129 : decode cX6_shrinks 129 = .ok (.aload_n 0, 1) := by decide +kernel
theorem dX6_shrinks_130 : decode cX6_shrinks 130 = .ok (.getfield 7, 3) := by decide +kernel
theorem dX6_shrinks_133 : decode cX6_shrinks 133 = .ok (.if_icmp .ge 54, 3) := by decide +kernel
theorem dX6_shrinks_136 : decode cX6_shrinks 136 = .ok (.aload_n 0, 1) := by decide +kernel
theorem dX6_shrinks_137 : decode cX6_shrinks 137 = .ok (.iload_n 1, 1) := by decide +kernel
theorem dX6_shrinks_138 : decode cX6_shrinks 138 = .ok (.iload 7, 2) := by decide +kernel
theorem dX6_shrinks_140 : decode cX6_shrinks 140 = .ok (.invokevirtual 85, 3) := by decide +kernel
theorem dX6_shrinks_143 : decode cX6_shrinks 143 = .ok (.ifCond .ne 38, 3) := by decide +kernel
theorem dX6_shrinks_146 : decode cX6_shrinks 146 = .ok (.aload_n 0, 1) := by decide +kernel
theorem dX6_shrinks_147 : decode cX6_shrinks 147 = .ok (.getfield 26, 3) := by decide +kernel
theorem dX6_shrinks_150 : decode cX6_shrinks 150 = .ok (.iload 7, 2) := by decide +kernel
theorem dX6_shrinks_152 : decode cX6_shrinks 152 = .ok (.iaload, 1) := by decide +kernel
theorem dX6_shrinks_153 : decode cX6_shrinks 153 = .ok (.iconst (-1), 1) := by decide +kernel
theorem dX6_shrinks_154 : decode cX6_shrinks 154 = .ok (.if_icmp .eq 27, 3) := by decide +kernel
theorem dX6_shrinks_157 : decode cX6_shrinks 157 = .ok (.aload_n 0, 1) := by decide +kernel
theorem dX6_shrinks_158 : decode cX6_shrinks 158 = .ok (.iload_n 1, 1) := by decide +kernel
theorem dX6_shrinks_159 : decode cX6_shrinks 159 = .ok (.aload_n 0, 1) := by decide +kernel
theorem dX6_shrinks_160 : decode cX6_shrinks 160 = .ok (.getfield 26, 3) := by decide +kernel
theorem dX6_shrinks_163 : decode cX6_shrinks 163 = .ok (.iload 7, 2) := by decide +kernel
theorem dX6_shrinks_165 : decode cX6_shrinks 165 = .ok (.iaload, 1) := by decide +kernel
theorem dX6_shrinks_166 : decode cX6_shrinks 166 = .ok (.invokevirtual 85, 3) := by decide +kernel
theorem dX6_shrinks_169 : decode cX6_shrinks 169 = .ok (.ifCond .eq 12, 3) := by decide +kernel
theorem dX6_shrinks_172 : decode cX6_shrinks 172 = .ok (.aload_n 0, 1) := by decide +kernel
theorem dX6_shrinks_173 : decode cX6_shrinks 173 = .ok (.getfield 26, 3) := by decide +kernel
theorem dX6_shrinks_176 : decode cX6_shrinks 176 = .ok (.iload 7, 2) := by decide +kernel
theorem dX6_shrinks_178 : decode cX6_shrinks 178 = .ok (.iload 6, 2) := by decide +kernel
theorem dX6_shrinks_180 : decode cX6_shrinks 180 = .ok (.iastore, 1) := by decide +kernel
theorem dX6_shrinks_181 : decode cX6_shrinks 181 = .ok (.iinc 7 1, 3) := by decide +kernel
theorem dX6_shrinks_184 : decode cX6_shrinks 184 = .ok (.goto (-57), 3) := by decide +kernel
theorem dX6_shrinks_187 : decode cX6_shrinks 187 = .ok (.aload_n 0, 1) := by decide +kernel
theorem dX6_shrinks_188 : decode cX6_shrinks 188 = .ok (.getfield 26, 3) := by decide +kernel
theorem dX6_shrinks_191 : decode cX6_shrinks 191 = .ok (.iload 6, 2) := by decide +kernel
theorem dX6_shrinks_193 : decode cX6_shrinks 193 = .ok (.iload 4, 2) := by decide +kernel
theorem dX6_shrinks_195 : decode cX6_shrinks 195 = .ok (.iastore, 1) := by decide +kernel
theorem dX6_shrinks_196 : decode cX6_shrinks 196 = .ok (.aload_n 0, 1) := by decide +kernel
theorem dX6_shrinks_197 : decode cX6_shrinks 197 = .ok (.getfield 29, 3) := by decide +kernel
theorem dX6_shrinks_200 : decode cX6_shrinks 200 = .ok (.iload 6, 2) := by decide +kernel
theorem dX6_shrinks_202 : decode cX6_shrinks 202 = .ok (.iload 5, 2) := by decide +kernel
theorem dX6_shrinks_204 : decode cX6_shrinks 204 = .ok (.iastore, 1) := by decide +kernel
theorem dX6_shrinks_205 : decode cX6_shrinks 205 = .ok (.return_, 1) := by decide +kernel
theorem dX6_comes_0 : decode cX6_comes 0 = .ok (.aload_n 0, 1) := by decide +kernel
theorem dX6_comes_1 : decode cX6_comes 1 = .ok (.getfield 13, 3) := by decide +kernel
theorem dX6_comes_4 : decode cX6_comes 4 = .ok (.iload_n 1, 1) := by decide +kernel
theorem dX6_comes_5 : decode cX6_comes 5 = .ok (.iaload, 1) := by decide +kernel
theorem dX6_comes_6 : decode cX6_comes 6 = .ok (.istore_n 2, 1) := by decide +kernel
theorem dX6_comes_7 : decode cX6_comes 7 = .ok (.aload_n 0, 1) := by decide +kernel
theorem dX6_comes_8 : decode cX6_comes 8 = .ok (.getfield 17, 3) := by decide +kernel
theorem dX6_comes_11 : decode cX6_comes 11 = .ok (.iload_n 1, 1) := by decide +kernel
theorem dX6_comes_12 : decode cX6_comes 12 = .ok (.iaload, 1) := by decide +kernel
theorem dX6_comes_13 : decode cX6_comes 13 = .ok (.istore_n 3, 1) := by decide +kernel
theorem dX6_comes_14 : decode cX6_comes 14 = .ok (.aload_n 0, 1) := by decide +kernel
theorem dX6_comes_15 : decode cX6_comes 15 = .ok (.iconst 0, 1) := by decide +kernel
theorem dX6_comes_16 : decode cX6_comes 16 = .ok (.putfield 102, 3) := by decide +kernel
theorem dX6_comes_19 : decode cX6_comes 19 = .ok (.aload_n 0, 1) := by decide +kernel
theorem dX6_comes_20 : decode cX6_comes 20 = .ok (.iconst 1, 1) := by decide +kernel
theorem dX6_comes_21 : decode cX6_comes 21 = .ok (.putfield 112, 3) := by decide +kernel
theorem dX6_comes_24 : decode cX6_comes 24 = .ok (.aload_n 0, 1) := by decide +kernel
theorem dX6_comes_25 : decode cX6_comes 25 = .ok (.aload_n 0, 1) := by decide +kernel
theorem dX6_comes_26 : decode cX6_comes 26 = .ok (.iload_n 2, 1) := by decide +kernel
theorem dX6_comes_27 : decode cX6_comes 27 = .ok (.invokevirtual 98, 3) := by decide +kernel
theorem dX6_comes_30 : decode cX6_comes 30 = .ok (.putfield 115, 3) := by decide +kernel
theorem dX6_comes_33 : decode cX6_comes 33 = .ok (.aload_n 0, 1) := by decide +kernel
theorem dX6_comes_34 : decode cX6_comes 34 = .ok (.aload_n 0, 1) := by decide +kernel
theorem dX6_comes_35 : decode cX6_comes 35 = .ok (.iload_n 3, 1) := by decide +kernel
theorem dX6_comes_36 : decode cX6_comes 36 = .ok (.invokevirtual 98, 3) := by decide +kernel
theorem dX6_comes_39 : decode cX6_comes 39 = .ok (.putfield 118, 3) := by decide +kernel
theorem dX6_comes_42 : decode cX6_comes 42 = .ok (.aload_n 0, 1) := by decide +kernel
theorem dX6_comes_43 : decode cX6_comes 43 = .ok (.getfield 41, 3) := by decide +kernel
theorem dX6_comes_46 : decode cX6_comes 46 = .ok (.iload_n 1, 1) := by decide +kernel
theorem dX6_comes_47 : decode cX6_comes 47 = .ok (.iload_n 1, 1) := by decide +kernel
theorem dX6_comes_48 : decode cX6_comes 48 = .ok (.iastore, 1) := by decide +kernel
theorem dX6_comes_49 : decode cX6_comes 49 = .ok (.aload_n 0, 1) := by decide +kernel
theorem dX6_comes_50 : decode cX6_comes 50 = .ok (.iload_n 2, 1) := by decide +kernel
theorem dX6_comes_51 : decode cX6_comes 51 = .ok (.invokevirtual 121, 3) := by decide +kernel
theorem dX6_comes_54 : decode cX6_comes 54 = .ok (.aload_n 0, 1) := by decide +kernel
theorem dX6_comes_55 : decode cX6_comes 55 = .ok (.iload_n 3, 1) := by decide +kernel
theorem dX6_comes_56 : decode cX6_comes 56 = .ok (.invokevirtual 121, 3) := by decide +kernel
theorem dX6_comes_59 : decode cX6_comes 59 = .ok (.if_icmp .eq 115, 3) := by decide +kernel
theorem dX6_comes_62 : decode cX6_comes 62 = .ok (.aload_n 0, 1) := by decide +kernel
theorem dX6_comes_63 : decode cX6_comes 63 = .ok (.getfield 41, 3) := by decide +kernel
theorem dX6_comes_66 : decode cX6_comes 66 = .ok (.iload_n 1, 1) := by decide +kernel
theorem dX6_comes_67 : decode cX6_comes 67 = .ok (.iconst (-1), 1) := by decide +kernel
theorem dX6_comes_68 : decode cX6_comes 68 = .ok (.iastore, 1) := by decide +kernel
theorem dX6_comes_69 : decode cX6_comes 69 = .ok (.aload_n 0, 1) := by decide +kernel
theorem dX6_comes_70 : decode cX6_comes 70 = .ok (.iconst 1, 1) := by decide +kernel
theorem dX6_comes_71 : decode cX6_comes 71 = .ok (.aload_n 0, 1) := by decide +kernel
theorem dX6_comes_72 : decode cX6_comes 72 = .ok (.iload_n 2, 1) := by decide +kernel
theorem dX6_comes_73 : decode cX6_comes 73 = .ok (.invokevirtual 121, 3) := by decide +kernel
theorem dX6_comes_76 : decode cX6_comes 76 = .ok (.invokevirtual 89, 3) := by decide +kernel
theorem dX6_comes_79 : decode cX6_comes 79 = .ok (.istore 4, 2) := by decide +kernel
theorem dX6_comes_81 : decode cX6_comes 81 = .ok (.aload_n 0, 1) := by decide +kernel
theorem dX6_comes_82 : decode cX6_comes 82 = .ok (.iconst 1, 1) := by decide +kernel
theorem dX6_comes_83 : decode cX6_comes 83 = .ok (.aload_n 0, 1) := by decide +kernel
theorem dX6_comes_84 : decode cX6_comes 84 = .ok (.iload_n 3, 1) := by decide +kernel
theorem dX6_comes_85 : decode cX6_comes 85 = .ok (.invokevirtual 121, 3) := by decide +kernel
theorem dX6_comes_88 : decode cX6_comes 88 = .ok (.invokevirtual 89, 3) := by decide +kernel
theorem dX6_comes_91 : decode cX6_comes 91 = .ok (.istore 5, 2) := by decide +kernel
theorem dX6_comes_93 : decode cX6_comes 93 = .ok (.iload 4, 2) := by decide +kernel
theorem dX6_comes_95 : decode cX6_comes 95 = .ok (.iload 5, 2) := by decide +kernel
theorem dX6_comes_97 : decode cX6_comes 97 = .ok (.if_icmp .lt 23, 3) := by decide +kernel
theorem dX6_comes_100 : decode cX6_comes 100 = .ok (.iload 4, 2) := by decide +kernel
theorem dX6_comes_102 : decode cX6_comes 102 = .ok (.iload 5, 2) := by decide +kernel
theorem dX6_comes_104 : decode cX6_comes 104 = .ok (.if_icmp .ne 20, 3) := by decide +kernel
theorem dX6_comes_107 : decode cX6_comes 107 = .ok (.aload_n 0, 1) := by decide +kernel
theorem dX6_comes_108 : decode cX6_comes 108 = .ok (.iload_n 2, 1) := by decide +kernel
theorem dX6_comes_109 : decode cX6_comes 109 = .ok (.invokevirtual 121, 3) := by decide +kernel
theorem dX6_comes_112 : decode cX6_comes 112 = .ok (.aload_n 0, 1) := by decide +kernel
theorem dX6_comes_113 : decode cX6_comes 113 = .ok (.iload_n 3, 1) := by decide +kernel
theorem dX6_comes_114 : decode cX6_comes 114 = .ok (.invokevirtual 121, 3) := by decide +kernel
theorem dX6_comes_117 : decode cX6_comes 117 = .ok (.if_icmp .le 7, 3) := by decide +kernel
theorem dX6_comes_120 : decode cX6_comes 120 = .ok (.iconst 1, 1) := by decide +kernel
theorem dX6_comes_121 : decode cX6_comes 121 = .ok (.goto 4, 3) := by decide +kernel
theorem dX6_comes_124 : decode cX6_comes 124 = .ok (.iconst 0, 1) := by decide +kernel
theorem dX6_comes_125 : decode cX6_comes 125 = .ok (.istore 6, 2) := by decide +kernel
theorem dX6_comes_127 : decode cX6_comes 127 = .ok (.iload 6, 2) := by decide +kernel
theorem dX6_comes_129 : decode cX6_comes 129 = .ok (.ifCond .eq 13, 3) := by decide +kernel
theorem dX6_comes_132 : decode cX6_comes 132 = .ok (.aload_n 0, 1) := by decide +kernel
theorem dX6_comes_133 : decode cX6_comes 133 = .ok (.iload_n 2, 1) := by decide +kernel
theorem dX6_comes_134 : decode cX6_comes 134 = .ok (.iload_n 3, 1) := by decide +kernel
theorem dX6_comes_135 : decode cX6_comes 135 = .ok (.iload_n 1, 1) := by decide +kernel
theorem dX6_comes_136 : decode cX6_comes 136 = .ok (.invokevirtual 124, 3) := by decide +kernel
theorem dX6_comes_139 : decode cX6_comes 139 = .ok (.goto 10, 3) := by decide +kernel
theorem dX6_comes_142 : decode cX6_comes 142 = .ok (.aload_n 0, 1) := by decide +kernel
theorem dX6_comes_143 : decode cX6_comes 143 = .ok (.iload_n 3, 1) := by decide +kernel
theorem dX6_comes_144 : decode cX6_comes 144 = .ok (.iload_n 2, 1) := by decide +kernel
theorem dX6_comes_145 : decode cX6_comes 145 = .ok (.iload_n 1, 1) := by decide +kernel
theorem dX6_comes_146 : decode cX6_comes 146 = .ok (.invokevirtual 124, 3) := by decide +kernel
theorem dX6_comes_149 : decode cX6_comes 149 = .ok (.aload_n 0, 1) := by decide +kernel
theorem dX6_comes_150 : decode cX6_comes 150 = .ok (.iconst 1, 1) := by decide +kernel
theorem dX6_comes_151 : decode cX6_comes 151 = .ok (.iconst 1, 1) := by decide +kernel
theorem dX6_comes_152 : decode cX6_comes 152 = .ok (.aload_n 0, 1) := by decide +kernel
theorem dX6_comes_153 : decode cX6_comes 153 = .ok (.iload_n 2, 1) := by decide +kernel
theorem dX6_comes_154 : decode cX6_comes 154 = .ok (.invokevirtual 121, 3) := by decide +kernel
theorem dX6_comes_157 : decode cX6_comes 157 = .ok (.ishl, 1) := by decide +kernel
theorem dX6_comes_158 : decode cX6_comes 158 = .ok (.iconst 1, 1) := by decide +kernel
theorem dX6_comes_159 : decode cX6_comes 159 = .ok (.aload_n 0, 1) := by decide +kernel
theorem dX6_comes_160 : decode cX6_comes 160 = .ok (.iload_n 3, 1) := by decide +kernel
theorem dX6_comes_161 : decode cX6_comes 161 = .ok (.invokevirtual 121, 3) := by decide +kernel
theorem dX6_comes_164 : decode cX6_comes 164 = .ok (.ishl, 1) := by decide +kernel
theorem dX6_comes_165 : decode cX6_comes 165 = .ok (.ior, 1) := by decide +kernel
theorem dX6_comes_166 : decode cX6_comes 166 = .ok (.iload_n 1, 1) := by decide +kernel
theorem dX6_comes_167 : decode cX6_comes 167 = .ok (.invokevirtual 108, 3) := by decide +kernel
theorem dX6_comes_170 : decode cX6_comes 170 = .ok (.pop, 1) := by decide +kernel
theorem dX6_comes_171 : decode cX6_comes 171 = .ok (.goto 49, 3) := by decide +kernel
theorem dX6_comes_174 : decode cX6_comes 174 = .ok (.aload_n 0, 1) := by decide +kernel
theorem dX6_comes_175 : decode cX6_comes 175 = .ok (.iload_n 2, 1) := by decide +kernel
theorem dX6_comes_176 : decode cX6_comes 176 = .ok (.invokevirtual 98, 3) := by decide +kernel
theorem dX6_comes_179 : decode cX6_comes 179 = .ok (.aload_n 0, 1) := by decide +kernel
theorem dX6_comes_180 : decode cX6_comes 180 = .ok (.iload_n 3, 1) := by decide +kernel
theorem dX6_comes_181 : decode cX6_comes 181 = .ok (.invokevirtual 98, 3) := by decide +kernel
theorem dX6_comes_184 : decode cX6_comes 184 = .ok (.if_icmp .eq 36, 3) := by decide +kernel
theorem dX6_comes_187 : decode cX6_comes 187 = .ok (.aload_n 0, 1) := by decide +kernel
theorem dX6_comes_188 : decode cX6_comes 188 = .ok (.aload_n 0, 1) := by decide +kernel
theorem dX6_comes_189 : decode cX6_comes 189 = .ok (.iload_n 2, 1) := by decide +kernel
theorem dX6_comes_190 : decode cX6_comes 190 = .ok (.invokevirtual 98, 3) := by decide +kernel
theorem dX6_comes_193 : decode cX6_comes 193 = .ok (.aload_n 0, 1) := by decide +kernel
theorem dX6_comes_194 : decode cX6_comes 194 = .ok (.iload_n 3, 1) := by decide +kernel
theorem dX6_comes_195 : decode cX6_comes 195 = .ok (.invokevirtual 98, 3) := by decide +kernel
theorem dX6_comes_198 : decode cX6_comes 198 = .ok (.invokevirtual 128, 3) := by decide +kernel
theorem dX6_comes_201 : decode cX6_comes 201 = .ok (.istore 4, 2) := by decide +kernel
theorem dX6_comes_203 : decode cX6_comes 203 = .ok (.aload_n 0, 1) := by decide +kernel
theorem dX6_comes_204 : decode cX6_comes 204 = .ok (.aload_n 0, 1) := by decide +kernel
theorem dX6_comes_205 : decode cX6_comes 205 = .ok (.iload 4, 2) := by decide +kernel
theorem dX6_comes_207 : decode cX6_comes 207 = .ok (.invokevirtual 131, 3) := by decide +kernel
theorem dX6_comes_210 : decode cX6_comes 210 = .ok (.putfield 112, 3) := by decide +kernel
theorem dX6_comes_213 : decode cX6_comes 213 = .ok (.aload_n 0, 1) := by decide +kernel
theorem dX6_comes_214 : decode cX6_comes 214 = .ok (.iload 4, 2) := by decide +kernel
theorem dX6_comes_216 : decode cX6_comes 216 = .ok (.iload_n 1, 1) := by decide +kernel
theorem dX6_comes_217 : decode cX6_comes 217 = .ok (.invokevirtual 134, 3) := by decide +kernel
theorem dX6_comes_220 : decode cX6_comes 220 = .ok (.return_, 1) := by decide +kernel
theorem dX6_runs_0 : decode cX6_runs 0 = .ok (.aload_n 0, 1) := by decide +kernel
theorem dX6_runs_1 : decode cX6_runs 1 = .ok (.getfield 20, 3) := by decide +kernel
theorem dX6_runs_4 : decode cX6_runs 4 = .ok (.iconst (-1), 1) := by decide +kernel
theorem dX6_runs_5 : decode cX6_runs 5 = .ok (.if_icmp .eq 11, 3) := by decide +kernel
theorem dX6_runs_8 : decode cX6_runs 8 = .ok (.aload_n 0, 1) := by decide +kernel
theorem dX6_runs_9 : decode cX6_runs 9 = .ok (.getfield 20, 3) := by decide +kernel
theorem dX6_runs_12 : decode cX6_runs 12 = .ok (.iload_n 1, 1) := by decide +kernel
theorem dX6_runs_13 : decode cX6_runs 13 = .ok (.if_icmp .le 7, 3) := by decide +kernel
theorem dX6_runs_16 : decode cX6_runs 16 = .ok (.aload_n 0, 1) := by decide +kernel
theorem dX6_runs_17 : decode cX6_runs 17 = .ok (.invokevirtual 138, 3) := by decide +kernel
theorem dX6_runs_20 : decode cX6_runs 20 = .ok (.aload_n 0, 1) := by decide +kernel
theorem dX6_runs_21 : decode cX6_runs 21 = .ok (.getfield 20, 3) := by decide +kernel
theorem dX6_runs_24 : decode cX6_runs 24 = .ok (.iload_n 1, 1) := by decide +kernel
theorem dX6_runs_25 : decode cX6_runs 25 = .ok (.if_icmp .ge 24, 3) := by decide +kernel
theorem dX6_runs_28 : decode cX6_runs 28 = .ok (.aload_n 0, 1) := by decide +kernel
theorem dX6_runs_29 : decode cX6_runs 29 = .ok (.aload_n 0, 1) := by decide +kernel
theorem dX6_runs_30 : decode cX6_runs 30 = .ok (.getfield 20, 3) := by decide +kernel
theorem dX6_runs_33 : decode cX6_runs 33 = .ok (.invokevirtual 141, 3) := by decide +kernel
theorem dX6_runs_36 : decode cX6_runs 36 = .ok (.aload_n 0, 1) := by decide +kernel
theorem dX6_runs_37 : decode cX6_runs 37 = .ok (.aload_n 0, 1) := by decide +kernel
theorem dX6_runs_38 : decode cX6_runs 38 = .ok (.getfield 20, 3) := by decide +kernel
theorem dX6_runs_41 : decode cX6_runs 41 = .ok (.iconst 1, 1) := by decide +kernel
theorem dX6_runs_42 : decode cX6_runs 42 = .ok (.iadd, 1) := by decide +kernel
theorem dX6_runs_43 : decode cX6_runs 43 = .ok (.putfield 20, 3) := by decide +kernel
theorem dX6_runs_46 : decode cX6_runs 46 = .ok (.goto (-26), 3) := by decide +kernel
theorem dX6_runs_49 : decode cX6_runs 49 = .ok (.return_, 1) := by decide +kernel
theorem dX6_runsAll_0 : decode cX6_runsAll 0 = .ok (.aload_n 0, 1) := by decide +kernel
theorem dX6_runsAll_1 : decode cX6_runsAll 1 = .ok (.aload_n 0, 1) := by decide +kernel
theorem dX6_runsAll_2 : decode cX6_runsAll 2 = .ok (.getfield 78, 3) := by decide +kernel
theorem dX6_runsAll_5 : decode cX6_runsAll 5 = .ok (.invokevirtual 145, 3) := by decide +kernel
theorem dX6_runsAll_8 : decode cX6_runsAll 8 = .ok (.return_, 1) := by decide +kernel
theorem dX6_nodes_0 : decode cX6_nodes 0 = .ok (.aload_n 0, 1) := by decide +kernel
theorem dX6_nodes_1 : decode cX6_nodes 1 = .ok (.iconst 0, 1) := by decide +kernel
theorem dX6_nodes_2 : decode cX6_nodes 2 = .ok (.putfield 71, 3) := by decide +kernel
theorem dX6_nodes_5 : decode cX6_nodes 5 = .ok (.aload_n 0, 1) := by decide +kernel
theorem dX6_nodes_6 : decode cX6_nodes 6 = .ok (.iload_n 1, 1) := by decide +kernel
theorem dX6_nodes_7 : decode cX6_nodes 7 = .ok (.i2l, 1) := by decide +kernel
theorem dX6_nodes_8 : decode cX6_nodes 8 = .ok (.ldc2_w 148, 3) := by decide +kernel
theorem dX6_nodes_11 : decode cX6_nodes 11 = .ok (.ldc2_w 150, 3) := by decide +kernel
theorem dX6_nodes_14 : decode cX6_nodes 14 = .ok (.invokevirtual 74, 3) := by decide +kernel
theorem dX6_nodes_17 : decode cX6_nodes 17 = .ok (.ifCond .ne 5, 3) := by decide +kernel
theorem dX6_nodes_20 : decode cX6_nodes 20 = .ok (.iconst 0, 1) := by decide +kernel
theorem dX6_nodes_21 : decode cX6_nodes 21 = .ok (.ireturn, 1) := by decide +kernel
theorem dX6_nodes_22 : decode cX6_nodes 22 = .ok (.aload_n 0, 1) := by decide +kernel
theorem dX6_nodes_23 : decode cX6_nodes 23 = .ok (.iload_n 1, 1) := by decide +kernel
theorem dX6_nodes_24 : decode cX6_nodes 24 = .ok (.putfield 7, 3) := by decide +kernel
theorem dX6_nodes_27 : decode cX6_nodes 27 = .ok (.aload_n 0, 1) := by decide +kernel
theorem dX6_nodes_28 : decode cX6_nodes 28 = .ok (.iconst 0, 1) := by decide +kernel
theorem dX6_nodes_29 : decode cX6_nodes 29 = .ok (.putfield 78, 3) := by decide +kernel
theorem dX6_nodes_32 : decode cX6_nodes 32 = .ok (.aload_n 0, 1) := by decide +kernel
theorem dX6_nodes_33 : decode cX6_nodes 33 = .ok (.iconst (-1), 1) := by decide +kernel
theorem dX6_nodes_34 : decode cX6_nodes 34 = .ok (.putfield 20, 3) := by decide +kernel
theorem dX6_nodes_37 : decode cX6_nodes 37 = .ok (.aload_n 0, 1) := by decide +kernel
theorem dX6_nodes_38 : decode cX6_nodes 38 = .ok (.iconst (-1), 1) := by decide +kernel
theorem dX6_nodes_39 : decode cX6_nodes 39 = .ok (.putfield 47, 3) := by decide +kernel
theorem dX6_nodes_42 : decode cX6_nodes 42 = .ok (.iconst 1, 1) := by decide +kernel
theorem dX6_nodes_43 : decode cX6_nodes 43 = .ok (.ireturn, 1) := by decide +kernel
theorem dX6_lays_0 : decode cX6_lays 0 = .ok (.aload_n 0, 1) := by decide +kernel
theorem dX6_lays_1 : decode cX6_lays 1 = .ok (.getfield 13, 3) := by decide +kernel
theorem dX6_lays_4 : decode cX6_lays 4 = .ok (.aload_n 0, 1) := by decide +kernel
theorem dX6_lays_5 : decode cX6_lays 5 = .ok (.getfield 78, 3) := by decide +kernel
theorem dX6_lays_8 : decode cX6_lays 8 = .ok (.iload_n 1, 1) := by decide +kernel
theorem dX6_lays_9 : decode cX6_lays 9 = .ok (.iastore, 1) := by decide +kernel
theorem dX6_lays_10 : decode cX6_lays 10 = .ok (.aload_n 0, 1) := by decide +kernel
theorem dX6_lays_11 : decode cX6_lays 11 = .ok (.getfield 17, 3) := by decide +kernel
theorem dX6_lays_14 : decode cX6_lays 14 = .ok (.aload_n 0, 1) := by decide +kernel
theorem dX6_lays_15 : decode cX6_lays 15 = .ok (.getfield 78, 3) := by decide +kernel
theorem dX6_lays_18 : decode cX6_lays 18 = .ok (.iload_n 2, 1) := by decide +kernel
theorem dX6_lays_19 : decode cX6_lays 19 = .ok (.iastore, 1) := by decide +kernel
theorem dX6_lays_20 : decode cX6_lays 20 = .ok (.aload_n 0, 1) := by decide +kernel
theorem dX6_lays_21 : decode cX6_lays 21 = .ok (.aload_n 0, 1) := by decide +kernel
theorem dX6_lays_22 : decode cX6_lays 22 = .ok (.getfield 78, 3) := by decide +kernel
theorem dX6_lays_25 : decode cX6_lays 25 = .ok (.iconst 1, 1) := by decide +kernel
theorem dX6_lays_26 : decode cX6_lays 26 = .ok (.iadd, 1) := by decide +kernel
theorem dX6_lays_27 : decode cX6_lays 27 = .ok (.putfield 78, 3) := by decide +kernel
theorem dX6_lays_30 : decode cX6_lays 30 = .ok (.return_, 1) := by decide +kernel
theorem dX6_bridges_0 : decode cX6_bridges 0 = .ok (.iconst 0, 1) := by decide +kernel
theorem dX6_bridges_1 : decode cX6_bridges 1 = .ok (.istore_n 1, 1) := by decide +kernel
theorem dX6_bridges_2 : decode cX6_bridges 2 = .ok (.iconst 0, 1) := by decide +kernel
theorem dX6_bridges_3 : decode cX6_bridges 3 = .ok (.istore_n 2, 1) := by decide +kernel
theorem dX6_bridges_4 : decode cX6_bridges 4 = .ok (.iload_n 2, 1) := by decide +kernel
theorem dX6_bridges_5 : decode cX6_bridges 5 = .ok (.aload_n 0, 1) := by decide +kernel
theorem dX6_bridges_6 : decode cX6_bridges 6 = .ok (.getfield 20, 3) := by decide +kernel
theorem dX6_bridges_9 : decode cX6_bridges 9 = .ok (.if_icmp .ge 23, 3) := by decide +kernel
theorem dX6_bridges_12 : decode cX6_bridges 12 = .ok (.aload_n 0, 1) := by decide +kernel
theorem dX6_bridges_13 : decode cX6_bridges 13 = .ok (.getfield 41, 3) := by decide +kernel
theorem dX6_bridges_16 : decode cX6_bridges 16 = .ok (.iload_n 2, 1) := by decide +kernel
theorem dX6_bridges_17 : decode cX6_bridges 17 = .ok (.iaload, 1) := by decide +kernel
theorem dX6_bridges_18 : decode cX6_bridges 18 = .ok (.iconst (-1), 1) := by decide +kernel
theorem dX6_bridges_19 : decode cX6_bridges 19 = .ok (.if_icmp .ne 7, 3) := by decide +kernel
theorem dX6_bridges_22 : decode cX6_bridges 22 = .ok (.iload_n 1, 1) := by decide +kernel
theorem dX6_bridges_23 : decode cX6_bridges 23 = .ok (.iconst 1, 1) := by decide +kernel
theorem dX6_bridges_24 : decode cX6_bridges 24 = .ok (.iadd, 1) := by decide +kernel
theorem dX6_bridges_25 : decode cX6_bridges 25 = .ok (.istore_n 1, 1) := by decide +kernel
theorem dX6_bridges_26 : decode cX6_bridges 26 = .ok (.iinc 2 1, 3) := by decide +kernel
theorem dX6_bridges_29 : decode cX6_bridges 29 = .ok (.goto (-25), 3) := by decide +kernel
theorem dX6_bridges_32 : decode cX6_bridges 32 = .ok (.iload_n 1, 1) := by decide +kernel
theorem dX6_bridges_33 : decode cX6_bridges 33 = .ok (.ireturn, 1) := by decide +kernel
theorem dX6_link_0 : decode cX6_link 0 = .ok (.aload_n 0, 1) := by decide +kernel
theorem dX6_link_1 : decode cX6_link 1 = .ok (.iconst 0, 1) := by decide +kernel
theorem dX6_link_2 : decode cX6_link 2 = .ok (.putfield 71, 3) := by decide +kernel
theorem dX6_link_5 : decode cX6_link 5 = .ok (.aload_n 0, 1) := by decide +kernel
theorem dX6_link_6 : decode cX6_link 6 = .ok (.iload_n 1, 1) := by decide +kernel
theorem dX6_link_7 : decode cX6_link 7 = .ok (.iload_n 2, 1) := by decide +kernel
theorem dX6_link_8 : decode cX6_link 8 = .ok (.invokevirtual 152, 3) := by decide +kernel
theorem dX6_link_11 : decode cX6_link 11 = .ok (.ifCond .eq 12, 3) := by decide +kernel
theorem dX6_link_14 : decode cX6_link 14 = .ok (.aload_n 0, 1) := by decide +kernel
theorem dX6_link_15 : decode cX6_link 15 = .ok (.getfield 78, 3) := by decide +kernel
theorem dX6_link_18 : decode cX6_link 18 = .ok (.bipush 64, 2) := by decide +kernel
theorem dX6_link_20 : decode cX6_link 20 = .ok (.if_icmp .ne 5, 3) := by decide +kernel
theorem dX6_link_23 : decode cX6_link 23 = .ok (.iconst (-1), 1) := by decide +kernel
theorem dX6_link_24 : decode cX6_link 24 = .ok (.ireturn, 1) := by decide +kernel
theorem dX6_link_25 : decode cX6_link 25 = .ok (.aload_n 0, 1) := by decide +kernel
theorem dX6_link_26 : decode cX6_link 26 = .ok (.invokevirtual 155, 3) := by decide +kernel
theorem dX6_link_29 : decode cX6_link 29 = .ok (.aload_n 0, 1) := by decide +kernel
theorem dX6_link_30 : decode cX6_link 30 = .ok (.invokevirtual 158, 3) := by decide +kernel
theorem dX6_link_33 : decode cX6_link 33 = .ok (.istore_n 3, 1) := by decide +kernel
theorem dX6_link_34 : decode cX6_link 34 = .ok (.aload_n 0, 1) := by decide +kernel
theorem dX6_link_35 : decode cX6_link 35 = .ok (.iload_n 1, 1) := by decide +kernel
theorem dX6_link_36 : decode cX6_link 36 = .ok (.iload_n 2, 1) := by decide +kernel
theorem dX6_link_37 : decode cX6_link 37 = .ok (.invokevirtual 162, 3) := by decide +kernel
theorem dX6_link_40 : decode cX6_link 40 = .ok (.aload_n 0, 1) := by decide +kernel
theorem dX6_link_41 : decode cX6_link 41 = .ok (.invokevirtual 155, 3) := by decide +kernel
theorem dX6_link_44 : decode cX6_link 44 = .ok (.aload_n 0, 1) := by decide +kernel
theorem dX6_link_45 : decode cX6_link 45 = .ok (.invokevirtual 158, 3) := by decide +kernel
theorem dX6_link_48 : decode cX6_link 48 = .ok (.iload_n 3, 1) := by decide +kernel
theorem dX6_link_49 : decode cX6_link 49 = .ok (.if_icmp .le 8, 3) := by decide +kernel
theorem dX6_link_52 : decode cX6_link 52 = .ok (.bipush (-2), 2) := by decide +kernel
theorem dX6_link_54 : decode cX6_link 54 = .ok (.goto 9, 3) := by decide +kernel
theorem dX6_link_57 : decode cX6_link 57 = .ok (.iload_n 3, 1) := by decide +kernel
theorem dX6_link_58 : decode cX6_link 58 = .ok (.aload_n 0, 1) := by decide +kernel
theorem dX6_link_59 : decode cX6_link 59 = .ok (.invokevirtual 158, 3) := by decide +kernel
theorem dX6_link_62 : decode cX6_link 62 = .ok (.isub, 1) := by decide +kernel
theorem dX6_link_63 : decode cX6_link 63 = .ok (.ireturn, 1) := by decide +kernel
theorem dX6_undo_0 : decode cX6_undo 0 = .ok (.aload_n 0, 1) := by decide +kernel
theorem dX6_undo_1 : decode cX6_undo 1 = .ok (.iconst 0, 1) := by decide +kernel
theorem dX6_undo_2 : decode cX6_undo 2 = .ok (.putfield 71, 3) := by decide +kernel
theorem dX6_undo_5 : decode cX6_undo 5 = .ok (.aload_n 0, 1) := by decide +kernel
theorem dX6_undo_6 : decode cX6_undo 6 = .ok (.iload_n 1, 1) := by decide +kernel
theorem dX6_undo_7 : decode cX6_undo 7 = .ok (.i2l, 1) := by decide +kernel
theorem dX6_undo_8 : decode cX6_undo 8 = .ok (.lconst 0, 1) := by decide +kernel
theorem dX6_undo_9 : decode cX6_undo 9 = .ok (.aload_n 0, 1) := by decide +kernel
theorem dX6_undo_10 : decode cX6_undo 10 = .ok (.getfield 78, 3) := by decide +kernel
theorem dX6_undo_13 : decode cX6_undo 13 = .ok (.i2l, 1) := by decide +kernel
theorem dX6_undo_14 : decode cX6_undo 14 = .ok (.invokevirtual 74, 3) := by decide +kernel
theorem dX6_undo_17 : decode cX6_undo 17 = .ok (.ifCond .ne 5, 3) := by decide +kernel
theorem dX6_undo_20 : decode cX6_undo 20 = .ok (.iconst (-1), 1) := by decide +kernel
theorem dX6_undo_21 : decode cX6_undo 21 = .ok (.ireturn, 1) := by decide +kernel
theorem dX6_undo_22 : decode cX6_undo 22 = .ok (.aload_n 0, 1) := by decide +kernel
theorem dX6_undo_23 : decode cX6_undo 23 = .ok (.aload_n 0, 1) := by decide +kernel
theorem dX6_undo_24 : decode cX6_undo 24 = .ok (.getfield 78, 3) := by decide +kernel
theorem dX6_undo_27 : decode cX6_undo 27 = .ok (.iload_n 1, 1) := by decide +kernel
theorem dX6_undo_28 : decode cX6_undo 28 = .ok (.isub, 1) := by decide +kernel
theorem dX6_undo_29 : decode cX6_undo 29 = .ok (.putfield 78, 3) := by decide +kernel
theorem dX6_undo_32 : decode cX6_undo 32 = .ok (.aload_n 0, 1) := by decide +kernel
theorem dX6_undo_33 : decode cX6_undo 33 = .ok (.iconst (-1), 1) := by decide +kernel
theorem dX6_undo_34 : decode cX6_undo 34 = .ok (.putfield 20, 3) := by decide +kernel
theorem dX6_undo_37 : decode cX6_undo 37 = .ok (.aload_n 0, 1) := by decide +kernel
theorem dX6_undo_38 : decode cX6_undo 38 = .ok (.iconst (-1), 1) := by decide +kernel
theorem dX6_undo_39 : decode cX6_undo 39 = .ok (.putfield 47, 3) := by decide +kernel
theorem dX6_undo_42 : decode cX6_undo 42 = .ok (.aload_n 0, 1) := by decide +kernel
theorem dX6_undo_43 : decode cX6_undo 43 = .ok (.getfield 78, 3) := by decide +kernel
theorem dX6_undo_46 : decode cX6_undo 46 = .ok (.ireturn, 1) := by decide +kernel
theorem dX6_draw_0 : decode cX6_draw 0 = .ok (.aload_n 0, 1) := by decide +kernel
theorem dX6_draw_1 : decode cX6_draw 1 = .ok (.ldc 165, 2) := by decide +kernel
theorem dX6_draw_3 : decode cX6_draw 3 = .ok (.aload_n 0, 1) := by decide +kernel
theorem dX6_draw_4 : decode cX6_draw 4 = .ok (.getfield 166, 3) := by decide +kernel
theorem dX6_draw_7 : decode cX6_draw 7 = .ok (.imul, 1) := by decide +kernel
theorem dX6_draw_8 : decode cX6_draw 8 = .ok (.ldc 169, 2) := by decide +kernel
theorem dX6_draw_10 : decode cX6_draw 10 = .ok (.iadd, 1) := by decide +kernel
theorem dX6_draw_11 : decode cX6_draw 11 = .ok (.putfield 166, 3) := by decide +kernel
theorem dX6_draw_14 : decode cX6_draw 14 = .ok (.aload_n 0, 1) := by decide +kernel
theorem dX6_draw_15 : decode cX6_draw 15 = .ok (.getfield 166, 3) := by decide +kernel
theorem dX6_draw_18 : decode cX6_draw 18 = .ok (.bipush 8, 2) := by decide +kernel
theorem dX6_draw_20 : decode cX6_draw 20 = .ok (.iushr, 1) := by decide +kernel
theorem dX6_draw_21 : decode cX6_draw 21 = .ok (.iload_n 1, 1) := by decide +kernel
theorem dX6_draw_22 : decode cX6_draw 22 = .ok (.irem, 1) := by decide +kernel
theorem dX6_draw_23 : decode cX6_draw 23 = .ok (.ireturn, 1) := by decide +kernel
theorem dX6_rain_0 : decode cX6_rain 0 = .ok (.aload_n 0, 1) := by decide +kernel
theorem dX6_rain_1 : decode cX6_rain 1 = .ok (.iconst 0, 1) := by decide +kernel
theorem dX6_rain_2 : decode cX6_rain 2 = .ok (.putfield 71, 3) := by decide +kernel
theorem dX6_rain_5 : decode cX6_rain 5 = .ok (.aload_n 0, 1) := by decide +kernel
theorem dX6_rain_6 : decode cX6_rain 6 = .ok (.iload_n 1, 1) := by decide +kernel
theorem dX6_rain_7 : decode cX6_rain 7 = .ok (.i2l, 1) := by decide +kernel
theorem dX6_rain_8 : decode cX6_rain 8 = .ok (.lconst 1, 1) := by decide +kernel
theorem dX6_rain_9 : decode cX6_rain 9 = .ok (.ldc2_w 170, 3) := by decide +kernel
theorem dX6_rain_12 : decode cX6_rain 12 = .ok (.invokevirtual 74, 3) := by decide +kernel
theorem dX6_rain_15 : decode cX6_rain 15 = .ok (.ifCond .eq 14, 3) := by decide +kernel
theorem dX6_rain_18 : decode cX6_rain 18 = .ok (.aload_n 0, 1) := by decide +kernel
theorem dX6_rain_19 : decode cX6_rain 19 = .ok (.getfield 78, 3) := by decide +kernel
theorem dX6_rain_22 : decode cX6_rain 22 = .ok (.iload_n 1, 1) := by decide +kernel
theorem dX6_rain_23 : decode cX6_rain 23 = .ok (.iadd, 1) := by decide +kernel
theorem dX6_rain_24 : decode cX6_rain 24 = .ok (.bipush 64, 2) := by decide +kernel
theorem dX6_rain_26 : decode cX6_rain 26 = .ok (.if_icmp .le 5, 3) := by decide +kernel
theorem dX6_rain_29 : decode cX6_rain 29 = .ok (.iconst (-1), 1) := by decide +kernel
theorem dX6_rain_30 : decode cX6_rain 30 = .ok (.ireturn, 1) := by decide +kernel
theorem dX6_rain_31 : decode cX6_rain 31 = .ok (.iconst 0, 1) := by decide +kernel
theorem dX6_rain_32 : decode cX6_rain 32 = .ok (.istore_n 2, 1) := by decide +kernel
theorem dX6_rain_33 : decode cX6_rain 33 = .ok (.iload_n 2, 1) := by decide +kernel
theorem dX6_rain_34 : decode cX6_rain 34 = .ok (.iload_n 1, 1) := by decide +kernel
theorem dX6_rain_35 : decode cX6_rain 35 = .ok (.if_icmp .ge 50, 3) := by decide +kernel
theorem dX6_rain_38 : decode cX6_rain 38 = .ok (.aload_n 0, 1) := by decide +kernel
theorem dX6_rain_39 : decode cX6_rain 39 = .ok (.aload_n 0, 1) := by decide +kernel
theorem dX6_rain_40 : decode cX6_rain 40 = .ok (.getfield 7, 3) := by decide +kernel
theorem dX6_rain_43 : decode cX6_rain 43 = .ok (.invokevirtual 172, 3) := by decide +kernel
theorem dX6_rain_46 : decode cX6_rain 46 = .ok (.istore_n 3, 1) := by decide +kernel
theorem dX6_rain_47 : decode cX6_rain 47 = .ok (.aload_n 0, 1) := by decide +kernel
theorem dX6_rain_48 : decode cX6_rain 48 = .ok (.aload_n 0, 1) := by decide +kernel
theorem dX6_rain_49 : decode cX6_rain 49 = .ok (.getfield 7, 3) := by decide +kernel
theorem dX6_rain_52 : decode cX6_rain 52 = .ok (.iconst 1, 1) := by decide +kernel
theorem dX6_rain_53 : decode cX6_rain 53 = .ok (.isub, 1) := by decide +kernel
theorem dX6_rain_54 : decode cX6_rain 54 = .ok (.invokevirtual 172, 3) := by decide +kernel
theorem dX6_rain_57 : decode cX6_rain 57 = .ok (.istore 4, 2) := by decide +kernel
theorem dX6_rain_59 : decode cX6_rain 59 = .ok (.aload_n 0, 1) := by decide +kernel
theorem dX6_rain_60 : decode cX6_rain 60 = .ok (.iload_n 3, 1) := by decide +kernel
theorem dX6_rain_61 : decode cX6_rain 61 = .ok (.iload 4, 2) := by decide +kernel
theorem dX6_rain_63 : decode cX6_rain 63 = .ok (.iload_n 3, 1) := by decide +kernel
theorem dX6_rain_64 : decode cX6_rain 64 = .ok (.if_icmp .ge 8, 3) := by decide +kernel
theorem dX6_rain_67 : decode cX6_rain 67 = .ok (.iload 4, 2) := by decide +kernel
theorem dX6_rain_69 : decode cX6_rain 69 = .ok (.goto 7, 3) := by decide +kernel
theorem dX6_rain_72 : decode cX6_rain 72 = .ok (.iload 4, 2) := by decide +kernel
theorem dX6_rain_74 : decode cX6_rain 74 = .ok (.iconst 1, 1) := by decide +kernel
theorem dX6_rain_75 : decode cX6_rain 75 = .ok (.iadd, 1) := by decide +kernel
theorem dX6_rain_76 : decode cX6_rain 76 = .ok (.invokevirtual 162, 3) := by decide +kernel
theorem dX6_rain_79 : decode cX6_rain 79 = .ok (.iinc 2 1, 3) := by decide +kernel
theorem dX6_rain_82 : decode cX6_rain 82 = .ok (.goto (-49), 3) := by decide +kernel
theorem dX6_rain_85 : decode cX6_rain 85 = .ok (.aload_n 0, 1) := by decide +kernel
theorem dX6_rain_86 : decode cX6_rain 86 = .ok (.getfield 78, 3) := by decide +kernel
theorem dX6_rain_89 : decode cX6_rain 89 = .ok (.ireturn, 1) := by decide +kernel
theorem dX6_state_0 : decode cX6_state 0 = .ok (.aload_n 0, 1) := by decide +kernel
theorem dX6_state_1 : decode cX6_state 1 = .ok (.iconst 0, 1) := by decide +kernel
theorem dX6_state_2 : decode cX6_state 2 = .ok (.putfield 71, 3) := by decide +kernel
theorem dX6_state_5 : decode cX6_state 5 = .ok (.aload_n 0, 1) := by decide +kernel
theorem dX6_state_6 : decode cX6_state 6 = .ok (.getfield 166, 3) := by decide +kernel
theorem dX6_state_9 : decode cX6_state 9 = .ok (.istore_n 2, 1) := by decide +kernel
theorem dX6_state_10 : decode cX6_state 10 = .ok (.aload_n 0, 1) := by decide +kernel
theorem dX6_state_11 : decode cX6_state 11 = .ok (.iload_n 1, 1) := by decide +kernel
theorem dX6_state_12 : decode cX6_state 12 = .ok (.putfield 166, 3) := by decide +kernel
theorem dX6_state_15 : decode cX6_state 15 = .ok (.iload_n 2, 1) := by decide +kernel
theorem dX6_state_16 : decode cX6_state 16 = .ok (.ireturn, 1) := by decide +kernel
theorem dX6_isOut_0 : decode cX6_isOut 0 = .ok (.iload_n 1, 1) := by decide +kernel
theorem dX6_isOut_1 : decode cX6_isOut 1 = .ok (.iload_n 2, 1) := by decide +kernel
theorem dX6_isOut_2 : decode cX6_isOut 2 = .ok (.if_icmp .eq 23, 3) := by decide +kernel
theorem dX6_isOut_5 : decode cX6_isOut 5 = .ok (.aload_n 0, 1) := by decide +kernel
theorem dX6_isOut_6 : decode cX6_isOut 6 = .ok (.getfield 13, 3) := by decide +kernel
theorem dX6_isOut_9 : decode cX6_isOut 9 = .ok (.iload_n 1, 1) := by decide +kernel
theorem dX6_isOut_10 : decode cX6_isOut 10 = .ok (.iaload, 1) := by decide +kernel
theorem dX6_isOut_11 : decode cX6_isOut 11 = .ok (.iload_n 3, 1) := by decide +kernel
theorem dX6_isOut_12 : decode cX6_isOut 12 = .ok (.if_icmp .eq 13, 3) := by decide +kernel
theorem dX6_isOut_15 : decode cX6_isOut 15 = .ok (.aload_n 0, 1) := by decide +kernel
theorem dX6_isOut_16 : decode cX6_isOut 16 = .ok (.getfield 17, 3) := by decide +kernel
theorem dX6_isOut_19 : decode cX6_isOut 19 = .ok (.iload_n 1, 1) := by decide +kernel
theorem dX6_isOut_20 : decode cX6_isOut 20 = .ok (.iaload, 1) := by decide +kernel
theorem dX6_isOut_21 : decode cX6_isOut 21 = .ok (.iload_n 3, 1) := by decide +kernel
theorem dX6_isOut_22 : decode cX6_isOut 22 = .ok (.if_icmp .ne 7, 3) := by decide +kernel
theorem dX6_isOut_25 : decode cX6_isOut 25 = .ok (.iconst 1, 1) := by decide +kernel
theorem dX6_isOut_26 : decode cX6_isOut 26 = .ok (.goto 4, 3) := by decide +kernel
theorem dX6_isOut_29 : decode cX6_isOut 29 = .ok (.iconst 0, 1) := by decide +kernel
theorem dX6_isOut_30 : decode cX6_isOut 30 = .ok (.ireturn, 1) := by decide +kernel
theorem dX6_reached_0 : decode cX6_reached 0 = .ok (.iconst 1, 1) := by decide +kernel
theorem dX6_reached_1 : decode cX6_reached 1 = .ok (.iload_n 1, 1) := by decide +kernel
theorem dX6_reached_2 : decode cX6_reached 2 = .ok (.ishl, 1) := by decide +kernel
theorem dX6_reached_3 : decode cX6_reached 3 = .ok (.istore 5, 2) := by decide +kernel
theorem dX6_reached_5 : decode cX6_reached 5 = .ok (.iconst 1, 1) := by decide +kernel
theorem dX6_reached_6 : decode cX6_reached 6 = .ok (.istore 6, 2) := by decide +kernel
theorem dX6_reached_8 : decode cX6_reached 8 = .ok (.iload 6, 2) := by decide +kernel
theorem dX6_reached_10 : decode cX6_reached 10 = .ok (.ifCond .eq 107, 3) := by decide +kernel
theorem dX6_reached_13 : decode cX6_reached 13 = .ok (.iload 5, 2) := by decide +kernel
theorem dX6_reached_15 : decode cX6_reached 15 = .ok (.istore 7, 2) := by decide +kernel
theorem dX6_reached_17 : decode cX6_reached 17 = .ok (.iconst 0, 1) := by decide +kernel
theorem dX6_reached_18 : decode cX6_reached 18 = .ok (.istore 8, 2) := by decide +kernel
theorem dX6_reached_20 : decode cX6_reached 20 = .ok (.iload 8, 2) := by decide +kernel
theorem dX6_reached_22 : decode cX6_reached 22 = .ok (.iload_n 2, 1) := by decide +kernel
theorem dX6_reached_23 : decode cX6_reached 23 = .ok (.if_icmp .ge 77, 3) := by decide +kernel
theorem dX6_reached_26 : decode cX6_reached 26 = .ok (.aload_n 0, 1) := by decide +kernel
theorem dX6_reached_27 : decode cX6_reached 27 = .ok (.iload 8, 2) := by decide +kernel
theorem dX6_reached_29 : decode cX6_reached 29 = .ok (.iload_n 3, 1) := by decide +kernel
theorem dX6_reached_30 : decode cX6_reached 30 = .ok (.iload 4, 2) := by decide +kernel
theorem dX6_reached_32 : decode cX6_reached 32 = .ok (.invokevirtual 175, 3) := by decide +kernel
theorem dX6_reached_35 : decode cX6_reached 35 = .ok (.ifCond .ne 59, 3) := by decide +kernel
theorem dX6_reached_38 : decode cX6_reached 38 = .ok (.aload_n 0, 1) := by decide +kernel
theorem dX6_reached_39 : decode cX6_reached 39 = .ok (.iload 5, 2) := by decide +kernel
theorem dX6_reached_41 : decode cX6_reached 41 = .ok (.aload_n 0, 1) := by decide +kernel
theorem dX6_reached_42 : decode cX6_reached 42 = .ok (.getfield 13, 3) := by decide +kernel
theorem dX6_reached_45 : decode cX6_reached 45 = .ok (.iload 8, 2) := by decide +kernel
theorem dX6_reached_47 : decode cX6_reached 47 = .ok (.iaload, 1) := by decide +kernel
theorem dX6_reached_48 : decode cX6_reached 48 = .ok (.invokevirtual 85, 3) := by decide +kernel
theorem dX6_reached_51 : decode cX6_reached 51 = .ok (.ifCond .ne 19, 3) := by decide +kernel
theorem dX6_reached_54 : decode cX6_reached 54 = .ok (.aload_n 0, 1) := by decide +kernel
theorem dX6_reached_55 : decode cX6_reached 55 = .ok (.iload 5, 2) := by decide +kernel
theorem dX6_reached_57 : decode cX6_reached 57 = .ok (.aload_n 0, 1) := by decide +kernel
theorem dX6_reached_58 : decode cX6_reached 58 = .ok (.getfield 17, 3) := by decide +kernel
theorem dX6_reached_61 : decode cX6_reached 61 = .ok (.iload 8, 2) := by decide +kernel
theorem dX6_reached_63 : decode cX6_reached 63 = .ok (.iaload, 1) := by decide +kernel
theorem dX6_reached_64 : decode cX6_reached 64 = .ok (.invokevirtual 85, 3) := by decide +kernel
theorem dX6_reached_67 : decode cX6_reached 67 = .ok (.ifCond .eq 27, 3) := by decide +kernel
theorem dX6_reached_70 : decode cX6_reached 70 = .ok (.iload 5, 2) := by decide +kernel
theorem dX6_reached_72 : decode cX6_reached 72 = .ok (.iconst 1, 1) := by decide +kernel
theorem dX6_reached_73 : decode cX6_reached 73 = .ok (.aload_n 0, 1) := by decide +kernel
theorem dX6_reached_74 : decode cX6_reached 74 = .ok (.getfield 13, 3) := by decide +kernel
theorem dX6_reached_77 : decode cX6_reached 77 = .ok (.iload 8, 2) := by decide +kernel
theorem dX6_reached_79 : decode cX6_reached 79 = .ok (.iaload, 1) := by decide +kernel
theorem dX6_reached_80 : decode cX6_reached 80 = .ok (.ishl, 1) := by decide +kernel
theorem dX6_reached_81 : decode cX6_reached 81 = .ok (.ior, 1) := by decide +kernel
theorem dX6_reached_82 : decode cX6_reached 82 = .ok (.iconst 1, 1) := by decide +kernel
theorem dX6_reached_83 : decode cX6_reached 83 = .ok (.aload_n 0, 1) := by decide +kernel
theorem dX6_reached_84 : decode cX6_reached 84 = .ok (.getfield 17, 3) := by decide +kernel
theorem dX6_reached_87 : decode cX6_reached 87 = .ok (.iload 8, 2) := by decide +kernel
theorem dX6_reached_89 : decode cX6_reached 89 = .ok (.iaload, 1) := by decide +kernel
theorem dX6_reached_90 : decode cX6_reached 90 = .ok (.ishl, 1) := by decide +kernel
theorem dX6_reached_91 : decode cX6_reached 91 = .ok (.ior, 1) := by decide +kernel
theorem dX6_reached_92 : decode cX6_reached 92 = .ok (.istore 5, 2) := by decide +kernel
theorem dX6_reached_94 : decode cX6_reached 94 = .ok (.iinc 8 1, 3) := by decide +kernel
theorem dX6_reached_97 : decode cX6_reached 97 = .ok (.goto (-77), 3) := by decide +kernel
theorem dX6_reached_100 : decode cX6_reached 100 = .ok (.iload 7, 2) := by decide +kernel
theorem dX6_reached_102 : decode cX6_reached 102 = .ok (.iload 5, 2) := by decide +kernel
theorem dX6_reached_104 : decode cX6_reached 104 = .ok (.if_icmp .eq 7, 3) := by decide +kernel
theorem dX6_reached_107 : decode cX6_reached 107 = .ok (.iconst 1, 1) := by decide +kernel
theorem dX6_reached_108 : decode cX6_reached 108 = .ok (.goto 4, 3) := by decide +kernel
theorem dX6_reached_111 : decode cX6_reached 111 = .ok (.iconst 0, 1) := by decide +kernel
theorem dX6_reached_112 : decode cX6_reached 112 = .ok (.istore 6, 2) := by decide +kernel
theorem dX6_reached_114 : decode cX6_reached 114 = .ok (.goto (-106), 3) := by decide +kernel
theorem dX6_reached_117 : decode cX6_reached 117 = .ok (.iload 5, 2) := by decide +kernel
theorem dX6_reached_119 : decode cX6_reached 119 = .ok (.ireturn, 1) := by decide +kernel
theorem dX6_isBridge_0 : decode cX6_isBridge 0 = .ok (.aload_n 0, 1) := by decide +kernel
theorem dX6_isBridge_1 : decode cX6_isBridge 1 = .ok (.getfield 41, 3) := by decide +kernel
theorem dX6_isBridge_4 : decode cX6_isBridge 4 = .ok (.iload_n 1, 1) := by decide +kernel
theorem dX6_isBridge_5 : decode cX6_isBridge 5 = .ok (.iaload, 1) := by decide +kernel
theorem dX6_isBridge_6 : decode cX6_isBridge 6 = .ok (.iconst (-1), 1) := by decide +kernel
theorem dX6_isBridge_7 : decode cX6_isBridge 7 = .ok (.if_icmp .ne 7, 3) := by decide +kernel
theorem dX6_isBridge_10 : decode cX6_isBridge 10 = .ok (.iconst 1, 1) := by decide +kernel
theorem dX6_isBridge_11 : decode cX6_isBridge 11 = .ok (.goto 4, 3) := by decide +kernel
theorem dX6_isBridge_14 : decode cX6_isBridge 14 = .ok (.iconst 0, 1) := by decide +kernel
theorem dX6_isBridge_15 : decode cX6_isBridge 15 = .ok (.ireturn, 1) := by decide +kernel
theorem dX6_otherEnd_0 : decode cX6_otherEnd 0 = .ok (.aload_n 0, 1) := by decide +kernel
theorem dX6_otherEnd_1 : decode cX6_otherEnd 1 = .ok (.getfield 13, 3) := by decide +kernel
theorem dX6_otherEnd_4 : decode cX6_otherEnd 4 = .ok (.iload_n 1, 1) := by decide +kernel
theorem dX6_otherEnd_5 : decode cX6_otherEnd 5 = .ok (.iaload, 1) := by decide +kernel
theorem dX6_otherEnd_6 : decode cX6_otherEnd 6 = .ok (.aload_n 0, 1) := by decide +kernel
theorem dX6_otherEnd_7 : decode cX6_otherEnd 7 = .ok (.getfield 17, 3) := by decide +kernel
theorem dX6_otherEnd_10 : decode cX6_otherEnd 10 = .ok (.iload_n 1, 1) := by decide +kernel
theorem dX6_otherEnd_11 : decode cX6_otherEnd 11 = .ok (.iaload, 1) := by decide +kernel
theorem dX6_otherEnd_12 : decode cX6_otherEnd 12 = .ok (.iadd, 1) := by decide +kernel
theorem dX6_otherEnd_13 : decode cX6_otherEnd 13 = .ok (.iload_n 2, 1) := by decide +kernel
theorem dX6_otherEnd_14 : decode cX6_otherEnd 14 = .ok (.isub, 1) := by decide +kernel
theorem dX6_otherEnd_15 : decode cX6_otherEnd 15 = .ok (.ireturn, 1) := by decide +kernel
theorem dX6_joinsParts_0 : decode cX6_joinsParts 0 = .ok (.aload_n 0, 1) := by decide +kernel
theorem dX6_joinsParts_1 : decode cX6_joinsParts 1 = .ok (.getfield 44, 3) := by decide +kernel
theorem dX6_joinsParts_4 : decode cX6_joinsParts 4 = .ok (.iload_n 1, 1) := by decide +kernel
theorem dX6_joinsParts_5 : decode cX6_joinsParts 5 = .ok (.iaload, 1) := by decide +kernel
theorem dX6_joinsParts_6 : decode cX6_joinsParts 6 = .ok (.aload_n 0, 1) := by decide +kernel
theorem dX6_joinsParts_7 : decode cX6_joinsParts 7 = .ok (.getfield 44, 3) := by decide +kernel
theorem dX6_joinsParts_10 : decode cX6_joinsParts 10 = .ok (.iload_n 2, 1) := by decide +kernel
theorem dX6_joinsParts_11 : decode cX6_joinsParts 11 = .ok (.iaload, 1) := by decide +kernel
theorem dX6_joinsParts_12 : decode cX6_joinsParts 12 = .ok (.invokestatic 93, 3) := by decide +kernel
theorem dX6_joinsParts_15 : decode cX6_joinsParts 15 = .ok (.istore_n 3, 1) := by decide +kernel
theorem dX6_joinsParts_16 : decode cX6_joinsParts 16 = .ok (.aload_n 0, 1) := by decide +kernel
theorem dX6_joinsParts_17 : decode cX6_joinsParts 17 = .ok (.getfield 44, 3) := by decide +kernel
theorem dX6_joinsParts_20 : decode cX6_joinsParts 20 = .ok (.iload_n 1, 1) := by decide +kernel
theorem dX6_joinsParts_21 : decode cX6_joinsParts 21 = .ok (.iaload, 1) := by decide +kernel
theorem dX6_joinsParts_22 : decode cX6_joinsParts 22 = .ok (.aload_n 0, 1) := by decide +kernel
theorem dX6_joinsParts_23 : decode cX6_joinsParts 23 = .ok (.getfield 44, 3) := by decide +kernel
theorem dX6_joinsParts_26 : decode cX6_joinsParts 26 = .ok (.iload_n 2, 1) := by decide +kernel
theorem dX6_joinsParts_27 : decode cX6_joinsParts 27 = .ok (.iaload, 1) := by decide +kernel
theorem dX6_joinsParts_28 : decode cX6_joinsParts 28 = .ok (.invokestatic 179, 3) := by decide +kernel
theorem dX6_joinsParts_31 : decode cX6_joinsParts 31 = .ok (.istore 4, 2) := by decide +kernel
theorem dX6_joinsParts_33 : decode cX6_joinsParts 33 = .ok (.iconst 0, 1) := by decide +kernel
theorem dX6_joinsParts_34 : decode cX6_joinsParts 34 = .ok (.istore 5, 2) := by decide +kernel
theorem dX6_joinsParts_36 : decode cX6_joinsParts 36 = .ok (.iload 5, 2) := by decide +kernel
theorem dX6_joinsParts_38 : decode cX6_joinsParts 38 = .ok (.bipush 64, 2) := by decide +kernel
theorem dX6_joinsParts_40 : decode cX6_joinsParts 40 = .ok (.if_icmp .ge 29, 3) := by decide +kernel
theorem dX6_joinsParts_43 : decode cX6_joinsParts 43 = .ok (.aload_n 0, 1) := by decide +kernel
theorem dX6_joinsParts_44 : decode cX6_joinsParts 44 = .ok (.getfield 44, 3) := by decide +kernel
theorem dX6_joinsParts_47 : decode cX6_joinsParts 47 = .ok (.iload 5, 2) := by decide +kernel
theorem dX6_joinsParts_49 : decode cX6_joinsParts 49 = .ok (.iaload, 1) := by decide +kernel
theorem dX6_joinsParts_50 : decode cX6_joinsParts 50 = .ok (.iload_n 3, 1) := by decide +kernel
theorem dX6_joinsParts_51 : decode cX6_joinsParts 51 = .ok (.if_icmp .ne 12, 3) := by decide +kernel
theorem dX6_joinsParts_54 : decode cX6_joinsParts 54 = .ok (.aload_n 0, 1) := by decide +kernel
theorem dX6_joinsParts_55 : decode cX6_joinsParts 55 = .ok (.getfield 44, 3) := by decide +kernel
theorem dX6_joinsParts_58 : decode cX6_joinsParts 58 = .ok (.iload 5, 2) := by decide +kernel
theorem dX6_joinsParts_60 : decode cX6_joinsParts 60 = .ok (.iload 4, 2) := by decide +kernel
theorem dX6_joinsParts_62 : decode cX6_joinsParts 62 = .ok (.iastore, 1) := by decide +kernel
theorem dX6_joinsParts_63 : decode cX6_joinsParts 63 = .ok (.iinc 5 1, 3) := by decide +kernel
theorem dX6_joinsParts_66 : decode cX6_joinsParts 66 = .ok (.goto (-30), 3) := by decide +kernel
theorem dX6_joinsParts_69 : decode cX6_joinsParts 69 = .ok (.return_, 1) := by decide +kernel
theorem dX6_laysParts_0 : decode cX6_laysParts 0 = .ok (.iconst 0, 1) := by decide +kernel
theorem dX6_laysParts_1 : decode cX6_laysParts 1 = .ok (.istore 4, 2) := by decide +kernel
theorem dX6_laysParts_3 : decode cX6_laysParts 3 = .ok (.iload 4, 2) := by decide +kernel
theorem dX6_laysParts_5 : decode cX6_laysParts 5 = .ok (.bipush 64, 2) := by decide +kernel
theorem dX6_laysParts_7 : decode cX6_laysParts 7 = .ok (.if_icmp .ge 18, 3) := by decide +kernel
theorem dX6_laysParts_10 : decode cX6_laysParts 10 = .ok (.aload_n 0, 1) := by decide +kernel
theorem dX6_laysParts_11 : decode cX6_laysParts 11 = .ok (.getfield 44, 3) := by decide +kernel
theorem dX6_laysParts_14 : decode cX6_laysParts 14 = .ok (.iload 4, 2) := by decide +kernel
theorem dX6_laysParts_16 : decode cX6_laysParts 16 = .ok (.iload 4, 2) := by decide +kernel
theorem dX6_laysParts_18 : decode cX6_laysParts 18 = .ok (.iastore, 1) := by decide +kernel
theorem dX6_laysParts_19 : decode cX6_laysParts 19 = .ok (.iinc 4 1, 3) := by decide +kernel
theorem dX6_laysParts_22 : decode cX6_laysParts 22 = .ok (.goto (-19), 3) := by decide +kernel
theorem dX6_laysParts_25 : decode cX6_laysParts 25 = .ok (.iconst 0, 1) := by decide +kernel
theorem dX6_laysParts_26 : decode cX6_laysParts 26 = .ok (.istore 4, 2) := by decide +kernel
theorem dX6_laysParts_28 : decode cX6_laysParts 28 = .ok (.iload 4, 2) := by decide +kernel
theorem dX6_laysParts_30 : decode cX6_laysParts 30 = .ok (.aload_n 0, 1) := by decide +kernel
theorem dX6_laysParts_31 : decode cX6_laysParts 31 = .ok (.getfield 7, 3) := by decide +kernel
theorem dX6_laysParts_34 : decode cX6_laysParts 34 = .ok (.if_icmp .ge 166, 3) := by decide +kernel
theorem dX6_laysParts_37 : decode cX6_laysParts 37 = .ok (.iload 4, 2) := by decide +kernel
theorem dX6_laysParts_39 : decode cX6_laysParts 39 = .ok (.iload_n 3, 1) := by decide +kernel
theorem dX6_laysParts_40 : decode cX6_laysParts 40 = .ok (.if_icmp .ne 6, 3) := by decide +kernel
theorem dX6_laysParts_43 : decode cX6_laysParts 43 = .ok (.goto 151, 3) := by decide +kernel
theorem dX6_laysParts_46 : decode cX6_laysParts 46 = .ok (.iconst 0, 1) := by decide +kernel
theorem dX6_laysParts_47 : decode cX6_laysParts 47 = .ok (.istore 5, 2) := by decide +kernel
theorem dX6_laysParts_49 : decode cX6_laysParts 49 = .ok (.iload 5, 2) := by decide +kernel
theorem dX6_laysParts_51 : decode cX6_laysParts 51 = .ok (.iload_n 1, 1) := by decide +kernel
theorem dX6_laysParts_52 : decode cX6_laysParts 52 = .ok (.if_icmp .ge 142, 3) := by decide +kernel
theorem dX6_laysParts_55 : decode cX6_laysParts 55 = .ok (.aload_n 0, 1) := by decide +kernel
theorem dX6_laysParts_56 : decode cX6_laysParts 56 = .ok (.iload 5, 2) := by decide +kernel
theorem dX6_laysParts_58 : decode cX6_laysParts 58 = .ok (.iload_n 2, 1) := by decide +kernel
theorem dX6_laysParts_59 : decode cX6_laysParts 59 = .ok (.iload_n 3, 1) := by decide +kernel
theorem dX6_laysParts_60 : decode cX6_laysParts 60 = .ok (.invokevirtual 175, 3) := by decide +kernel
theorem dX6_laysParts_63 : decode cX6_laysParts 63 = .ok (.ifCond .ne 125, 3) := by decide +kernel
theorem dX6_laysParts_66 : decode cX6_laysParts 66 = .ok (.aload_n 0, 1) := by decide +kernel
theorem dX6_laysParts_67 : decode cX6_laysParts 67 = .ok (.getfield 13, 3) := by decide +kernel
theorem dX6_laysParts_70 : decode cX6_laysParts 70 = .ok (.iload 5, 2) := by decide +kernel
theorem dX6_laysParts_72 : decode cX6_laysParts 72 = .ok (.iaload, 1) := by decide +kernel
theorem dX6_laysParts_73 : decode cX6_laysParts 73 = .ok (.iload 4, 2) := by decide +kernel
theorem dX6_laysParts_75 : decode cX6_laysParts 75 = .ok (.if_icmp .eq 18, 3) := by decide +kernel
theorem dX6_laysParts_78 : decode cX6_laysParts 78 = .ok (.aload_n 0, 1) := by decide +kernel
theorem dX6_laysParts_79 : decode cX6_laysParts 79 = .ok (.getfield 17, 3) := by decide +kernel
theorem dX6_laysParts_82 : decode cX6_laysParts 82 = .ok (.iload 5, 2) := by decide +kernel
theorem dX6_laysParts_84 : decode cX6_laysParts 84 = .ok (.iaload, 1) := by decide +kernel
theorem dX6_laysParts_85 : decode cX6_laysParts 85 = .ok (.iload 4, 2) := by decide +kernel
theorem dX6_laysParts_87 : decode cX6_laysParts 87 = .ok (.if_icmp .eq 6, 3) := by decide +kernel
theorem dX6_laysParts_90 : decode cX6_laysParts 90 = .ok (.goto 98, 3) := by decide +kernel
theorem dX6_laysParts_93 : decode cX6_laysParts 93 = .ok (.aload_n 0, 1) := by decide +kernel
theorem dX6_laysParts_94 : decode cX6_laysParts 94 = .ok (.aload_n 0, 1) := by decide +kernel
theorem dX6_laysParts_95 : decode cX6_laysParts 95 = .ok (.iload 5, 2) := by decide +kernel
theorem dX6_laysParts_97 : decode cX6_laysParts 97 = .ok (.iload 4, 2) := by decide +kernel
theorem dX6_laysParts_99 : decode cX6_laysParts 99 = .ok (.invokevirtual 182, 3) := by decide +kernel
theorem dX6_laysParts_102 : decode cX6_laysParts 102 = .ok (.iload_n 1, 1) := by decide +kernel
theorem dX6_laysParts_103 : decode cX6_laysParts 103 = .ok (.iload_n 2, 1) := by decide +kernel
theorem dX6_laysParts_104 : decode cX6_laysParts 104 = .ok (.iload_n 3, 1) := by decide +kernel
theorem dX6_laysParts_105 : decode cX6_laysParts 105 = .ok (.iload 4, 2) := by decide +kernel
theorem dX6_laysParts_107 : decode cX6_laysParts 107 = .ok (.invokevirtual 185, 3) := by decide +kernel
theorem dX6_laysParts_110 : decode cX6_laysParts 110 = .ok (.istore 6, 2) := by decide +kernel
theorem dX6_laysParts_112 : decode cX6_laysParts 112 = .ok (.iconst 0, 1) := by decide +kernel
theorem dX6_laysParts_113 : decode cX6_laysParts 113 = .ok (.istore 7, 2) := by decide +kernel
theorem dX6_laysParts_115 : decode cX6_laysParts 115 = .ok (.iload 7, 2) := by decide +kernel
theorem dX6_laysParts_117 : decode cX6_laysParts 117 = .ok (.iload 5, 2) := by decide +kernel
theorem dX6_laysParts_119 : decode cX6_laysParts 119 = .ok (.if_icmp .ge 69, 3) := by decide +kernel
theorem dX6_laysParts_122 : decode cX6_laysParts 122 = .ok (.aload_n 0, 1) := by decide +kernel
theorem dX6_laysParts_123 : decode cX6_laysParts 123 = .ok (.iload 7, 2) := by decide +kernel
theorem dX6_laysParts_125 : decode cX6_laysParts 125 = .ok (.iload_n 2, 1) := by decide +kernel
theorem dX6_laysParts_126 : decode cX6_laysParts 126 = .ok (.iload_n 3, 1) := by decide +kernel
theorem dX6_laysParts_127 : decode cX6_laysParts 127 = .ok (.invokevirtual 175, 3) := by decide +kernel
theorem dX6_laysParts_130 : decode cX6_laysParts 130 = .ok (.ifCond .ne 52, 3) := by decide +kernel
theorem dX6_laysParts_133 : decode cX6_laysParts 133 = .ok (.aload_n 0, 1) := by decide +kernel
theorem dX6_laysParts_134 : decode cX6_laysParts 134 = .ok (.getfield 13, 3) := by decide +kernel
theorem dX6_laysParts_137 : decode cX6_laysParts 137 = .ok (.iload 7, 2) := by decide +kernel
theorem dX6_laysParts_139 : decode cX6_laysParts 139 = .ok (.iaload, 1) := by decide +kernel
theorem dX6_laysParts_140 : decode cX6_laysParts 140 = .ok (.iload 4, 2) := by decide +kernel
theorem dX6_laysParts_142 : decode cX6_laysParts 142 = .ok (.if_icmp .eq 15, 3) := by decide +kernel
theorem dX6_laysParts_145 : decode cX6_laysParts 145 = .ok (.aload_n 0, 1) := by decide +kernel
theorem dX6_laysParts_146 : decode cX6_laysParts 146 = .ok (.getfield 17, 3) := by decide +kernel
theorem dX6_laysParts_149 : decode cX6_laysParts 149 = .ok (.iload 7, 2) := by decide +kernel
theorem dX6_laysParts_151 : decode cX6_laysParts 151 = .ok (.iaload, 1) := by decide +kernel
theorem dX6_laysParts_152 : decode cX6_laysParts 152 = .ok (.iload 4, 2) := by decide +kernel
theorem dX6_laysParts_154 : decode cX6_laysParts 154 = .ok (.if_icmp .ne 28, 3) := by decide +kernel
theorem dX6_laysParts_157 : decode cX6_laysParts 157 = .ok (.aload_n 0, 1) := by decide +kernel
theorem dX6_laysParts_158 : decode cX6_laysParts 158 = .ok (.iload 6, 2) := by decide +kernel
theorem dX6_laysParts_160 : decode cX6_laysParts 160 = .ok (.aload_n 0, 1) := by decide +kernel
theorem dX6_laysParts_161 : decode cX6_laysParts 161 = .ok (.iload 7, 2) := by decide +kernel
theorem dX6_laysParts_163 : decode cX6_laysParts 163 = .ok (.iload 4, 2) := by decide +kernel
theorem dX6_laysParts_165 : decode cX6_laysParts 165 = .ok (.invokevirtual 182, 3) := by decide +kernel
theorem dX6_laysParts_168 : decode cX6_laysParts 168 = .ok (.invokevirtual 85, 3) := by decide +kernel
theorem dX6_laysParts_171 : decode cX6_laysParts 171 = .ok (.ifCond .eq 11, 3) := by decide +kernel
theorem dX6_laysParts_174 : decode cX6_laysParts 174 = .ok (.aload_n 0, 1) := by decide +kernel
theorem dX6_laysParts_175 : decode cX6_laysParts 175 = .ok (.iload 5, 2) := by decide +kernel
theorem dX6_laysParts_177 : decode cX6_laysParts 177 = .ok (.iload 7, 2) := by decide +kernel
theorem dX6_laysParts_179 : decode cX6_laysParts 179 = .ok (.invokevirtual 189, 3) := by decide +kernel
theorem dX6_laysParts_182 : decode cX6_laysParts 182 = .ok (.iinc 7 1, 3) := by decide +kernel
theorem dX6_laysParts_185 : decode cX6_laysParts 185 = .ok (.goto (-70), 3) := by decide +kernel
theorem dX6_laysParts_188 : decode cX6_laysParts 188 = .ok (.iinc 5 1, 3) := by decide +kernel
theorem dX6_laysParts_191 : decode cX6_laysParts 191 = .ok (.goto (-142), 3) := by decide +kernel
theorem dX6_laysParts_194 : decode cX6_laysParts 194 = .ok (.iinc 4 1, 3) := by decide +kernel
theorem dX6_laysParts_197 : decode cX6_laysParts 197 = .ok (.goto (-169), 3) := by decide +kernel
theorem dX6_laysParts_200 : decode cX6_laysParts 200 = .ok (.aload_n 0, 1) := by decide +kernel
theorem dX6_laysParts_201 : decode cX6_laysParts 201 = .ok (.iconst 0, 1) := by decide +kernel
theorem dX6_laysParts_202 : decode cX6_laysParts 202 = .ok (.putfield 192, 3) := by decide +kernel
theorem dX6_laysParts_205 : decode cX6_laysParts 205 = .ok (.iconst 0, 1) := by decide +kernel
theorem dX6_laysParts_206 : decode cX6_laysParts 206 = .ok (.istore 4, 2) := by decide +kernel
theorem dX6_laysParts_208 : decode cX6_laysParts 208 = .ok (.iload 4, 2) := by decide +kernel
theorem dX6_laysParts_210 : decode cX6_laysParts 210 = .ok (.iload_n 1, 1) := by decide +kernel
theorem dX6_laysParts_211 : decode cX6_laysParts 211 = .ok (.if_icmp .ge 53, 3) := by decide +kernel
theorem dX6_laysParts_214 : decode cX6_laysParts 214 = .ok (.aload_n 0, 1) := by decide +kernel
theorem dX6_laysParts_215 : decode cX6_laysParts 215 = .ok (.iload 4, 2) := by decide +kernel
theorem dX6_laysParts_217 : decode cX6_laysParts 217 = .ok (.iload_n 2, 1) := by decide +kernel
theorem dX6_laysParts_218 : decode cX6_laysParts 218 = .ok (.iload_n 3, 1) := by decide +kernel
theorem dX6_laysParts_219 : decode cX6_laysParts 219 = .ok (.invokevirtual 175, 3) := by decide +kernel
theorem dX6_laysParts_222 : decode cX6_laysParts 222 = .ok (.ifCond .eq 14, 3) := by decide +kernel
theorem dX6_laysParts_225 : decode cX6_laysParts 225 = .ok (.aload_n 0, 1) := by decide +kernel
theorem dX6_laysParts_226 : decode cX6_laysParts 226 = .ok (.getfield 44, 3) := by decide +kernel
theorem dX6_laysParts_229 : decode cX6_laysParts 229 = .ok (.iload 4, 2) := by decide +kernel
theorem dX6_laysParts_231 : decode cX6_laysParts 231 = .ok (.iconst (-1), 1) := by decide +kernel
theorem dX6_laysParts_232 : decode cX6_laysParts 232 = .ok (.iastore, 1) := by decide +kernel
theorem dX6_laysParts_233 : decode cX6_laysParts 233 = .ok (.goto 25, 3) := by decide +kernel
theorem dX6_laysParts_236 : decode cX6_laysParts 236 = .ok (.aload_n 0, 1) := by decide +kernel
theorem dX6_laysParts_237 : decode cX6_laysParts 237 = .ok (.getfield 44, 3) := by decide +kernel
theorem dX6_laysParts_240 : decode cX6_laysParts 240 = .ok (.iload 4, 2) := by decide +kernel
theorem dX6_laysParts_242 : decode cX6_laysParts 242 = .ok (.iaload, 1) := by decide +kernel
theorem dX6_laysParts_243 : decode cX6_laysParts 243 = .ok (.iload 4, 2) := by decide +kernel
theorem dX6_laysParts_245 : decode cX6_laysParts 245 = .ok (.if_icmp .ne 13, 3) := by decide +kernel
theorem dX6_laysParts_248 : decode cX6_laysParts 248 = .ok (.aload_n 0, 1) := by decide +kernel
theorem dX6_laysParts_249 : decode cX6_laysParts 249 = .ok (.aload_n 0, 1) := by decide +kernel
theorem dX6_laysParts_250 : decode cX6_laysParts 250 = .ok (.getfield 192, 3) := by decide +kernel
theorem dX6_laysParts_253 : decode cX6_laysParts 253 = .ok (.iconst 1, 1) := by decide +kernel
theorem dX6_laysParts_254 : decode cX6_laysParts 254 = .ok (.iadd, 1) := by decide +kernel
theorem dX6_laysParts_255 : decode cX6_laysParts 255 = .ok (.putfield 192, 3) := by decide +kernel
theorem dX6_laysParts_258 : decode cX6_laysParts 258 = .ok (.iinc 4 1, 3) := by decide +kernel
theorem dX6_laysParts_261 : decode cX6_laysParts 261 = .ok (.goto (-53), 3) := by decide +kernel
theorem dX6_laysParts_264 : decode cX6_laysParts 264 = .ok (.return_, 1) := by decide +kernel
theorem dX6_reachedWithout_0 : decode cX6_reachedWithout 0 = .ok (.iconst 1, 1) := by decide +kernel
theorem dX6_reachedWithout_1 : decode cX6_reachedWithout 1 = .ok (.iload_n 1, 1) := by decide +kernel
theorem dX6_reachedWithout_2 : decode cX6_reachedWithout 2 = .ok (.ishl, 1) := by decide +kernel
theorem dX6_reachedWithout_3 : decode cX6_reachedWithout 3 = .ok (.istore 6, 2) := by decide +kernel
theorem dX6_reachedWithout_5 : decode cX6_reachedWithout 5 = .ok (.iconst 1, 1) := by decide +kernel
theorem dX6_reachedWithout_6 : decode cX6_reachedWithout 6 = .ok (.istore 7, 2) := by decide +kernel
theorem dX6_reachedWithout_8 : decode cX6_reachedWithout 8 = .ok (.iload 7, 2) := by decide +kernel
theorem dX6_reachedWithout_10 : decode cX6_reachedWithout 10 = .ok (.ifCond .eq 119, 3) := by decide +kernel
theorem dX6_reachedWithout_13 : decode cX6_reachedWithout 13 = .ok (.iload 6, 2) := by decide +kernel
theorem dX6_reachedWithout_15 : decode cX6_reachedWithout 15 = .ok (.istore 8, 2) := by decide +kernel
theorem dX6_reachedWithout_17 : decode cX6_reachedWithout 17 = .ok (.iconst 0, 1) := by decide +kernel
theorem dX6_reachedWithout_18 : decode cX6_reachedWithout 18 = .ok (.istore 9, 2) := by decide +kernel
theorem dX6_reachedWithout_20 : decode cX6_reachedWithout 20 = .ok (.iload 9, 2) := by decide +kernel
theorem dX6_reachedWithout_22 : decode cX6_reachedWithout 22 = .ok (.iload_n 2, 1) := by decide +kernel
theorem dX6_reachedWithout_23 : decode cX6_reachedWithout 23 = .ok (.if_icmp .ge 89, 3) := by decide +kernel
theorem dX6_reachedWithout_26 : decode cX6_reachedWithout 26 = .ok (.aload_n 0, 1) := by decide +kernel
theorem dX6_reachedWithout_27 : decode cX6_reachedWithout 27 = .ok (.iload 9, 2) := by decide +kernel
theorem dX6_reachedWithout_29 : decode cX6_reachedWithout 29 = .ok (.iload_n 3, 1) := by decide +kernel
theorem dX6_reachedWithout_30 : decode cX6_reachedWithout 30 = .ok (.iload 4, 2) := by decide +kernel
theorem dX6_reachedWithout_32 : decode cX6_reachedWithout 32 = .ok (.invokevirtual 175, 3) := by decide +kernel
theorem dX6_reachedWithout_35 : decode cX6_reachedWithout 35 = .ok (.ifCond .ne 71, 3) := by decide +kernel
theorem dX6_reachedWithout_38 : decode cX6_reachedWithout 38 = .ok (.aload_n 0, 1) := by decide +kernel
theorem dX6_reachedWithout_39 : decode cX6_reachedWithout 39 = .ok (.iload 9, 2) := by decide +kernel
theorem dX6_reachedWithout_41 : decode cX6_reachedWithout 41 = .ok (.iconst (-1), 1) := by decide +kernel
theorem dX6_reachedWithout_42 : decode cX6_reachedWithout 42 = .ok (.iload 5, 2) := by decide +kernel
theorem dX6_reachedWithout_44 : decode cX6_reachedWithout 44 = .ok (.invokevirtual 175, 3) := by decide +kernel
theorem dX6_reachedWithout_47 : decode cX6_reachedWithout 47 = .ok (.ifCond .ne 59, 3) := by decide +kernel
theorem dX6_reachedWithout_50 : decode cX6_reachedWithout 50 = .ok (.aload_n 0, 1) := by decide +kernel
theorem dX6_reachedWithout_51 : decode cX6_reachedWithout 51 = .ok (.iload 6, 2) := by decide +kernel
theorem dX6_reachedWithout_53 : decode cX6_reachedWithout 53 = .ok (.aload_n 0, 1) := by decide +kernel
theorem dX6_reachedWithout_54 : decode cX6_reachedWithout 54 = .ok (.getfield 13, 3) := by decide +kernel
theorem dX6_reachedWithout_57 : decode cX6_reachedWithout 57 = .ok (.iload 9, 2) := by decide +kernel
theorem dX6_reachedWithout_59 : decode cX6_reachedWithout 59 = .ok (.iaload, 1) := by decide +kernel
theorem dX6_reachedWithout_60 : decode cX6_reachedWithout 60 = .ok (.invokevirtual 85, 3) := by decide +kernel
theorem dX6_reachedWithout_63 : decode cX6_reachedWithout 63 = .ok (.ifCond .ne 19, 3) := by decide +kernel
theorem dX6_reachedWithout_66 : decode cX6_reachedWithout 66 = .ok (.aload_n 0, 1) := by decide +kernel
theorem dX6_reachedWithout_67 : decode cX6_reachedWithout 67 = .ok (.iload 6, 2) := by decide +kernel
theorem dX6_reachedWithout_69 : decode cX6_reachedWithout 69 = .ok (.aload_n 0, 1) := by decide +kernel
theorem dX6_reachedWithout_70 : decode cX6_reachedWithout 70 = .ok (.getfield 17, 3) := by decide +kernel
theorem dX6_reachedWithout_73 : decode cX6_reachedWithout 73 = .ok (.iload 9, 2) := by decide +kernel
theorem dX6_reachedWithout_75 : decode cX6_reachedWithout 75 = .ok (.iaload, 1) := by decide +kernel
theorem dX6_reachedWithout_76 : decode cX6_reachedWithout 76 = .ok (.invokevirtual 85, 3) := by decide +kernel
theorem dX6_reachedWithout_79 : decode cX6_reachedWithout 79 = .ok (.ifCond .eq 27, 3) := by decide +kernel
theorem dX6_reachedWithout_82 : decode cX6_reachedWithout 82 = .ok (.iload 6, 2) := by decide +kernel
theorem dX6_reachedWithout_84 : decode cX6_reachedWithout 84 = .ok (.iconst 1, 1) := by decide +kernel
theorem dX6_reachedWithout_85 : decode cX6_reachedWithout 85 = .ok (.aload_n 0, 1) := by decide +kernel
theorem dX6_reachedWithout_86 : decode cX6_reachedWithout 86 = .ok (.getfield 13, 3) := by decide +kernel
theorem dX6_reachedWithout_89 : decode cX6_reachedWithout 89 = .ok (.iload 9, 2) := by decide +kernel
theorem dX6_reachedWithout_91 : decode cX6_reachedWithout 91 = .ok (.iaload, 1) := by decide +kernel
theorem dX6_reachedWithout_92 : decode cX6_reachedWithout 92 = .ok (.ishl, 1) := by decide +kernel
theorem dX6_reachedWithout_93 : decode cX6_reachedWithout 93 = .ok (.ior, 1) := by decide +kernel
theorem dX6_reachedWithout_94 : decode cX6_reachedWithout 94 = .ok (.iconst 1, 1) := by decide +kernel
theorem dX6_reachedWithout_95 : decode cX6_reachedWithout 95 = .ok (.aload_n 0, 1) := by decide +kernel
theorem dX6_reachedWithout_96 : decode cX6_reachedWithout 96 = .ok (.getfield 17, 3) := by decide +kernel
theorem dX6_reachedWithout_99 : decode cX6_reachedWithout 99 = .ok (.iload 9, 2) := by decide +kernel
theorem dX6_reachedWithout_101 : decode cX6_reachedWithout 101 = .ok (.iaload, 1) := by decide +kernel
theorem dX6_reachedWithout_102 : decode cX6_reachedWithout 102 = .ok (.ishl, 1) := by decide +kernel
theorem dX6_reachedWithout_103 : decode cX6_reachedWithout 103 = .ok (.ior, 1) := by decide +kernel
theorem dX6_reachedWithout_104 : decode cX6_reachedWithout 104 = .ok (.istore 6, 2) := by decide +kernel
theorem dX6_reachedWithout_106 : decode cX6_reachedWithout 106 = .ok (.iinc 9 1, 3) := by decide +kernel
theorem dX6_reachedWithout_109 : decode cX6_reachedWithout 109 = .ok (.goto (-89), 3) := by decide +kernel
theorem dX6_reachedWithout_112 : decode cX6_reachedWithout 112 = .ok (.iload 8, 2) := by decide +kernel
theorem dX6_reachedWithout_114 : decode cX6_reachedWithout 114 = .ok (.iload 6, 2) := by decide +kernel
theorem dX6_reachedWithout_116 : decode cX6_reachedWithout 116 = .ok (.if_icmp .eq 7, 3) := by decide +kernel
theorem dX6_reachedWithout_119 : decode cX6_reachedWithout 119 = .ok (.iconst 1, 1) := by decide +kernel
theorem dX6_reachedWithout_120 : decode cX6_reachedWithout 120 = .ok (.goto 4, 3) := by decide +kernel
theorem dX6_reachedWithout_123 : decode cX6_reachedWithout 123 = .ok (.iconst 0, 1) := by decide +kernel
theorem dX6_reachedWithout_124 : decode cX6_reachedWithout 124 = .ok (.istore 7, 2) := by decide +kernel
theorem dX6_reachedWithout_126 : decode cX6_reachedWithout 126 = .ok (.goto (-118), 3) := by decide +kernel
theorem dX6_reachedWithout_129 : decode cX6_reachedWithout 129 = .ok (.iload 6, 2) := by decide +kernel
theorem dX6_reachedWithout_131 : decode cX6_reachedWithout 131 = .ok (.ireturn, 1) := by decide +kernel
theorem dX6_laysAllParts_0 : decode cX6_laysAllParts 0 = .ok (.aload_n 0, 1) := by decide +kernel
theorem dX6_laysAllParts_1 : decode cX6_laysAllParts 1 = .ok (.aload_n 0, 1) := by decide +kernel
theorem dX6_laysAllParts_2 : decode cX6_laysAllParts 2 = .ok (.getfield 78, 3) := by decide +kernel
theorem dX6_laysAllParts_5 : decode cX6_laysAllParts 5 = .ok (.iconst (-1), 1) := by decide +kernel
theorem dX6_laysAllParts_6 : decode cX6_laysAllParts 6 = .ok (.iconst (-1), 1) := by decide +kernel
theorem dX6_laysAllParts_7 : decode cX6_laysAllParts 7 = .ok (.invokevirtual 195, 3) := by decide +kernel
theorem dX6_laysAllParts_10 : decode cX6_laysAllParts 10 = .ok (.return_, 1) := by decide +kernel
theorem dX6_linksNamed_0 : decode cX6_linksNamed 0 = .ok (.iconst 0, 1) := by decide +kernel
theorem dX6_linksNamed_1 : decode cX6_linksNamed 1 = .ok (.istore_n 3, 1) := by decide +kernel
theorem dX6_linksNamed_2 : decode cX6_linksNamed 2 = .ok (.iconst 0, 1) := by decide +kernel
theorem dX6_linksNamed_3 : decode cX6_linksNamed 3 = .ok (.istore 4, 2) := by decide +kernel
theorem dX6_linksNamed_5 : decode cX6_linksNamed 5 = .ok (.iload 4, 2) := by decide +kernel
theorem dX6_linksNamed_7 : decode cX6_linksNamed 7 = .ok (.iload_n 2, 1) := by decide +kernel
theorem dX6_linksNamed_8 : decode cX6_linksNamed 8 = .ok (.if_icmp .ge 24, 3) := by decide +kernel
theorem dX6_linksNamed_11 : decode cX6_linksNamed 11 = .ok (.aload_n 0, 1) := by decide +kernel
theorem dX6_linksNamed_12 : decode cX6_linksNamed 12 = .ok (.getfield 50, 3) := by decide +kernel
theorem dX6_linksNamed_15 : decode cX6_linksNamed 15 = .ok (.iload 4, 2) := by decide +kernel
theorem dX6_linksNamed_17 : decode cX6_linksNamed 17 = .ok (.iaload, 1) := by decide +kernel
theorem dX6_linksNamed_18 : decode cX6_linksNamed 18 = .ok (.iload_n 1, 1) := by decide +kernel
theorem dX6_linksNamed_19 : decode cX6_linksNamed 19 = .ok (.if_icmp .ne 7, 3) := by decide +kernel
theorem dX6_linksNamed_22 : decode cX6_linksNamed 22 = .ok (.iload_n 3, 1) := by decide +kernel
theorem dX6_linksNamed_23 : decode cX6_linksNamed 23 = .ok (.iconst 1, 1) := by decide +kernel
theorem dX6_linksNamed_24 : decode cX6_linksNamed 24 = .ok (.iadd, 1) := by decide +kernel
theorem dX6_linksNamed_25 : decode cX6_linksNamed 25 = .ok (.istore_n 3, 1) := by decide +kernel
theorem dX6_linksNamed_26 : decode cX6_linksNamed 26 = .ok (.iinc 4 1, 3) := by decide +kernel
theorem dX6_linksNamed_29 : decode cX6_linksNamed 29 = .ok (.goto (-24), 3) := by decide +kernel
theorem dX6_linksNamed_32 : decode cX6_linksNamed 32 = .ok (.iload_n 3, 1) := by decide +kernel
theorem dX6_linksNamed_33 : decode cX6_linksNamed 33 = .ok (.ireturn, 1) := by decide +kernel
theorem dX6_namesPart_0 : decode cX6_namesPart 0 = .ok (.aload_n 0, 1) := by decide +kernel
theorem dX6_namesPart_1 : decode cX6_namesPart 1 = .ok (.iload_n 1, 1) := by decide +kernel
theorem dX6_namesPart_2 : decode cX6_namesPart 2 = .ok (.iconst 1, 1) := by decide +kernel
theorem dX6_namesPart_3 : decode cX6_namesPart 3 = .ok (.iadd, 1) := by decide +kernel
theorem dX6_namesPart_4 : decode cX6_namesPart 4 = .ok (.iconst (-1), 1) := by decide +kernel
theorem dX6_namesPart_5 : decode cX6_namesPart 5 = .ok (.iconst (-1), 1) := by decide +kernel
theorem dX6_namesPart_6 : decode cX6_namesPart 6 = .ok (.invokevirtual 195, 3) := by decide +kernel
theorem dX6_namesPart_9 : decode cX6_namesPart 9 = .ok (.aload_n 0, 1) := by decide +kernel
theorem dX6_namesPart_10 : decode cX6_namesPart 10 = .ok (.getfield 50, 3) := by decide +kernel
theorem dX6_namesPart_13 : decode cX6_namesPart 13 = .ok (.iload_n 1, 1) := by decide +kernel
theorem dX6_namesPart_14 : decode cX6_namesPart 14 = .ok (.iload_n 1, 1) := by decide +kernel
theorem dX6_namesPart_15 : decode cX6_namesPart 15 = .ok (.iastore, 1) := by decide +kernel
theorem dX6_namesPart_16 : decode cX6_namesPart 16 = .ok (.aload_n 0, 1) := by decide +kernel
theorem dX6_namesPart_17 : decode cX6_namesPart 17 = .ok (.getfield 53, 3) := by decide +kernel
theorem dX6_namesPart_20 : decode cX6_namesPart 20 = .ok (.iload_n 1, 1) := by decide +kernel
theorem dX6_namesPart_21 : decode cX6_namesPart 21 = .ok (.iconst (-1), 1) := by decide +kernel
theorem dX6_namesPart_22 : decode cX6_namesPart 22 = .ok (.iastore, 1) := by decide +kernel
theorem dX6_namesPart_23 : decode cX6_namesPart 23 = .ok (.aload_n 0, 1) := by decide +kernel
theorem dX6_namesPart_24 : decode cX6_namesPart 24 = .ok (.getfield 56, 3) := by decide +kernel
theorem dX6_namesPart_27 : decode cX6_namesPart 27 = .ok (.iload_n 1, 1) := by decide +kernel
theorem dX6_namesPart_28 : decode cX6_namesPart 28 = .ok (.iconst (-1), 1) := by decide +kernel
theorem dX6_namesPart_29 : decode cX6_namesPart 29 = .ok (.iastore, 1) := by decide +kernel
theorem dX6_namesPart_30 : decode cX6_namesPart 30 = .ok (.aload_n 0, 1) := by decide +kernel
theorem dX6_namesPart_31 : decode cX6_namesPart 31 = .ok (.getfield 59, 3) := by decide +kernel
theorem dX6_namesPart_34 : decode cX6_namesPart 34 = .ok (.iload_n 1, 1) := by decide +kernel
theorem dX6_namesPart_35 : decode cX6_namesPart 35 = .ok (.iconst 1, 1) := by decide +kernel
theorem dX6_namesPart_36 : decode cX6_namesPart 36 = .ok (.iastore, 1) := by decide +kernel
theorem dX6_namesPart_37 : decode cX6_namesPart 37 = .ok (.iload_n 1, 1) := by decide +kernel
theorem dX6_namesPart_38 : decode cX6_namesPart 38 = .ok (.istore_n 2, 1) := by decide +kernel
theorem dX6_namesPart_39 : decode cX6_namesPart 39 = .ok (.iconst 0, 1) := by decide +kernel
theorem dX6_namesPart_40 : decode cX6_namesPart 40 = .ok (.istore_n 3, 1) := by decide +kernel
theorem dX6_namesPart_41 : decode cX6_namesPart 41 = .ok (.iload_n 3, 1) := by decide +kernel
theorem dX6_namesPart_42 : decode cX6_namesPart 42 = .ok (.iload_n 1, 1) := by decide +kernel
theorem dX6_namesPart_43 : decode cX6_namesPart 43 = .ok (.if_icmp .ge 83, 3) := by decide +kernel
theorem dX6_namesPart_46 : decode cX6_namesPart 46 = .ok (.aload_n 0, 1) := by decide +kernel
theorem dX6_namesPart_47 : decode cX6_namesPart 47 = .ok (.getfield 44, 3) := by decide +kernel
theorem dX6_namesPart_50 : decode cX6_namesPart 50 = .ok (.iload_n 3, 1) := by decide +kernel
theorem dX6_namesPart_51 : decode cX6_namesPart 51 = .ok (.iaload, 1) := by decide +kernel
theorem dX6_namesPart_52 : decode cX6_namesPart 52 = .ok (.aload_n 0, 1) := by decide +kernel
theorem dX6_namesPart_53 : decode cX6_namesPart 53 = .ok (.getfield 44, 3) := by decide +kernel
theorem dX6_namesPart_56 : decode cX6_namesPart 56 = .ok (.iload_n 1, 1) := by decide +kernel
theorem dX6_namesPart_57 : decode cX6_namesPart 57 = .ok (.iaload, 1) := by decide +kernel
theorem dX6_namesPart_58 : decode cX6_namesPart 58 = .ok (.if_icmp .eq 6, 3) := by decide +kernel
theorem dX6_namesPart_61 : decode cX6_namesPart 61 = .ok (.goto 59, 3) := by decide +kernel
theorem dX6_namesPart_64 : decode cX6_namesPart 64 = .ok (.aload_n 0, 1) := by decide +kernel
theorem dX6_namesPart_65 : decode cX6_namesPart 65 = .ok (.aload_n 0, 1) := by decide +kernel
theorem dX6_namesPart_66 : decode cX6_namesPart 66 = .ok (.getfield 50, 3) := by decide +kernel
theorem dX6_namesPart_69 : decode cX6_namesPart 69 = .ok (.iload_n 3, 1) := by decide +kernel
theorem dX6_namesPart_70 : decode cX6_namesPart 70 = .ok (.iaload, 1) := by decide +kernel
theorem dX6_namesPart_71 : decode cX6_namesPart 71 = .ok (.iload_n 1, 1) := by decide +kernel
theorem dX6_namesPart_72 : decode cX6_namesPart 72 = .ok (.iconst 1, 1) := by decide +kernel
theorem dX6_namesPart_73 : decode cX6_namesPart 73 = .ok (.iadd, 1) := by decide +kernel
theorem dX6_namesPart_74 : decode cX6_namesPart 74 = .ok (.invokevirtual 198, 3) := by decide +kernel
theorem dX6_namesPart_77 : decode cX6_namesPart 77 = .ok (.istore 4, 2) := by decide +kernel
theorem dX6_namesPart_79 : decode cX6_namesPart 79 = .ok (.aload_n 0, 1) := by decide +kernel
theorem dX6_namesPart_80 : decode cX6_namesPart 80 = .ok (.iload_n 2, 1) := by decide +kernel
theorem dX6_namesPart_81 : decode cX6_namesPart 81 = .ok (.iload_n 1, 1) := by decide +kernel
theorem dX6_namesPart_82 : decode cX6_namesPart 82 = .ok (.iconst 1, 1) := by decide +kernel
theorem dX6_namesPart_83 : decode cX6_namesPart 83 = .ok (.iadd, 1) := by decide +kernel
theorem dX6_namesPart_84 : decode cX6_namesPart 84 = .ok (.invokevirtual 198, 3) := by decide +kernel
theorem dX6_namesPart_87 : decode cX6_namesPart 87 = .ok (.istore 5, 2) := by decide +kernel
theorem dX6_namesPart_89 : decode cX6_namesPart 89 = .ok (.iload 4, 2) := by decide +kernel
theorem dX6_namesPart_91 : decode cX6_namesPart 91 = .ok (.iload 5, 2) := by decide +kernel
theorem dX6_namesPart_93 : decode cX6_namesPart 93 = .ok (.if_icmp .gt 20, 3) := by decide +kernel
theorem dX6_namesPart_96 : decode cX6_namesPart 96 = .ok (.iload 4, 2) := by decide +kernel
theorem dX6_namesPart_98 : decode cX6_namesPart 98 = .ok (.iload 5, 2) := by decide +kernel
theorem dX6_namesPart_100 : decode cX6_namesPart 100 = .ok (.if_icmp .ne 20, 3) := by decide +kernel
theorem dX6_namesPart_103 : decode cX6_namesPart 103 = .ok (.aload_n 0, 1) := by decide +kernel
theorem dX6_namesPart_104 : decode cX6_namesPart 104 = .ok (.getfield 50, 3) := by decide +kernel
theorem dX6_namesPart_107 : decode cX6_namesPart 107 = .ok (.iload_n 3, 1) := by decide +kernel
theorem dX6_namesPart_108 : decode cX6_namesPart 108 = .ok (.iaload, 1) := by decide +kernel
theorem dX6_namesPart_109 : decode cX6_namesPart 109 = .ok (.iload_n 2, 1) := by decide +kernel
theorem dX6_namesPart_110 : decode cX6_namesPart 110 = .ok (.if_icmp .ge 10, 3) := by decide +kernel
theorem dX6_namesPart_113 : decode cX6_namesPart 113 = .ok (.aload_n 0, 1) := by decide +kernel
theorem dX6_namesPart_114 : decode cX6_namesPart 114 = .ok (.getfield 50, 3) := by decide +kernel
theorem dX6_namesPart_117 : decode cX6_namesPart 117 = .ok (.iload_n 3, 1) := by decide +kernel
theorem dX6_namesPart_118 : decode cX6_namesPart 118 = .ok (.iaload, 1) := by decide +kernel
theorem dX6_namesPart_119 : decode cX6_namesPart 119 = .ok (.istore_n 2, 1) := by decide +kernel
theorem dX6_namesPart_120 : decode cX6_namesPart 120 = .ok (.iinc 3 1, 3) := by decide +kernel
theorem dX6_namesPart_123 : decode cX6_namesPart 123 = .ok (.goto (-82), 3) := by decide +kernel
theorem dX6_namesPart_126 : decode cX6_namesPart 126 = .ok (.iconst 0, 1) := by decide +kernel
theorem dX6_namesPart_127 : decode cX6_namesPart 127 = .ok (.istore_n 3, 1) := by decide +kernel
theorem dX6_namesPart_128 : decode cX6_namesPart 128 = .ok (.iload_n 3, 1) := by decide +kernel
theorem dX6_namesPart_129 : decode cX6_namesPart 129 = .ok (.iload_n 1, 1) := by decide +kernel
theorem dX6_namesPart_130 : decode cX6_namesPart 130 = .ok (.if_icmp .gt 61, 3) := by decide +kernel
theorem dX6_namesPart_133 : decode cX6_namesPart 133 = .ok (.aload_n 0, 1) := by decide +kernel
theorem dX6_namesPart_134 : decode cX6_namesPart 134 = .ok (.getfield 44, 3) := by decide +kernel
theorem dX6_namesPart_137 : decode cX6_namesPart 137 = .ok (.iload_n 3, 1) := by decide +kernel
theorem dX6_namesPart_138 : decode cX6_namesPart 138 = .ok (.iaload, 1) := by decide +kernel
theorem dX6_namesPart_139 : decode cX6_namesPart 139 = .ok (.aload_n 0, 1) := by decide +kernel
theorem dX6_namesPart_140 : decode cX6_namesPart 140 = .ok (.getfield 44, 3) := by decide +kernel
theorem dX6_namesPart_143 : decode cX6_namesPart 143 = .ok (.iload_n 1, 1) := by decide +kernel
theorem dX6_namesPart_144 : decode cX6_namesPart 144 = .ok (.iaload, 1) := by decide +kernel
theorem dX6_namesPart_145 : decode cX6_namesPart 145 = .ok (.if_icmp .ne 40, 3) := by decide +kernel
theorem dX6_namesPart_148 : decode cX6_namesPart 148 = .ok (.aload_n 0, 1) := by decide +kernel
theorem dX6_namesPart_149 : decode cX6_namesPart 149 = .ok (.getfield 50, 3) := by decide +kernel
theorem dX6_namesPart_152 : decode cX6_namesPart 152 = .ok (.iload_n 3, 1) := by decide +kernel
theorem dX6_namesPart_153 : decode cX6_namesPart 153 = .ok (.iaload, 1) := by decide +kernel
theorem dX6_namesPart_154 : decode cX6_namesPart 154 = .ok (.iload_n 2, 1) := by decide +kernel
theorem dX6_namesPart_155 : decode cX6_namesPart 155 = .ok (.if_icmp .ne 6, 3) := by decide +kernel
theorem dX6_namesPart_158 : decode cX6_namesPart 158 = .ok (.goto 27, 3) := by decide +kernel
theorem dX6_namesPart_161 : decode cX6_namesPart 161 = .ok (.aload_n 0, 1) := by decide +kernel
theorem dX6_namesPart_162 : decode cX6_namesPart 162 = .ok (.getfield 53, 3) := by decide +kernel
theorem dX6_namesPart_165 : decode cX6_namesPart 165 = .ok (.aload_n 0, 1) := by decide +kernel
theorem dX6_namesPart_166 : decode cX6_namesPart 166 = .ok (.getfield 50, 3) := by decide +kernel
theorem dX6_namesPart_169 : decode cX6_namesPart 169 = .ok (.iload_n 3, 1) := by decide +kernel
theorem dX6_namesPart_170 : decode cX6_namesPart 170 = .ok (.iaload, 1) := by decide +kernel
theorem dX6_namesPart_171 : decode cX6_namesPart 171 = .ok (.iload_n 1, 1) := by decide +kernel
theorem dX6_namesPart_172 : decode cX6_namesPart 172 = .ok (.iastore, 1) := by decide +kernel
theorem dX6_namesPart_173 : decode cX6_namesPart 173 = .ok (.aload_n 0, 1) := by decide +kernel
theorem dX6_namesPart_174 : decode cX6_namesPart 174 = .ok (.getfield 56, 3) := by decide +kernel
theorem dX6_namesPart_177 : decode cX6_namesPart 177 = .ok (.aload_n 0, 1) := by decide +kernel
theorem dX6_namesPart_178 : decode cX6_namesPart 178 = .ok (.getfield 50, 3) := by decide +kernel
theorem dX6_namesPart_181 : decode cX6_namesPart 181 = .ok (.iload_n 3, 1) := by decide +kernel
theorem dX6_namesPart_182 : decode cX6_namesPart 182 = .ok (.iaload, 1) := by decide +kernel
theorem dX6_namesPart_183 : decode cX6_namesPart 183 = .ok (.iload_n 2, 1) := by decide +kernel
theorem dX6_namesPart_184 : decode cX6_namesPart 184 = .ok (.iastore, 1) := by decide +kernel
theorem dX6_namesPart_185 : decode cX6_namesPart 185 = .ok (.iinc 3 1, 3) := by decide +kernel
theorem dX6_namesPart_188 : decode cX6_namesPart 188 = .ok (.goto (-60), 3) := by decide +kernel
theorem dX6_namesPart_191 : decode cX6_namesPart 191 = .ok (.iconst 0, 1) := by decide +kernel
theorem dX6_namesPart_192 : decode cX6_namesPart 192 = .ok (.istore_n 3, 1) := by decide +kernel
theorem dX6_namesPart_193 : decode cX6_namesPart 193 = .ok (.iload_n 3, 1) := by decide +kernel
theorem dX6_namesPart_194 : decode cX6_namesPart 194 = .ok (.iload_n 1, 1) := by decide +kernel
theorem dX6_namesPart_195 : decode cX6_namesPart 195 = .ok (.if_icmp .gt 31, 3) := by decide +kernel
theorem dX6_namesPart_198 : decode cX6_namesPart 198 = .ok (.aload_n 0, 1) := by decide +kernel
theorem dX6_namesPart_199 : decode cX6_namesPart 199 = .ok (.getfield 44, 3) := by decide +kernel
theorem dX6_namesPart_202 : decode cX6_namesPart 202 = .ok (.iload_n 3, 1) := by decide +kernel
theorem dX6_namesPart_203 : decode cX6_namesPart 203 = .ok (.iaload, 1) := by decide +kernel
theorem dX6_namesPart_204 : decode cX6_namesPart 204 = .ok (.aload_n 0, 1) := by decide +kernel
theorem dX6_namesPart_205 : decode cX6_namesPart 205 = .ok (.getfield 44, 3) := by decide +kernel
theorem dX6_namesPart_208 : decode cX6_namesPart 208 = .ok (.iload_n 1, 1) := by decide +kernel
theorem dX6_namesPart_209 : decode cX6_namesPart 209 = .ok (.iaload, 1) := by decide +kernel
theorem dX6_namesPart_210 : decode cX6_namesPart 210 = .ok (.if_icmp .ne 10, 3) := by decide +kernel
theorem dX6_namesPart_213 : decode cX6_namesPart 213 = .ok (.aload_n 0, 1) := by decide +kernel
theorem dX6_namesPart_214 : decode cX6_namesPart 214 = .ok (.getfield 50, 3) := by decide +kernel
theorem dX6_namesPart_217 : decode cX6_namesPart 217 = .ok (.iload_n 3, 1) := by decide +kernel
theorem dX6_namesPart_218 : decode cX6_namesPart 218 = .ok (.iload_n 2, 1) := by decide +kernel
theorem dX6_namesPart_219 : decode cX6_namesPart 219 = .ok (.iastore, 1) := by decide +kernel
theorem dX6_namesPart_220 : decode cX6_namesPart 220 = .ok (.iinc 3 1, 3) := by decide +kernel
theorem dX6_namesPart_223 : decode cX6_namesPart 223 = .ok (.goto (-30), 3) := by decide +kernel
theorem dX6_namesPart_226 : decode cX6_namesPart 226 = .ok (.aload_n 0, 1) := by decide +kernel
theorem dX6_namesPart_227 : decode cX6_namesPart 227 = .ok (.getfield 59, 3) := by decide +kernel
theorem dX6_namesPart_230 : decode cX6_namesPart 230 = .ok (.iload_n 2, 1) := by decide +kernel
theorem dX6_namesPart_231 : decode cX6_namesPart 231 = .ok (.aload_n 0, 1) := by decide +kernel
theorem dX6_namesPart_232 : decode cX6_namesPart 232 = .ok (.getfield 59, 3) := by decide +kernel
theorem dX6_namesPart_235 : decode cX6_namesPart 235 = .ok (.iload_n 2, 1) := by decide +kernel
theorem dX6_namesPart_236 : decode cX6_namesPart 236 = .ok (.iaload, 1) := by decide +kernel
theorem dX6_namesPart_237 : decode cX6_namesPart 237 = .ok (.aload_n 0, 1) := by decide +kernel
theorem dX6_namesPart_238 : decode cX6_namesPart 238 = .ok (.iload_n 2, 1) := by decide +kernel
theorem dX6_namesPart_239 : decode cX6_namesPart 239 = .ok (.iload_n 1, 1) := by decide +kernel
theorem dX6_namesPart_240 : decode cX6_namesPart 240 = .ok (.iconst 1, 1) := by decide +kernel
theorem dX6_namesPart_241 : decode cX6_namesPart 241 = .ok (.iadd, 1) := by decide +kernel
theorem dX6_namesPart_242 : decode cX6_namesPart 242 = .ok (.invokevirtual 198, 3) := by decide +kernel
theorem dX6_namesPart_245 : decode cX6_namesPart 245 = .ok (.invokestatic 93, 3) := by decide +kernel
theorem dX6_namesPart_248 : decode cX6_namesPart 248 = .ok (.iastore, 1) := by decide +kernel
theorem dX6_namesPart_249 : decode cX6_namesPart 249 = .ok (.return_, 1) := by decide +kernel
theorem dX6_runsParts_0 : decode cX6_runsParts 0 = .ok (.aload_n 0, 1) := by decide +kernel
theorem dX6_runsParts_1 : decode cX6_runsParts 1 = .ok (.getfield 47, 3) := by decide +kernel
theorem dX6_runsParts_4 : decode cX6_runsParts 4 = .ok (.iconst (-1), 1) := by decide +kernel
theorem dX6_runsParts_5 : decode cX6_runsParts 5 = .ok (.if_icmp .eq 14, 3) := by decide +kernel
theorem dX6_runsParts_8 : decode cX6_runsParts 8 = .ok (.aload_n 0, 1) := by decide +kernel
theorem dX6_runsParts_9 : decode cX6_runsParts 9 = .ok (.getfield 47, 3) := by decide +kernel
theorem dX6_runsParts_12 : decode cX6_runsParts 12 = .ok (.aload_n 0, 1) := by decide +kernel
theorem dX6_runsParts_13 : decode cX6_runsParts 13 = .ok (.getfield 78, 3) := by decide +kernel
theorem dX6_runsParts_16 : decode cX6_runsParts 16 = .ok (.if_icmp .le 8, 3) := by decide +kernel
theorem dX6_runsParts_19 : decode cX6_runsParts 19 = .ok (.aload_n 0, 1) := by decide +kernel
theorem dX6_runsParts_20 : decode cX6_runsParts 20 = .ok (.iconst 0, 1) := by decide +kernel
theorem dX6_runsParts_21 : decode cX6_runsParts 21 = .ok (.putfield 47, 3) := by decide +kernel
theorem dX6_runsParts_24 : decode cX6_runsParts 24 = .ok (.aload_n 0, 1) := by decide +kernel
theorem dX6_runsParts_25 : decode cX6_runsParts 25 = .ok (.getfield 47, 3) := by decide +kernel
theorem dX6_runsParts_28 : decode cX6_runsParts 28 = .ok (.aload_n 0, 1) := by decide +kernel
theorem dX6_runsParts_29 : decode cX6_runsParts 29 = .ok (.getfield 78, 3) := by decide +kernel
theorem dX6_runsParts_32 : decode cX6_runsParts 32 = .ok (.if_icmp .ge 24, 3) := by decide +kernel
theorem dX6_runsParts_35 : decode cX6_runsParts 35 = .ok (.aload_n 0, 1) := by decide +kernel
theorem dX6_runsParts_36 : decode cX6_runsParts 36 = .ok (.aload_n 0, 1) := by decide +kernel
theorem dX6_runsParts_37 : decode cX6_runsParts 37 = .ok (.getfield 47, 3) := by decide +kernel
theorem dX6_runsParts_40 : decode cX6_runsParts 40 = .ok (.invokevirtual 201, 3) := by decide +kernel
theorem dX6_runsParts_43 : decode cX6_runsParts 43 = .ok (.aload_n 0, 1) := by decide +kernel
theorem dX6_runsParts_44 : decode cX6_runsParts 44 = .ok (.aload_n 0, 1) := by decide +kernel
theorem dX6_runsParts_45 : decode cX6_runsParts 45 = .ok (.getfield 47, 3) := by decide +kernel
theorem dX6_runsParts_48 : decode cX6_runsParts 48 = .ok (.iconst 1, 1) := by decide +kernel
theorem dX6_runsParts_49 : decode cX6_runsParts 49 = .ok (.iadd, 1) := by decide +kernel
theorem dX6_runsParts_50 : decode cX6_runsParts 50 = .ok (.putfield 47, 3) := by decide +kernel
theorem dX6_runsParts_53 : decode cX6_runsParts 53 = .ok (.goto (-29), 3) := by decide +kernel
theorem dX6_runsParts_56 : decode cX6_runsParts 56 = .ok (.return_, 1) := by decide +kernel
theorem dX6_storyOfPart_0 : decode cX6_storyOfPart 0 = .ok (.aload_n 0, 1) := by decide +kernel
theorem dX6_storyOfPart_1 : decode cX6_storyOfPart 1 = .ok (.iload_n 1, 1) := by decide +kernel
theorem dX6_storyOfPart_2 : decode cX6_storyOfPart 2 = .ok (.invokevirtual 204, 3) := by decide +kernel
theorem dX6_storyOfPart_5 : decode cX6_storyOfPart 5 = .ok (.ifCond .ne 5, 3) := by decide +kernel
theorem dX6_storyOfPart_8 : decode cX6_storyOfPart 8 = .ok (.iconst (-1), 1) := by decide +kernel
theorem dX6_storyOfPart_9 : decode cX6_storyOfPart 9 = .ok (.ireturn, 1) := by decide +kernel
theorem dX6_storyOfPart_10 : decode cX6_storyOfPart 10 = .ok (.aload_n 0, 1) := by decide +kernel
theorem dX6_storyOfPart_11 : decode cX6_storyOfPart 11 = .ok (.invokevirtual 207, 3) := by decide +kernel
theorem dX6_storyOfPart_14 : decode cX6_storyOfPart 14 = .ok (.iload_n 1, 1) := by decide +kernel
theorem dX6_storyOfPart_15 : decode cX6_storyOfPart 15 = .ok (.istore_n 3, 1) := by decide +kernel
theorem dX6_storyOfPart_16 : decode cX6_storyOfPart 16 = .ok (.aload_n 0, 1) := by decide +kernel
theorem dX6_storyOfPart_17 : decode cX6_storyOfPart 17 = .ok (.getfield 56, 3) := by decide +kernel
theorem dX6_storyOfPart_20 : decode cX6_storyOfPart 20 = .ok (.iload_n 3, 1) := by decide +kernel
theorem dX6_storyOfPart_21 : decode cX6_storyOfPart 21 = .ok (.iaload, 1) := by decide +kernel
theorem dX6_storyOfPart_22 : decode cX6_storyOfPart 22 = .ok (.iconst (-1), 1) := by decide +kernel
theorem dX6_storyOfPart_23 : decode cX6_storyOfPart 23 = .ok (.if_icmp .eq 13, 3) := by decide +kernel
theorem dX6_storyOfPart_26 : decode cX6_storyOfPart 26 = .ok (.aload_n 0, 1) := by decide +kernel
theorem dX6_storyOfPart_27 : decode cX6_storyOfPart 27 = .ok (.getfield 56, 3) := by decide +kernel
theorem dX6_storyOfPart_30 : decode cX6_storyOfPart 30 = .ok (.iload_n 3, 1) := by decide +kernel
theorem dX6_storyOfPart_31 : decode cX6_storyOfPart 31 = .ok (.iaload, 1) := by decide +kernel
theorem dX6_storyOfPart_32 : decode cX6_storyOfPart 32 = .ok (.istore_n 3, 1) := by decide +kernel
theorem dX6_storyOfPart_33 : decode cX6_storyOfPart 33 = .ok (.goto (-17), 3) := by decide +kernel
theorem dX6_storyOfPart_36 : decode cX6_storyOfPart 36 = .ok (.iload_n 2, 1) := by decide +kernel
theorem dX6_storyOfPart_37 : decode cX6_storyOfPart 37 = .ok (.tableswitch 68 0 3 #[31, 47, 54, 61], 31) := by decide +kernel
theorem dX6_storyOfPart_68 : decode cX6_storyOfPart 68 = .ok (.aload_n 0, 1) := by decide +kernel
theorem dX6_storyOfPart_69 : decode cX6_storyOfPart 69 = .ok (.getfield 53, 3) := by decide +kernel
theorem dX6_storyOfPart_72 : decode cX6_storyOfPart 72 = .ok (.iload_n 1, 1) := by decide +kernel
theorem dX6_storyOfPart_73 : decode cX6_storyOfPart 73 = .ok (.iaload, 1) := by decide +kernel
theorem dX6_storyOfPart_74 : decode cX6_storyOfPart 74 = .ok (.iconst (-1), 1) := by decide +kernel
theorem dX6_storyOfPart_75 : decode cX6_storyOfPart 75 = .ok (.if_icmp .ne 7, 3) := by decide +kernel
theorem dX6_storyOfPart_78 : decode cX6_storyOfPart 78 = .ok (.iconst 1, 1) := by decide +kernel
theorem dX6_storyOfPart_79 : decode cX6_storyOfPart 79 = .ok (.goto 4, 3) := by decide +kernel
theorem dX6_storyOfPart_82 : decode cX6_storyOfPart 82 = .ok (.iconst 0, 1) := by decide +kernel
theorem dX6_storyOfPart_83 : decode cX6_storyOfPart 83 = .ok (.ireturn, 1) := by decide +kernel
theorem dX6_storyOfPart_84 : decode cX6_storyOfPart 84 = .ok (.aload_n 0, 1) := by decide +kernel
theorem dX6_storyOfPart_85 : decode cX6_storyOfPart 85 = .ok (.getfield 53, 3) := by decide +kernel
theorem dX6_storyOfPart_88 : decode cX6_storyOfPart 88 = .ok (.iload_n 1, 1) := by decide +kernel
theorem dX6_storyOfPart_89 : decode cX6_storyOfPart 89 = .ok (.iaload, 1) := by decide +kernel
theorem dX6_storyOfPart_90 : decode cX6_storyOfPart 90 = .ok (.ireturn, 1) := by decide +kernel
theorem dX6_storyOfPart_91 : decode cX6_storyOfPart 91 = .ok (.aload_n 0, 1) := by decide +kernel
theorem dX6_storyOfPart_92 : decode cX6_storyOfPart 92 = .ok (.getfield 56, 3) := by decide +kernel
theorem dX6_storyOfPart_95 : decode cX6_storyOfPart 95 = .ok (.iload_n 1, 1) := by decide +kernel
theorem dX6_storyOfPart_96 : decode cX6_storyOfPart 96 = .ok (.iaload, 1) := by decide +kernel
theorem dX6_storyOfPart_97 : decode cX6_storyOfPart 97 = .ok (.ireturn, 1) := by decide +kernel
theorem dX6_storyOfPart_98 : decode cX6_storyOfPart 98 = .ok (.aload_n 0, 1) := by decide +kernel
theorem dX6_storyOfPart_99 : decode cX6_storyOfPart 99 = .ok (.getfield 59, 3) := by decide +kernel
theorem dX6_storyOfPart_102 : decode cX6_storyOfPart 102 = .ok (.iload_n 1, 1) := by decide +kernel
theorem dX6_storyOfPart_103 : decode cX6_storyOfPart 103 = .ok (.iaload, 1) := by decide +kernel
theorem dX6_storyOfPart_104 : decode cX6_storyOfPart 104 = .ok (.ireturn, 1) := by decide +kernel
theorem dX6_storyOfPart_105 : decode cX6_storyOfPart 105 = .ok (.iload_n 2, 1) := by decide +kernel
theorem dX6_storyOfPart_106 : decode cX6_storyOfPart 106 = .ok (.iconst 4, 1) := by decide +kernel
theorem dX6_storyOfPart_107 : decode cX6_storyOfPart 107 = .ok (.if_icmp .ne 7, 3) := by decide +kernel
theorem dX6_storyOfPart_110 : decode cX6_storyOfPart 110 = .ok (.iload_n 3, 1) := by decide +kernel
theorem dX6_storyOfPart_111 : decode cX6_storyOfPart 111 = .ok (.goto 4, 3) := by decide +kernel
theorem dX6_storyOfPart_114 : decode cX6_storyOfPart 114 = .ok (.iconst (-1), 1) := by decide +kernel
theorem dX6_storyOfPart_115 : decode cX6_storyOfPart 115 = .ok (.ireturn, 1) := by decide +kernel
theorem dX6_partNumber_0 : decode cX6_partNumber 0 = .ok (.iconst 0, 1) := by decide +kernel
theorem dX6_partNumber_1 : decode cX6_partNumber 1 = .ok (.istore_n 2, 1) := by decide +kernel
theorem dX6_partNumber_2 : decode cX6_partNumber 2 = .ok (.iconst 0, 1) := by decide +kernel
theorem dX6_partNumber_3 : decode cX6_partNumber 3 = .ok (.istore_n 3, 1) := by decide +kernel
theorem dX6_partNumber_4 : decode cX6_partNumber 4 = .ok (.iload_n 3, 1) := by decide +kernel
theorem dX6_partNumber_5 : decode cX6_partNumber 5 = .ok (.aload_n 0, 1) := by decide +kernel
theorem dX6_partNumber_6 : decode cX6_partNumber 6 = .ok (.getfield 44, 3) := by decide +kernel
theorem dX6_partNumber_9 : decode cX6_partNumber 9 = .ok (.iload_n 1, 1) := by decide +kernel
theorem dX6_partNumber_10 : decode cX6_partNumber 10 = .ok (.iaload, 1) := by decide +kernel
theorem dX6_partNumber_11 : decode cX6_partNumber 11 = .ok (.if_icmp .ge 23, 3) := by decide +kernel
theorem dX6_partNumber_14 : decode cX6_partNumber 14 = .ok (.aload_n 0, 1) := by decide +kernel
theorem dX6_partNumber_15 : decode cX6_partNumber 15 = .ok (.getfield 44, 3) := by decide +kernel
theorem dX6_partNumber_18 : decode cX6_partNumber 18 = .ok (.iload_n 3, 1) := by decide +kernel
theorem dX6_partNumber_19 : decode cX6_partNumber 19 = .ok (.iaload, 1) := by decide +kernel
theorem dX6_partNumber_20 : decode cX6_partNumber 20 = .ok (.iload_n 3, 1) := by decide +kernel
theorem dX6_partNumber_21 : decode cX6_partNumber 21 = .ok (.if_icmp .ne 7, 3) := by decide +kernel
theorem dX6_partNumber_24 : decode cX6_partNumber 24 = .ok (.iload_n 2, 1) := by decide +kernel
theorem dX6_partNumber_25 : decode cX6_partNumber 25 = .ok (.iconst 1, 1) := by decide +kernel
theorem dX6_partNumber_26 : decode cX6_partNumber 26 = .ok (.iadd, 1) := by decide +kernel
theorem dX6_partNumber_27 : decode cX6_partNumber 27 = .ok (.istore_n 2, 1) := by decide +kernel
theorem dX6_partNumber_28 : decode cX6_partNumber 28 = .ok (.iinc 3 1, 3) := by decide +kernel
theorem dX6_partNumber_31 : decode cX6_partNumber 31 = .ok (.goto (-27), 3) := by decide +kernel
theorem dX6_partNumber_34 : decode cX6_partNumber 34 = .ok (.iload_n 2, 1) := by decide +kernel
theorem dX6_partNumber_35 : decode cX6_partNumber 35 = .ok (.ireturn, 1) := by decide +kernel
theorem dX6_partsAt_0 : decode cX6_partsAt 0 = .ok (.iconst 0, 1) := by decide +kernel
theorem dX6_partsAt_1 : decode cX6_partsAt 1 = .ok (.istore_n 3, 1) := by decide +kernel
theorem dX6_partsAt_2 : decode cX6_partsAt 2 = .ok (.iconst 0, 1) := by decide +kernel
theorem dX6_partsAt_3 : decode cX6_partsAt 3 = .ok (.istore 4, 2) := by decide +kernel
theorem dX6_partsAt_5 : decode cX6_partsAt 5 = .ok (.iload 4, 2) := by decide +kernel
theorem dX6_partsAt_7 : decode cX6_partsAt 7 = .ok (.aload_n 0, 1) := by decide +kernel
theorem dX6_partsAt_8 : decode cX6_partsAt 8 = .ok (.getfield 78, 3) := by decide +kernel
theorem dX6_partsAt_11 : decode cX6_partsAt 11 = .ok (.if_icmp .ge 114, 3) := by decide +kernel
theorem dX6_partsAt_14 : decode cX6_partsAt 14 = .ok (.iconst 0, 1) := by decide +kernel
theorem dX6_partsAt_15 : decode cX6_partsAt 15 = .ok (.istore 5, 2) := by decide +kernel
theorem dX6_partsAt_17 : decode cX6_partsAt 17 = .ok (.iconst 0, 1) := by decide +kernel
theorem dX6_partsAt_18 : decode cX6_partsAt 18 = .ok (.istore 6, 2) := by decide +kernel
theorem dX6_partsAt_20 : decode cX6_partsAt 20 = .ok (.iload 6, 2) := by decide +kernel
theorem dX6_partsAt_22 : decode cX6_partsAt 22 = .ok (.aload_n 0, 1) := by decide +kernel
theorem dX6_partsAt_23 : decode cX6_partsAt 23 = .ok (.getfield 78, 3) := by decide +kernel
theorem dX6_partsAt_26 : decode cX6_partsAt 26 = .ok (.if_icmp .ge 84, 3) := by decide +kernel
theorem dX6_partsAt_29 : decode cX6_partsAt 29 = .ok (.iload 5, 2) := by decide +kernel
theorem dX6_partsAt_31 : decode cX6_partsAt 31 = .ok (.ifCond .ne 66, 3) := by decide +kernel
theorem dX6_partsAt_34 : decode cX6_partsAt 34 = .ok (.aload_n 0, 1) := by decide +kernel
theorem dX6_partsAt_35 : decode cX6_partsAt 35 = .ok (.getfield 44, 3) := by decide +kernel
theorem dX6_partsAt_38 : decode cX6_partsAt 38 = .ok (.iload 6, 2) := by decide +kernel
theorem dX6_partsAt_40 : decode cX6_partsAt 40 = .ok (.iaload, 1) := by decide +kernel
theorem dX6_partsAt_41 : decode cX6_partsAt 41 = .ok (.iload 4, 2) := by decide +kernel
theorem dX6_partsAt_43 : decode cX6_partsAt 43 = .ok (.if_icmp .ne 58, 3) := by decide +kernel
theorem dX6_partsAt_46 : decode cX6_partsAt 46 = .ok (.aload_n 0, 1) := by decide +kernel
theorem dX6_partsAt_47 : decode cX6_partsAt 47 = .ok (.getfield 13, 3) := by decide +kernel
theorem dX6_partsAt_50 : decode cX6_partsAt 50 = .ok (.iload 6, 2) := by decide +kernel
theorem dX6_partsAt_52 : decode cX6_partsAt 52 = .ok (.iaload, 1) := by decide +kernel
theorem dX6_partsAt_53 : decode cX6_partsAt 53 = .ok (.iload_n 1, 1) := by decide +kernel
theorem dX6_partsAt_54 : decode cX6_partsAt 54 = .ok (.if_icmp .eq 14, 3) := by decide +kernel
theorem dX6_partsAt_57 : decode cX6_partsAt 57 = .ok (.aload_n 0, 1) := by decide +kernel
theorem dX6_partsAt_58 : decode cX6_partsAt 58 = .ok (.getfield 17, 3) := by decide +kernel
theorem dX6_partsAt_61 : decode cX6_partsAt 61 = .ok (.iload 6, 2) := by decide +kernel
theorem dX6_partsAt_63 : decode cX6_partsAt 63 = .ok (.iaload, 1) := by decide +kernel
theorem dX6_partsAt_64 : decode cX6_partsAt 64 = .ok (.iload_n 1, 1) := by decide +kernel
theorem dX6_partsAt_65 : decode cX6_partsAt 65 = .ok (.if_icmp .ne 36, 3) := by decide +kernel
theorem dX6_partsAt_68 : decode cX6_partsAt 68 = .ok (.iload_n 2, 1) := by decide +kernel
theorem dX6_partsAt_69 : decode cX6_partsAt 69 = .ok (.ifCond .eq 28, 3) := by decide +kernel
theorem dX6_partsAt_72 : decode cX6_partsAt 72 = .ok (.aload_n 0, 1) := by decide +kernel
theorem dX6_partsAt_73 : decode cX6_partsAt 73 = .ok (.aload_n 0, 1) := by decide +kernel
theorem dX6_partsAt_74 : decode cX6_partsAt 74 = .ok (.getfield 13, 3) := by decide +kernel
theorem dX6_partsAt_77 : decode cX6_partsAt 77 = .ok (.iload 6, 2) := by decide +kernel
theorem dX6_partsAt_79 : decode cX6_partsAt 79 = .ok (.iaload, 1) := by decide +kernel
theorem dX6_partsAt_80 : decode cX6_partsAt 80 = .ok (.invokevirtual 98, 3) := by decide +kernel
theorem dX6_partsAt_83 : decode cX6_partsAt 83 = .ok (.aload_n 0, 1) := by decide +kernel
theorem dX6_partsAt_84 : decode cX6_partsAt 84 = .ok (.aload_n 0, 1) := by decide +kernel
theorem dX6_partsAt_85 : decode cX6_partsAt 85 = .ok (.getfield 17, 3) := by decide +kernel
theorem dX6_partsAt_88 : decode cX6_partsAt 88 = .ok (.iload 6, 2) := by decide +kernel
theorem dX6_partsAt_90 : decode cX6_partsAt 90 = .ok (.iaload, 1) := by decide +kernel
theorem dX6_partsAt_91 : decode cX6_partsAt 91 = .ok (.invokevirtual 98, 3) := by decide +kernel
theorem dX6_partsAt_94 : decode cX6_partsAt 94 = .ok (.if_icmp .ne 7, 3) := by decide +kernel
theorem dX6_partsAt_97 : decode cX6_partsAt 97 = .ok (.iconst 1, 1) := by decide +kernel
theorem dX6_partsAt_98 : decode cX6_partsAt 98 = .ok (.goto 4, 3) := by decide +kernel
theorem dX6_partsAt_101 : decode cX6_partsAt 101 = .ok (.iconst 0, 1) := by decide +kernel
theorem dX6_partsAt_102 : decode cX6_partsAt 102 = .ok (.istore 5, 2) := by decide +kernel
theorem dX6_partsAt_104 : decode cX6_partsAt 104 = .ok (.iinc 6 1, 3) := by decide +kernel
theorem dX6_partsAt_107 : decode cX6_partsAt 107 = .ok (.goto (-87), 3) := by decide +kernel
theorem dX6_partsAt_110 : decode cX6_partsAt 110 = .ok (.iload 5, 2) := by decide +kernel
theorem dX6_partsAt_112 : decode cX6_partsAt 112 = .ok (.ifCond .eq 7, 3) := by decide +kernel
theorem dX6_partsAt_115 : decode cX6_partsAt 115 = .ok (.iload_n 3, 1) := by decide +kernel
theorem dX6_partsAt_116 : decode cX6_partsAt 116 = .ok (.iconst 1, 1) := by decide +kernel
theorem dX6_partsAt_117 : decode cX6_partsAt 117 = .ok (.iadd, 1) := by decide +kernel
theorem dX6_partsAt_118 : decode cX6_partsAt 118 = .ok (.istore_n 3, 1) := by decide +kernel
theorem dX6_partsAt_119 : decode cX6_partsAt 119 = .ok (.iinc 4 1, 3) := by decide +kernel
theorem dX6_partsAt_122 : decode cX6_partsAt 122 = .ok (.goto (-117), 3) := by decide +kernel
theorem dX6_partsAt_125 : decode cX6_partsAt 125 = .ok (.iload_n 3, 1) := by decide +kernel
theorem dX6_partsAt_126 : decode cX6_partsAt 126 = .ok (.ireturn, 1) := by decide +kernel
theorem dX6_isCut_0 : decode cX6_isCut 0 = .ok (.aload_n 0, 1) := by decide +kernel
theorem dX6_isCut_1 : decode cX6_isCut 1 = .ok (.iload_n 1, 1) := by decide +kernel
theorem dX6_isCut_2 : decode cX6_isCut 2 = .ok (.iconst 0, 1) := by decide +kernel
theorem dX6_isCut_3 : decode cX6_isCut 3 = .ok (.invokevirtual 210, 3) := by decide +kernel
theorem dX6_isCut_6 : decode cX6_isCut 6 = .ok (.iconst 1, 1) := by decide +kernel
theorem dX6_isCut_7 : decode cX6_isCut 7 = .ok (.if_icmp .le 7, 3) := by decide +kernel
theorem dX6_isCut_10 : decode cX6_isCut 10 = .ok (.iconst 1, 1) := by decide +kernel
theorem dX6_isCut_11 : decode cX6_isCut 11 = .ok (.goto 4, 3) := by decide +kernel
theorem dX6_isCut_14 : decode cX6_isCut 14 = .ok (.iconst 0, 1) := by decide +kernel
theorem dX6_isCut_15 : decode cX6_isCut 15 = .ok (.ireturn, 1) := by decide +kernel
theorem dX6_nodesOfPart_0 : decode cX6_nodesOfPart 0 = .ok (.iconst 0, 1) := by decide +kernel
theorem dX6_nodesOfPart_1 : decode cX6_nodesOfPart 1 = .ok (.istore_n 2, 1) := by decide +kernel
theorem dX6_nodesOfPart_2 : decode cX6_nodesOfPart 2 = .ok (.iconst 0, 1) := by decide +kernel
theorem dX6_nodesOfPart_3 : decode cX6_nodesOfPart 3 = .ok (.istore_n 3, 1) := by decide +kernel
theorem dX6_nodesOfPart_4 : decode cX6_nodesOfPart 4 = .ok (.iload_n 3, 1) := by decide +kernel
theorem dX6_nodesOfPart_5 : decode cX6_nodesOfPart 5 = .ok (.aload_n 0, 1) := by decide +kernel
theorem dX6_nodesOfPart_6 : decode cX6_nodesOfPart 6 = .ok (.getfield 78, 3) := by decide +kernel
theorem dX6_nodesOfPart_9 : decode cX6_nodesOfPart 9 = .ok (.if_icmp .ge 39, 3) := by decide +kernel
theorem dX6_nodesOfPart_12 : decode cX6_nodesOfPart 12 = .ok (.aload_n 0, 1) := by decide +kernel
theorem dX6_nodesOfPart_13 : decode cX6_nodesOfPart 13 = .ok (.getfield 44, 3) := by decide +kernel
theorem dX6_nodesOfPart_16 : decode cX6_nodesOfPart 16 = .ok (.iload_n 3, 1) := by decide +kernel
theorem dX6_nodesOfPart_17 : decode cX6_nodesOfPart 17 = .ok (.iaload, 1) := by decide +kernel
theorem dX6_nodesOfPart_18 : decode cX6_nodesOfPart 18 = .ok (.iload_n 1, 1) := by decide +kernel
theorem dX6_nodesOfPart_19 : decode cX6_nodesOfPart 19 = .ok (.if_icmp .ne 23, 3) := by decide +kernel
theorem dX6_nodesOfPart_22 : decode cX6_nodesOfPart 22 = .ok (.iload_n 2, 1) := by decide +kernel
theorem dX6_nodesOfPart_23 : decode cX6_nodesOfPart 23 = .ok (.iconst 1, 1) := by decide +kernel
theorem dX6_nodesOfPart_24 : decode cX6_nodesOfPart 24 = .ok (.aload_n 0, 1) := by decide +kernel
theorem dX6_nodesOfPart_25 : decode cX6_nodesOfPart 25 = .ok (.getfield 13, 3) := by decide +kernel
theorem dX6_nodesOfPart_28 : decode cX6_nodesOfPart 28 = .ok (.iload_n 3, 1) := by decide +kernel
theorem dX6_nodesOfPart_29 : decode cX6_nodesOfPart 29 = .ok (.iaload, 1) := by decide +kernel
theorem dX6_nodesOfPart_30 : decode cX6_nodesOfPart 30 = .ok (.ishl, 1) := by decide +kernel
theorem dX6_nodesOfPart_31 : decode cX6_nodesOfPart 31 = .ok (.ior, 1) := by decide +kernel
theorem dX6_nodesOfPart_32 : decode cX6_nodesOfPart 32 = .ok (.iconst 1, 1) := by decide +kernel
theorem dX6_nodesOfPart_33 : decode cX6_nodesOfPart 33 = .ok (.aload_n 0, 1) := by decide +kernel
theorem dX6_nodesOfPart_34 : decode cX6_nodesOfPart 34 = .ok (.getfield 17, 3) := by decide +kernel
theorem dX6_nodesOfPart_37 : decode cX6_nodesOfPart 37 = .ok (.iload_n 3, 1) := by decide +kernel
theorem dX6_nodesOfPart_38 : decode cX6_nodesOfPart 38 = .ok (.iaload, 1) := by decide +kernel
theorem dX6_nodesOfPart_39 : decode cX6_nodesOfPart 39 = .ok (.ishl, 1) := by decide +kernel
theorem dX6_nodesOfPart_40 : decode cX6_nodesOfPart 40 = .ok (.ior, 1) := by decide +kernel
theorem dX6_nodesOfPart_41 : decode cX6_nodesOfPart 41 = .ok (.istore_n 2, 1) := by decide +kernel
theorem dX6_nodesOfPart_42 : decode cX6_nodesOfPart 42 = .ok (.iinc 3 1, 3) := by decide +kernel
theorem dX6_nodesOfPart_45 : decode cX6_nodesOfPart 45 = .ok (.goto (-41), 3) := by decide +kernel
theorem dX6_nodesOfPart_48 : decode cX6_nodesOfPart 48 = .ok (.iload_n 2, 1) := by decide +kernel
theorem dX6_nodesOfPart_49 : decode cX6_nodesOfPart 49 = .ok (.ireturn, 1) := by decide +kernel
theorem dX6_areSafe_0 : decode cX6_areSafe 0 = .ok (.iconst 0, 1) := by decide +kernel
theorem dX6_areSafe_1 : decode cX6_areSafe 1 = .ok (.istore_n 3, 1) := by decide +kernel
theorem dX6_areSafe_2 : decode cX6_areSafe 2 = .ok (.iload_n 3, 1) := by decide +kernel
theorem dX6_areSafe_3 : decode cX6_areSafe 3 = .ok (.aload_n 0, 1) := by decide +kernel
theorem dX6_areSafe_4 : decode cX6_areSafe 4 = .ok (.getfield 78, 3) := by decide +kernel
theorem dX6_areSafe_7 : decode cX6_areSafe 7 = .ok (.if_icmp .ge 59, 3) := by decide +kernel
theorem dX6_areSafe_10 : decode cX6_areSafe 10 = .ok (.aload_n 0, 1) := by decide +kernel
theorem dX6_areSafe_11 : decode cX6_areSafe 11 = .ok (.getfield 44, 3) := by decide +kernel
theorem dX6_areSafe_14 : decode cX6_areSafe 14 = .ok (.iload_n 3, 1) := by decide +kernel
theorem dX6_areSafe_15 : decode cX6_areSafe 15 = .ok (.iaload, 1) := by decide +kernel
theorem dX6_areSafe_16 : decode cX6_areSafe 16 = .ok (.iload_n 3, 1) := by decide +kernel
theorem dX6_areSafe_17 : decode cX6_areSafe 17 = .ok (.if_icmp .ne 43, 3) := by decide +kernel
theorem dX6_areSafe_20 : decode cX6_areSafe 20 = .ok (.aload_n 0, 1) := by decide +kernel
theorem dX6_areSafe_21 : decode cX6_areSafe 21 = .ok (.iload_n 3, 1) := by decide +kernel
theorem dX6_areSafe_22 : decode cX6_areSafe 22 = .ok (.invokevirtual 214, 3) := by decide +kernel
theorem dX6_areSafe_25 : decode cX6_areSafe 25 = .ok (.ifCond .eq 6, 3) := by decide +kernel
theorem dX6_areSafe_28 : decode cX6_areSafe 28 = .ok (.goto 32, 3) := by decide +kernel
theorem dX6_areSafe_31 : decode cX6_areSafe 31 = .ok (.aload_n 0, 1) := by decide +kernel
theorem dX6_areSafe_32 : decode cX6_areSafe 32 = .ok (.iload_n 3, 1) := by decide +kernel
theorem dX6_areSafe_33 : decode cX6_areSafe 33 = .ok (.invokevirtual 217, 3) := by decide +kernel
theorem dX6_areSafe_36 : decode cX6_areSafe 36 = .ok (.istore 4, 2) := by decide +kernel
theorem dX6_areSafe_38 : decode cX6_areSafe 38 = .ok (.aload_n 0, 1) := by decide +kernel
theorem dX6_areSafe_39 : decode cX6_areSafe 39 = .ok (.iload 4, 2) := by decide +kernel
theorem dX6_areSafe_41 : decode cX6_areSafe 41 = .ok (.iload_n 1, 1) := by decide +kernel
theorem dX6_areSafe_42 : decode cX6_areSafe 42 = .ok (.invokevirtual 85, 3) := by decide +kernel
theorem dX6_areSafe_45 : decode cX6_areSafe 45 = .ok (.ifCond .eq 15, 3) := by decide +kernel
theorem dX6_areSafe_48 : decode cX6_areSafe 48 = .ok (.aload_n 0, 1) := by decide +kernel
theorem dX6_areSafe_49 : decode cX6_areSafe 49 = .ok (.iload 4, 2) := by decide +kernel
theorem dX6_areSafe_51 : decode cX6_areSafe 51 = .ok (.iload_n 2, 1) := by decide +kernel
theorem dX6_areSafe_52 : decode cX6_areSafe 52 = .ok (.invokevirtual 85, 3) := by decide +kernel
theorem dX6_areSafe_55 : decode cX6_areSafe 55 = .ok (.ifCond .eq 5, 3) := by decide +kernel
theorem dX6_areSafe_58 : decode cX6_areSafe 58 = .ok (.iconst 1, 1) := by decide +kernel
theorem dX6_areSafe_59 : decode cX6_areSafe 59 = .ok (.ireturn, 1) := by decide +kernel
theorem dX6_areSafe_60 : decode cX6_areSafe 60 = .ok (.iinc 3 1, 3) := by decide +kernel
theorem dX6_areSafe_63 : decode cX6_areSafe 63 = .ok (.goto (-61), 3) := by decide +kernel
theorem dX6_areSafe_66 : decode cX6_areSafe 66 = .ok (.iconst 0, 1) := by decide +kernel
theorem dX6_areSafe_67 : decode cX6_areSafe 67 = .ok (.ireturn, 1) := by decide +kernel
theorem dX6_side_0 : decode cX6_side 0 = .ok (.aload_n 0, 1) := by decide +kernel
theorem dX6_side_1 : decode cX6_side 1 = .ok (.aload_n 0, 1) := by decide +kernel
theorem dX6_side_2 : decode cX6_side 2 = .ok (.iload_n 2, 1) := by decide +kernel
theorem dX6_side_3 : decode cX6_side 3 = .ok (.aload_n 0, 1) := by decide +kernel
theorem dX6_side_4 : decode cX6_side 4 = .ok (.getfield 78, 3) := by decide +kernel
theorem dX6_side_7 : decode cX6_side 7 = .ok (.iload_n 1, 1) := by decide +kernel
theorem dX6_side_8 : decode cX6_side 8 = .ok (.iconst (-1), 1) := by decide +kernel
theorem dX6_side_9 : decode cX6_side 9 = .ok (.invokevirtual 220, 3) := by decide +kernel
theorem dX6_side_12 : decode cX6_side 12 = .ok (.invokevirtual 131, 3) := by decide +kernel
theorem dX6_side_15 : decode cX6_side 15 = .ok (.ireturn, 1) := by decide +kernel
theorem dX6_linkOf_0 : decode cX6_linkOf 0 = .ok (.aload_n 0, 1) := by decide +kernel
theorem dX6_linkOf_1 : decode cX6_linkOf 1 = .ok (.iconst 0, 1) := by decide +kernel
theorem dX6_linkOf_2 : decode cX6_linkOf 2 = .ok (.putfield 71, 3) := by decide +kernel
theorem dX6_linkOf_5 : decode cX6_linkOf 5 = .ok (.aload_n 0, 1) := by decide +kernel
theorem dX6_linkOf_6 : decode cX6_linkOf 6 = .ok (.iload_n 1, 1) := by decide +kernel
theorem dX6_linkOf_7 : decode cX6_linkOf 7 = .ok (.invokevirtual 204, 3) := by decide +kernel
theorem dX6_linkOf_10 : decode cX6_linkOf 10 = .ok (.ifCond .ne 5, 3) := by decide +kernel
theorem dX6_linkOf_13 : decode cX6_linkOf 13 = .ok (.iconst (-1), 1) := by decide +kernel
theorem dX6_linkOf_14 : decode cX6_linkOf 14 = .ok (.ireturn, 1) := by decide +kernel
theorem dX6_linkOf_15 : decode cX6_linkOf 15 = .ok (.aload_n 0, 1) := by decide +kernel
theorem dX6_linkOf_16 : decode cX6_linkOf 16 = .ok (.invokevirtual 155, 3) := by decide +kernel
theorem dX6_linkOf_19 : decode cX6_linkOf 19 = .ok (.iload_n 2, 1) := by decide +kernel
theorem dX6_linkOf_20 : decode cX6_linkOf 20 = .ok (.tableswitch 152 0 7 #[48, 55, 62, 76, 83, 93, 117, 141], 48) := by decide +kernel
theorem dX6_linkOf_68 : decode cX6_linkOf 68 = .ok (.aload_n 0, 1) := by decide +kernel
theorem dX6_linkOf_69 : decode cX6_linkOf 69 = .ok (.getfield 13, 3) := by decide +kernel
theorem dX6_linkOf_72 : decode cX6_linkOf 72 = .ok (.iload_n 1, 1) := by decide +kernel
theorem dX6_linkOf_73 : decode cX6_linkOf 73 = .ok (.iaload, 1) := by decide +kernel
theorem dX6_linkOf_74 : decode cX6_linkOf 74 = .ok (.ireturn, 1) := by decide +kernel
theorem dX6_linkOf_75 : decode cX6_linkOf 75 = .ok (.aload_n 0, 1) := by decide +kernel
theorem dX6_linkOf_76 : decode cX6_linkOf 76 = .ok (.getfield 17, 3) := by decide +kernel
theorem dX6_linkOf_79 : decode cX6_linkOf 79 = .ok (.iload_n 1, 1) := by decide +kernel
theorem dX6_linkOf_80 : decode cX6_linkOf 80 = .ok (.iaload, 1) := by decide +kernel
theorem dX6_linkOf_81 : decode cX6_linkOf 81 = .ok (.ireturn, 1) := by decide +kernel
theorem dX6_linkOf_82 : decode cX6_linkOf 82 = .ok (.aload_n 0, 1) := by decide +kernel
theorem dX6_linkOf_83 : decode cX6_linkOf 83 = .ok (.iload_n 1, 1) := by decide +kernel
theorem dX6_linkOf_84 : decode cX6_linkOf 84 = .ok (.invokevirtual 214, 3) := by decide +kernel
theorem dX6_linkOf_87 : decode cX6_linkOf 87 = .ok (.ifCond .eq 7, 3) := by decide +kernel
theorem dX6_linkOf_90 : decode cX6_linkOf 90 = .ok (.iconst 1, 1) := by decide +kernel
theorem dX6_linkOf_91 : decode cX6_linkOf 91 = .ok (.goto 4, 3) := by decide +kernel
theorem dX6_linkOf_94 : decode cX6_linkOf 94 = .ok (.iconst 0, 1) := by decide +kernel
theorem dX6_linkOf_95 : decode cX6_linkOf 95 = .ok (.ireturn, 1) := by decide +kernel
theorem dX6_linkOf_96 : decode cX6_linkOf 96 = .ok (.aload_n 0, 1) := by decide +kernel
theorem dX6_linkOf_97 : decode cX6_linkOf 97 = .ok (.getfield 41, 3) := by decide +kernel
theorem dX6_linkOf_100 : decode cX6_linkOf 100 = .ok (.iload_n 1, 1) := by decide +kernel
theorem dX6_linkOf_101 : decode cX6_linkOf 101 = .ok (.iaload, 1) := by decide +kernel
theorem dX6_linkOf_102 : decode cX6_linkOf 102 = .ok (.ireturn, 1) := by decide +kernel
theorem dX6_linkOf_103 : decode cX6_linkOf 103 = .ok (.aload_n 0, 1) := by decide +kernel
theorem dX6_linkOf_104 : decode cX6_linkOf 104 = .ok (.invokevirtual 224, 3) := by decide +kernel
theorem dX6_linkOf_107 : decode cX6_linkOf 107 = .ok (.aload_n 0, 1) := by decide +kernel
theorem dX6_linkOf_108 : decode cX6_linkOf 108 = .ok (.iload_n 1, 1) := by decide +kernel
theorem dX6_linkOf_109 : decode cX6_linkOf 109 = .ok (.invokevirtual 227, 3) := by decide +kernel
theorem dX6_linkOf_112 : decode cX6_linkOf 112 = .ok (.ireturn, 1) := by decide +kernel
theorem dX6_linkOf_113 : decode cX6_linkOf 113 = .ok (.aload_n 0, 1) := by decide +kernel
theorem dX6_linkOf_114 : decode cX6_linkOf 114 = .ok (.iload_n 1, 1) := by decide +kernel
theorem dX6_linkOf_115 : decode cX6_linkOf 115 = .ok (.invokevirtual 214, 3) := by decide +kernel
theorem dX6_linkOf_118 : decode cX6_linkOf 118 = .ok (.ifCond .eq 17, 3) := by decide +kernel
theorem dX6_linkOf_121 : decode cX6_linkOf 121 = .ok (.aload_n 0, 1) := by decide +kernel
theorem dX6_linkOf_122 : decode cX6_linkOf 122 = .ok (.iload_n 1, 1) := by decide +kernel
theorem dX6_linkOf_123 : decode cX6_linkOf 123 = .ok (.aload_n 0, 1) := by decide +kernel
theorem dX6_linkOf_124 : decode cX6_linkOf 124 = .ok (.getfield 13, 3) := by decide +kernel
theorem dX6_linkOf_127 : decode cX6_linkOf 127 = .ok (.iload_n 1, 1) := by decide +kernel
theorem dX6_linkOf_128 : decode cX6_linkOf 128 = .ok (.iaload, 1) := by decide +kernel
theorem dX6_linkOf_129 : decode cX6_linkOf 129 = .ok (.invokevirtual 230, 3) := by decide +kernel
theorem dX6_linkOf_132 : decode cX6_linkOf 132 = .ok (.goto 4, 3) := by decide +kernel
theorem dX6_linkOf_135 : decode cX6_linkOf 135 = .ok (.iconst (-1), 1) := by decide +kernel
theorem dX6_linkOf_136 : decode cX6_linkOf 136 = .ok (.ireturn, 1) := by decide +kernel
theorem dX6_linkOf_137 : decode cX6_linkOf 137 = .ok (.aload_n 0, 1) := by decide +kernel
theorem dX6_linkOf_138 : decode cX6_linkOf 138 = .ok (.iload_n 1, 1) := by decide +kernel
theorem dX6_linkOf_139 : decode cX6_linkOf 139 = .ok (.invokevirtual 214, 3) := by decide +kernel
theorem dX6_linkOf_142 : decode cX6_linkOf 142 = .ok (.ifCond .eq 17, 3) := by decide +kernel
theorem dX6_linkOf_145 : decode cX6_linkOf 145 = .ok (.aload_n 0, 1) := by decide +kernel
theorem dX6_linkOf_146 : decode cX6_linkOf 146 = .ok (.iload_n 1, 1) := by decide +kernel
theorem dX6_linkOf_147 : decode cX6_linkOf 147 = .ok (.aload_n 0, 1) := by decide +kernel
theorem dX6_linkOf_148 : decode cX6_linkOf 148 = .ok (.getfield 17, 3) := by decide +kernel
theorem dX6_linkOf_151 : decode cX6_linkOf 151 = .ok (.iload_n 1, 1) := by decide +kernel
theorem dX6_linkOf_152 : decode cX6_linkOf 152 = .ok (.iaload, 1) := by decide +kernel
theorem dX6_linkOf_153 : decode cX6_linkOf 153 = .ok (.invokevirtual 230, 3) := by decide +kernel
theorem dX6_linkOf_156 : decode cX6_linkOf 156 = .ok (.goto 4, 3) := by decide +kernel
theorem dX6_linkOf_159 : decode cX6_linkOf 159 = .ok (.iconst (-1), 1) := by decide +kernel
theorem dX6_linkOf_160 : decode cX6_linkOf 160 = .ok (.ireturn, 1) := by decide +kernel
theorem dX6_linkOf_161 : decode cX6_linkOf 161 = .ok (.aload_n 0, 1) := by decide +kernel
theorem dX6_linkOf_162 : decode cX6_linkOf 162 = .ok (.invokevirtual 207, 3) := by decide +kernel
theorem dX6_linkOf_165 : decode cX6_linkOf 165 = .ok (.aload_n 0, 1) := by decide +kernel
theorem dX6_linkOf_166 : decode cX6_linkOf 166 = .ok (.getfield 50, 3) := by decide +kernel
theorem dX6_linkOf_169 : decode cX6_linkOf 169 = .ok (.iload_n 1, 1) := by decide +kernel
theorem dX6_linkOf_170 : decode cX6_linkOf 170 = .ok (.iaload, 1) := by decide +kernel
theorem dX6_linkOf_171 : decode cX6_linkOf 171 = .ok (.ireturn, 1) := by decide +kernel
theorem dX6_linkOf_172 : decode cX6_linkOf 172 = .ok (.iconst (-1), 1) := by decide +kernel
theorem dX6_linkOf_173 : decode cX6_linkOf 173 = .ok (.ireturn, 1) := by decide +kernel
theorem dX6_bridge_0 : decode cX6_bridge 0 = .ok (.aload_n 0, 1) := by decide +kernel
theorem dX6_bridge_1 : decode cX6_bridge 1 = .ok (.iconst 0, 1) := by decide +kernel
theorem dX6_bridge_2 : decode cX6_bridge 2 = .ok (.putfield 71, 3) := by decide +kernel
theorem dX6_bridge_5 : decode cX6_bridge 5 = .ok (.aload_n 0, 1) := by decide +kernel
theorem dX6_bridge_6 : decode cX6_bridge 6 = .ok (.invokevirtual 155, 3) := by decide +kernel
theorem dX6_bridge_9 : decode cX6_bridge 9 = .ok (.iload_n 1, 1) := by decide +kernel
theorem dX6_bridge_10 : decode cX6_bridge 10 = .ok (.iconst (-1), 1) := by decide +kernel
theorem dX6_bridge_11 : decode cX6_bridge 11 = .ok (.if_icmp .ne 8, 3) := by decide +kernel
theorem dX6_bridge_14 : decode cX6_bridge 14 = .ok (.aload_n 0, 1) := by decide +kernel
theorem dX6_bridge_15 : decode cX6_bridge 15 = .ok (.invokevirtual 158, 3) := by decide +kernel
theorem dX6_bridge_18 : decode cX6_bridge 18 = .ok (.ireturn, 1) := by decide +kernel
theorem dX6_bridge_19 : decode cX6_bridge 19 = .ok (.iload_n 1, 1) := by decide +kernel
theorem dX6_bridge_20 : decode cX6_bridge 20 = .ok (.istore_n 2, 1) := by decide +kernel
theorem dX6_bridge_21 : decode cX6_bridge 21 = .ok (.iconst 0, 1) := by decide +kernel
theorem dX6_bridge_22 : decode cX6_bridge 22 = .ok (.istore_n 3, 1) := by decide +kernel
theorem dX6_bridge_23 : decode cX6_bridge 23 = .ok (.iload_n 3, 1) := by decide +kernel
theorem dX6_bridge_24 : decode cX6_bridge 24 = .ok (.aload_n 0, 1) := by decide +kernel
theorem dX6_bridge_25 : decode cX6_bridge 25 = .ok (.getfield 78, 3) := by decide +kernel
theorem dX6_bridge_28 : decode cX6_bridge 28 = .ok (.if_icmp .ge 30, 3) := by decide +kernel
theorem dX6_bridge_31 : decode cX6_bridge 31 = .ok (.aload_n 0, 1) := by decide +kernel
theorem dX6_bridge_32 : decode cX6_bridge 32 = .ok (.iload_n 3, 1) := by decide +kernel
theorem dX6_bridge_33 : decode cX6_bridge 33 = .ok (.invokevirtual 214, 3) := by decide +kernel
theorem dX6_bridge_36 : decode cX6_bridge 36 = .ok (.ifCond .ne 6, 3) := by decide +kernel
theorem dX6_bridge_39 : decode cX6_bridge 39 = .ok (.goto 13, 3) := by decide +kernel
theorem dX6_bridge_42 : decode cX6_bridge 42 = .ok (.iload_n 2, 1) := by decide +kernel
theorem dX6_bridge_43 : decode cX6_bridge 43 = .ok (.ifCond .ne 5, 3) := by decide +kernel
theorem dX6_bridge_46 : decode cX6_bridge 46 = .ok (.iload_n 3, 1) := by decide +kernel
theorem dX6_bridge_47 : decode cX6_bridge 47 = .ok (.ireturn, 1) := by decide +kernel
theorem dX6_bridge_48 : decode cX6_bridge 48 = .ok (.iload_n 2, 1) := by decide +kernel
theorem dX6_bridge_49 : decode cX6_bridge 49 = .ok (.iconst 1, 1) := by decide +kernel
theorem dX6_bridge_50 : decode cX6_bridge 50 = .ok (.isub, 1) := by decide +kernel
theorem dX6_bridge_51 : decode cX6_bridge 51 = .ok (.istore_n 2, 1) := by decide +kernel
theorem dX6_bridge_52 : decode cX6_bridge 52 = .ok (.iinc 3 1, 3) := by decide +kernel
theorem dX6_bridge_55 : decode cX6_bridge 55 = .ok (.goto (-32), 3) := by decide +kernel
theorem dX6_bridge_58 : decode cX6_bridge 58 = .ok (.iconst (-1), 1) := by decide +kernel
theorem dX6_bridge_59 : decode cX6_bridge 59 = .ok (.ireturn, 1) := by decide +kernel
theorem dX6_linksAt_0 : decode cX6_linksAt 0 = .ok (.iconst 0, 1) := by decide +kernel
theorem dX6_linksAt_1 : decode cX6_linksAt 1 = .ok (.istore_n 3, 1) := by decide +kernel
theorem dX6_linksAt_2 : decode cX6_linksAt 2 = .ok (.iconst 0, 1) := by decide +kernel
theorem dX6_linksAt_3 : decode cX6_linksAt 3 = .ok (.istore 4, 2) := by decide +kernel
theorem dX6_linksAt_5 : decode cX6_linksAt 5 = .ok (.iload 4, 2) := by decide +kernel
theorem dX6_linksAt_7 : decode cX6_linksAt 7 = .ok (.aload_n 0, 1) := by decide +kernel
theorem dX6_linksAt_8 : decode cX6_linksAt 8 = .ok (.getfield 78, 3) := by decide +kernel
theorem dX6_linksAt_11 : decode cX6_linksAt 11 = .ok (.if_icmp .ge 48, 3) := by decide +kernel
theorem dX6_linksAt_14 : decode cX6_linksAt 14 = .ok (.aload_n 0, 1) := by decide +kernel
theorem dX6_linksAt_15 : decode cX6_linksAt 15 = .ok (.getfield 13, 3) := by decide +kernel
theorem dX6_linksAt_18 : decode cX6_linksAt 18 = .ok (.iload 4, 2) := by decide +kernel
theorem dX6_linksAt_20 : decode cX6_linksAt 20 = .ok (.iaload, 1) := by decide +kernel
theorem dX6_linksAt_21 : decode cX6_linksAt 21 = .ok (.iload_n 1, 1) := by decide +kernel
theorem dX6_linksAt_22 : decode cX6_linksAt 22 = .ok (.if_icmp .eq 14, 3) := by decide +kernel
theorem dX6_linksAt_25 : decode cX6_linksAt 25 = .ok (.aload_n 0, 1) := by decide +kernel
theorem dX6_linksAt_26 : decode cX6_linksAt 26 = .ok (.getfield 17, 3) := by decide +kernel
theorem dX6_linksAt_29 : decode cX6_linksAt 29 = .ok (.iload 4, 2) := by decide +kernel
theorem dX6_linksAt_31 : decode cX6_linksAt 31 = .ok (.iaload, 1) := by decide +kernel
theorem dX6_linksAt_32 : decode cX6_linksAt 32 = .ok (.iload_n 1, 1) := by decide +kernel
theorem dX6_linksAt_33 : decode cX6_linksAt 33 = .ok (.if_icmp .ne 20, 3) := by decide +kernel
theorem dX6_linksAt_36 : decode cX6_linksAt 36 = .ok (.iload_n 2, 1) := by decide +kernel
theorem dX6_linksAt_37 : decode cX6_linksAt 37 = .ok (.ifCond .eq 12, 3) := by decide +kernel
theorem dX6_linksAt_40 : decode cX6_linksAt 40 = .ok (.aload_n 0, 1) := by decide +kernel
theorem dX6_linksAt_41 : decode cX6_linksAt 41 = .ok (.iload 4, 2) := by decide +kernel
theorem dX6_linksAt_43 : decode cX6_linksAt 43 = .ok (.invokevirtual 214, 3) := by decide +kernel
theorem dX6_linksAt_46 : decode cX6_linksAt 46 = .ok (.ifCond .eq 7, 3) := by decide +kernel
theorem dX6_linksAt_49 : decode cX6_linksAt 49 = .ok (.iload_n 3, 1) := by decide +kernel
theorem dX6_linksAt_50 : decode cX6_linksAt 50 = .ok (.iconst 1, 1) := by decide +kernel
theorem dX6_linksAt_51 : decode cX6_linksAt 51 = .ok (.iadd, 1) := by decide +kernel
theorem dX6_linksAt_52 : decode cX6_linksAt 52 = .ok (.istore_n 3, 1) := by decide +kernel
theorem dX6_linksAt_53 : decode cX6_linksAt 53 = .ok (.iinc 4 1, 3) := by decide +kernel
theorem dX6_linksAt_56 : decode cX6_linksAt 56 = .ok (.goto (-51), 3) := by decide +kernel
theorem dX6_linksAt_59 : decode cX6_linksAt 59 = .ok (.iload_n 3, 1) := by decide +kernel
theorem dX6_linksAt_60 : decode cX6_linksAt 60 = .ok (.ireturn, 1) := by decide +kernel
theorem dX6_node_0 : decode cX6_node 0 = .ok (.aload_n 0, 1) := by decide +kernel
theorem dX6_node_1 : decode cX6_node 1 = .ok (.iconst 0, 1) := by decide +kernel
theorem dX6_node_2 : decode cX6_node 2 = .ok (.putfield 71, 3) := by decide +kernel
theorem dX6_node_5 : decode cX6_node 5 = .ok (.aload_n 0, 1) := by decide +kernel
theorem dX6_node_6 : decode cX6_node 6 = .ok (.iload_n 1, 1) := by decide +kernel
theorem dX6_node_7 : decode cX6_node 7 = .ok (.invokevirtual 81, 3) := by decide +kernel
theorem dX6_node_10 : decode cX6_node 10 = .ok (.ifCond .ne 5, 3) := by decide +kernel
theorem dX6_node_13 : decode cX6_node 13 = .ok (.iconst (-1), 1) := by decide +kernel
theorem dX6_node_14 : decode cX6_node 14 = .ok (.ireturn, 1) := by decide +kernel
theorem dX6_node_15 : decode cX6_node 15 = .ok (.aload_n 0, 1) := by decide +kernel
theorem dX6_node_16 : decode cX6_node 16 = .ok (.invokevirtual 155, 3) := by decide +kernel
theorem dX6_node_19 : decode cX6_node 19 = .ok (.aload_n 0, 1) := by decide +kernel
theorem dX6_node_20 : decode cX6_node 20 = .ok (.invokevirtual 224, 3) := by decide +kernel
theorem dX6_node_23 : decode cX6_node 23 = .ok (.iload_n 2, 1) := by decide +kernel
theorem dX6_node_24 : decode cX6_node 24 = .ok (.tableswitch 87 0 5 #[40, 46, 52, 59, 66, 73], 40) := by decide +kernel
theorem dX6_node_64 : decode cX6_node 64 = .ok (.aload_n 0, 1) := by decide +kernel
theorem dX6_node_65 : decode cX6_node 65 = .ok (.iload_n 1, 1) := by decide +kernel
theorem dX6_node_66 : decode cX6_node 66 = .ok (.invokevirtual 98, 3) := by decide +kernel
theorem dX6_node_69 : decode cX6_node 69 = .ok (.ireturn, 1) := by decide +kernel
theorem dX6_node_70 : decode cX6_node 70 = .ok (.aload_n 0, 1) := by decide +kernel
theorem dX6_node_71 : decode cX6_node 71 = .ok (.iload_n 1, 1) := by decide +kernel
theorem dX6_node_72 : decode cX6_node 72 = .ok (.invokevirtual 121, 3) := by decide +kernel
theorem dX6_node_75 : decode cX6_node 75 = .ok (.ireturn, 1) := by decide +kernel
theorem dX6_node_76 : decode cX6_node 76 = .ok (.aload_n 0, 1) := by decide +kernel
theorem dX6_node_77 : decode cX6_node 77 = .ok (.iload_n 1, 1) := by decide +kernel
theorem dX6_node_78 : decode cX6_node 78 = .ok (.iconst 0, 1) := by decide +kernel
theorem dX6_node_79 : decode cX6_node 79 = .ok (.invokevirtual 233, 3) := by decide +kernel
theorem dX6_node_82 : decode cX6_node 82 = .ok (.ireturn, 1) := by decide +kernel
theorem dX6_node_83 : decode cX6_node 83 = .ok (.aload_n 0, 1) := by decide +kernel
theorem dX6_node_84 : decode cX6_node 84 = .ok (.iload_n 1, 1) := by decide +kernel
theorem dX6_node_85 : decode cX6_node 85 = .ok (.iconst 1, 1) := by decide +kernel
theorem dX6_node_86 : decode cX6_node 86 = .ok (.invokevirtual 233, 3) := by decide +kernel
theorem dX6_node_89 : decode cX6_node 89 = .ok (.ireturn, 1) := by decide +kernel
theorem dX6_node_90 : decode cX6_node 90 = .ok (.aload_n 0, 1) := by decide +kernel
theorem dX6_node_91 : decode cX6_node 91 = .ok (.iload_n 1, 1) := by decide +kernel
theorem dX6_node_92 : decode cX6_node 92 = .ok (.iconst 0, 1) := by decide +kernel
theorem dX6_node_93 : decode cX6_node 93 = .ok (.invokevirtual 210, 3) := by decide +kernel
theorem dX6_node_96 : decode cX6_node 96 = .ok (.ireturn, 1) := by decide +kernel
theorem dX6_node_97 : decode cX6_node 97 = .ok (.aload_n 0, 1) := by decide +kernel
theorem dX6_node_98 : decode cX6_node 98 = .ok (.iload_n 1, 1) := by decide +kernel
theorem dX6_node_99 : decode cX6_node 99 = .ok (.invokevirtual 236, 3) := by decide +kernel
theorem dX6_node_102 : decode cX6_node 102 = .ok (.ifCond .eq 7, 3) := by decide +kernel
theorem dX6_node_105 : decode cX6_node 105 = .ok (.iconst 1, 1) := by decide +kernel
theorem dX6_node_106 : decode cX6_node 106 = .ok (.goto 4, 3) := by decide +kernel
theorem dX6_node_109 : decode cX6_node 109 = .ok (.iconst 0, 1) := by decide +kernel
theorem dX6_node_110 : decode cX6_node 110 = .ok (.ireturn, 1) := by decide +kernel
theorem dX6_node_111 : decode cX6_node 111 = .ok (.iload_n 2, 1) := by decide +kernel
theorem dX6_node_112 : decode cX6_node 112 = .ok (.bipush 6, 2) := by decide +kernel
theorem dX6_node_114 : decode cX6_node 114 = .ok (.if_icmp .ne 15, 3) := by decide +kernel
theorem dX6_node_117 : decode cX6_node 117 = .ok (.aload_n 0, 1) := by decide +kernel
theorem dX6_node_118 : decode cX6_node 118 = .ok (.aload_n 0, 1) := by decide +kernel
theorem dX6_node_119 : decode cX6_node 119 = .ok (.iload_n 1, 1) := by decide +kernel
theorem dX6_node_120 : decode cX6_node 120 = .ok (.invokevirtual 98, 3) := by decide +kernel
theorem dX6_node_123 : decode cX6_node 123 = .ok (.invokevirtual 105, 3) := by decide +kernel
theorem dX6_node_126 : decode cX6_node 126 = .ok (.goto 4, 3) := by decide +kernel
theorem dX6_node_129 : decode cX6_node 129 = .ok (.iconst (-1), 1) := by decide +kernel
theorem dX6_node_130 : decode cX6_node 130 = .ok (.ireturn, 1) := by decide +kernel
theorem dX6_isBlock_0 : decode cX6_isBlock 0 = .ok (.aload_n 0, 1) := by decide +kernel
theorem dX6_isBlock_1 : decode cX6_isBlock 1 = .ok (.iload_n 1, 1) := by decide +kernel
theorem dX6_isBlock_2 : decode cX6_isBlock 2 = .ok (.invokevirtual 81, 3) := by decide +kernel
theorem dX6_isBlock_5 : decode cX6_isBlock 5 = .ok (.ifCond .eq 17, 3) := by decide +kernel
theorem dX6_isBlock_8 : decode cX6_isBlock 8 = .ok (.aload_n 0, 1) := by decide +kernel
theorem dX6_isBlock_9 : decode cX6_isBlock 9 = .ok (.getfield 32, 3) := by decide +kernel
theorem dX6_isBlock_12 : decode cX6_isBlock 12 = .ok (.iload_n 1, 1) := by decide +kernel
theorem dX6_isBlock_13 : decode cX6_isBlock 13 = .ok (.iaload, 1) := by decide +kernel
theorem dX6_isBlock_14 : decode cX6_isBlock 14 = .ok (.iconst (-1), 1) := by decide +kernel
theorem dX6_isBlock_15 : decode cX6_isBlock 15 = .ok (.if_icmp .ne 7, 3) := by decide +kernel
theorem dX6_isBlock_18 : decode cX6_isBlock 18 = .ok (.iconst 1, 1) := by decide +kernel
theorem dX6_isBlock_19 : decode cX6_isBlock 19 = .ok (.goto 4, 3) := by decide +kernel
theorem dX6_isBlock_22 : decode cX6_isBlock 22 = .ok (.iconst 0, 1) := by decide +kernel
theorem dX6_isBlock_23 : decode cX6_isBlock 23 = .ok (.ireturn, 1) := by decide +kernel
theorem dX6_nodesOf_0 : decode cX6_nodesOf 0 = .ok (.iconst 0, 1) := by decide +kernel
theorem dX6_nodesOf_1 : decode cX6_nodesOf 1 = .ok (.istore_n 3, 1) := by decide +kernel
theorem dX6_nodesOf_2 : decode cX6_nodesOf 2 = .ok (.iconst 0, 1) := by decide +kernel
theorem dX6_nodesOf_3 : decode cX6_nodesOf 3 = .ok (.istore 4, 2) := by decide +kernel
theorem dX6_nodesOf_5 : decode cX6_nodesOf 5 = .ok (.iload 4, 2) := by decide +kernel
theorem dX6_nodesOf_7 : decode cX6_nodesOf 7 = .ok (.aload_n 0, 1) := by decide +kernel
theorem dX6_nodesOf_8 : decode cX6_nodesOf 8 = .ok (.getfield 7, 3) := by decide +kernel
theorem dX6_nodesOf_11 : decode cX6_nodesOf 11 = .ok (.if_icmp .ge 32, 3) := by decide +kernel
theorem dX6_nodesOf_14 : decode cX6_nodesOf 14 = .ok (.aload_n 0, 1) := by decide +kernel
theorem dX6_nodesOf_15 : decode cX6_nodesOf 15 = .ok (.getfield 23, 3) := by decide +kernel
theorem dX6_nodesOf_18 : decode cX6_nodesOf 18 = .ok (.bipush 32, 2) := by decide +kernel
theorem dX6_nodesOf_20 : decode cX6_nodesOf 20 = .ok (.iload_n 1, 1) := by decide +kernel
theorem dX6_nodesOf_21 : decode cX6_nodesOf 21 = .ok (.imul, 1) := by decide +kernel
theorem dX6_nodesOf_22 : decode cX6_nodesOf 22 = .ok (.iload 4, 2) := by decide +kernel
theorem dX6_nodesOf_24 : decode cX6_nodesOf 24 = .ok (.iadd, 1) := by decide +kernel
theorem dX6_nodesOf_25 : decode cX6_nodesOf 25 = .ok (.iaload, 1) := by decide +kernel
theorem dX6_nodesOf_26 : decode cX6_nodesOf 26 = .ok (.iload_n 2, 1) := by decide +kernel
theorem dX6_nodesOf_27 : decode cX6_nodesOf 27 = .ok (.if_icmp .ne 10, 3) := by decide +kernel
theorem dX6_nodesOf_30 : decode cX6_nodesOf 30 = .ok (.iload_n 3, 1) := by decide +kernel
theorem dX6_nodesOf_31 : decode cX6_nodesOf 31 = .ok (.iconst 1, 1) := by decide +kernel
theorem dX6_nodesOf_32 : decode cX6_nodesOf 32 = .ok (.iload 4, 2) := by decide +kernel
theorem dX6_nodesOf_34 : decode cX6_nodesOf 34 = .ok (.ishl, 1) := by decide +kernel
theorem dX6_nodesOf_35 : decode cX6_nodesOf 35 = .ok (.ior, 1) := by decide +kernel
theorem dX6_nodesOf_36 : decode cX6_nodesOf 36 = .ok (.istore_n 3, 1) := by decide +kernel
theorem dX6_nodesOf_37 : decode cX6_nodesOf 37 = .ok (.iinc 4 1, 3) := by decide +kernel
theorem dX6_nodesOf_40 : decode cX6_nodesOf 40 = .ok (.goto (-35), 3) := by decide +kernel
theorem dX6_nodesOf_43 : decode cX6_nodesOf 43 = .ok (.iload_n 3, 1) := by decide +kernel
theorem dX6_nodesOf_44 : decode cX6_nodesOf 44 = .ok (.ireturn, 1) := by decide +kernel
theorem dX6_least_0 : decode cX6_least 0 = .ok (.iconst 0, 1) := by decide +kernel
theorem dX6_least_1 : decode cX6_least 1 = .ok (.istore_n 2, 1) := by decide +kernel
theorem dX6_least_2 : decode cX6_least 2 = .ok (.aload_n 0, 1) := by decide +kernel
theorem dX6_least_3 : decode cX6_least 3 = .ok (.iload_n 1, 1) := by decide +kernel
theorem dX6_least_4 : decode cX6_least 4 = .ok (.iload_n 2, 1) := by decide +kernel
theorem dX6_least_5 : decode cX6_least 5 = .ok (.invokevirtual 85, 3) := by decide +kernel
theorem dX6_least_8 : decode cX6_least 8 = .ok (.ifCond .ne 10, 3) := by decide +kernel
theorem dX6_least_11 : decode cX6_least 11 = .ok (.iload_n 2, 1) := by decide +kernel
theorem dX6_least_12 : decode cX6_least 12 = .ok (.iconst 1, 1) := by decide +kernel
theorem dX6_least_13 : decode cX6_least 13 = .ok (.iadd, 1) := by decide +kernel
theorem dX6_least_14 : decode cX6_least 14 = .ok (.istore_n 2, 1) := by decide +kernel
theorem dX6_least_15 : decode cX6_least 15 = .ok (.goto (-13), 3) := by decide +kernel
theorem dX6_least_18 : decode cX6_least 18 = .ok (.iload_n 2, 1) := by decide +kernel
theorem dX6_least_19 : decode cX6_least 19 = .ok (.ireturn, 1) := by decide +kernel
theorem dX6_bridgesAt_0 : decode cX6_bridgesAt 0 = .ok (.iconst 0, 1) := by decide +kernel
theorem dX6_bridgesAt_1 : decode cX6_bridgesAt 1 = .ok (.istore_n 2, 1) := by decide +kernel
theorem dX6_bridgesAt_2 : decode cX6_bridgesAt 2 = .ok (.iconst 0, 1) := by decide +kernel
theorem dX6_bridgesAt_3 : decode cX6_bridgesAt 3 = .ok (.istore_n 3, 1) := by decide +kernel
theorem dX6_bridgesAt_4 : decode cX6_bridgesAt 4 = .ok (.iload_n 3, 1) := by decide +kernel
theorem dX6_bridgesAt_5 : decode cX6_bridgesAt 5 = .ok (.aload_n 0, 1) := by decide +kernel
theorem dX6_bridgesAt_6 : decode cX6_bridgesAt 6 = .ok (.getfield 78, 3) := by decide +kernel
theorem dX6_bridgesAt_9 : decode cX6_bridgesAt 9 = .ok (.if_icmp .ge 49, 3) := by decide +kernel
theorem dX6_bridgesAt_12 : decode cX6_bridgesAt 12 = .ok (.aload_n 0, 1) := by decide +kernel
theorem dX6_bridgesAt_13 : decode cX6_bridgesAt 13 = .ok (.iload_n 3, 1) := by decide +kernel
theorem dX6_bridgesAt_14 : decode cX6_bridgesAt 14 = .ok (.invokevirtual 214, 3) := by decide +kernel
theorem dX6_bridgesAt_17 : decode cX6_bridgesAt 17 = .ok (.ifCond .eq 35, 3) := by decide +kernel
theorem dX6_bridgesAt_20 : decode cX6_bridgesAt 20 = .ok (.aload_n 0, 1) := by decide +kernel
theorem dX6_bridgesAt_21 : decode cX6_bridgesAt 21 = .ok (.aload_n 0, 1) := by decide +kernel
theorem dX6_bridgesAt_22 : decode cX6_bridgesAt 22 = .ok (.getfield 13, 3) := by decide +kernel
theorem dX6_bridgesAt_25 : decode cX6_bridgesAt 25 = .ok (.iload_n 3, 1) := by decide +kernel
theorem dX6_bridgesAt_26 : decode cX6_bridgesAt 26 = .ok (.iaload, 1) := by decide +kernel
theorem dX6_bridgesAt_27 : decode cX6_bridgesAt 27 = .ok (.invokevirtual 98, 3) := by decide +kernel
theorem dX6_bridgesAt_30 : decode cX6_bridgesAt 30 = .ok (.iload_n 1, 1) := by decide +kernel
theorem dX6_bridgesAt_31 : decode cX6_bridgesAt 31 = .ok (.if_icmp .eq 17, 3) := by decide +kernel
theorem dX6_bridgesAt_34 : decode cX6_bridgesAt 34 = .ok (.aload_n 0, 1) := by decide +kernel
theorem dX6_bridgesAt_35 : decode cX6_bridgesAt 35 = .ok (.aload_n 0, 1) := by decide +kernel
theorem dX6_bridgesAt_36 : decode cX6_bridgesAt 36 = .ok (.getfield 17, 3) := by decide +kernel
theorem dX6_bridgesAt_39 : decode cX6_bridgesAt 39 = .ok (.iload_n 3, 1) := by decide +kernel
theorem dX6_bridgesAt_40 : decode cX6_bridgesAt 40 = .ok (.iaload, 1) := by decide +kernel
theorem dX6_bridgesAt_41 : decode cX6_bridgesAt 41 = .ok (.invokevirtual 98, 3) := by decide +kernel
theorem dX6_bridgesAt_44 : decode cX6_bridgesAt 44 = .ok (.iload_n 1, 1) := by decide +kernel
theorem dX6_bridgesAt_45 : decode cX6_bridgesAt 45 = .ok (.if_icmp .ne 7, 3) := by decide +kernel
theorem dX6_bridgesAt_48 : decode cX6_bridgesAt 48 = .ok (.iload_n 2, 1) := by decide +kernel
theorem dX6_bridgesAt_49 : decode cX6_bridgesAt 49 = .ok (.iconst 1, 1) := by decide +kernel
theorem dX6_bridgesAt_50 : decode cX6_bridgesAt 50 = .ok (.iadd, 1) := by decide +kernel
theorem dX6_bridgesAt_51 : decode cX6_bridgesAt 51 = .ok (.istore_n 2, 1) := by decide +kernel
theorem dX6_bridgesAt_52 : decode cX6_bridgesAt 52 = .ok (.iinc 3 1, 3) := by decide +kernel
theorem dX6_bridgesAt_55 : decode cX6_bridgesAt 55 = .ok (.goto (-51), 3) := by decide +kernel
theorem dX6_bridgesAt_58 : decode cX6_bridgesAt 58 = .ok (.iload_n 2, 1) := by decide +kernel
theorem dX6_bridgesAt_59 : decode cX6_bridgesAt 59 = .ok (.ireturn, 1) := by decide +kernel
theorem dX6_linksIn_0 : decode cX6_linksIn 0 = .ok (.iconst 0, 1) := by decide +kernel
theorem dX6_linksIn_1 : decode cX6_linksIn 1 = .ok (.istore_n 2, 1) := by decide +kernel
theorem dX6_linksIn_2 : decode cX6_linksIn 2 = .ok (.iconst 0, 1) := by decide +kernel
theorem dX6_linksIn_3 : decode cX6_linksIn 3 = .ok (.istore_n 3, 1) := by decide +kernel
theorem dX6_linksIn_4 : decode cX6_linksIn 4 = .ok (.iload_n 3, 1) := by decide +kernel
theorem dX6_linksIn_5 : decode cX6_linksIn 5 = .ok (.aload_n 0, 1) := by decide +kernel
theorem dX6_linksIn_6 : decode cX6_linksIn 6 = .ok (.getfield 78, 3) := by decide +kernel
theorem dX6_linksIn_9 : decode cX6_linksIn 9 = .ok (.if_icmp .ge 41, 3) := by decide +kernel
theorem dX6_linksIn_12 : decode cX6_linksIn 12 = .ok (.aload_n 0, 1) := by decide +kernel
theorem dX6_linksIn_13 : decode cX6_linksIn 13 = .ok (.aload_n 0, 1) := by decide +kernel
theorem dX6_linksIn_14 : decode cX6_linksIn 14 = .ok (.getfield 13, 3) := by decide +kernel
theorem dX6_linksIn_17 : decode cX6_linksIn 17 = .ok (.iload_n 3, 1) := by decide +kernel
theorem dX6_linksIn_18 : decode cX6_linksIn 18 = .ok (.iaload, 1) := by decide +kernel
theorem dX6_linksIn_19 : decode cX6_linksIn 19 = .ok (.invokevirtual 98, 3) := by decide +kernel
theorem dX6_linksIn_22 : decode cX6_linksIn 22 = .ok (.iload_n 1, 1) := by decide +kernel
theorem dX6_linksIn_23 : decode cX6_linksIn 23 = .ok (.if_icmp .ne 21, 3) := by decide +kernel
theorem dX6_linksIn_26 : decode cX6_linksIn 26 = .ok (.aload_n 0, 1) := by decide +kernel
theorem dX6_linksIn_27 : decode cX6_linksIn 27 = .ok (.aload_n 0, 1) := by decide +kernel
theorem dX6_linksIn_28 : decode cX6_linksIn 28 = .ok (.getfield 17, 3) := by decide +kernel
theorem dX6_linksIn_31 : decode cX6_linksIn 31 = .ok (.iload_n 3, 1) := by decide +kernel
theorem dX6_linksIn_32 : decode cX6_linksIn 32 = .ok (.iaload, 1) := by decide +kernel
