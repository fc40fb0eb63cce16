theorem dX12_begun_0 : decode cX12_begun 0 = .ok (.aload_n 0, 1) := by decide +kernel
theorem dX12_begun_1 : decode cX12_begun 1 = .ok (.iload_n 1, 1) := by decide +kernel
theorem dX12_begun_2 : decode cX12_begun 2 = .ok (.invokevirtual 163, 3) := by decide +kernel
theorem dX12_begun_5 : decode cX12_begun 5 = .ok (.ifCond .ne 5, 3) := by decide +kernel
theorem dX12_begun_8 : decode cX12_begun 8 = .ok (.iconst (-1), 1) := by decide +kernel
theorem dX12_begun_9 : decode cX12_begun 9 = .ok (.ireturn, 1) := by decide +kernel
theorem dX12_begun_10 : decode cX12_begun 10 = .ok (.aload_n 0, 1) := by decide +kernel
theorem dX12_begun_11 : decode cX12_begun 11 = .ok (.getfield 31, 3) := by decide +kernel
theorem dX12_begun_14 : decode cX12_begun 14 = .ok (.iload_n 1, 1) := by decide +kernel
theorem dX12_begun_15 : decode cX12_begun 15 = .ok (.iaload, 1) := by decide +kernel
theorem dX12_begun_16 : decode cX12_begun 16 = .ok (.istore_n 2, 1) := by decide +kernel
theorem dX12_begun_17 : decode cX12_begun 17 = .ok (.iload_n 2, 1) := by decide +kernel
theorem dX12_begun_18 : decode cX12_begun 18 = .ok (.ifCond .le 31, 3) := by decide +kernel
theorem dX12_begun_21 : decode cX12_begun 21 = .ok (.aload_n 0, 1) := by decide +kernel
theorem dX12_begun_22 : decode cX12_begun 22 = .ok (.iload_n 1, 1) := by decide +kernel
theorem dX12_begun_23 : decode cX12_begun 23 = .ok (.iload_n 2, 1) := by decide +kernel
theorem dX12_begun_24 : decode cX12_begun 24 = .ok (.bipush (-9), 2) := by decide +kernel
theorem dX12_begun_26 : decode cX12_begun 26 = .ok (.iconst 0, 1) := by decide +kernel
theorem dX12_begun_27 : decode cX12_begun 27 = .ok (.invokevirtual 177, 3) := by decide +kernel
theorem dX12_begun_30 : decode cX12_begun 30 = .ok (.aload_n 0, 1) := by decide +kernel
theorem dX12_begun_31 : decode cX12_begun 31 = .ok (.bipush (-9), 2) := by decide +kernel
theorem dX12_begun_33 : decode cX12_begun 33 = .ok (.invokevirtual 181, 3) := by decide +kernel
theorem dX12_begun_36 : decode cX12_begun 36 = .ok (.lconst 0, 1) := by decide +kernel
theorem dX12_begun_37 : decode cX12_begun 37 = .ok (.lcmp, 1) := by decide +kernel
theorem dX12_begun_38 : decode cX12_begun 38 = .ok (.ifCond .le 5, 3) := by decide +kernel
theorem dX12_begun_41 : decode cX12_begun 41 = .ok (.iload_n 2, 1) := by decide +kernel
theorem dX12_begun_42 : decode cX12_begun 42 = .ok (.ireturn, 1) := by decide +kernel
theorem dX12_begun_43 : decode cX12_begun 43 = .ok (.iinc 2 (-1), 3) := by decide +kernel
theorem dX12_begun_46 : decode cX12_begun 46 = .ok (.goto (-29), 3) := by decide +kernel
theorem dX12_begun_49 : decode cX12_begun 49 = .ok (.iconst 0, 1) := by decide +kernel
theorem dX12_begun_50 : decode cX12_begun 50 = .ok (.ireturn, 1) := by decide +kernel
theorem dX12_begin_0 : decode cX12_begin 0 = .ok (.iconst 0, 1) := by decide +kernel
theorem dX12_begin_1 : decode cX12_begin 1 = .ok (.istore 4, 2) := by decide +kernel
theorem dX12_begin_3 : decode cX12_begin 3 = .ok (.iconst 0, 1) := by decide +kernel
theorem dX12_begin_4 : decode cX12_begin 4 = .ok (.istore 5, 2) := by decide +kernel
theorem dX12_begin_6 : decode cX12_begin 6 = .ok (.iload 5, 2) := by decide +kernel
theorem dX12_begin_8 : decode cX12_begin 8 = .ok (.aload_n 0, 1) := by decide +kernel
theorem dX12_begin_9 : decode cX12_begin 9 = .ok (.getfield 31, 3) := by decide +kernel
theorem dX12_begin_12 : decode cX12_begin 12 = .ok (.iload_n 1, 1) := by decide +kernel
theorem dX12_begin_13 : decode cX12_begin 13 = .ok (.iaload, 1) := by decide +kernel
theorem dX12_begin_14 : decode cX12_begin 14 = .ok (.if_icmp .ge 63, 3) := by decide +kernel
theorem dX12_begin_17 : decode cX12_begin 17 = .ok (.iload 5, 2) := by decide +kernel
theorem dX12_begin_19 : decode cX12_begin 19 = .ok (.ifCond .eq 13, 3) := by decide +kernel
theorem dX12_begin_22 : decode cX12_begin 22 = .ok (.iload_n 2, 1) := by decide +kernel
theorem dX12_begin_23 : decode cX12_begin 23 = .ok (.iload 5, 2) := by decide +kernel
theorem dX12_begin_25 : decode cX12_begin 25 = .ok (.ishr, 1) := by decide +kernel
theorem dX12_begin_26 : decode cX12_begin 26 = .ok (.iconst 1, 1) := by decide +kernel
theorem dX12_begin_27 : decode cX12_begin 27 = .ok (.iand, 1) := by decide +kernel
theorem dX12_begin_28 : decode cX12_begin 28 = .ok (.iconst 1, 1) := by decide +kernel
theorem dX12_begin_29 : decode cX12_begin 29 = .ok (.if_icmp .ne 7, 3) := by decide +kernel
theorem dX12_begin_32 : decode cX12_begin 32 = .ok (.iconst 1, 1) := by decide +kernel
theorem dX12_begin_33 : decode cX12_begin 33 = .ok (.goto 4, 3) := by decide +kernel
theorem dX12_begin_36 : decode cX12_begin 36 = .ok (.iconst 0, 1) := by decide +kernel
theorem dX12_begin_37 : decode cX12_begin 37 = .ok (.istore 6, 2) := by decide +kernel
theorem dX12_begin_39 : decode cX12_begin 39 = .ok (.iload 4, 2) := by decide +kernel
theorem dX12_begin_41 : decode cX12_begin 41 = .ok (.iload 6, 2) := by decide +kernel
theorem dX12_begin_43 : decode cX12_begin 43 = .ok (.ifCond .eq 24, 3) := by decide +kernel
theorem dX12_begin_46 : decode cX12_begin 46 = .ok (.aload_n 0, 1) := by decide +kernel
theorem dX12_begin_47 : decode cX12_begin 47 = .ok (.iload_n 1, 1) := by decide +kernel
theorem dX12_begin_48 : decode cX12_begin 48 = .ok (.iload 5, 2) := by decide +kernel
theorem dX12_begin_50 : decode cX12_begin 50 = .ok (.iload_n 3, 1) := by decide +kernel
theorem dX12_begin_51 : decode cX12_begin 51 = .ok (.iconst 0, 1) := by decide +kernel
theorem dX12_begin_52 : decode cX12_begin 52 = .ok (.invokevirtual 168, 3) := by decide +kernel
theorem dX12_begin_55 : decode cX12_begin 55 = .ok (.ifCond .eq 12, 3) := by decide +kernel
theorem dX12_begin_58 : decode cX12_begin 58 = .ok (.iconst 1, 1) := by decide +kernel
theorem dX12_begin_59 : decode cX12_begin 59 = .ok (.iload 5, 2) := by decide +kernel
theorem dX12_begin_61 : decode cX12_begin 61 = .ok (.iconst 1, 1) := by decide +kernel
theorem dX12_begin_62 : decode cX12_begin 62 = .ok (.iadd, 1) := by decide +kernel
theorem dX12_begin_63 : decode cX12_begin 63 = .ok (.ishl, 1) := by decide +kernel
theorem dX12_begin_64 : decode cX12_begin 64 = .ok (.goto 4, 3) := by decide +kernel
theorem dX12_begin_67 : decode cX12_begin 67 = .ok (.iconst 0, 1) := by decide +kernel
theorem dX12_begin_68 : decode cX12_begin 68 = .ok (.ior, 1) := by decide +kernel
theorem dX12_begin_69 : decode cX12_begin 69 = .ok (.istore 4, 2) := by decide +kernel
theorem dX12_begin_71 : decode cX12_begin 71 = .ok (.iinc 5 1, 3) := by decide +kernel
theorem dX12_begin_74 : decode cX12_begin 74 = .ok (.goto (-68), 3) := by decide +kernel
theorem dX12_begin_77 : decode cX12_begin 77 = .ok (.iload 4, 2) := by decide +kernel
theorem dX12_begin_79 : decode cX12_begin 79 = .ok (.aload_n 0, 1) := by decide +kernel
theorem dX12_begin_80 : decode cX12_begin 80 = .ok (.getfield 31, 3) := by decide +kernel
theorem dX12_begin_83 : decode cX12_begin 83 = .ok (.iload_n 1, 1) := by decide +kernel
theorem dX12_begin_84 : decode cX12_begin 84 = .ok (.iaload, 1) := by decide +kernel
theorem dX12_begin_85 : decode cX12_begin 85 = .ok (.ishr, 1) := by decide +kernel
theorem dX12_begin_86 : decode cX12_begin 86 = .ok (.iconst 1, 1) := by decide +kernel
theorem dX12_begin_87 : decode cX12_begin 87 = .ok (.iand, 1) := by decide +kernel
theorem dX12_begin_88 : decode cX12_begin 88 = .ok (.iconst 1, 1) := by decide +kernel
theorem dX12_begin_89 : decode cX12_begin 89 = .ok (.if_icmp .ne 8, 3) := by decide +kernel
theorem dX12_begin_92 : decode cX12_begin 92 = .ok (.bipush 64, 2) := by decide +kernel
theorem dX12_begin_94 : decode cX12_begin 94 = .ok (.goto 5, 3) := by decide +kernel
theorem dX12_begin_97 : decode cX12_begin 97 = .ok (.iload 4, 2) := by decide +kernel
theorem dX12_begin_99 : decode cX12_begin 99 = .ok (.ireturn, 1) := by decide +kernel
theorem dX12_layLeft_0 : decode cX12_layLeft 0 = .ok (.iconst 0, 1) := by decide +kernel
theorem dX12_layLeft_1 : decode cX12_layLeft 1 = .ok (.istore_n 3, 1) := by decide +kernel
theorem dX12_layLeft_2 : decode cX12_layLeft 2 = .ok (.iload_n 3, 1) := by decide +kernel
theorem dX12_layLeft_3 : decode cX12_layLeft 3 = .ok (.sipush 768, 3) := by decide +kernel
theorem dX12_layLeft_6 : decode cX12_layLeft 6 = .ok (.if_icmp .ge 30, 3) := by decide +kernel
theorem dX12_layLeft_9 : decode cX12_layLeft 9 = .ok (.aload_n 0, 1) := by decide +kernel
theorem dX12_layLeft_10 : decode cX12_layLeft 10 = .ok (.getfield 44, 3) := by decide +kernel
theorem dX12_layLeft_13 : decode cX12_layLeft 13 = .ok (.iload_n 3, 1) := by decide +kernel
theorem dX12_layLeft_14 : decode cX12_layLeft 14 = .ok (.iload_n 3, 1) := by decide +kernel
theorem dX12_layLeft_15 : decode cX12_layLeft 15 = .ok (.bipush 64, 2) := by decide +kernel
theorem dX12_layLeft_17 : decode cX12_layLeft 17 = .ok (.idiv, 1) := by decide +kernel
theorem dX12_layLeft_18 : decode cX12_layLeft 18 = .ok (.iload_n 2, 1) := by decide +kernel
theorem dX12_layLeft_19 : decode cX12_layLeft 19 = .ok (.if_icmp .ne 7, 3) := by decide +kernel
theorem dX12_layLeft_22 : decode cX12_layLeft 22 = .ok (.iconst 0, 1) := by decide +kernel
theorem dX12_layLeft_23 : decode cX12_layLeft 23 = .ok (.goto 6, 3) := by decide +kernel
theorem dX12_layLeft_26 : decode cX12_layLeft 26 = .ok (.sipush 9999, 3) := by decide +kernel
theorem dX12_layLeft_29 : decode cX12_layLeft 29 = .ok (.iastore, 1) := by decide +kernel
theorem dX12_layLeft_30 : decode cX12_layLeft 30 = .ok (.iinc 3 1, 3) := by decide +kernel
theorem dX12_layLeft_33 : decode cX12_layLeft 33 = .ok (.goto (-31), 3) := by decide +kernel
theorem dX12_layLeft_36 : decode cX12_layLeft 36 = .ok (.iconst 1, 1) := by decide +kernel
theorem dX12_layLeft_37 : decode cX12_layLeft 37 = .ok (.istore_n 3, 1) := by decide +kernel
theorem dX12_layLeft_38 : decode cX12_layLeft 38 = .ok (.iload_n 3, 1) := by decide +kernel
theorem dX12_layLeft_39 : decode cX12_layLeft 39 = .ok (.ifCond .eq 145, 3) := by decide +kernel
theorem dX12_layLeft_42 : decode cX12_layLeft 42 = .ok (.iconst 0, 1) := by decide +kernel
theorem dX12_layLeft_43 : decode cX12_layLeft 43 = .ok (.istore_n 3, 1) := by decide +kernel
theorem dX12_layLeft_44 : decode cX12_layLeft 44 = .ok (.iconst 0, 1) := by decide +kernel
theorem dX12_layLeft_45 : decode cX12_layLeft 45 = .ok (.istore 4, 2) := by decide +kernel
theorem dX12_layLeft_47 : decode cX12_layLeft 47 = .ok (.iload 4, 2) := by decide +kernel
theorem dX12_layLeft_49 : decode cX12_layLeft 49 = .ok (.bipush 64, 2) := by decide +kernel
theorem dX12_layLeft_51 : decode cX12_layLeft 51 = .ok (.aload_n 0, 1) := by decide +kernel
theorem dX12_layLeft_52 : decode cX12_layLeft 52 = .ok (.getfield 88, 3) := by decide +kernel
theorem dX12_layLeft_55 : decode cX12_layLeft 55 = .ok (.imul, 1) := by decide +kernel
theorem dX12_layLeft_56 : decode cX12_layLeft 56 = .ok (.if_icmp .ge 125, 3) := by decide +kernel
theorem dX12_layLeft_59 : decode cX12_layLeft 59 = .ok (.iload 4, 2) := by decide +kernel
theorem dX12_layLeft_61 : decode cX12_layLeft 61 = .ok (.bipush 64, 2) := by decide +kernel
theorem dX12_layLeft_63 : decode cX12_layLeft 63 = .ok (.idiv, 1) := by decide +kernel
theorem dX12_layLeft_64 : decode cX12_layLeft 64 = .ok (.istore 5, 2) := by decide +kernel
theorem dX12_layLeft_66 : decode cX12_layLeft 66 = .ok (.iconst 0, 1) := by decide +kernel
theorem dX12_layLeft_67 : decode cX12_layLeft 67 = .ok (.istore 6, 2) := by decide +kernel
theorem dX12_layLeft_69 : decode cX12_layLeft 69 = .ok (.iload 6, 2) := by decide +kernel
theorem dX12_layLeft_71 : decode cX12_layLeft 71 = .ok (.aload_n 0, 1) := by decide +kernel
theorem dX12_layLeft_72 : decode cX12_layLeft 72 = .ok (.getfield 88, 3) := by decide +kernel
theorem dX12_layLeft_75 : decode cX12_layLeft 75 = .ok (.if_icmp .ge 100, 3) := by decide +kernel
theorem dX12_layLeft_78 : decode cX12_layLeft 78 = .ok (.aload_n 0, 1) := by decide +kernel
theorem dX12_layLeft_79 : decode cX12_layLeft 79 = .ok (.getfield 25, 3) := by decide +kernel
theorem dX12_layLeft_82 : decode cX12_layLeft 82 = .ok (.iload 5, 2) := by decide +kernel
theorem dX12_layLeft_84 : decode cX12_layLeft 84 = .ok (.iaload, 1) := by decide +kernel
theorem dX12_layLeft_85 : decode cX12_layLeft 85 = .ok (.iload 6, 2) := by decide +kernel
theorem dX12_layLeft_87 : decode cX12_layLeft 87 = .ok (.ishr, 1) := by decide +kernel
theorem dX12_layLeft_88 : decode cX12_layLeft 88 = .ok (.iconst 1, 1) := by decide +kernel
theorem dX12_layLeft_89 : decode cX12_layLeft 89 = .ok (.iand, 1) := by decide +kernel
theorem dX12_layLeft_90 : decode cX12_layLeft 90 = .ok (.iconst 1, 1) := by decide +kernel
theorem dX12_layLeft_91 : decode cX12_layLeft 91 = .ok (.if_icmp .ne 18, 3) := by decide +kernel
theorem dX12_layLeft_94 : decode cX12_layLeft 94 = .ok (.aload_n 0, 1) := by decide +kernel
theorem dX12_layLeft_95 : decode cX12_layLeft 95 = .ok (.iload_n 1, 1) := by decide +kernel
theorem dX12_layLeft_96 : decode cX12_layLeft 96 = .ok (.iload 4, 2) := by decide +kernel
theorem dX12_layLeft_98 : decode cX12_layLeft 98 = .ok (.bipush 64, 2) := by decide +kernel
theorem dX12_layLeft_100 : decode cX12_layLeft 100 = .ok (.irem, 1) := by decide +kernel
theorem dX12_layLeft_101 : decode cX12_layLeft 101 = .ok (.iload 6, 2) := by decide +kernel
theorem dX12_layLeft_103 : decode cX12_layLeft 103 = .ok (.invokevirtual 185, 3) := by decide +kernel
theorem dX12_layLeft_106 : decode cX12_layLeft 106 = .ok (.goto 5, 3) := by decide +kernel
theorem dX12_layLeft_109 : decode cX12_layLeft 109 = .ok (.bipush 64, 2) := by decide +kernel
theorem dX12_layLeft_111 : decode cX12_layLeft 111 = .ok (.istore 7, 2) := by decide +kernel
theorem dX12_layLeft_113 : decode cX12_layLeft 113 = .ok (.iload 7, 2) := by decide +kernel
theorem dX12_layLeft_115 : decode cX12_layLeft 115 = .ok (.bipush 64, 2) := by decide +kernel
theorem dX12_layLeft_117 : decode cX12_layLeft 117 = .ok (.if_icmp .eq 52, 3) := by decide +kernel
theorem dX12_layLeft_120 : decode cX12_layLeft 120 = .ok (.aload_n 0, 1) := by decide +kernel
theorem dX12_layLeft_121 : decode cX12_layLeft 121 = .ok (.getfield 44, 3) := by decide +kernel
theorem dX12_layLeft_124 : decode cX12_layLeft 124 = .ok (.bipush 64, 2) := by decide +kernel
theorem dX12_layLeft_126 : decode cX12_layLeft 126 = .ok (.iload 6, 2) := by decide +kernel
theorem dX12_layLeft_128 : decode cX12_layLeft 128 = .ok (.imul, 1) := by decide +kernel
theorem dX12_layLeft_129 : decode cX12_layLeft 129 = .ok (.iload 7, 2) := by decide +kernel
theorem dX12_layLeft_131 : decode cX12_layLeft 131 = .ok (.iadd, 1) := by decide +kernel
theorem dX12_layLeft_132 : decode cX12_layLeft 132 = .ok (.iaload, 1) := by decide +kernel
theorem dX12_layLeft_133 : decode cX12_layLeft 133 = .ok (.iconst 1, 1) := by decide +kernel
theorem dX12_layLeft_134 : decode cX12_layLeft 134 = .ok (.iadd, 1) := by decide +kernel
theorem dX12_layLeft_135 : decode cX12_layLeft 135 = .ok (.aload_n 0, 1) := by decide +kernel
theorem dX12_layLeft_136 : decode cX12_layLeft 136 = .ok (.getfield 44, 3) := by decide +kernel
theorem dX12_layLeft_139 : decode cX12_layLeft 139 = .ok (.iload 4, 2) := by decide +kernel
theorem dX12_layLeft_141 : decode cX12_layLeft 141 = .ok (.iaload, 1) := by decide +kernel
theorem dX12_layLeft_142 : decode cX12_layLeft 142 = .ok (.if_icmp .ge 27, 3) := by decide +kernel
theorem dX12_layLeft_145 : decode cX12_layLeft 145 = .ok (.aload_n 0, 1) := by decide +kernel
theorem dX12_layLeft_146 : decode cX12_layLeft 146 = .ok (.getfield 44, 3) := by decide +kernel
theorem dX12_layLeft_149 : decode cX12_layLeft 149 = .ok (.iload 4, 2) := by decide +kernel
theorem dX12_layLeft_151 : decode cX12_layLeft 151 = .ok (.aload_n 0, 1) := by decide +kernel
theorem dX12_layLeft_152 : decode cX12_layLeft 152 = .ok (.getfield 44, 3) := by decide +kernel
theorem dX12_layLeft_155 : decode cX12_layLeft 155 = .ok (.bipush 64, 2) := by decide +kernel
theorem dX12_layLeft_157 : decode cX12_layLeft 157 = .ok (.iload 6, 2) := by decide +kernel
theorem dX12_layLeft_159 : decode cX12_layLeft 159 = .ok (.imul, 1) := by decide +kernel
theorem dX12_layLeft_160 : decode cX12_layLeft 160 = .ok (.iload 7, 2) := by decide +kernel
theorem dX12_layLeft_162 : decode cX12_layLeft 162 = .ok (.iadd, 1) := by decide +kernel
theorem dX12_layLeft_163 : decode cX12_layLeft 163 = .ok (.iaload, 1) := by decide +kernel
theorem dX12_layLeft_164 : decode cX12_layLeft 164 = .ok (.iconst 1, 1) := by decide +kernel
theorem dX12_layLeft_165 : decode cX12_layLeft 165 = .ok (.iadd, 1) := by decide +kernel
theorem dX12_layLeft_166 : decode cX12_layLeft 166 = .ok (.iastore, 1) := by decide +kernel
theorem dX12_layLeft_167 : decode cX12_layLeft 167 = .ok (.iconst 1, 1) := by decide +kernel
theorem dX12_layLeft_168 : decode cX12_layLeft 168 = .ok (.istore_n 3, 1) := by decide +kernel
theorem dX12_layLeft_169 : decode cX12_layLeft 169 = .ok (.iinc 6 1, 3) := by decide +kernel
theorem dX12_layLeft_172 : decode cX12_layLeft 172 = .ok (.goto (-103), 3) := by decide +kernel
theorem dX12_layLeft_175 : decode cX12_layLeft 175 = .ok (.iinc 4 1, 3) := by decide +kernel
theorem dX12_layLeft_178 : decode cX12_layLeft 178 = .ok (.goto (-131), 3) := by decide +kernel
theorem dX12_layLeft_181 : decode cX12_layLeft 181 = .ok (.goto (-143), 3) := by decide +kernel
theorem dX12_layLeft_184 : decode cX12_layLeft 184 = .ok (.return_, 1) := by decide +kernel
theorem dX12_roundOf_0 : decode cX12_roundOf 0 = .ok (.aload_n 0, 1) := by decide +kernel
theorem dX12_roundOf_1 : decode cX12_roundOf 1 = .ok (.iload_n 1, 1) := by decide +kernel
theorem dX12_roundOf_2 : decode cX12_roundOf 2 = .ok (.iload_n 3, 1) := by decide +kernel
theorem dX12_roundOf_3 : decode cX12_roundOf 3 = .ok (.invokevirtual 189, 3) := by decide +kernel
theorem dX12_roundOf_6 : decode cX12_roundOf 6 = .ok (.aload_n 0, 1) := by decide +kernel
theorem dX12_roundOf_7 : decode cX12_roundOf 7 = .ok (.iload_n 1, 1) := by decide +kernel
theorem dX12_roundOf_8 : decode cX12_roundOf 8 = .ok (.iconst 0, 1) := by decide +kernel
theorem dX12_roundOf_9 : decode cX12_roundOf 9 = .ok (.iload_n 2, 1) := by decide +kernel
theorem dX12_roundOf_10 : decode cX12_roundOf 10 = .ok (.invokevirtual 185, 3) := by decide +kernel
theorem dX12_roundOf_13 : decode cX12_roundOf 13 = .ok (.istore 4, 2) := by decide +kernel
theorem dX12_roundOf_15 : decode cX12_roundOf 15 = .ok (.iload 4, 2) := by decide +kernel
theorem dX12_roundOf_17 : decode cX12_roundOf 17 = .ok (.bipush 64, 2) := by decide +kernel
theorem dX12_roundOf_19 : decode cX12_roundOf 19 = .ok (.if_icmp .eq 21, 3) := by decide +kernel
theorem dX12_roundOf_22 : decode cX12_roundOf 22 = .ok (.aload_n 0, 1) := by decide +kernel
theorem dX12_roundOf_23 : decode cX12_roundOf 23 = .ok (.getfield 44, 3) := by decide +kernel
theorem dX12_roundOf_26 : decode cX12_roundOf 26 = .ok (.bipush 64, 2) := by decide +kernel
theorem dX12_roundOf_28 : decode cX12_roundOf 28 = .ok (.iload_n 2, 1) := by decide +kernel
theorem dX12_roundOf_29 : decode cX12_roundOf 29 = .ok (.imul, 1) := by decide +kernel
theorem dX12_roundOf_30 : decode cX12_roundOf 30 = .ok (.iload 4, 2) := by decide +kernel
theorem dX12_roundOf_32 : decode cX12_roundOf 32 = .ok (.iadd, 1) := by decide +kernel
theorem dX12_roundOf_33 : decode cX12_roundOf 33 = .ok (.iaload, 1) := by decide +kernel
theorem dX12_roundOf_34 : decode cX12_roundOf 34 = .ok (.sipush 9999, 3) := by decide +kernel
theorem dX12_roundOf_37 : decode cX12_roundOf 37 = .ok (.if_icmp .lt 8, 3) := by decide +kernel
theorem dX12_roundOf_40 : decode cX12_roundOf 40 = .ok (.bipush (-9), 2) := by decide +kernel
theorem dX12_roundOf_42 : decode cX12_roundOf 42 = .ok (.goto 15, 3) := by decide +kernel
theorem dX12_roundOf_45 : decode cX12_roundOf 45 = .ok (.aload_n 0, 1) := by decide +kernel
theorem dX12_roundOf_46 : decode cX12_roundOf 46 = .ok (.getfield 44, 3) := by decide +kernel
theorem dX12_roundOf_49 : decode cX12_roundOf 49 = .ok (.bipush 64, 2) := by decide +kernel
theorem dX12_roundOf_51 : decode cX12_roundOf 51 = .ok (.iload_n 2, 1) := by decide +kernel
theorem dX12_roundOf_52 : decode cX12_roundOf 52 = .ok (.imul, 1) := by decide +kernel
theorem dX12_roundOf_53 : decode cX12_roundOf 53 = .ok (.iload 4, 2) := by decide +kernel
theorem dX12_roundOf_55 : decode cX12_roundOf 55 = .ok (.iadd, 1) := by decide +kernel
theorem dX12_roundOf_56 : decode cX12_roundOf 56 = .ok (.iaload, 1) := by decide +kernel
theorem dX12_roundOf_57 : decode cX12_roundOf 57 = .ok (.ireturn, 1) := by decide +kernel
theorem dX12_round_0 : decode cX12_round 0 = .ok (.aload_n 0, 1) := by decide +kernel
theorem dX12_round_1 : decode cX12_round 1 = .ok (.iload_n 1, 1) := by decide +kernel
theorem dX12_round_2 : decode cX12_round 2 = .ok (.invokevirtual 163, 3) := by decide +kernel
theorem dX12_round_5 : decode cX12_round 5 = .ok (.ifCond .eq 29, 3) := by decide +kernel
theorem dX12_round_8 : decode cX12_round 8 = .ok (.aload_n 0, 1) := by decide +kernel
theorem dX12_round_9 : decode cX12_round 9 = .ok (.iload_n 2, 1) := by decide +kernel
theorem dX12_round_10 : decode cX12_round 10 = .ok (.invokevirtual 157, 3) := by decide +kernel
theorem dX12_round_13 : decode cX12_round 13 = .ok (.ifCond .eq 21, 3) := by decide +kernel
theorem dX12_round_16 : decode cX12_round 16 = .ok (.aload_n 0, 1) := by decide +kernel
theorem dX12_round_17 : decode cX12_round 17 = .ok (.iload_n 3, 1) := by decide +kernel
theorem dX12_round_18 : decode cX12_round 18 = .ok (.invokevirtual 157, 3) := by decide +kernel
theorem dX12_round_21 : decode cX12_round 21 = .ok (.ifCond .eq 13, 3) := by decide +kernel
theorem dX12_round_24 : decode cX12_round 24 = .ok (.aload_n 0, 1) := by decide +kernel
theorem dX12_round_25 : decode cX12_round 25 = .ok (.iload_n 1, 1) := by decide +kernel
theorem dX12_round_26 : decode cX12_round 26 = .ok (.iload_n 2, 1) := by decide +kernel
theorem dX12_round_27 : decode cX12_round 27 = .ok (.iload_n 3, 1) := by decide +kernel
theorem dX12_round_28 : decode cX12_round 28 = .ok (.invokevirtual 193, 3) := by decide +kernel
theorem dX12_round_31 : decode cX12_round 31 = .ok (.goto 4, 3) := by decide +kernel
theorem dX12_round_34 : decode cX12_round 34 = .ok (.iconst (-1), 1) := by decide +kernel
theorem dX12_round_35 : decode cX12_round 35 = .ok (.ireturn, 1) := by decide +kernel
theorem dX12_roundAt_0 : decode cX12_roundAt 0 = .ok (.aload_n 0, 1) := by decide +kernel
theorem dX12_roundAt_1 : decode cX12_roundAt 1 = .ok (.iload_n 1, 1) := by decide +kernel
theorem dX12_roundAt_2 : decode cX12_roundAt 2 = .ok (.invokevirtual 163, 3) := by decide +kernel
theorem dX12_roundAt_5 : decode cX12_roundAt 5 = .ok (.ifCond .eq 19, 3) := by decide +kernel
theorem dX12_roundAt_8 : decode cX12_roundAt 8 = .ok (.aload_n 0, 1) := by decide +kernel
theorem dX12_roundAt_9 : decode cX12_roundAt 9 = .ok (.iload_n 2, 1) := by decide +kernel
theorem dX12_roundAt_10 : decode cX12_roundAt 10 = .ok (.invokevirtual 157, 3) := by decide +kernel
theorem dX12_roundAt_13 : decode cX12_roundAt 13 = .ok (.ifCond .eq 11, 3) := by decide +kernel
theorem dX12_roundAt_16 : decode cX12_roundAt 16 = .ok (.aload_n 0, 1) := by decide +kernel
theorem dX12_roundAt_17 : decode cX12_roundAt 17 = .ok (.iload_n 3, 1) := by decide +kernel
theorem dX12_roundAt_18 : decode cX12_roundAt 18 = .ok (.invokevirtual 157, 3) := by decide +kernel
theorem dX12_roundAt_21 : decode cX12_roundAt 21 = .ok (.ifCond .ne 5, 3) := by decide +kernel
theorem dX12_roundAt_24 : decode cX12_roundAt 24 = .ok (.iconst (-1), 1) := by decide +kernel
theorem dX12_roundAt_25 : decode cX12_roundAt 25 = .ok (.ireturn, 1) := by decide +kernel
theorem dX12_roundAt_26 : decode cX12_roundAt 26 = .ok (.iload 4, 2) := by decide +kernel
theorem dX12_roundAt_28 : decode cX12_roundAt 28 = .ok (.i2l, 1) := by decide +kernel
theorem dX12_roundAt_29 : decode cX12_roundAt 29 = .ok (.lconst 0, 1) := by decide +kernel
theorem dX12_roundAt_30 : decode cX12_roundAt 30 = .ok (.aload_n 0, 1) := by decide +kernel
theorem dX12_roundAt_31 : decode cX12_roundAt 31 = .ok (.iload_n 1, 1) := by decide +kernel
theorem dX12_roundAt_32 : decode cX12_roundAt 32 = .ok (.iload_n 2, 1) := by decide +kernel
theorem dX12_roundAt_33 : decode cX12_roundAt 33 = .ok (.iload_n 3, 1) := by decide +kernel
theorem dX12_roundAt_34 : decode cX12_roundAt 34 = .ok (.invokevirtual 193, 3) := by decide +kernel
theorem dX12_roundAt_37 : decode cX12_roundAt 37 = .ok (.i2l, 1) := by decide +kernel
theorem dX12_roundAt_38 : decode cX12_roundAt 38 = .ok (.invokestatic 94, 3) := by decide +kernel
theorem dX12_roundAt_41 : decode cX12_roundAt 41 = .ok (.ifCond .ne 6, 3) := by decide +kernel
theorem dX12_roundAt_44 : decode cX12_roundAt 44 = .ok (.bipush (-9), 2) := by decide +kernel
theorem dX12_roundAt_46 : decode cX12_roundAt 46 = .ok (.ireturn, 1) := by decide +kernel
theorem dX12_roundAt_47 : decode cX12_roundAt 47 = .ok (.iload_n 2, 1) := by decide +kernel
theorem dX12_roundAt_48 : decode cX12_roundAt 48 = .ok (.istore 5, 2) := by decide +kernel
theorem dX12_roundAt_50 : decode cX12_roundAt 50 = .ok (.aload_n 0, 1) := by decide +kernel
theorem dX12_roundAt_51 : decode cX12_roundAt 51 = .ok (.iload_n 1, 1) := by decide +kernel
theorem dX12_roundAt_52 : decode cX12_roundAt 52 = .ok (.iconst 0, 1) := by decide +kernel
theorem dX12_roundAt_53 : decode cX12_roundAt 53 = .ok (.iload_n 2, 1) := by decide +kernel
theorem dX12_roundAt_54 : decode cX12_roundAt 54 = .ok (.invokevirtual 185, 3) := by decide +kernel
theorem dX12_roundAt_57 : decode cX12_roundAt 57 = .ok (.istore 6, 2) := by decide +kernel
theorem dX12_roundAt_59 : decode cX12_roundAt 59 = .ok (.iconst 0, 1) := by decide +kernel
theorem dX12_roundAt_60 : decode cX12_roundAt 60 = .ok (.istore 7, 2) := by decide +kernel
theorem dX12_roundAt_62 : decode cX12_roundAt 62 = .ok (.iload 7, 2) := by decide +kernel
theorem dX12_roundAt_64 : decode cX12_roundAt 64 = .ok (.iload 4, 2) := by decide +kernel
theorem dX12_roundAt_66 : decode cX12_roundAt 66 = .ok (.if_icmp .ge 152, 3) := by decide +kernel
theorem dX12_roundAt_69 : decode cX12_roundAt 69 = .ok (.aload_n 0, 1) := by decide +kernel
theorem dX12_roundAt_70 : decode cX12_roundAt 70 = .ok (.getfield 44, 3) := by decide +kernel
theorem dX12_roundAt_73 : decode cX12_roundAt 73 = .ok (.bipush 64, 2) := by decide +kernel
theorem dX12_roundAt_75 : decode cX12_roundAt 75 = .ok (.iload 5, 2) := by decide +kernel
theorem dX12_roundAt_77 : decode cX12_roundAt 77 = .ok (.imul, 1) := by decide +kernel
theorem dX12_roundAt_78 : decode cX12_roundAt 78 = .ok (.iload 6, 2) := by decide +kernel
theorem dX12_roundAt_80 : decode cX12_roundAt 80 = .ok (.iadd, 1) := by decide +kernel
theorem dX12_roundAt_81 : decode cX12_roundAt 81 = .ok (.iaload, 1) := by decide +kernel
theorem dX12_roundAt_82 : decode cX12_roundAt 82 = .ok (.iconst 1, 1) := by decide +kernel
theorem dX12_roundAt_83 : decode cX12_roundAt 83 = .ok (.isub, 1) := by decide +kernel
theorem dX12_roundAt_84 : decode cX12_roundAt 84 = .ok (.istore 8, 2) := by decide +kernel
theorem dX12_roundAt_86 : decode cX12_roundAt 86 = .ok (.bipush (-9), 2) := by decide +kernel
theorem dX12_roundAt_88 : decode cX12_roundAt 88 = .ok (.istore 9, 2) := by decide +kernel
theorem dX12_roundAt_90 : decode cX12_roundAt 90 = .ok (.iconst 0, 1) := by decide +kernel
theorem dX12_roundAt_91 : decode cX12_roundAt 91 = .ok (.istore 10, 2) := by decide +kernel
theorem dX12_roundAt_93 : decode cX12_roundAt 93 = .ok (.aload_n 0, 1) := by decide +kernel
theorem dX12_roundAt_94 : decode cX12_roundAt 94 = .ok (.getfield 88, 3) := by decide +kernel
theorem dX12_roundAt_97 : decode cX12_roundAt 97 = .ok (.iconst 1, 1) := by decide +kernel
theorem dX12_roundAt_98 : decode cX12_roundAt 98 = .ok (.isub, 1) := by decide +kernel
theorem dX12_roundAt_99 : decode cX12_roundAt 99 = .ok (.istore 11, 2) := by decide +kernel
theorem dX12_roundAt_101 : decode cX12_roundAt 101 = .ok (.iload 11, 2) := by decide +kernel
theorem dX12_roundAt_103 : decode cX12_roundAt 103 = .ok (.ifCond .lt 101, 3) := by decide +kernel
theorem dX12_roundAt_106 : decode cX12_roundAt 106 = .ok (.aload_n 0, 1) := by decide +kernel
theorem dX12_roundAt_107 : decode cX12_roundAt 107 = .ok (.getfield 25, 3) := by decide +kernel
theorem dX12_roundAt_110 : decode cX12_roundAt 110 = .ok (.iload 5, 2) := by decide +kernel
theorem dX12_roundAt_112 : decode cX12_roundAt 112 = .ok (.iaload, 1) := by decide +kernel
theorem dX12_roundAt_113 : decode cX12_roundAt 113 = .ok (.iload 11, 2) := by decide +kernel
theorem dX12_roundAt_115 : decode cX12_roundAt 115 = .ok (.ishr, 1) := by decide +kernel
theorem dX12_roundAt_116 : decode cX12_roundAt 116 = .ok (.iconst 1, 1) := by decide +kernel
theorem dX12_roundAt_117 : decode cX12_roundAt 117 = .ok (.iand, 1) := by decide +kernel
theorem dX12_roundAt_118 : decode cX12_roundAt 118 = .ok (.iconst 1, 1) := by decide +kernel
theorem dX12_roundAt_119 : decode cX12_roundAt 119 = .ok (.if_icmp .ne 15, 3) := by decide +kernel
theorem dX12_roundAt_122 : decode cX12_roundAt 122 = .ok (.aload_n 0, 1) := by decide +kernel
theorem dX12_roundAt_123 : decode cX12_roundAt 123 = .ok (.iload_n 1, 1) := by decide +kernel
theorem dX12_roundAt_124 : decode cX12_roundAt 124 = .ok (.iload 6, 2) := by decide +kernel
theorem dX12_roundAt_126 : decode cX12_roundAt 126 = .ok (.iload 11, 2) := by decide +kernel
theorem dX12_roundAt_128 : decode cX12_roundAt 128 = .ok (.invokevirtual 185, 3) := by decide +kernel
theorem dX12_roundAt_131 : decode cX12_roundAt 131 = .ok (.goto 5, 3) := by decide +kernel
theorem dX12_roundAt_134 : decode cX12_roundAt 134 = .ok (.bipush 64, 2) := by decide +kernel
theorem dX12_roundAt_136 : decode cX12_roundAt 136 = .ok (.istore 12, 2) := by decide +kernel
theorem dX12_roundAt_138 : decode cX12_roundAt 138 = .ok (.iload 12, 2) := by decide +kernel
theorem dX12_roundAt_140 : decode cX12_roundAt 140 = .ok (.bipush 64, 2) := by decide +kernel
theorem dX12_roundAt_142 : decode cX12_roundAt 142 = .ok (.if_icmp .eq 25, 3) := by decide +kernel
theorem dX12_roundAt_145 : decode cX12_roundAt 145 = .ok (.aload_n 0, 1) := by decide +kernel
theorem dX12_roundAt_146 : decode cX12_roundAt 146 = .ok (.getfield 44, 3) := by decide +kernel
theorem dX12_roundAt_149 : decode cX12_roundAt 149 = .ok (.bipush 64, 2) := by decide +kernel
theorem dX12_roundAt_151 : decode cX12_roundAt 151 = .ok (.iload 11, 2) := by decide +kernel
theorem dX12_roundAt_153 : decode cX12_roundAt 153 = .ok (.imul, 1) := by decide +kernel
theorem dX12_roundAt_154 : decode cX12_roundAt 154 = .ok (.iload 12, 2) := by decide +kernel
theorem dX12_roundAt_156 : decode cX12_roundAt 156 = .ok (.iadd, 1) := by decide +kernel
theorem dX12_roundAt_157 : decode cX12_roundAt 157 = .ok (.iaload, 1) := by decide +kernel
theorem dX12_roundAt_158 : decode cX12_roundAt 158 = .ok (.iload 8, 2) := by decide +kernel
theorem dX12_roundAt_160 : decode cX12_roundAt 160 = .ok (.if_icmp .ne 7, 3) := by decide +kernel
theorem dX12_roundAt_163 : decode cX12_roundAt 163 = .ok (.iconst 1, 1) := by decide +kernel
theorem dX12_roundAt_164 : decode cX12_roundAt 164 = .ok (.goto 4, 3) := by decide +kernel
theorem dX12_roundAt_167 : decode cX12_roundAt 167 = .ok (.iconst 0, 1) := by decide +kernel
theorem dX12_roundAt_168 : decode cX12_roundAt 168 = .ok (.istore 13, 2) := by decide +kernel
theorem dX12_roundAt_170 : decode cX12_roundAt 170 = .ok (.iload 13, 2) := by decide +kernel
theorem dX12_roundAt_172 : decode cX12_roundAt 172 = .ok (.ifCond .eq 8, 3) := by decide +kernel
theorem dX12_roundAt_175 : decode cX12_roundAt 175 = .ok (.iload 11, 2) := by decide +kernel
theorem dX12_roundAt_177 : decode cX12_roundAt 177 = .ok (.goto 5, 3) := by decide +kernel
theorem dX12_roundAt_180 : decode cX12_roundAt 180 = .ok (.iload 9, 2) := by decide +kernel
theorem dX12_roundAt_182 : decode cX12_roundAt 182 = .ok (.istore 9, 2) := by decide +kernel
theorem dX12_roundAt_184 : decode cX12_roundAt 184 = .ok (.iload 13, 2) := by decide +kernel
theorem dX12_roundAt_186 : decode cX12_roundAt 186 = .ok (.ifCond .eq 8, 3) := by decide +kernel
theorem dX12_roundAt_189 : decode cX12_roundAt 189 = .ok (.iload 12, 2) := by decide +kernel
theorem dX12_roundAt_191 : decode cX12_roundAt 191 = .ok (.goto 5, 3) := by decide +kernel
theorem dX12_roundAt_194 : decode cX12_roundAt 194 = .ok (.iload 10, 2) := by decide +kernel
theorem dX12_roundAt_196 : decode cX12_roundAt 196 = .ok (.istore 10, 2) := by decide +kernel
theorem dX12_roundAt_198 : decode cX12_roundAt 198 = .ok (.iinc 11 (-1), 3) := by decide +kernel
theorem dX12_roundAt_201 : decode cX12_roundAt 201 = .ok (.goto (-100), 3) := by decide +kernel
theorem dX12_roundAt_204 : decode cX12_roundAt 204 = .ok (.iload 9, 2) := by decide +kernel
theorem dX12_roundAt_206 : decode cX12_roundAt 206 = .ok (.istore 5, 2) := by decide +kernel
theorem dX12_roundAt_208 : decode cX12_roundAt 208 = .ok (.iload 10, 2) := by decide +kernel
theorem dX12_roundAt_210 : decode cX12_roundAt 210 = .ok (.istore 6, 2) := by decide +kernel
theorem dX12_roundAt_212 : decode cX12_roundAt 212 = .ok (.iinc 7 1, 3) := by decide +kernel
theorem dX12_roundAt_215 : decode cX12_roundAt 215 = .ok (.goto (-153), 3) := by decide +kernel
theorem dX12_roundAt_218 : decode cX12_roundAt 218 = .ok (.iload 5, 2) := by decide +kernel
theorem dX12_roundAt_220 : decode cX12_roundAt 220 = .ok (.ireturn, 1) := by decide +kernel
theorem dX12_safe_0 : decode cX12_safe 0 = .ok (.aload_n 0, 1) := by decide +kernel
theorem dX12_safe_1 : decode cX12_safe 1 = .ok (.iload_n 1, 1) := by decide +kernel
theorem dX12_safe_2 : decode cX12_safe 2 = .ok (.invokevirtual 163, 3) := by decide +kernel
theorem dX12_safe_5 : decode cX12_safe 5 = .ok (.ifCond .eq 19, 3) := by decide +kernel
theorem dX12_safe_8 : decode cX12_safe 8 = .ok (.aload_n 0, 1) := by decide +kernel
theorem dX12_safe_9 : decode cX12_safe 9 = .ok (.iload_n 2, 1) := by decide +kernel
theorem dX12_safe_10 : decode cX12_safe 10 = .ok (.invokevirtual 157, 3) := by decide +kernel
theorem dX12_safe_13 : decode cX12_safe 13 = .ok (.ifCond .eq 11, 3) := by decide +kernel
theorem dX12_safe_16 : decode cX12_safe 16 = .ok (.aload_n 0, 1) := by decide +kernel
theorem dX12_safe_17 : decode cX12_safe 17 = .ok (.iload_n 3, 1) := by decide +kernel
theorem dX12_safe_18 : decode cX12_safe 18 = .ok (.invokevirtual 157, 3) := by decide +kernel
theorem dX12_safe_21 : decode cX12_safe 21 = .ok (.ifCond .ne 7, 3) := by decide +kernel
theorem dX12_safe_24 : decode cX12_safe 24 = .ok (.ldc2_w 175, 3) := by decide +kernel
theorem dX12_safe_27 : decode cX12_safe 27 = .ok (.lreturn, 1) := by decide +kernel
theorem dX12_safe_28 : decode cX12_safe 28 = .ok (.iload 4, 2) := by decide +kernel
theorem dX12_safe_30 : decode cX12_safe 30 = .ok (.i2l, 1) := by decide +kernel
theorem dX12_safe_31 : decode cX12_safe 31 = .ok (.lconst 0, 1) := by decide +kernel
theorem dX12_safe_32 : decode cX12_safe 32 = .ok (.ldc2_w 196, 3) := by decide +kernel
theorem dX12_safe_35 : decode cX12_safe 35 = .ok (.invokestatic 94, 3) := by decide +kernel
theorem dX12_safe_38 : decode cX12_safe 38 = .ok (.ifCond .ne 7, 3) := by decide +kernel
theorem dX12_safe_41 : decode cX12_safe 41 = .ok (.ldc2_w 198, 3) := by decide +kernel
theorem dX12_safe_44 : decode cX12_safe 44 = .ok (.lreturn, 1) := by decide +kernel
theorem dX12_safe_45 : decode cX12_safe 45 = .ok (.aload_n 0, 1) := by decide +kernel
theorem dX12_safe_46 : decode cX12_safe 46 = .ok (.iload_n 1, 1) := by decide +kernel
theorem dX12_safe_47 : decode cX12_safe 47 = .ok (.iconst 0, 1) := by decide +kernel
theorem dX12_safe_48 : decode cX12_safe 48 = .ok (.iload_n 2, 1) := by decide +kernel
theorem dX12_safe_49 : decode cX12_safe 49 = .ok (.invokevirtual 185, 3) := by decide +kernel
theorem dX12_safe_52 : decode cX12_safe 52 = .ok (.istore 5, 2) := by decide +kernel
theorem dX12_safe_54 : decode cX12_safe 54 = .ok (.iconst 0, 1) := by decide +kernel
theorem dX12_safe_55 : decode cX12_safe 55 = .ok (.istore 6, 2) := by decide +kernel
theorem dX12_safe_57 : decode cX12_safe 57 = .ok (.iload 6, 2) := by decide +kernel
theorem dX12_safe_59 : decode cX12_safe 59 = .ok (.sipush 768, 3) := by decide +kernel
theorem dX12_safe_62 : decode cX12_safe 62 = .ok (.if_icmp .ge 40, 3) := by decide +kernel
theorem dX12_safe_65 : decode cX12_safe 65 = .ok (.aload_n 0, 1) := by decide +kernel
theorem dX12_safe_66 : decode cX12_safe 66 = .ok (.getfield 47, 3) := by decide +kernel
theorem dX12_safe_69 : decode cX12_safe 69 = .ok (.iload 6, 2) := by decide +kernel
theorem dX12_safe_71 : decode cX12_safe 71 = .ok (.iload 5, 2) := by decide +kernel
theorem dX12_safe_73 : decode cX12_safe 73 = .ok (.bipush 64, 2) := by decide +kernel
theorem dX12_safe_75 : decode cX12_safe 75 = .ok (.if_icmp .eq 19, 3) := by decide +kernel
theorem dX12_safe_78 : decode cX12_safe 78 = .ok (.iload 6, 2) := by decide +kernel
theorem dX12_safe_80 : decode cX12_safe 80 = .ok (.bipush 64, 2) := by decide +kernel
theorem dX12_safe_82 : decode cX12_safe 82 = .ok (.iload_n 2, 1) := by decide +kernel
theorem dX12_safe_83 : decode cX12_safe 83 = .ok (.imul, 1) := by decide +kernel
theorem dX12_safe_84 : decode cX12_safe 84 = .ok (.iload 5, 2) := by decide +kernel
theorem dX12_safe_86 : decode cX12_safe 86 = .ok (.iadd, 1) := by decide +kernel
theorem dX12_safe_87 : decode cX12_safe 87 = .ok (.if_icmp .ne 7, 3) := by decide +kernel
theorem dX12_safe_90 : decode cX12_safe 90 = .ok (.lconst 1, 1) := by decide +kernel
theorem dX12_safe_91 : decode cX12_safe 91 = .ok (.goto 4, 3) := by decide +kernel
theorem dX12_safe_94 : decode cX12_safe 94 = .ok (.lconst 0, 1) := by decide +kernel
theorem dX12_safe_95 : decode cX12_safe 95 = .ok (.lastore, 1) := by decide +kernel
theorem dX12_safe_96 : decode cX12_safe 96 = .ok (.iinc 6 1, 3) := by decide +kernel
theorem dX12_safe_99 : decode cX12_safe 99 = .ok (.goto (-42), 3) := by decide +kernel
theorem dX12_safe_102 : decode cX12_safe 102 = .ok (.iconst 0, 1) := by decide +kernel
theorem dX12_safe_103 : decode cX12_safe 103 = .ok (.istore 6, 2) := by decide +kernel
theorem dX12_safe_105 : decode cX12_safe 105 = .ok (.iload 6, 2) := by decide +kernel
theorem dX12_safe_107 : decode cX12_safe 107 = .ok (.iload 4, 2) := by decide +kernel
theorem dX12_safe_109 : decode cX12_safe 109 = .ok (.if_icmp .ge 184, 3) := by decide +kernel
theorem dX12_safe_112 : decode cX12_safe 112 = .ok (.iconst 0, 1) := by decide +kernel
theorem dX12_safe_113 : decode cX12_safe 113 = .ok (.istore 7, 2) := by decide +kernel
theorem dX12_safe_115 : decode cX12_safe 115 = .ok (.iload 7, 2) := by decide +kernel
theorem dX12_safe_117 : decode cX12_safe 117 = .ok (.sipush 768, 3) := by decide +kernel
theorem dX12_safe_120 : decode cX12_safe 120 = .ok (.if_icmp .ge 17, 3) := by decide +kernel
theorem dX12_safe_123 : decode cX12_safe 123 = .ok (.aload_n 0, 1) := by decide +kernel
theorem dX12_safe_124 : decode cX12_safe 124 = .ok (.getfield 50, 3) := by decide +kernel
theorem dX12_safe_127 : decode cX12_safe 127 = .ok (.iload 7, 2) := by decide +kernel
theorem dX12_safe_129 : decode cX12_safe 129 = .ok (.lconst 0, 1) := by decide +kernel
theorem dX12_safe_130 : decode cX12_safe 130 = .ok (.lastore, 1) := by decide +kernel
theorem dX12_safe_131 : decode cX12_safe 131 = .ok (.iinc 7 1, 3) := by decide +kernel
theorem dX12_safe_134 : decode cX12_safe 134 = .ok (.goto (-19), 3) := by decide +kernel
theorem dX12_safe_137 : decode cX12_safe 137 = .ok (.iconst 0, 1) := by decide +kernel
theorem dX12_safe_138 : decode cX12_safe 138 = .ok (.istore 7, 2) := by decide +kernel
theorem dX12_safe_140 : decode cX12_safe 140 = .ok (.iload 7, 2) := by decide +kernel
theorem dX12_safe_142 : decode cX12_safe 142 = .ok (.bipush 64, 2) := by decide +kernel
theorem dX12_safe_144 : decode cX12_safe 144 = .ok (.aload_n 0, 1) := by decide +kernel
theorem dX12_safe_145 : decode cX12_safe 145 = .ok (.getfield 88, 3) := by decide +kernel
theorem dX12_safe_148 : decode cX12_safe 148 = .ok (.imul, 1) := by decide +kernel
theorem dX12_safe_149 : decode cX12_safe 149 = .ok (.if_icmp .ge 107, 3) := by decide +kernel
theorem dX12_safe_152 : decode cX12_safe 152 = .ok (.iconst 0, 1) := by decide +kernel
theorem dX12_safe_153 : decode cX12_safe 153 = .ok (.istore 8, 2) := by decide +kernel
theorem dX12_safe_155 : decode cX12_safe 155 = .ok (.iload 8, 2) := by decide +kernel
theorem dX12_safe_157 : decode cX12_safe 157 = .ok (.aload_n 0, 1) := by decide +kernel
theorem dX12_safe_158 : decode cX12_safe 158 = .ok (.getfield 88, 3) := by decide +kernel
theorem dX12_safe_161 : decode cX12_safe 161 = .ok (.if_icmp .ge 89, 3) := by decide +kernel
theorem dX12_safe_164 : decode cX12_safe 164 = .ok (.aload_n 0, 1) := by decide +kernel
theorem dX12_safe_165 : decode cX12_safe 165 = .ok (.getfield 47, 3) := by decide +kernel
theorem dX12_safe_168 : decode cX12_safe 168 = .ok (.iload 7, 2) := by decide +kernel
theorem dX12_safe_170 : decode cX12_safe 170 = .ok (.laload, 1) := by decide +kernel
theorem dX12_safe_171 : decode cX12_safe 171 = .ok (.lconst 0, 1) := by decide +kernel
theorem dX12_safe_172 : decode cX12_safe 172 = .ok (.lcmp, 1) := by decide +kernel
theorem dX12_safe_173 : decode cX12_safe 173 = .ok (.ifCond .le 77, 3) := by decide +kernel
theorem dX12_safe_176 : decode cX12_safe 176 = .ok (.aload_n 0, 1) := by decide +kernel
theorem dX12_safe_177 : decode cX12_safe 177 = .ok (.getfield 25, 3) := by decide +kernel
theorem dX12_safe_180 : decode cX12_safe 180 = .ok (.iload 7, 2) := by decide +kernel
theorem dX12_safe_182 : decode cX12_safe 182 = .ok (.bipush 64, 2) := by decide +kernel
theorem dX12_safe_184 : decode cX12_safe 184 = .ok (.idiv, 1) := by decide +kernel
theorem dX12_safe_185 : decode cX12_safe 185 = .ok (.iaload, 1) := by decide +kernel
theorem dX12_safe_186 : decode cX12_safe 186 = .ok (.iload 8, 2) := by decide +kernel
theorem dX12_safe_188 : decode cX12_safe 188 = .ok (.ishr, 1) := by decide +kernel
theorem dX12_safe_189 : decode cX12_safe 189 = .ok (.iconst 1, 1) := by decide +kernel
theorem dX12_safe_190 : decode cX12_safe 190 = .ok (.iand, 1) := by decide +kernel
theorem dX12_safe_191 : decode cX12_safe 191 = .ok (.iconst 1, 1) := by decide +kernel
theorem dX12_safe_192 : decode cX12_safe 192 = .ok (.if_icmp .ne 18, 3) := by decide +kernel
theorem dX12_safe_195 : decode cX12_safe 195 = .ok (.aload_n 0, 1) := by decide +kernel
theorem dX12_safe_196 : decode cX12_safe 196 = .ok (.iload_n 1, 1) := by decide +kernel
theorem dX12_safe_197 : decode cX12_safe 197 = .ok (.iload 7, 2) := by decide +kernel
theorem dX12_safe_199 : decode cX12_safe 199 = .ok (.bipush 64, 2) := by decide +kernel
theorem dX12_safe_201 : decode cX12_safe 201 = .ok (.irem, 1) := by decide +kernel
theorem dX12_safe_202 : decode cX12_safe 202 = .ok (.iload 8, 2) := by decide +kernel
theorem dX12_safe_204 : decode cX12_safe 204 = .ok (.invokevirtual 185, 3) := by decide +kernel
theorem dX12_safe_207 : decode cX12_safe 207 = .ok (.goto 5, 3) := by decide +kernel
theorem dX12_safe_210 : decode cX12_safe 210 = .ok (.bipush 64, 2) := by decide +kernel
theorem dX12_safe_212 : decode cX12_safe 212 = .ok (.istore 9, 2) := by decide +kernel
theorem dX12_safe_214 : decode cX12_safe 214 = .ok (.iload 9, 2) := by decide +kernel
theorem dX12_safe_216 : decode cX12_safe 216 = .ok (.bipush 64, 2) := by decide +kernel
theorem dX12_safe_218 : decode cX12_safe 218 = .ok (.if_icmp .eq 26, 3) := by decide +kernel
theorem dX12_safe_221 : decode cX12_safe 221 = .ok (.aload_n 0, 1) := by decide +kernel
theorem dX12_safe_222 : decode cX12_safe 222 = .ok (.getfield 50, 3) := by decide +kernel
theorem dX12_safe_225 : decode cX12_safe 225 = .ok (.bipush 64, 2) := by decide +kernel
theorem dX12_safe_227 : decode cX12_safe 227 = .ok (.iload 8, 2) := by decide +kernel
theorem dX12_safe_229 : decode cX12_safe 229 = .ok (.imul, 1) := by decide +kernel
theorem dX12_safe_230 : decode cX12_safe 230 = .ok (.iload 9, 2) := by decide +kernel
theorem dX12_safe_232 : decode cX12_safe 232 = .ok (.iadd, 1) := by decide +kernel
theorem dX12_safe_233 : decode cX12_safe 233 = .ok (.dup2, 1) := by decide +kernel
theorem dX12_safe_234 : decode cX12_safe 234 = .ok (.laload, 1) := by decide +kernel
theorem dX12_safe_235 : decode cX12_safe 235 = .ok (.aload_n 0, 1) := by decide +kernel
theorem dX12_safe_236 : decode cX12_safe 236 = .ok (.getfield 47, 3) := by decide +kernel
theorem dX12_safe_239 : decode cX12_safe 239 = .ok (.iload 7, 2) := by decide +kernel
theorem dX12_safe_241 : decode cX12_safe 241 = .ok (.laload, 1) := by decide +kernel
theorem dX12_safe_242 : decode cX12_safe 242 = .ok (.ladd, 1) := by decide +kernel
theorem dX12_safe_243 : decode cX12_safe 243 = .ok (.lastore, 1) := by decide +kernel
theorem dX12_safe_244 : decode cX12_safe 244 = .ok (.iinc 8 1, 3) := by decide +kernel
theorem dX12_safe_247 : decode cX12_safe 247 = .ok (.goto (-92), 3) := by decide +kernel
theorem dX12_safe_250 : decode cX12_safe 250 = .ok (.iinc 7 1, 3) := by decide +kernel
theorem dX12_safe_253 : decode cX12_safe 253 = .ok (.goto (-113), 3) := by decide +kernel
theorem dX12_safe_256 : decode cX12_safe 256 = .ok (.iconst 0, 1) := by decide +kernel
theorem dX12_safe_257 : decode cX12_safe 257 = .ok (.istore 7, 2) := by decide +kernel
theorem dX12_safe_259 : decode cX12_safe 259 = .ok (.iload 7, 2) := by decide +kernel
theorem dX12_safe_261 : decode cX12_safe 261 = .ok (.sipush 768, 3) := by decide +kernel
theorem dX12_safe_264 : decode cX12_safe 264 = .ok (.if_icmp .ge 23, 3) := by decide +kernel
theorem dX12_safe_267 : decode cX12_safe 267 = .ok (.aload_n 0, 1) := by decide +kernel
theorem dX12_safe_268 : decode cX12_safe 268 = .ok (.getfield 47, 3) := by decide +kernel
theorem dX12_safe_271 : decode cX12_safe 271 = .ok (.iload 7, 2) := by decide +kernel
theorem dX12_safe_273 : decode cX12_safe 273 = .ok (.aload_n 0, 1) := by decide +kernel
theorem dX12_safe_274 : decode cX12_safe 274 = .ok (.getfield 50, 3) := by decide +kernel
theorem dX12_safe_277 : decode cX12_safe 277 = .ok (.iload 7, 2) := by decide +kernel
theorem dX12_safe_279 : decode cX12_safe 279 = .ok (.laload, 1) := by decide +kernel
theorem dX12_safe_280 : decode cX12_safe 280 = .ok (.lastore, 1) := by decide +kernel
theorem dX12_safe_281 : decode cX12_safe 281 = .ok (.iinc 7 1, 3) := by decide +kernel
theorem dX12_safe_284 : decode cX12_safe 284 = .ok (.goto (-25), 3) := by decide +kernel
theorem dX12_safe_287 : decode cX12_safe 287 = .ok (.iinc 6 1, 3) := by decide +kernel
theorem dX12_safe_290 : decode cX12_safe 290 = .ok (.goto (-185), 3) := by decide +kernel
theorem dX12_safe_293 : decode cX12_safe 293 = .ok (.lconst 0, 1) := by decide +kernel
theorem dX12_safe_294 : decode cX12_safe 294 = .ok (.lstore 6, 2) := by decide +kernel
theorem dX12_safe_296 : decode cX12_safe 296 = .ok (.iconst 0, 1) := by decide +kernel
theorem dX12_safe_297 : decode cX12_safe 297 = .ok (.istore 8, 2) := by decide +kernel
theorem dX12_safe_299 : decode cX12_safe 299 = .ok (.iload 8, 2) := by decide +kernel
theorem dX12_safe_301 : decode cX12_safe 301 = .ok (.bipush 64, 2) := by decide +kernel
theorem dX12_safe_303 : decode cX12_safe 303 = .ok (.if_icmp .ge 26, 3) := by decide +kernel
theorem dX12_safe_306 : decode cX12_safe 306 = .ok (.lload 6, 2) := by decide +kernel
theorem dX12_safe_308 : decode cX12_safe 308 = .ok (.aload_n 0, 1) := by decide +kernel
theorem dX12_safe_309 : decode cX12_safe 309 = .ok (.getfield 47, 3) := by decide +kernel
theorem dX12_safe_312 : decode cX12_safe 312 = .ok (.bipush 64, 2) := by decide +kernel
theorem dX12_safe_314 : decode cX12_safe 314 = .ok (.iload_n 3, 1) := by decide +kernel
theorem dX12_safe_315 : decode cX12_safe 315 = .ok (.imul, 1) := by decide +kernel
theorem dX12_safe_316 : decode cX12_safe 316 = .ok (.iload 8, 2) := by decide +kernel
theorem dX12_safe_318 : decode cX12_safe 318 = .ok (.iadd, 1) := by decide +kernel
theorem dX12_safe_319 : decode cX12_safe 319 = .ok (.laload, 1) := by decide +kernel
theorem dX12_safe_320 : decode cX12_safe 320 = .ok (.ladd, 1) := by decide +kernel
theorem dX12_safe_321 : decode cX12_safe 321 = .ok (.lstore 6, 2) := by decide +kernel
theorem dX12_safe_323 : decode cX12_safe 323 = .ok (.iinc 8 1, 3) := by decide +kernel
theorem dX12_safe_326 : decode cX12_safe 326 = .ok (.goto (-27), 3) := by decide +kernel
theorem dX12_safe_329 : decode cX12_safe 329 = .ok (.lload 6, 2) := by decide +kernel
theorem dX12_safe_331 : decode cX12_safe 331 = .ok (.lreturn, 1) := by decide +kernel
theorem dX12_stateOf_0 : decode cX12_stateOf 0 = .ok (.iload_n 2, 1) := by decide +kernel
theorem dX12_stateOf_1 : decode cX12_stateOf 1 = .ok (.bipush 32, 2) := by decide +kernel
theorem dX12_stateOf_3 : decode cX12_stateOf 3 = .ok (.if_icmp .ne 8, 3) := by decide +kernel
theorem dX12_stateOf_6 : decode cX12_stateOf 6 = .ok (.bipush 32, 2) := by decide +kernel
theorem dX12_stateOf_8 : decode cX12_stateOf 8 = .ok (.goto 14, 3) := by decide +kernel
theorem dX12_stateOf_11 : decode cX12_stateOf 11 = .ok (.aload_n 0, 1) := by decide +kernel
theorem dX12_stateOf_12 : decode cX12_stateOf 12 = .ok (.iload_n 1, 1) := by decide +kernel
theorem dX12_stateOf_13 : decode cX12_stateOf 13 = .ok (.iconst 2, 1) := by decide +kernel
theorem dX12_stateOf_14 : decode cX12_stateOf 14 = .ok (.iload_n 2, 1) := by decide +kernel
theorem dX12_stateOf_15 : decode cX12_stateOf 15 = .ok (.imul, 1) := by decide +kernel
theorem dX12_stateOf_16 : decode cX12_stateOf 16 = .ok (.iload_n 3, 1) := by decide +kernel
theorem dX12_stateOf_17 : decode cX12_stateOf 17 = .ok (.invokevirtual 185, 3) := by decide +kernel
theorem dX12_stateOf_20 : decode cX12_stateOf 20 = .ok (.iconst 2, 1) := by decide +kernel
theorem dX12_stateOf_21 : decode cX12_stateOf 21 = .ok (.idiv, 1) := by decide +kernel
theorem dX12_stateOf_22 : decode cX12_stateOf 22 = .ok (.ireturn, 1) := by decide +kernel
theorem dX12_both_0 : decode cX12_both 0 = .ok (.aload_n 0, 1) := by decide +kernel
theorem dX12_both_1 : decode cX12_both 1 = .ok (.iload_n 1, 1) := by decide +kernel
theorem dX12_both_2 : decode cX12_both 2 = .ok (.invokevirtual 163, 3) := by decide +kernel
theorem dX12_both_5 : decode cX12_both 5 = .ok (.ifCond .eq 11, 3) := by decide +kernel
theorem dX12_both_8 : decode cX12_both 8 = .ok (.aload_n 0, 1) := by decide +kernel
theorem dX12_both_9 : decode cX12_both 9 = .ok (.iload_n 2, 1) := by decide +kernel
theorem dX12_both_10 : decode cX12_both 10 = .ok (.invokevirtual 163, 3) := by decide +kernel
theorem dX12_both_13 : decode cX12_both 13 = .ok (.ifCond .ne 5, 3) := by decide +kernel
theorem dX12_both_16 : decode cX12_both 16 = .ok (.iconst (-1), 1) := by decide +kernel
theorem dX12_both_17 : decode cX12_both 17 = .ok (.ireturn, 1) := by decide +kernel
theorem dX12_both_18 : decode cX12_both 18 = .ok (.iconst 0, 1) := by decide +kernel
theorem dX12_both_19 : decode cX12_both 19 = .ok (.istore_n 3, 1) := by decide +kernel
theorem dX12_both_20 : decode cX12_both 20 = .ok (.iload_n 3, 1) := by decide +kernel
theorem dX12_both_21 : decode cX12_both 21 = .ok (.sipush 13068, 3) := by decide +kernel
theorem dX12_both_24 : decode cX12_both 24 = .ok (.if_icmp .ge 16, 3) := by decide +kernel
theorem dX12_both_27 : decode cX12_both 27 = .ok (.aload_n 0, 1) := by decide +kernel
theorem dX12_both_28 : decode cX12_both 28 = .ok (.getfield 53, 3) := by decide +kernel
theorem dX12_both_31 : decode cX12_both 31 = .ok (.iload_n 3, 1) := by decide +kernel
theorem dX12_both_32 : decode cX12_both 32 = .ok (.iconst 0, 1) := by decide +kernel
theorem dX12_both_33 : decode cX12_both 33 = .ok (.iastore, 1) := by decide +kernel
theorem dX12_both_34 : decode cX12_both 34 = .ok (.iinc 3 1, 3) := by decide +kernel
theorem dX12_both_37 : decode cX12_both 37 = .ok (.goto (-17), 3) := by decide +kernel
theorem dX12_both_40 : decode cX12_both 40 = .ok (.iconst 0, 1) := by decide +kernel
theorem dX12_both_41 : decode cX12_both 41 = .ok (.istore_n 3, 1) := by decide +kernel
theorem dX12_both_42 : decode cX12_both 42 = .ok (.iload_n 3, 1) := by decide +kernel
theorem dX12_both_43 : decode cX12_both 43 = .ok (.aload_n 0, 1) := by decide +kernel
theorem dX12_both_44 : decode cX12_both 44 = .ok (.getfield 88, 3) := by decide +kernel
theorem dX12_both_47 : decode cX12_both 47 = .ok (.if_icmp .ge 39, 3) := by decide +kernel
theorem dX12_both_50 : decode cX12_both 50 = .ok (.aload_n 0, 1) := by decide +kernel
theorem dX12_both_51 : decode cX12_both 51 = .ok (.getfield 53, 3) := by decide +kernel
theorem dX12_both_54 : decode cX12_both 54 = .ok (.sipush 1089, 3) := by decide +kernel
theorem dX12_both_57 : decode cX12_both 57 = .ok (.iload_n 3, 1) := by decide +kernel
theorem dX12_both_58 : decode cX12_both 58 = .ok (.imul, 1) := by decide +kernel
theorem dX12_both_59 : decode cX12_both 59 = .ok (.bipush 33, 2) := by decide +kernel
theorem dX12_both_61 : decode cX12_both 61 = .ok (.aload_n 0, 1) := by decide +kernel
theorem dX12_both_62 : decode cX12_both 62 = .ok (.iload_n 1, 1) := by decide +kernel
theorem dX12_both_63 : decode cX12_both 63 = .ok (.iconst 0, 1) := by decide +kernel
theorem dX12_both_64 : decode cX12_both 64 = .ok (.iload_n 3, 1) := by decide +kernel
theorem dX12_both_65 : decode cX12_both 65 = .ok (.invokevirtual 200, 3) := by decide +kernel
theorem dX12_both_68 : decode cX12_both 68 = .ok (.imul, 1) := by decide +kernel
theorem dX12_both_69 : decode cX12_both 69 = .ok (.iadd, 1) := by decide +kernel
theorem dX12_both_70 : decode cX12_both 70 = .ok (.aload_n 0, 1) := by decide +kernel
theorem dX12_both_71 : decode cX12_both 71 = .ok (.iload_n 2, 1) := by decide +kernel
theorem dX12_both_72 : decode cX12_both 72 = .ok (.iconst 0, 1) := by decide +kernel
theorem dX12_both_73 : decode cX12_both 73 = .ok (.iload_n 3, 1) := by decide +kernel
theorem dX12_both_74 : decode cX12_both 74 = .ok (.invokevirtual 200, 3) := by decide +kernel
theorem dX12_both_77 : decode cX12_both 77 = .ok (.iadd, 1) := by decide +kernel
theorem dX12_both_78 : decode cX12_both 78 = .ok (.iconst 1, 1) := by decide +kernel
theorem dX12_both_79 : decode cX12_both 79 = .ok (.iastore, 1) := by decide +kernel
theorem dX12_both_80 : decode cX12_both 80 = .ok (.iinc 3 1, 3) := by decide +kernel
theorem dX12_both_83 : decode cX12_both 83 = .ok (.goto (-41), 3) := by decide +kernel
theorem dX12_both_86 : decode cX12_both 86 = .ok (.iconst 1, 1) := by decide +kernel
theorem dX12_both_87 : decode cX12_both 87 = .ok (.istore_n 3, 1) := by decide +kernel
theorem dX12_both_88 : decode cX12_both 88 = .ok (.iconst 1, 1) := by decide +kernel
theorem dX12_both_89 : decode cX12_both 89 = .ok (.istore 4, 2) := by decide +kernel
theorem dX12_both_91 : decode cX12_both 91 = .ok (.iload_n 3, 1) := by decide +kernel
theorem dX12_both_92 : decode cX12_both 92 = .ok (.ifCond .eq 69, 3) := by decide +kernel
theorem dX12_both_95 : decode cX12_both 95 = .ok (.iconst 0, 1) := by decide +kernel
theorem dX12_both_96 : decode cX12_both 96 = .ok (.istore_n 3, 1) := by decide +kernel
theorem dX12_both_97 : decode cX12_both 97 = .ok (.iconst 0, 1) := by decide +kernel
theorem dX12_both_98 : decode cX12_both 98 = .ok (.istore 5, 2) := by decide +kernel
theorem dX12_both_100 : decode cX12_both 100 = .ok (.iload 5, 2) := by decide +kernel
theorem dX12_both_102 : decode cX12_both 102 = .ok (.sipush 13068, 3) := by decide +kernel
theorem dX12_both_105 : decode cX12_both 105 = .ok (.if_icmp .ge 50, 3) := by decide +kernel
theorem dX12_both_108 : decode cX12_both 108 = .ok (.aload_n 0, 1) := by decide +kernel
theorem dX12_both_109 : decode cX12_both 109 = .ok (.getfield 53, 3) := by decide +kernel
theorem dX12_both_112 : decode cX12_both 112 = .ok (.iload 5, 2) := by decide +kernel
theorem dX12_both_114 : decode cX12_both 114 = .ok (.iaload, 1) := by decide +kernel
theorem dX12_both_115 : decode cX12_both 115 = .ok (.iload 4, 2) := by decide +kernel
theorem dX12_both_117 : decode cX12_both 117 = .ok (.if_icmp .ne 32, 3) := by decide +kernel
theorem dX12_both_120 : decode cX12_both 120 = .ok (.iload 5, 2) := by decide +kernel
theorem dX12_both_122 : decode cX12_both 122 = .ok (.sipush 1089, 3) := by decide +kernel
theorem dX12_both_125 : decode cX12_both 125 = .ok (.irem, 1) := by decide +kernel
theorem dX12_both_126 : decode cX12_both 126 = .ok (.sipush 1088, 3) := by decide +kernel
theorem dX12_both_129 : decode cX12_both 129 = .ok (.if_icmp .ne 6, 3) := by decide +kernel
theorem dX12_both_132 : decode cX12_both 132 = .ok (.iload 4, 2) := by decide +kernel
theorem dX12_both_134 : decode cX12_both 134 = .ok (.ireturn, 1) := by decide +kernel
theorem dX12_both_135 : decode cX12_both 135 = .ok (.iconst 1, 1) := by decide +kernel
theorem dX12_both_136 : decode cX12_both 136 = .ok (.istore_n 3, 1) := by decide +kernel
theorem dX12_both_137 : decode cX12_both 137 = .ok (.aload_n 0, 1) := by decide +kernel
theorem dX12_both_138 : decode cX12_both 138 = .ok (.iload_n 1, 1) := by decide +kernel
theorem dX12_both_139 : decode cX12_both 139 = .ok (.iload_n 2, 1) := by decide +kernel
theorem dX12_both_140 : decode cX12_both 140 = .ok (.iload 5, 2) := by decide +kernel
theorem dX12_both_142 : decode cX12_both 142 = .ok (.iload 4, 2) := by decide +kernel
theorem dX12_both_144 : decode cX12_both 144 = .ok (.iconst 1, 1) := by decide +kernel
theorem dX12_both_145 : decode cX12_both 145 = .ok (.iadd, 1) := by decide +kernel
theorem dX12_both_146 : decode cX12_both 146 = .ok (.invokevirtual 203, 3) := by decide +kernel
theorem dX12_both_149 : decode cX12_both 149 = .ok (.iinc 5 1, 3) := by decide +kernel
theorem dX12_both_152 : decode cX12_both 152 = .ok (.goto (-52), 3) := by decide +kernel
theorem dX12_both_155 : decode cX12_both 155 = .ok (.iinc 4 1, 3) := by decide +kernel
theorem dX12_both_158 : decode cX12_both 158 = .ok (.goto (-67), 3) := by decide +kernel
theorem dX12_both_161 : decode cX12_both 161 = .ok (.bipush (-9), 2) := by decide +kernel
theorem dX12_both_163 : decode cX12_both 163 = .ok (.ireturn, 1) := by decide +kernel
theorem dX12_bothOn_0 : decode cX12_bothOn 0 = .ok (.iconst 0, 1) := by decide +kernel
theorem dX12_bothOn_1 : decode cX12_bothOn 1 = .ok (.istore 5, 2) := by decide +kernel
theorem dX12_bothOn_3 : decode cX12_bothOn 3 = .ok (.iload 5, 2) := by decide +kernel
theorem dX12_bothOn_5 : decode cX12_bothOn 5 = .ok (.aload_n 0, 1) := by decide +kernel
theorem dX12_bothOn_6 : decode cX12_bothOn 6 = .ok (.getfield 88, 3) := by decide +kernel
theorem dX12_bothOn_9 : decode cX12_bothOn 9 = .ok (.if_icmp .ge 96, 3) := by decide +kernel
theorem dX12_bothOn_12 : decode cX12_bothOn 12 = .ok (.aload_n 0, 1) := by decide +kernel
theorem dX12_bothOn_13 : decode cX12_bothOn 13 = .ok (.getfield 25, 3) := by decide +kernel
theorem dX12_bothOn_16 : decode cX12_bothOn 16 = .ok (.iload_n 3, 1) := by decide +kernel
theorem dX12_bothOn_17 : decode cX12_bothOn 17 = .ok (.sipush 1089, 3) := by decide +kernel
theorem dX12_bothOn_20 : decode cX12_bothOn 20 = .ok (.idiv, 1) := by decide +kernel
theorem dX12_bothOn_21 : decode cX12_bothOn 21 = .ok (.iaload, 1) := by decide +kernel
theorem dX12_bothOn_22 : decode cX12_bothOn 22 = .ok (.iload 5, 2) := by decide +kernel
theorem dX12_bothOn_24 : decode cX12_bothOn 24 = .ok (.ishr, 1) := by decide +kernel
theorem dX12_bothOn_25 : decode cX12_bothOn 25 = .ok (.iconst 1, 1) := by decide +kernel
theorem dX12_bothOn_26 : decode cX12_bothOn 26 = .ok (.iand, 1) := by decide +kernel
theorem dX12_bothOn_27 : decode cX12_bothOn 27 = .ok (.iconst 1, 1) := by decide +kernel
theorem dX12_bothOn_28 : decode cX12_bothOn 28 = .ok (.if_icmp .ne 71, 3) := by decide +kernel
theorem dX12_bothOn_31 : decode cX12_bothOn 31 = .ok (.sipush 1089, 3) := by decide +kernel
theorem dX12_bothOn_34 : decode cX12_bothOn 34 = .ok (.iload 5, 2) := by decide +kernel
theorem dX12_bothOn_36 : decode cX12_bothOn 36 = .ok (.imul, 1) := by decide +kernel
theorem dX12_bothOn_37 : decode cX12_bothOn 37 = .ok (.bipush 33, 2) := by decide +kernel
theorem dX12_bothOn_39 : decode cX12_bothOn 39 = .ok (.aload_n 0, 1) := by decide +kernel
theorem dX12_bothOn_40 : decode cX12_bothOn 40 = .ok (.iload_n 1, 1) := by decide +kernel
theorem dX12_bothOn_41 : decode cX12_bothOn 41 = .ok (.iload_n 3, 1) := by decide +kernel
theorem dX12_bothOn_42 : decode cX12_bothOn 42 = .ok (.sipush 1089, 3) := by decide +kernel
theorem dX12_bothOn_45 : decode cX12_bothOn 45 = .ok (.irem, 1) := by decide +kernel
theorem dX12_bothOn_46 : decode cX12_bothOn 46 = .ok (.bipush 33, 2) := by decide +kernel
theorem dX12_bothOn_48 : decode cX12_bothOn 48 = .ok (.idiv, 1) := by decide +kernel
theorem dX12_bothOn_49 : decode cX12_bothOn 49 = .ok (.iload 5, 2) := by decide +kernel
theorem dX12_bothOn_51 : decode cX12_bothOn 51 = .ok (.invokevirtual 200, 3) := by decide +kernel
theorem dX12_bothOn_54 : decode cX12_bothOn 54 = .ok (.imul, 1) := by decide +kernel
theorem dX12_bothOn_55 : decode cX12_bothOn 55 = .ok (.iadd, 1) := by decide +kernel
theorem dX12_bothOn_56 : decode cX12_bothOn 56 = .ok (.aload_n 0, 1) := by decide +kernel
theorem dX12_bothOn_57 : decode cX12_bothOn 57 = .ok (.iload_n 2, 1) := by decide +kernel
theorem dX12_bothOn_58 : decode cX12_bothOn 58 = .ok (.iload_n 3, 1) := by decide +kernel
theorem dX12_bothOn_59 : decode cX12_bothOn 59 = .ok (.bipush 33, 2) := by decide +kernel
theorem dX12_bothOn_61 : decode cX12_bothOn 61 = .ok (.irem, 1) := by decide +kernel
theorem dX12_bothOn_62 : decode cX12_bothOn 62 = .ok (.iload 5, 2) := by decide +kernel
theorem dX12_bothOn_64 : decode cX12_bothOn 64 = .ok (.invokevirtual 200, 3) := by decide +kernel
theorem dX12_bothOn_67 : decode cX12_bothOn 67 = .ok (.iadd, 1) := by decide +kernel
theorem dX12_bothOn_68 : decode cX12_bothOn 68 = .ok (.istore 6, 2) := by decide +kernel
theorem dX12_bothOn_70 : decode cX12_bothOn 70 = .ok (.aload_n 0, 1) := by decide +kernel
theorem dX12_bothOn_71 : decode cX12_bothOn 71 = .ok (.getfield 53, 3) := by decide +kernel
theorem dX12_bothOn_74 : decode cX12_bothOn 74 = .ok (.iload 6, 2) := by decide +kernel
theorem dX12_bothOn_76 : decode cX12_bothOn 76 = .ok (.aload_n 0, 1) := by decide +kernel
theorem dX12_bothOn_77 : decode cX12_bothOn 77 = .ok (.getfield 53, 3) := by decide +kernel
theorem dX12_bothOn_80 : decode cX12_bothOn 80 = .ok (.iload 6, 2) := by decide +kernel
theorem dX12_bothOn_82 : decode cX12_bothOn 82 = .ok (.iaload, 1) := by decide +kernel
theorem dX12_bothOn_83 : decode cX12_bothOn 83 = .ok (.ifCond .ne 8, 3) := by decide +kernel
theorem dX12_bothOn_86 : decode cX12_bothOn 86 = .ok (.iload 4, 2) := by decide +kernel
theorem dX12_bothOn_88 : decode cX12_bothOn 88 = .ok (.goto 10, 3) := by decide +kernel
theorem dX12_bothOn_91 : decode cX12_bothOn 91 = .ok (.aload_n 0, 1) := by decide +kernel
theorem dX12_bothOn_92 : decode cX12_bothOn 92 = .ok (.getfield 53, 3) := by decide +kernel
theorem dX12_bothOn_95 : decode cX12_bothOn 95 = .ok (.iload 6, 2) := by decide +kernel
theorem dX12_bothOn_97 : decode cX12_bothOn 97 = .ok (.iaload, 1) := by decide +kernel
theorem dX12_bothOn_98 : decode cX12_bothOn 98 = .ok (.iastore, 1) := by decide +kernel
theorem dX12_bothOn_99 : decode cX12_bothOn 99 = .ok (.iinc 5 1, 3) := by decide +kernel
theorem dX12_bothOn_102 : decode cX12_bothOn 102 = .ok (.goto (-99), 3) := by decide +kernel
theorem dX12_bothOn_105 : decode cX12_bothOn 105 = .ok (.return_, 1) := by decide +kernel
theorem dX12_hear_0 : decode cX12_hear 0 = .ok (.iload_n 1, 1) := by decide +kernel
theorem dX12_hear_1 : decode cX12_hear 1 = .ok (.i2l, 1) := by decide +kernel
theorem dX12_hear_2 : decode cX12_hear 2 = .ok (.lconst 0, 1) := by decide +kernel
theorem dX12_hear_3 : decode cX12_hear 3 = .ok (.ldc2_w 92, 3) := by decide +kernel
theorem dX12_hear_6 : decode cX12_hear 6 = .ok (.invokestatic 94, 3) := by decide +kernel
theorem dX12_hear_9 : decode cX12_hear 9 = .ok (.ifCond .ne 6, 3) := by decide +kernel
theorem dX12_hear_12 : decode cX12_hear 12 = .ok (.bipush (-2), 2) := by decide +kernel
theorem dX12_hear_14 : decode cX12_hear 14 = .ok (.ireturn, 1) := by decide +kernel
theorem dX12_hear_15 : decode cX12_hear 15 = .ok (.aload_n 0, 1) := by decide +kernel
theorem dX12_hear_16 : decode cX12_hear 16 = .ok (.getfield 154, 3) := by decide +kernel
theorem dX12_hear_19 : decode cX12_hear 19 = .ok (.bipush 12, 2) := by decide +kernel
theorem dX12_hear_21 : decode cX12_hear 21 = .ok (.if_icmp .ne 6, 3) := by decide +kernel
theorem dX12_hear_24 : decode cX12_hear 24 = .ok (.bipush (-4), 2) := by decide +kernel
theorem dX12_hear_26 : decode cX12_hear 26 = .ok (.ireturn, 1) := by decide +kernel
theorem dX12_hear_27 : decode cX12_hear 27 = .ok (.aload_n 0, 1) := by decide +kernel
theorem dX12_hear_28 : decode cX12_hear 28 = .ok (.getfield 56, 3) := by decide +kernel
theorem dX12_hear_31 : decode cX12_hear 31 = .ok (.aload_n 0, 1) := by decide +kernel
theorem dX12_hear_32 : decode cX12_hear 32 = .ok (.getfield 154, 3) := by decide +kernel
theorem dX12_hear_35 : decode cX12_hear 35 = .ok (.iload_n 1, 1) := by decide +kernel
theorem dX12_hear_36 : decode cX12_hear 36 = .ok (.iastore, 1) := by decide +kernel
theorem dX12_hear_37 : decode cX12_hear 37 = .ok (.aload_n 0, 1) := by decide +kernel
theorem dX12_hear_38 : decode cX12_hear 38 = .ok (.dup, 1) := by decide +kernel
theorem dX12_hear_39 : decode cX12_hear 39 = .ok (.getfield 154, 3) := by decide +kernel
theorem dX12_hear_42 : decode cX12_hear 42 = .ok (.iconst 1, 1) := by decide +kernel
theorem dX12_hear_43 : decode cX12_hear 43 = .ok (.iadd, 1) := by decide +kernel
theorem dX12_hear_44 : decode cX12_hear 44 = .ok (.putfield 154, 3) := by decide +kernel
theorem dX12_hear_47 : decode cX12_hear 47 = .ok (.aload_n 0, 1) := by decide +kernel
theorem dX12_hear_48 : decode cX12_hear 48 = .ok (.getfield 154, 3) := by decide +kernel
theorem dX12_hear_51 : decode cX12_hear 51 = .ok (.ireturn, 1) := by decide +kernel
theorem dX12_deaf_0 : decode cX12_deaf 0 = .ok (.aload_n 0, 1) := by decide +kernel
theorem dX12_deaf_1 : decode cX12_deaf 1 = .ok (.getfield 154, 3) := by decide +kernel
theorem dX12_deaf_4 : decode cX12_deaf 4 = .ok (.istore_n 1, 1) := by decide +kernel
theorem dX12_deaf_5 : decode cX12_deaf 5 = .ok (.aload_n 0, 1) := by decide +kernel
theorem dX12_deaf_6 : decode cX12_deaf 6 = .ok (.iconst 0, 1) := by decide +kernel
theorem dX12_deaf_7 : decode cX12_deaf 7 = .ok (.putfield 154, 3) := by decide +kernel
theorem dX12_deaf_10 : decode cX12_deaf 10 = .ok (.iload_n 1, 1) := by decide +kernel
theorem dX12_deaf_11 : decode cX12_deaf 11 = .ok (.ireturn, 1) := by decide +kernel
theorem dX12_sounding_0 : decode cX12_sounding 0 = .ok (.iconst 0, 1) := by decide +kernel
theorem dX12_sounding_1 : decode cX12_sounding 1 = .ok (.istore_n 2, 1) := by decide +kernel
theorem dX12_sounding_2 : decode cX12_sounding 2 = .ok (.iconst 0, 1) := by decide +kernel
theorem dX12_sounding_3 : decode cX12_sounding 3 = .ok (.istore_n 3, 1) := by decide +kernel
theorem dX12_sounding_4 : decode cX12_sounding 4 = .ok (.iload_n 3, 1) := by decide +kernel
theorem dX12_sounding_5 : decode cX12_sounding 5 = .ok (.aload_n 0, 1) := by decide +kernel
theorem dX12_sounding_6 : decode cX12_sounding 6 = .ok (.getfield 88, 3) := by decide +kernel
theorem dX12_sounding_9 : decode cX12_sounding 9 = .ok (.if_icmp .ge 35, 3) := by decide +kernel
theorem dX12_sounding_12 : decode cX12_sounding 12 = .ok (.iload_n 2, 1) := by decide +kernel
theorem dX12_sounding_13 : decode cX12_sounding 13 = .ok (.iload_n 1, 1) := by decide +kernel
theorem dX12_sounding_14 : decode cX12_sounding 14 = .ok (.bipush 8, 2) := by decide +kernel
theorem dX12_sounding_16 : decode cX12_sounding 16 = .ok (.if_icmp .eq 13, 3) := by decide +kernel
theorem dX12_sounding_19 : decode cX12_sounding 19 = .ok (.aload_n 0, 1) := by decide +kernel
theorem dX12_sounding_20 : decode cX12_sounding 20 = .ok (.getfield 22, 3) := by decide +kernel
theorem dX12_sounding_23 : decode cX12_sounding 23 = .ok (.iload_n 3, 1) := by decide +kernel
theorem dX12_sounding_24 : decode cX12_sounding 24 = .ok (.iaload, 1) := by decide +kernel
theorem dX12_sounding_25 : decode cX12_sounding 25 = .ok (.iload_n 1, 1) := by decide +kernel
theorem dX12_sounding_26 : decode cX12_sounding 26 = .ok (.if_icmp .ne 9, 3) := by decide +kernel
theorem dX12_sounding_29 : decode cX12_sounding 29 = .ok (.iconst 1, 1) := by decide +kernel
theorem dX12_sounding_30 : decode cX12_sounding 30 = .ok (.iload_n 3, 1) := by decide +kernel
theorem dX12_sounding_31 : decode cX12_sounding 31 = .ok (.ishl, 1) := by decide +kernel
theorem dX12_sounding_32 : decode cX12_sounding 32 = .ok (.goto 4, 3) := by decide +kernel
theorem dX12_sounding_35 : decode cX12_sounding 35 = .ok (.iconst 0, 1) := by decide +kernel
theorem dX12_sounding_36 : decode cX12_sounding 36 = .ok (.ior, 1) := by decide +kernel
theorem dX12_sounding_37 : decode cX12_sounding 37 = .ok (.istore_n 2, 1) := by decide +kernel
theorem dX12_sounding_38 : decode cX12_sounding 38 = .ok (.iinc 3 1, 3) := by decide +kernel
theorem dX12_sounding_41 : decode cX12_sounding 41 = .ok (.goto (-37), 3) := by decide +kernel
theorem dX12_sounding_44 : decode cX12_sounding 44 = .ok (.iload_n 2, 1) := by decide +kernel
theorem dX12_sounding_45 : decode cX12_sounding 45 = .ok (.ireturn, 1) := by decide +kernel
theorem dX12_beside_0 : decode cX12_beside 0 = .ok (.iconst 0, 1) := by decide +kernel
theorem dX12_beside_1 : decode cX12_beside 1 = .ok (.istore_n 2, 1) := by decide +kernel
theorem dX12_beside_2 : decode cX12_beside 2 = .ok (.iconst 0, 1) := by decide +kernel
theorem dX12_beside_3 : decode cX12_beside 3 = .ok (.istore_n 3, 1) := by decide +kernel
theorem dX12_beside_4 : decode cX12_beside 4 = .ok (.iload_n 3, 1) := by decide +kernel
theorem dX12_beside_5 : decode cX12_beside 5 = .ok (.aload_n 0, 1) := by decide +kernel
theorem dX12_beside_6 : decode cX12_beside 6 = .ok (.getfield 88, 3) := by decide +kernel
theorem dX12_beside_9 : decode cX12_beside 9 = .ok (.if_icmp .ge 31, 3) := by decide +kernel
theorem dX12_beside_12 : decode cX12_beside 12 = .ok (.iload_n 2, 1) := by decide +kernel
theorem dX12_beside_13 : decode cX12_beside 13 = .ok (.iload_n 1, 1) := by decide +kernel
theorem dX12_beside_14 : decode cX12_beside 14 = .ok (.iload_n 3, 1) := by decide +kernel
theorem dX12_beside_15 : decode cX12_beside 15 = .ok (.ishr, 1) := by decide +kernel
theorem dX12_beside_16 : decode cX12_beside 16 = .ok (.iconst 1, 1) := by decide +kernel
theorem dX12_beside_17 : decode cX12_beside 17 = .ok (.iand, 1) := by decide +kernel
theorem dX12_beside_18 : decode cX12_beside 18 = .ok (.iconst 1, 1) := by decide +kernel
theorem dX12_beside_19 : decode cX12_beside 19 = .ok (.if_icmp .ne 12, 3) := by decide +kernel
theorem dX12_beside_22 : decode cX12_beside 22 = .ok (.aload_n 0, 1) := by decide +kernel
theorem dX12_beside_23 : decode cX12_beside 23 = .ok (.getfield 25, 3) := by decide +kernel
theorem dX12_beside_26 : decode cX12_beside 26 = .ok (.iload_n 3, 1) := by decide +kernel
theorem dX12_beside_27 : decode cX12_beside 27 = .ok (.iaload, 1) := by decide +kernel
theorem dX12_beside_28 : decode cX12_beside 28 = .ok (.goto 4, 3) := by decide +kernel
theorem dX12_beside_31 : decode cX12_beside 31 = .ok (.iconst 0, 1) := by decide +kernel
theorem dX12_beside_32 : decode cX12_beside 32 = .ok (.ior, 1) := by decide +kernel
theorem dX12_beside_33 : decode cX12_beside 33 = .ok (.istore_n 2, 1) := by decide +kernel
theorem dX12_beside_34 : decode cX12_beside 34 = .ok (.iinc 3 1, 3) := by decide +kernel
theorem dX12_beside_37 : decode cX12_beside 37 = .ok (.goto (-33), 3) := by decide +kernel
theorem dX12_beside_40 : decode cX12_beside 40 = .ok (.iload_n 2, 1) := by decide +kernel
theorem dX12_beside_41 : decode cX12_beside 41 = .ok (.ireturn, 1) := by decide +kernel
theorem dX12_mayBe_0 : decode cX12_mayBe 0 = .ok (.iload_n 1, 1) := by decide +kernel
theorem dX12_mayBe_1 : decode cX12_mayBe 1 = .ok (.i2l, 1) := by decide +kernel
theorem dX12_mayBe_2 : decode cX12_mayBe 2 = .ok (.lconst 0, 1) := by decide +kernel
theorem dX12_mayBe_3 : decode cX12_mayBe 3 = .ok (.aload_n 0, 1) := by decide +kernel
theorem dX12_mayBe_4 : decode cX12_mayBe 4 = .ok (.getfield 154, 3) := by decide +kernel
theorem dX12_mayBe_7 : decode cX12_mayBe 7 = .ok (.iconst 1, 1) := by decide +kernel
theorem dX12_mayBe_8 : decode cX12_mayBe 8 = .ok (.isub, 1) := by decide +kernel
theorem dX12_mayBe_9 : decode cX12_mayBe 9 = .ok (.i2l, 1) := by decide +kernel
theorem dX12_mayBe_10 : decode cX12_mayBe 10 = .ok (.invokestatic 94, 3) := by decide +kernel
theorem dX12_mayBe_13 : decode cX12_mayBe 13 = .ok (.ifCond .ne 6, 3) := by decide +kernel
theorem dX12_mayBe_16 : decode cX12_mayBe 16 = .ok (.bipush (-2), 2) := by decide +kernel
theorem dX12_mayBe_18 : decode cX12_mayBe 18 = .ok (.ireturn, 1) := by decide +kernel
theorem dX12_mayBe_19 : decode cX12_mayBe 19 = .ok (.aload_n 0, 1) := by decide +kernel
theorem dX12_mayBe_20 : decode cX12_mayBe 20 = .ok (.aload_n 0, 1) := by decide +kernel
theorem dX12_mayBe_21 : decode cX12_mayBe 21 = .ok (.getfield 56, 3) := by decide +kernel
theorem dX12_mayBe_24 : decode cX12_mayBe 24 = .ok (.iconst 0, 1) := by decide +kernel
theorem dX12_mayBe_25 : decode cX12_mayBe 25 = .ok (.iaload, 1) := by decide +kernel
theorem dX12_mayBe_26 : decode cX12_mayBe 26 = .ok (.invokevirtual 206, 3) := by decide +kernel
theorem dX12_mayBe_29 : decode cX12_mayBe 29 = .ok (.istore_n 2, 1) := by decide +kernel
theorem dX12_mayBe_30 : decode cX12_mayBe 30 = .ok (.iconst 1, 1) := by decide +kernel
theorem dX12_mayBe_31 : decode cX12_mayBe 31 = .ok (.istore_n 3, 1) := by decide +kernel
theorem dX12_mayBe_32 : decode cX12_mayBe 32 = .ok (.iload_n 3, 1) := by decide +kernel
theorem dX12_mayBe_33 : decode cX12_mayBe 33 = .ok (.iload_n 1, 1) := by decide +kernel
theorem dX12_mayBe_34 : decode cX12_mayBe 34 = .ok (.if_icmp .gt 26, 3) := by decide +kernel
theorem dX12_mayBe_37 : decode cX12_mayBe 37 = .ok (.aload_n 0, 1) := by decide +kernel
theorem dX12_mayBe_38 : decode cX12_mayBe 38 = .ok (.iload_n 2, 1) := by decide +kernel
theorem dX12_mayBe_39 : decode cX12_mayBe 39 = .ok (.invokevirtual 209, 3) := by decide +kernel
theorem dX12_mayBe_42 : decode cX12_mayBe 42 = .ok (.aload_n 0, 1) := by decide +kernel
theorem dX12_mayBe_43 : decode cX12_mayBe 43 = .ok (.aload_n 0, 1) := by decide +kernel
theorem dX12_mayBe_44 : decode cX12_mayBe 44 = .ok (.getfield 56, 3) := by decide +kernel
theorem dX12_mayBe_47 : decode cX12_mayBe 47 = .ok (.iload_n 3, 1) := by decide +kernel
theorem dX12_mayBe_48 : decode cX12_mayBe 48 = .ok (.iaload, 1) := by decide +kernel
theorem dX12_mayBe_49 : decode cX12_mayBe 49 = .ok (.invokevirtual 206, 3) := by decide +kernel
theorem dX12_mayBe_52 : decode cX12_mayBe 52 = .ok (.iand, 1) := by decide +kernel
theorem dX12_mayBe_53 : decode cX12_mayBe 53 = .ok (.istore_n 2, 1) := by decide +kernel
theorem dX12_mayBe_54 : decode cX12_mayBe 54 = .ok (.iinc 3 1, 3) := by decide +kernel
theorem dX12_mayBe_57 : decode cX12_mayBe 57 = .ok (.goto (-25), 3) := by decide +kernel
theorem dX12_mayBe_60 : decode cX12_mayBe 60 = .ok (.aload_n 0, 1) := by decide +kernel
theorem dX12_mayBe_61 : decode cX12_mayBe 61 = .ok (.aload_n 0, 1) := by decide +kernel
theorem dX12_mayBe_62 : decode cX12_mayBe 62 = .ok (.getfield 56, 3) := by decide +kernel
theorem dX12_mayBe_65 : decode cX12_mayBe 65 = .ok (.aload_n 0, 1) := by decide +kernel
theorem dX12_mayBe_66 : decode cX12_mayBe 66 = .ok (.getfield 154, 3) := by decide +kernel
theorem dX12_mayBe_69 : decode cX12_mayBe 69 = .ok (.iconst 1, 1) := by decide +kernel
theorem dX12_mayBe_70 : decode cX12_mayBe 70 = .ok (.isub, 1) := by decide +kernel
theorem dX12_mayBe_71 : decode cX12_mayBe 71 = .ok (.iaload, 1) := by decide +kernel
theorem dX12_mayBe_72 : decode cX12_mayBe 72 = .ok (.invokevirtual 206, 3) := by decide +kernel
theorem dX12_mayBe_75 : decode cX12_mayBe 75 = .ok (.istore_n 3, 1) := by decide +kernel
theorem dX12_mayBe_76 : decode cX12_mayBe 76 = .ok (.aload_n 0, 1) := by decide +kernel
theorem dX12_mayBe_77 : decode cX12_mayBe 77 = .ok (.getfield 154, 3) := by decide +kernel
theorem dX12_mayBe_80 : decode cX12_mayBe 80 = .ok (.iconst 2, 1) := by decide +kernel
theorem dX12_mayBe_81 : decode cX12_mayBe 81 = .ok (.isub, 1) := by decide +kernel
theorem dX12_mayBe_82 : decode cX12_mayBe 82 = .ok (.istore 4, 2) := by decide +kernel
theorem dX12_mayBe_84 : decode cX12_mayBe 84 = .ok (.iload 4, 2) := by decide +kernel
theorem dX12_mayBe_86 : decode cX12_mayBe 86 = .ok (.iload_n 1, 1) := by decide +kernel
theorem dX12_mayBe_87 : decode cX12_mayBe 87 = .ok (.if_icmp .lt 27, 3) := by decide +kernel
theorem dX12_mayBe_90 : decode cX12_mayBe 90 = .ok (.aload_n 0, 1) := by decide +kernel
theorem dX12_mayBe_91 : decode cX12_mayBe 91 = .ok (.iload_n 3, 1) := by decide +kernel
theorem dX12_mayBe_92 : decode cX12_mayBe 92 = .ok (.invokevirtual 209, 3) := by decide +kernel
theorem dX12_mayBe_95 : decode cX12_mayBe 95 = .ok (.aload_n 0, 1) := by decide +kernel
theorem dX12_mayBe_96 : decode cX12_mayBe 96 = .ok (.aload_n 0, 1) := by decide +kernel
theorem dX12_mayBe_97 : decode cX12_mayBe 97 = .ok (.getfield 56, 3) := by decide +kernel
theorem dX12_mayBe_100 : decode cX12_mayBe 100 = .ok (.iload 4, 2) := by decide +kernel
theorem dX12_mayBe_102 : decode cX12_mayBe 102 = .ok (.iaload, 1) := by decide +kernel
theorem dX12_mayBe_103 : decode cX12_mayBe 103 = .ok (.invokevirtual 206, 3) := by decide +kernel
theorem dX12_mayBe_106 : decode cX12_mayBe 106 = .ok (.iand, 1) := by decide +kernel
theorem dX12_mayBe_107 : decode cX12_mayBe 107 = .ok (.istore_n 3, 1) := by decide +kernel
theorem dX12_mayBe_108 : decode cX12_mayBe 108 = .ok (.iinc 4 (-1), 3) := by decide +kernel
theorem dX12_mayBe_111 : decode cX12_mayBe 111 = .ok (.goto (-27), 3) := by decide +kernel
theorem dX12_mayBe_114 : decode cX12_mayBe 114 = .ok (.iload_n 2, 1) := by decide +kernel
theorem dX12_mayBe_115 : decode cX12_mayBe 115 = .ok (.iload_n 3, 1) := by decide +kernel
theorem dX12_mayBe_116 : decode cX12_mayBe 116 = .ok (.iand, 1) := by decide +kernel
theorem dX12_mayBe_117 : decode cX12_mayBe 117 = .ok (.ireturn, 1) := by decide +kernel
theorem dX12_fitting_0 : decode cX12_fitting 0 = .ok (.aload_n 0, 1) := by decide +kernel
theorem dX12_fitting_1 : decode cX12_fitting 1 = .ok (.getfield 154, 3) := by decide +kernel
theorem dX12_fitting_4 : decode cX12_fitting 4 = .ok (.ifCond .ne 7, 3) := by decide +kernel
theorem dX12_fitting_7 : decode cX12_fitting 7 = .ok (.lconst 1, 1) := by decide +kernel
theorem dX12_fitting_8 : decode cX12_fitting 8 = .ok (.goto 4, 3) := by decide +kernel
theorem dX12_fitting_11 : decode cX12_fitting 11 = .ok (.lconst 0, 1) := by decide +kernel
theorem dX12_fitting_12 : decode cX12_fitting 12 = .ok (.lstore_n 1, 1) := by decide +kernel
theorem dX12_fitting_13 : decode cX12_fitting 13 = .ok (.iconst 0, 1) := by decide +kernel
theorem dX12_fitting_14 : decode cX12_fitting 14 = .ok (.istore_n 3, 1) := by decide +kernel
theorem dX12_fitting_15 : decode cX12_fitting 15 = .ok (.iload_n 3, 1) := by decide +kernel
theorem dX12_fitting_16 : decode cX12_fitting 16 = .ok (.aload_n 0, 1) := by decide +kernel
theorem dX12_fitting_17 : decode cX12_fitting 17 = .ok (.getfield 154, 3) := by decide +kernel
theorem dX12_fitting_20 : decode cX12_fitting 20 = .ok (.if_icmp .ge 178, 3) := by decide +kernel
theorem dX12_fitting_23 : decode cX12_fitting 23 = .ok (.aload_n 0, 1) := by decide +kernel
theorem dX12_fitting_24 : decode cX12_fitting 24 = .ok (.aload_n 0, 1) := by decide +kernel
theorem dX12_fitting_25 : decode cX12_fitting 25 = .ok (.getfield 56, 3) := by decide +kernel
theorem dX12_fitting_28 : decode cX12_fitting 28 = .ok (.iload_n 3, 1) := by decide +kernel
theorem dX12_fitting_29 : decode cX12_fitting 29 = .ok (.iaload, 1) := by decide +kernel
theorem dX12_fitting_30 : decode cX12_fitting 30 = .ok (.invokevirtual 206, 3) := by decide +kernel
theorem dX12_fitting_33 : decode cX12_fitting 33 = .ok (.istore 4, 2) := by decide +kernel
theorem dX12_fitting_35 : decode cX12_fitting 35 = .ok (.iconst 0, 1) := by decide +kernel
theorem dX12_fitting_36 : decode cX12_fitting 36 = .ok (.istore 5, 2) := by decide +kernel
theorem dX12_fitting_38 : decode cX12_fitting 38 = .ok (.iload 5, 2) := by decide +kernel
theorem dX12_fitting_40 : decode cX12_fitting 40 = .ok (.bipush 12, 2) := by decide +kernel
theorem dX12_fitting_42 : decode cX12_fitting 42 = .ok (.if_icmp .ge 96, 3) := by decide +kernel
theorem dX12_fitting_45 : decode cX12_fitting 45 = .ok (.iload_n 3, 1) := by decide +kernel
theorem dX12_fitting_46 : decode cX12_fitting 46 = .ok (.ifCond .ne 7, 3) := by decide +kernel
theorem dX12_fitting_49 : decode cX12_fitting 49 = .ok (.lconst 1, 1) := by decide +kernel
theorem dX12_fitting_50 : decode cX12_fitting 50 = .ok (.goto 4, 3) := by decide +kernel
theorem dX12_fitting_53 : decode cX12_fitting 53 = .ok (.lconst 0, 1) := by decide +kernel
theorem dX12_fitting_54 : decode cX12_fitting 54 = .ok (.lstore 6, 2) := by decide +kernel
theorem dX12_fitting_56 : decode cX12_fitting 56 = .ok (.iconst 0, 1) := by decide +kernel
theorem dX12_fitting_57 : decode cX12_fitting 57 = .ok (.istore 8, 2) := by decide +kernel
theorem dX12_fitting_59 : decode cX12_fitting 59 = .ok (.iload 8, 2) := by decide +kernel
theorem dX12_fitting_61 : decode cX12_fitting 61 = .ok (.bipush 12, 2) := by decide +kernel
theorem dX12_fitting_63 : decode cX12_fitting 63 = .ok (.if_icmp .ge 45, 3) := by decide +kernel
theorem dX12_fitting_66 : decode cX12_fitting 66 = .ok (.iload_n 3, 1) := by decide +kernel
theorem dX12_fitting_67 : decode cX12_fitting 67 = .ok (.ifCond .le 41, 3) := by decide +kernel
theorem dX12_fitting_70 : decode cX12_fitting 70 = .ok (.lload 6, 2) := by decide +kernel
theorem dX12_fitting_72 : decode cX12_fitting 72 = .ok (.aload_n 0, 1) := by decide +kernel
theorem dX12_fitting_73 : decode cX12_fitting 73 = .ok (.getfield 25, 3) := by decide +kernel
theorem dX12_fitting_76 : decode cX12_fitting 76 = .ok (.iload 5, 2) := by decide +kernel
theorem dX12_fitting_78 : decode cX12_fitting 78 = .ok (.iaload, 1) := by decide +kernel
theorem dX12_fitting_79 : decode cX12_fitting 79 = .ok (.iload 8, 2) := by decide +kernel
theorem dX12_fitting_81 : decode cX12_fitting 81 = .ok (.ishr, 1) := by decide +kernel
theorem dX12_fitting_82 : decode cX12_fitting 82 = .ok (.iconst 1, 1) := by decide +kernel
theorem dX12_fitting_83 : decode cX12_fitting 83 = .ok (.iand, 1) := by decide +kernel
theorem dX12_fitting_84 : decode cX12_fitting 84 = .ok (.iconst 1, 1) := by decide +kernel
theorem dX12_fitting_85 : decode cX12_fitting 85 = .ok (.if_icmp .ne 13, 3) := by decide +kernel
theorem dX12_fitting_88 : decode cX12_fitting 88 = .ok (.aload_n 0, 1) := by decide +kernel
theorem dX12_fitting_89 : decode cX12_fitting 89 = .ok (.getfield 47, 3) := by decide +kernel
theorem dX12_fitting_92 : decode cX12_fitting 92 = .ok (.iload 8, 2) := by decide +kernel
theorem dX12_fitting_94 : decode cX12_fitting 94 = .ok (.laload, 1) := by decide +kernel
theorem dX12_fitting_95 : decode cX12_fitting 95 = .ok (.goto 4, 3) := by decide +kernel
theorem dX12_fitting_98 : decode cX12_fitting 98 = .ok (.lconst 0, 1) := by decide +kernel
theorem dX12_fitting_99 : decode cX12_fitting 99 = .ok (.ladd, 1) := by decide +kernel
theorem dX12_fitting_100 : decode cX12_fitting 100 = .ok (.lstore 6, 2) := by decide +kernel
theorem dX12_fitting_102 : decode cX12_fitting 102 = .ok (.iinc 8 1, 3) := by decide +kernel
theorem dX12_fitting_105 : decode cX12_fitting 105 = .ok (.goto (-46), 3) := by decide +kernel
theorem dX12_fitting_108 : decode cX12_fitting 108 = .ok (.aload_n 0, 1) := by decide +kernel
theorem dX12_fitting_109 : decode cX12_fitting 109 = .ok (.getfield 50, 3) := by decide +kernel
theorem dX12_fitting_112 : decode cX12_fitting 112 = .ok (.iload 5, 2) := by decide +kernel
theorem dX12_fitting_114 : decode cX12_fitting 114 = .ok (.iload 4, 2) := by decide +kernel
theorem dX12_fitting_116 : decode cX12_fitting 116 = .ok (.iload 5, 2) := by decide +kernel
theorem dX12_fitting_118 : decode cX12_fitting 118 = .ok (.ishr, 1) := by decide +kernel
theorem dX12_fitting_119 : decode cX12_fitting 119 = .ok (.iconst 1, 1) := by decide +kernel
theorem dX12_fitting_120 : decode cX12_fitting 120 = .ok (.iand, 1) := by decide +kernel
theorem dX12_fitting_121 : decode cX12_fitting 121 = .ok (.iconst 1, 1) := by decide +kernel
theorem dX12_fitting_122 : decode cX12_fitting 122 = .ok (.if_icmp .ne 8, 3) := by decide +kernel
theorem dX12_fitting_125 : decode cX12_fitting 125 = .ok (.lload 6, 2) := by decide +kernel
theorem dX12_fitting_127 : decode cX12_fitting 127 = .ok (.goto 4, 3) := by decide +kernel
theorem dX12_fitting_130 : decode cX12_fitting 130 = .ok (.lconst 0, 1) := by decide +kernel
theorem dX12_fitting_131 : decode cX12_fitting 131 = .ok (.lastore, 1) := by decide +kernel
theorem dX12_fitting_132 : decode cX12_fitting 132 = .ok (.iinc 5 1, 3) := by decide +kernel
theorem dX12_fitting_135 : decode cX12_fitting 135 = .ok (.goto (-97), 3) := by decide +kernel
theorem dX12_fitting_138 : decode cX12_fitting 138 = .ok (.iconst 0, 1) := by decide +kernel
theorem dX12_fitting_139 : decode cX12_fitting 139 = .ok (.istore 5, 2) := by decide +kernel
theorem dX12_fitting_141 : decode cX12_fitting 141 = .ok (.iload 5, 2) := by decide +kernel
theorem dX12_fitting_143 : decode cX12_fitting 143 = .ok (.bipush 12, 2) := by decide +kernel
theorem dX12_fitting_145 : decode cX12_fitting 145 = .ok (.if_icmp .ge 47, 3) := by decide +kernel
theorem dX12_fitting_148 : decode cX12_fitting 148 = .ok (.aload_n 0, 1) := by decide +kernel
theorem dX12_fitting_149 : decode cX12_fitting 149 = .ok (.getfield 47, 3) := by decide +kernel
theorem dX12_fitting_152 : decode cX12_fitting 152 = .ok (.iload 5, 2) := by decide +kernel
theorem dX12_fitting_154 : decode cX12_fitting 154 = .ok (.aload_n 0, 1) := by decide +kernel
theorem dX12_fitting_155 : decode cX12_fitting 155 = .ok (.getfield 50, 3) := by decide +kernel
theorem dX12_fitting_158 : decode cX12_fitting 158 = .ok (.iload 5, 2) := by decide +kernel
theorem dX12_fitting_160 : decode cX12_fitting 160 = .ok (.laload, 1) := by decide +kernel
theorem dX12_fitting_161 : decode cX12_fitting 161 = .ok (.lastore, 1) := by decide +kernel
theorem dX12_fitting_162 : decode cX12_fitting 162 = .ok (.lload_n 1, 1) := by decide +kernel
theorem dX12_fitting_163 : decode cX12_fitting 163 = .ok (.iload_n 3, 1) := by decide +kernel
theorem dX12_fitting_164 : decode cX12_fitting 164 = .ok (.aload_n 0, 1) := by decide +kernel
theorem dX12_fitting_165 : decode cX12_fitting 165 = .ok (.getfield 154, 3) := by decide +kernel
theorem dX12_fitting_168 : decode cX12_fitting 168 = .ok (.iconst 1, 1) := by decide +kernel
theorem dX12_fitting_169 : decode cX12_fitting 169 = .ok (.isub, 1) := by decide +kernel
theorem dX12_fitting_170 : decode cX12_fitting 170 = .ok (.if_icmp .ne 13, 3) := by decide +kernel
theorem dX12_fitting_173 : decode cX12_fitting 173 = .ok (.aload_n 0, 1) := by decide +kernel
theorem dX12_fitting_174 : decode cX12_fitting 174 = .ok (.getfield 47, 3) := by decide +kernel
theorem dX12_fitting_177 : decode cX12_fitting 177 = .ok (.iload 5, 2) := by decide +kernel
theorem dX12_fitting_179 : decode cX12_fitting 179 = .ok (.laload, 1) := by decide +kernel
theorem dX12_fitting_180 : decode cX12_fitting 180 = .ok (.goto 4, 3) := by decide +kernel
theorem dX12_fitting_183 : decode cX12_fitting 183 = .ok (.lconst 0, 1) := by decide +kernel
theorem dX12_fitting_184 : decode cX12_fitting 184 = .ok (.ladd, 1) := by decide +kernel
theorem dX12_fitting_185 : decode cX12_fitting 185 = .ok (.lstore_n 1, 1) := by decide +kernel
theorem dX12_fitting_186 : decode cX12_fitting 186 = .ok (.iinc 5 1, 3) := by decide +kernel
theorem dX12_fitting_189 : decode cX12_fitting 189 = .ok (.goto (-48), 3) := by decide +kernel
theorem dX12_fitting_192 : decode cX12_fitting 192 = .ok (.iinc 3 1, 3) := by decide +kernel
theorem dX12_fitting_195 : decode cX12_fitting 195 = .ok (.goto (-180), 3) := by decide +kernel
theorem dX12_fitting_198 : decode cX12_fitting 198 = .ok (.lload_n 1, 1) := by decide +kernel
theorem dX12_fitting_199 : decode cX12_fitting 199 = .ok (.lreturn, 1) := by decide +kernel
theorem dX12_goes_0 : decode cX12_goes 0 = .ok (.iconst 1, 1) := by decide +kernel
theorem dX12_goes_1 : decode cX12_goes 1 = .ok (.aload_n 0, 1) := by decide +kernel
theorem dX12_goes_2 : decode cX12_goes 2 = .ok (.getfield 88, 3) := by decide +kernel
theorem dX12_goes_5 : decode cX12_goes 5 = .ok (.ishl, 1) := by decide +kernel
theorem dX12_goes_6 : decode cX12_goes 6 = .ok (.iconst 1, 1) := by decide +kernel
theorem dX12_goes_7 : decode cX12_goes 7 = .ok (.isub, 1) := by decide +kernel
theorem dX12_goes_8 : decode cX12_goes 8 = .ok (.istore_n 2, 1) := by decide +kernel
theorem dX12_goes_9 : decode cX12_goes 9 = .ok (.iconst 1, 1) := by decide +kernel
theorem dX12_goes_10 : decode cX12_goes 10 = .ok (.istore_n 3, 1) := by decide +kernel
theorem dX12_goes_11 : decode cX12_goes 11 = .ok (.iconst 0, 1) := by decide +kernel
theorem dX12_goes_12 : decode cX12_goes 12 = .ok (.istore 4, 2) := by decide +kernel
theorem dX12_goes_14 : decode cX12_goes 14 = .ok (.iload 4, 2) := by decide +kernel
theorem dX12_goes_16 : decode cX12_goes 16 = .ok (.aload_n 0, 1) := by decide +kernel
theorem dX12_goes_17 : decode cX12_goes 17 = .ok (.getfield 154, 3) := by decide +kernel
theorem dX12_goes_20 : decode cX12_goes 20 = .ok (.if_icmp .ge 47, 3) := by decide +kernel
theorem dX12_goes_23 : decode cX12_goes 23 = .ok (.iload_n 1, 1) := by decide +kernel
theorem dX12_goes_24 : decode cX12_goes 24 = .ok (.iload 4, 2) := by decide +kernel
theorem dX12_goes_26 : decode cX12_goes 26 = .ok (.ishr, 1) := by decide +kernel
theorem dX12_goes_27 : decode cX12_goes 27 = .ok (.iconst 1, 1) := by decide +kernel
theorem dX12_goes_28 : decode cX12_goes 28 = .ok (.iand, 1) := by decide +kernel
theorem dX12_goes_29 : decode cX12_goes 29 = .ok (.iconst 1, 1) := by decide +kernel
theorem dX12_goes_30 : decode cX12_goes 30 = .ok (.if_icmp .ne 31, 3) := by decide +kernel
theorem dX12_goes_33 : decode cX12_goes 33 = .ok (.iload_n 3, 1) := by decide +kernel
theorem dX12_goes_34 : decode cX12_goes 34 = .ok (.ifCond .eq 7, 3) := by decide +kernel
theorem dX12_goes_37 : decode cX12_goes 37 = .ok (.iload_n 2, 1) := by decide +kernel
theorem dX12_goes_38 : decode cX12_goes 38 = .ok (.goto 8, 3) := by decide +kernel
theorem dX12_goes_41 : decode cX12_goes 41 = .ok (.aload_n 0, 1) := by decide +kernel
theorem dX12_goes_42 : decode cX12_goes 42 = .ok (.iload_n 2, 1) := by decide +kernel
theorem dX12_goes_43 : decode cX12_goes 43 = .ok (.invokevirtual 209, 3) := by decide +kernel
theorem dX12_goes_46 : decode cX12_goes 46 = .ok (.aload_n 0, 1) := by decide +kernel
theorem dX12_goes_47 : decode cX12_goes 47 = .ok (.aload_n 0, 1) := by decide +kernel
theorem dX12_goes_48 : decode cX12_goes 48 = .ok (.getfield 56, 3) := by decide +kernel
theorem dX12_goes_51 : decode cX12_goes 51 = .ok (.iload 4, 2) := by decide +kernel
theorem dX12_goes_53 : decode cX12_goes 53 = .ok (.iaload, 1) := by decide +kernel
theorem dX12_goes_54 : decode cX12_goes 54 = .ok (.invokevirtual 206, 3) := by decide +kernel
theorem dX12_goes_57 : decode cX12_goes 57 = .ok (.iand, 1) := by decide +kernel
theorem dX12_goes_58 : decode cX12_goes 58 = .ok (.istore_n 2, 1) := by decide +kernel
theorem dX12_goes_59 : decode cX12_goes 59 = .ok (.iconst 0, 1) := by decide +kernel
theorem dX12_goes_60 : decode cX12_goes 60 = .ok (.istore_n 3, 1) := by decide +kernel
theorem dX12_goes_61 : decode cX12_goes 61 = .ok (.iinc 4 1, 3) := by decide +kernel
theorem dX12_goes_64 : decode cX12_goes 64 = .ok (.goto (-50), 3) := by decide +kernel
theorem dX12_goes_67 : decode cX12_goes 67 = .ok (.iload_n 2, 1) := by decide +kernel
theorem dX12_goes_68 : decode cX12_goes 68 = .ok (.ifCond .eq 7, 3) := by decide +kernel
theorem dX12_goes_71 : decode cX12_goes 71 = .ok (.iconst 1, 1) := by decide +kernel
theorem dX12_goes_72 : decode cX12_goes 72 = .ok (.goto 4, 3) := by decide +kernel
theorem dX12_goes_75 : decode cX12_goes 75 = .ok (.iconst 0, 1) := by decide +kernel
theorem dX12_goes_76 : decode cX12_goes 76 = .ok (.ireturn, 1) := by decide +kernel
theorem dX12_parted_0 : decode cX12_parted 0 = .ok (.iconst 0, 1) := by decide +kernel
theorem dX12_parted_1 : decode cX12_parted 1 = .ok (.istore_n 2, 1) := by decide +kernel
theorem dX12_parted_2 : decode cX12_parted 2 = .ok (.bipush (-9), 2) := by decide +kernel
theorem dX12_parted_4 : decode cX12_parted 4 = .ok (.istore_n 3, 1) := by decide +kernel
theorem dX12_parted_5 : decode cX12_parted 5 = .ok (.iconst 0, 1) := by decide +kernel
theorem dX12_parted_6 : decode cX12_parted 6 = .ok (.istore 4, 2) := by decide +kernel
theorem dX12_parted_8 : decode cX12_parted 8 = .ok (.iload 4, 2) := by decide +kernel
theorem dX12_parted_10 : decode cX12_parted 10 = .ok (.iconst 1, 1) := by decide +kernel
theorem dX12_parted_11 : decode cX12_parted 11 = .ok (.aload_n 0, 1) := by decide +kernel
theorem dX12_parted_12 : decode cX12_parted 12 = .ok (.getfield 154, 3) := by decide +kernel
theorem dX12_parted_15 : decode cX12_parted 15 = .ok (.ishl, 1) := by decide +kernel
theorem dX12_parted_16 : decode cX12_parted 16 = .ok (.if_icmp .ge 52, 3) := by decide +kernel
theorem dX12_parted_19 : decode cX12_parted 19 = .ok (.aload_n 0, 1) := by decide +kernel
theorem dX12_parted_20 : decode cX12_parted 20 = .ok (.iload 4, 2) := by decide +kernel
theorem dX12_parted_22 : decode cX12_parted 22 = .ok (.invokevirtual 212, 3) := by decide +kernel
theorem dX12_parted_25 : decode cX12_parted 25 = .ok (.ifCond .eq 37, 3) := by decide +kernel
theorem dX12_parted_28 : decode cX12_parted 28 = .ok (.aload_n 0, 1) := by decide +kernel
theorem dX12_parted_29 : decode cX12_parted 29 = .ok (.iconst 1, 1) := by decide +kernel
theorem dX12_parted_30 : decode cX12_parted 30 = .ok (.aload_n 0, 1) := by decide +kernel
theorem dX12_parted_31 : decode cX12_parted 31 = .ok (.getfield 154, 3) := by decide +kernel
theorem dX12_parted_34 : decode cX12_parted 34 = .ok (.ishl, 1) := by decide +kernel
theorem dX12_parted_35 : decode cX12_parted 35 = .ok (.iconst 1, 1) := by decide +kernel
theorem dX12_parted_36 : decode cX12_parted 36 = .ok (.isub, 1) := by decide +kernel
theorem dX12_parted_37 : decode cX12_parted 37 = .ok (.iload 4, 2) := by decide +kernel
theorem dX12_parted_39 : decode cX12_parted 39 = .ok (.iconst (-1), 1) := by decide +kernel
theorem dX12_parted_40 : decode cX12_parted 40 = .ok (.ixor, 1) := by decide +kernel
theorem dX12_parted_41 : decode cX12_parted 41 = .ok (.iand, 1) := by decide +kernel
theorem dX12_parted_42 : decode cX12_parted 42 = .ok (.invokevirtual 212, 3) := by decide +kernel
theorem dX12_parted_45 : decode cX12_parted 45 = .ok (.ifCond .eq 17, 3) := by decide +kernel
theorem dX12_parted_48 : decode cX12_parted 48 = .ok (.iload_n 2, 1) := by decide +kernel
theorem dX12_parted_49 : decode cX12_parted 49 = .ok (.ifCond .ne 8, 3) := by decide +kernel
theorem dX12_parted_52 : decode cX12_parted 52 = .ok (.iload 4, 2) := by decide +kernel
theorem dX12_parted_54 : decode cX12_parted 54 = .ok (.goto 4, 3) := by decide +kernel
theorem dX12_parted_57 : decode cX12_parted 57 = .ok (.iload_n 3, 1) := by decide +kernel
theorem dX12_parted_58 : decode cX12_parted 58 = .ok (.istore_n 3, 1) := by decide +kernel
theorem dX12_parted_59 : decode cX12_parted 59 = .ok (.iinc 2 1, 3) := by decide +kernel
theorem dX12_parted_62 : decode cX12_parted 62 = .ok (.iinc 4 1, 3) := by decide +kernel
theorem dX12_parted_65 : decode cX12_parted 65 = .ok (.goto (-57), 3) := by decide +kernel
theorem dX12_parted_68 : decode cX12_parted 68 = .ok (.iload_n 1, 1) := by decide +kernel
theorem dX12_parted_69 : decode cX12_parted 69 = .ok (.ifCond .eq 7, 3) := by decide +kernel
theorem dX12_parted_72 : decode cX12_parted 72 = .ok (.iload_n 3, 1) := by decide +kernel
theorem dX12_parted_73 : decode cX12_parted 73 = .ok (.goto 4, 3) := by decide +kernel
theorem dX12_parted_76 : decode cX12_parted 76 = .ok (.iload_n 2, 1) := by decide +kernel
theorem dX12_parted_77 : decode cX12_parted 77 = .ok (.ireturn, 1) := by decide +kernel
theorem dX12_worthOf_0 : decode cX12_worthOf 0 = .ok (.aload_n 0, 1) := by decide +kernel
theorem dX12_worthOf_1 : decode cX12_worthOf 1 = .ok (.iload_n 1, 1) := by decide +kernel
theorem dX12_worthOf_2 : decode cX12_worthOf 2 = .ok (.iload_n 2, 1) := by decide +kernel
theorem dX12_worthOf_3 : decode cX12_worthOf 3 = .ok (.aload_n 0, 1) := by decide +kernel
theorem dX12_worthOf_4 : decode cX12_worthOf 4 = .ok (.getfield 31, 3) := by decide +kernel
theorem dX12_worthOf_7 : decode cX12_worthOf 7 = .ok (.iload_n 1, 1) := by decide +kernel
theorem dX12_worthOf_8 : decode cX12_worthOf 8 = .ok (.iaload, 1) := by decide +kernel
theorem dX12_worthOf_9 : decode cX12_worthOf 9 = .ok (.irem, 1) := by decide +kernel
theorem dX12_worthOf_10 : decode cX12_worthOf 10 = .ok (.iload_n 3, 1) := by decide +kernel
theorem dX12_worthOf_11 : decode cX12_worthOf 11 = .ok (.iconst 0, 1) := by decide +kernel
theorem dX12_worthOf_12 : decode cX12_worthOf 12 = .ok (.invokevirtual 168, 3) := by decide +kernel
theorem dX12_worthOf_15 : decode cX12_worthOf 15 = .ok (.ifCond .eq 7, 3) := by decide +kernel
theorem dX12_worthOf_18 : decode cX12_worthOf 18 = .ok (.iconst 1, 1) := by decide +kernel
theorem dX12_worthOf_19 : decode cX12_worthOf 19 = .ok (.goto 4, 3) := by decide +kernel
theorem dX12_worthOf_22 : decode cX12_worthOf 22 = .ok (.iconst 0, 1) := by decide +kernel
theorem dX12_worthOf_23 : decode cX12_worthOf 23 = .ok (.ireturn, 1) := by decide +kernel
theorem dX12_ones_0 : decode cX12_ones 0 = .ok (.iconst 0, 1) := by decide +kernel
theorem dX12_ones_1 : decode cX12_ones 1 = .ok (.istore_n 1, 1) := by decide +kernel
theorem dX12_ones_2 : decode cX12_ones 2 = .ok (.iconst 0, 1) := by decide +kernel
theorem dX12_ones_3 : decode cX12_ones 3 = .ok (.istore_n 2, 1) := by decide +kernel
theorem dX12_ones_4 : decode cX12_ones 4 = .ok (.iload_n 2, 1) := by decide +kernel
theorem dX12_ones_5 : decode cX12_ones 5 = .ok (.bipush 12, 2) := by decide +kernel
theorem dX12_ones_7 : decode cX12_ones 7 = .ok (.if_icmp .ge 17, 3) := by decide +kernel
theorem dX12_ones_10 : decode cX12_ones 10 = .ok (.iload_n 1, 1) := by decide +kernel
theorem dX12_ones_11 : decode cX12_ones 11 = .ok (.iload_n 0, 1) := by decide +kernel
theorem dX12_ones_12 : decode cX12_ones 12 = .ok (.iload_n 2, 1) := by decide +kernel
theorem dX12_ones_13 : decode cX12_ones 13 = .ok (.ishr, 1) := by decide +kernel
theorem dX12_ones_14 : decode cX12_ones 14 = .ok (.iconst 1, 1) := by decide +kernel
theorem dX12_ones_15 : decode cX12_ones 15 = .ok (.iand, 1) := by decide +kernel
theorem dX12_ones_16 : decode cX12_ones 16 = .ok (.iadd, 1) := by decide +kernel
theorem dX12_ones_17 : decode cX12_ones 17 = .ok (.istore_n 1, 1) := by decide +kernel
theorem dX12_ones_18 : decode cX12_ones 18 = .ok (.iinc 2 1, 3) := by decide +kernel
theorem dX12_ones_21 : decode cX12_ones 21 = .ok (.goto (-17), 3) := by decide +kernel
theorem dX12_ones_24 : decode cX12_ones 24 = .ok (.iload_n 1, 1) := by decide +kernel
theorem dX12_ones_25 : decode cX12_ones 25 = .ok (.ireturn, 1) := by decide +kernel
theorem dX12_layWorth_0 : decode cX12_layWorth 0 = .ok (.iconst 1, 1) := by decide +kernel
theorem dX12_layWorth_1 : decode cX12_layWorth 1 = .ok (.aload_n 0, 1) := by decide +kernel
theorem dX12_layWorth_2 : decode cX12_layWorth 2 = .ok (.getfield 88, 3) := by decide +kernel
theorem dX12_layWorth_5 : decode cX12_layWorth 5 = .ok (.ishl, 1) := by decide +kernel
theorem dX12_layWorth_6 : decode cX12_layWorth 6 = .ok (.iconst 1, 1) := by decide +kernel
theorem dX12_layWorth_7 : decode cX12_layWorth 7 = .ok (.isub, 1) := by decide +kernel
theorem dX12_layWorth_8 : decode cX12_layWorth 8 = .ok (.istore_n 2, 1) := by decide +kernel
theorem dX12_layWorth_9 : decode cX12_layWorth 9 = .ok (.iload_n 2, 1) := by decide +kernel
theorem dX12_layWorth_10 : decode cX12_layWorth 10 = .ok (.istore_n 3, 1) := by decide +kernel
theorem dX12_layWorth_11 : decode cX12_layWorth 11 = .ok (.iload_n 3, 1) := by decide +kernel
theorem dX12_layWorth_12 : decode cX12_layWorth 12 = .ok (.ifCond .le 181, 3) := by decide +kernel
theorem dX12_layWorth_15 : decode cX12_layWorth 15 = .ok (.iload_n 3, 1) := by decide +kernel
theorem dX12_layWorth_16 : decode cX12_layWorth 16 = .ok (.invokestatic 215, 3) := by decide +kernel
theorem dX12_layWorth_19 : decode cX12_layWorth 19 = .ok (.istore 4, 2) := by decide +kernel
theorem dX12_layWorth_21 : decode cX12_layWorth 21 = .ok (.iconst 0, 1) := by decide +kernel
theorem dX12_layWorth_22 : decode cX12_layWorth 22 = .ok (.istore 5, 2) := by decide +kernel
theorem dX12_layWorth_24 : decode cX12_layWorth 24 = .ok (.iload 5, 2) := by decide +kernel
theorem dX12_layWorth_26 : decode cX12_layWorth 26 = .ok (.aload_n 0, 1) := by decide +kernel
theorem dX12_layWorth_27 : decode cX12_layWorth 27 = .ok (.getfield 88, 3) := by decide +kernel
theorem dX12_layWorth_30 : decode cX12_layWorth 30 = .ok (.if_icmp .ge 157, 3) := by decide +kernel
theorem dX12_layWorth_33 : decode cX12_layWorth 33 = .ok (.iload_n 3, 1) := by decide +kernel
theorem dX12_layWorth_34 : decode cX12_layWorth 34 = .ok (.iload_n 2, 1) := by decide +kernel
theorem dX12_layWorth_35 : decode cX12_layWorth 35 = .ok (.if_icmp .ne 7, 3) := by decide +kernel
theorem dX12_layWorth_38 : decode cX12_layWorth 38 = .ok (.iconst 0, 1) := by decide +kernel
theorem dX12_layWorth_39 : decode cX12_layWorth 39 = .ok (.goto 5, 3) := by decide +kernel
theorem dX12_layWorth_42 : decode cX12_layWorth 42 = .ok (.bipush (-9), 2) := by decide +kernel
theorem dX12_layWorth_44 : decode cX12_layWorth 44 = .ok (.istore 6, 2) := by decide +kernel
theorem dX12_layWorth_46 : decode cX12_layWorth 46 = .ok (.iconst 0, 1) := by decide +kernel
theorem dX12_layWorth_47 : decode cX12_layWorth 47 = .ok (.istore 7, 2) := by decide +kernel
theorem dX12_layWorth_49 : decode cX12_layWorth 49 = .ok (.iload 7, 2) := by decide +kernel
theorem dX12_layWorth_51 : decode cX12_layWorth 51 = .ok (.aload_n 0, 1) := by decide +kernel
theorem dX12_layWorth_52 : decode cX12_layWorth 52 = .ok (.getfield 88, 3) := by decide +kernel
theorem dX12_layWorth_55 : decode cX12_layWorth 55 = .ok (.if_icmp .ge 112, 3) := by decide +kernel
theorem dX12_layWorth_58 : decode cX12_layWorth 58 = .ok (.aload_n 0, 1) := by decide +kernel
theorem dX12_layWorth_59 : decode cX12_layWorth 59 = .ok (.getfield 25, 3) := by decide +kernel
theorem dX12_layWorth_62 : decode cX12_layWorth 62 = .ok (.iload 5, 2) := by decide +kernel
theorem dX12_layWorth_64 : decode cX12_layWorth 64 = .ok (.iaload, 1) := by decide +kernel
theorem dX12_layWorth_65 : decode cX12_layWorth 65 = .ok (.iload 7, 2) := by decide +kernel
theorem dX12_layWorth_67 : decode cX12_layWorth 67 = .ok (.ishr, 1) := by decide +kernel
theorem dX12_layWorth_68 : decode cX12_layWorth 68 = .ok (.iconst 1, 1) := by decide +kernel
theorem dX12_layWorth_69 : decode cX12_layWorth 69 = .ok (.iand, 1) := by decide +kernel
theorem dX12_layWorth_70 : decode cX12_layWorth 70 = .ok (.iconst 1, 1) := by decide +kernel
theorem dX12_layWorth_71 : decode cX12_layWorth 71 = .ok (.if_icmp .ne 16, 3) := by decide +kernel
theorem dX12_layWorth_74 : decode cX12_layWorth 74 = .ok (.iload_n 3, 1) := by decide +kernel
theorem dX12_layWorth_75 : decode cX12_layWorth 75 = .ok (.iload 7, 2) := by decide +kernel
theorem dX12_layWorth_77 : decode cX12_layWorth 77 = .ok (.ishr, 1) := by decide +kernel
theorem dX12_layWorth_78 : decode cX12_layWorth 78 = .ok (.iconst 1, 1) := by decide +kernel
theorem dX12_layWorth_79 : decode cX12_layWorth 79 = .ok (.iand, 1) := by decide +kernel
theorem dX12_layWorth_80 : decode cX12_layWorth 80 = .ok (.ifCond .ne 7, 3) := by decide +kernel
theorem dX12_layWorth_83 : decode cX12_layWorth 83 = .ok (.iconst 1, 1) := by decide +kernel
theorem dX12_layWorth_84 : decode cX12_layWorth 84 = .ok (.goto 4, 3) := by decide +kernel
theorem dX12_layWorth_87 : decode cX12_layWorth 87 = .ok (.iconst 0, 1) := by decide +kernel
theorem dX12_layWorth_88 : decode cX12_layWorth 88 = .ok (.istore 8, 2) := by decide +kernel
theorem dX12_layWorth_90 : decode cX12_layWorth 90 = .ok (.iload 8, 2) := by decide +kernel
theorem dX12_layWorth_92 : decode cX12_layWorth 92 = .ok (.ifCond .eq 23, 3) := by decide +kernel
theorem dX12_layWorth_95 : decode cX12_layWorth 95 = .ok (.aload_n 0, 1) := by decide +kernel
theorem dX12_layWorth_96 : decode cX12_layWorth 96 = .ok (.getfield 60, 3) := by decide +kernel
theorem dX12_layWorth_99 : decode cX12_layWorth 99 = .ok (.bipush 12, 2) := by decide +kernel
theorem dX12_layWorth_101 : decode cX12_layWorth 101 = .ok (.iload_n 3, 1) := by decide +kernel
theorem dX12_layWorth_102 : decode cX12_layWorth 102 = .ok (.iconst 1, 1) := by decide +kernel
theorem dX12_layWorth_103 : decode cX12_layWorth 103 = .ok (.iload 7, 2) := by decide +kernel
theorem dX12_layWorth_105 : decode cX12_layWorth 105 = .ok (.ishl, 1) := by decide +kernel
theorem dX12_layWorth_106 : decode cX12_layWorth 106 = .ok (.ior, 1) := by decide +kernel
theorem dX12_layWorth_107 : decode cX12_layWorth 107 = .ok (.imul, 1) := by decide +kernel
theorem dX12_layWorth_108 : decode cX12_layWorth 108 = .ok (.iload 7, 2) := by decide +kernel
theorem dX12_layWorth_110 : decode cX12_layWorth 110 = .ok (.iadd, 1) := by decide +kernel
theorem dX12_layWorth_111 : decode cX12_layWorth 111 = .ok (.iaload, 1) := by decide +kernel
theorem dX12_layWorth_112 : decode cX12_layWorth 112 = .ok (.goto 5, 3) := by decide +kernel
theorem dX12_layWorth_115 : decode cX12_layWorth 115 = .ok (.bipush (-9), 2) := by decide +kernel
theorem dX12_layWorth_117 : decode cX12_layWorth 117 = .ok (.istore 9, 2) := by decide +kernel
theorem dX12_layWorth_119 : decode cX12_layWorth 119 = .ok (.iload 9, 2) := by decide +kernel
theorem dX12_layWorth_121 : decode cX12_layWorth 121 = .ok (.bipush (-9), 2) := by decide +kernel
theorem dX12_layWorth_123 : decode cX12_layWorth 123 = .ok (.if_icmp .ne 8, 3) := by decide +kernel
theorem dX12_layWorth_126 : decode cX12_layWorth 126 = .ok (.bipush (-9), 2) := by decide +kernel
theorem dX12_layWorth_128 : decode cX12_layWorth 128 = .ok (.goto 15, 3) := by decide +kernel
theorem dX12_layWorth_131 : decode cX12_layWorth 131 = .ok (.iload 9, 2) := by decide +kernel
theorem dX12_layWorth_133 : decode cX12_layWorth 133 = .ok (.aload_n 0, 1) := by decide +kernel
theorem dX12_layWorth_134 : decode cX12_layWorth 134 = .ok (.iload_n 1, 1) := by decide +kernel
theorem dX12_layWorth_135 : decode cX12_layWorth 135 = .ok (.iload 4, 2) := by decide +kernel
theorem dX12_layWorth_137 : decode cX12_layWorth 137 = .ok (.iload 7, 2) := by decide +kernel
theorem dX12_layWorth_139 : decode cX12_layWorth 139 = .ok (.invokevirtual 218, 3) := by decide +kernel
theorem dX12_layWorth_142 : decode cX12_layWorth 142 = .ok (.iadd, 1) := by decide +kernel
theorem dX12_layWorth_143 : decode cX12_layWorth 143 = .ok (.istore 9, 2) := by decide +kernel
theorem dX12_layWorth_145 : decode cX12_layWorth 145 = .ok (.iload 9, 2) := by decide +kernel
theorem dX12_layWorth_147 : decode cX12_layWorth 147 = .ok (.iload 6, 2) := by decide +kernel
theorem dX12_layWorth_149 : decode cX12_layWorth 149 = .ok (.if_icmp .le 8, 3) := by decide +kernel
theorem dX12_layWorth_152 : decode cX12_layWorth 152 = .ok (.iload 9, 2) := by decide +kernel
theorem dX12_layWorth_154 : decode cX12_layWorth 154 = .ok (.goto 5, 3) := by decide +kernel
theorem dX12_layWorth_157 : decode cX12_layWorth 157 = .ok (.iload 6, 2) := by decide +kernel
theorem dX12_layWorth_159 : decode cX12_layWorth 159 = .ok (.istore 6, 2) := by decide +kernel
theorem dX12_layWorth_161 : decode cX12_layWorth 161 = .ok (.iinc 7 1, 3) := by decide +kernel
theorem dX12_layWorth_164 : decode cX12_layWorth 164 = .ok (.goto (-115), 3) := by decide +kernel
theorem dX12_layWorth_167 : decode cX12_layWorth 167 = .ok (.aload_n 0, 1) := by decide +kernel
theorem dX12_layWorth_168 : decode cX12_layWorth 168 = .ok (.getfield 60, 3) := by decide +kernel
theorem dX12_layWorth_171 : decode cX12_layWorth 171 = .ok (.bipush 12, 2) := by decide +kernel
theorem dX12_layWorth_173 : decode cX12_layWorth 173 = .ok (.iload_n 3, 1) := by decide +kernel
theorem dX12_layWorth_174 : decode cX12_layWorth 174 = .ok (.imul, 1) := by decide +kernel
theorem dX12_layWorth_175 : decode cX12_layWorth 175 = .ok (.iload 5, 2) := by decide +kernel
theorem dX12_layWorth_177 : decode cX12_layWorth 177 = .ok (.iadd, 1) := by decide +kernel
theorem dX12_layWorth_178 : decode cX12_layWorth 178 = .ok (.iload 6, 2) := by decide +kernel
theorem dX12_layWorth_180 : decode cX12_layWorth 180 = .ok (.iastore, 1) := by decide +kernel
theorem dX12_layWorth_181 : decode cX12_layWorth 181 = .ok (.iinc 5 1, 3) := by decide +kernel
theorem dX12_layWorth_184 : decode cX12_layWorth 184 = .ok (.goto (-160), 3) := by decide +kernel
theorem dX12_layWorth_187 : decode cX12_layWorth 187 = .ok (.iinc 3 (-1), 3) := by decide +kernel
theorem dX12_layWorth_190 : decode cX12_layWorth 190 = .ok (.goto (-179), 3) := by decide +kernel
theorem dX12_layWorth_193 : decode cX12_layWorth 193 = .ok (.return_, 1) := by decide +kernel
theorem dX12_best_0 : decode cX12_best 0 = .ok (.aload_n 0, 1) := by decide +kernel
theorem dX12_best_1 : decode cX12_best 1 = .ok (.iload_n 1, 1) := by decide +kernel
theorem dX12_best_2 : decode cX12_best 2 = .ok (.invokevirtual 163, 3) := by decide +kernel
theorem dX12_best_5 : decode cX12_best 5 = .ok (.ifCond .eq 11, 3) := by decide +kernel
theorem dX12_best_8 : decode cX12_best 8 = .ok (.aload_n 0, 1) := by decide +kernel
theorem dX12_best_9 : decode cX12_best 9 = .ok (.iload_n 2, 1) := by decide +kernel
theorem dX12_best_10 : decode cX12_best 10 = .ok (.invokevirtual 157, 3) := by decide +kernel
theorem dX12_best_13 : decode cX12_best 13 = .ok (.ifCond .ne 5, 3) := by decide +kernel
theorem dX12_best_16 : decode cX12_best 16 = .ok (.iconst (-1), 1) := by decide +kernel
theorem dX12_best_17 : decode cX12_best 17 = .ok (.ireturn, 1) := by decide +kernel
theorem dX12_best_18 : decode cX12_best 18 = .ok (.aload_n 0, 1) := by decide +kernel
theorem dX12_best_19 : decode cX12_best 19 = .ok (.iload_n 1, 1) := by decide +kernel
theorem dX12_best_20 : decode cX12_best 20 = .ok (.invokevirtual 221, 3) := by decide +kernel
theorem dX12_best_23 : decode cX12_best 23 = .ok (.aload_n 0, 1) := by decide +kernel
theorem dX12_best_24 : decode cX12_best 24 = .ok (.getfield 60, 3) := by decide +kernel
theorem dX12_best_27 : decode cX12_best 27 = .ok (.bipush 12, 2) := by decide +kernel
theorem dX12_best_29 : decode cX12_best 29 = .ok (.iconst 1, 1) := by decide +kernel
theorem dX12_best_30 : decode cX12_best 30 = .ok (.iload_n 2, 1) := by decide +kernel
theorem dX12_best_31 : decode cX12_best 31 = .ok (.ishl, 1) := by decide +kernel
theorem dX12_best_32 : decode cX12_best 32 = .ok (.imul, 1) := by decide +kernel
theorem dX12_best_33 : decode cX12_best 33 = .ok (.iload_n 2, 1) := by decide +kernel
theorem dX12_best_34 : decode cX12_best 34 = .ok (.iadd, 1) := by decide +kernel
theorem dX12_best_35 : decode cX12_best 35 = .ok (.iaload, 1) := by decide +kernel
theorem dX12_best_36 : decode cX12_best 36 = .ok (.istore_n 3, 1) := by decide +kernel
theorem dX12_best_37 : decode cX12_best 37 = .ok (.iload_n 3, 1) := by decide +kernel
theorem dX12_best_38 : decode cX12_best 38 = .ok (.bipush (-9), 2) := by decide +kernel
theorem dX12_best_40 : decode cX12_best 40 = .ok (.if_icmp .ne 8, 3) := by decide +kernel
theorem dX12_best_43 : decode cX12_best 43 = .ok (.bipush (-9), 2) := by decide +kernel
theorem dX12_best_45 : decode cX12_best 45 = .ok (.goto 12, 3) := by decide +kernel
theorem dX12_best_48 : decode cX12_best 48 = .ok (.iload_n 3, 1) := by decide +kernel
theorem dX12_best_49 : decode cX12_best 49 = .ok (.aload_n 0, 1) := by decide +kernel
theorem dX12_best_50 : decode cX12_best 50 = .ok (.iload_n 1, 1) := by decide +kernel
theorem dX12_best_51 : decode cX12_best 51 = .ok (.iconst 0, 1) := by decide +kernel
theorem dX12_best_52 : decode cX12_best 52 = .ok (.iload_n 2, 1) := by decide +kernel
theorem dX12_best_53 : decode cX12_best 53 = .ok (.invokevirtual 218, 3) := by decide +kernel
theorem dX12_best_56 : decode cX12_best 56 = .ok (.iadd, 1) := by decide +kernel
theorem dX12_best_57 : decode cX12_best 57 = .ok (.ireturn, 1) := by decide +kernel
theorem dX12_bestAt_0 : decode cX12_bestAt 0 = .ok (.aload_n 0, 1) := by decide +kernel
theorem dX12_bestAt_1 : decode cX12_bestAt 1 = .ok (.iload_n 1, 1) := by decide +kernel
theorem dX12_bestAt_2 : decode cX12_bestAt 2 = .ok (.invokevirtual 163, 3) := by decide +kernel
theorem dX12_bestAt_5 : decode cX12_bestAt 5 = .ok (.ifCond .eq 11, 3) := by decide +kernel
theorem dX12_bestAt_8 : decode cX12_bestAt 8 = .ok (.aload_n 0, 1) := by decide +kernel
theorem dX12_bestAt_9 : decode cX12_bestAt 9 = .ok (.iload_n 2, 1) := by decide +kernel
theorem dX12_bestAt_10 : decode cX12_bestAt 10 = .ok (.invokevirtual 157, 3) := by decide +kernel
theorem dX12_bestAt_13 : decode cX12_bestAt 13 = .ok (.ifCond .ne 5, 3) := by decide +kernel
theorem dX12_bestAt_16 : decode cX12_bestAt 16 = .ok (.iconst (-1), 1) := by decide +kernel
theorem dX12_bestAt_17 : decode cX12_bestAt 17 = .ok (.ireturn, 1) := by decide +kernel
theorem dX12_bestAt_18 : decode cX12_bestAt 18 = .ok (.aload_n 0, 1) := by decide +kernel
theorem dX12_bestAt_19 : decode cX12_bestAt 19 = .ok (.iload_n 1, 1) := by decide +kernel
theorem dX12_bestAt_20 : decode cX12_bestAt 20 = .ok (.invokevirtual 221, 3) := by decide +kernel
theorem dX12_bestAt_23 : decode cX12_bestAt 23 = .ok (.aload_n 0, 1) := by decide +kernel
theorem dX12_bestAt_24 : decode cX12_bestAt 24 = .ok (.getfield 60, 3) := by decide +kernel
theorem dX12_bestAt_27 : decode cX12_bestAt 27 = .ok (.bipush 12, 2) := by decide +kernel
theorem dX12_bestAt_29 : decode cX12_bestAt 29 = .ok (.iconst 1, 1) := by decide +kernel
theorem dX12_bestAt_30 : decode cX12_bestAt 30 = .ok (.iload_n 2, 1) := by decide +kernel
theorem dX12_bestAt_31 : decode cX12_bestAt 31 = .ok (.ishl, 1) := by decide +kernel
theorem dX12_bestAt_32 : decode cX12_bestAt 32 = .ok (.imul, 1) := by decide +kernel
theorem dX12_bestAt_33 : decode cX12_bestAt 33 = .ok (.iload_n 2, 1) := by decide +kernel
theorem dX12_bestAt_34 : decode cX12_bestAt 34 = .ok (.iadd, 1) := by decide +kernel
theorem dX12_bestAt_35 : decode cX12_bestAt 35 = .ok (.iaload, 1) := by decide +kernel
theorem dX12_bestAt_36 : decode cX12_bestAt 36 = .ok (.bipush (-9), 2) := by decide +kernel
theorem dX12_bestAt_38 : decode cX12_bestAt 38 = .ok (.if_icmp .eq 19, 3) := by decide +kernel
theorem dX12_bestAt_41 : decode cX12_bestAt 41 = .ok (.iload_n 3, 1) := by decide +kernel
theorem dX12_bestAt_42 : decode cX12_bestAt 42 = .ok (.i2l, 1) := by decide +kernel
theorem dX12_bestAt_43 : decode cX12_bestAt 43 = .ok (.lconst 0, 1) := by decide +kernel
theorem dX12_bestAt_44 : decode cX12_bestAt 44 = .ok (.aload_n 0, 1) := by decide +kernel
theorem dX12_bestAt_45 : decode cX12_bestAt 45 = .ok (.getfield 88, 3) := by decide +kernel
theorem dX12_bestAt_48 : decode cX12_bestAt 48 = .ok (.iconst 1, 1) := by decide +kernel
theorem dX12_bestAt_49 : decode cX12_bestAt 49 = .ok (.isub, 1) := by decide +kernel
theorem dX12_bestAt_50 : decode cX12_bestAt 50 = .ok (.i2l, 1) := by decide +kernel
theorem dX12_bestAt_51 : decode cX12_bestAt 51 = .ok (.invokestatic 94, 3) := by decide +kernel
theorem dX12_bestAt_54 : decode cX12_bestAt 54 = .ok (.ifCond .ne 6, 3) := by decide +kernel
theorem dX12_bestAt_57 : decode cX12_bestAt 57 = .ok (.bipush (-9), 2) := by decide +kernel
theorem dX12_bestAt_59 : decode cX12_bestAt 59 = .ok (.ireturn, 1) := by decide +kernel
theorem dX12_bestAt_60 : decode cX12_bestAt 60 = .ok (.iconst 1, 1) := by decide +kernel
theorem dX12_bestAt_61 : decode cX12_bestAt 61 = .ok (.iload_n 2, 1) := by decide +kernel
theorem dX12_bestAt_62 : decode cX12_bestAt 62 = .ok (.ishl, 1) := by decide +kernel
theorem dX12_bestAt_63 : decode cX12_bestAt 63 = .ok (.istore 4, 2) := by decide +kernel
theorem dX12_bestAt_65 : decode cX12_bestAt 65 = .ok (.iload_n 2, 1) := by decide +kernel
theorem dX12_bestAt_66 : decode cX12_bestAt 66 = .ok (.istore 5, 2) := by decide +kernel
theorem dX12_bestAt_68 : decode cX12_bestAt 68 = .ok (.iconst 1, 1) := by decide +kernel
theorem dX12_bestAt_69 : decode cX12_bestAt 69 = .ok (.istore 6, 2) := by decide +kernel
theorem dX12_bestAt_71 : decode cX12_bestAt 71 = .ok (.iload 6, 2) := by decide +kernel
theorem dX12_bestAt_73 : decode cX12_bestAt 73 = .ok (.iload_n 3, 1) := by decide +kernel
theorem dX12_bestAt_74 : decode cX12_bestAt 74 = .ok (.if_icmp .gt 152, 3) := by decide +kernel
theorem dX12_bestAt_77 : decode cX12_bestAt 77 = .ok (.bipush (-9), 2) := by decide +kernel
theorem dX12_bestAt_79 : decode cX12_bestAt 79 = .ok (.istore 7, 2) := by decide +kernel
theorem dX12_bestAt_81 : decode cX12_bestAt 81 = .ok (.aload_n 0, 1) := by decide +kernel
theorem dX12_bestAt_82 : decode cX12_bestAt 82 = .ok (.getfield 88, 3) := by decide +kernel
theorem dX12_bestAt_85 : decode cX12_bestAt 85 = .ok (.iconst 1, 1) := by decide +kernel
theorem dX12_bestAt_86 : decode cX12_bestAt 86 = .ok (.isub, 1) := by decide +kernel
theorem dX12_bestAt_87 : decode cX12_bestAt 87 = .ok (.istore 8, 2) := by decide +kernel
theorem dX12_bestAt_89 : decode cX12_bestAt 89 = .ok (.iload 8, 2) := by decide +kernel
theorem dX12_bestAt_91 : decode cX12_bestAt 91 = .ok (.ifCond .lt 116, 3) := by decide +kernel
theorem dX12_bestAt_94 : decode cX12_bestAt 94 = .ok (.aload_n 0, 1) := by decide +kernel
theorem dX12_bestAt_95 : decode cX12_bestAt 95 = .ok (.getfield 25, 3) := by decide +kernel
theorem dX12_bestAt_98 : decode cX12_bestAt 98 = .ok (.iload 5, 2) := by decide +kernel
theorem dX12_bestAt_100 : decode cX12_bestAt 100 = .ok (.iaload, 1) := by decide +kernel
theorem dX12_bestAt_101 : decode cX12_bestAt 101 = .ok (.iload 8, 2) := by decide +kernel
theorem dX12_bestAt_103 : decode cX12_bestAt 103 = .ok (.ishr, 1) := by decide +kernel
theorem dX12_bestAt_104 : decode cX12_bestAt 104 = .ok (.iconst 1, 1) := by decide +kernel
theorem dX12_bestAt_105 : decode cX12_bestAt 105 = .ok (.iand, 1) := by decide +kernel
theorem dX12_bestAt_106 : decode cX12_bestAt 106 = .ok (.iconst 1, 1) := by decide +kernel
theorem dX12_bestAt_107 : decode cX12_bestAt 107 = .ok (.if_icmp .ne 17, 3) := by decide +kernel
theorem dX12_bestAt_110 : decode cX12_bestAt 110 = .ok (.iload 4, 2) := by decide +kernel
theorem dX12_bestAt_112 : decode cX12_bestAt 112 = .ok (.iload 8, 2) := by decide +kernel
theorem dX12_bestAt_114 : decode cX12_bestAt 114 = .ok (.ishr, 1) := by decide +kernel
theorem dX12_bestAt_115 : decode cX12_bestAt 115 = .ok (.iconst 1, 1) := by decide +kernel
theorem dX12_bestAt_116 : decode cX12_bestAt 116 = .ok (.iand, 1) := by decide +kernel
theorem dX12_bestAt_117 : decode cX12_bestAt 117 = .ok (.ifCond .ne 7, 3) := by decide +kernel
theorem dX12_bestAt_120 : decode cX12_bestAt 120 = .ok (.iconst 1, 1) := by decide +kernel
theorem dX12_bestAt_121 : decode cX12_bestAt 121 = .ok (.goto 4, 3) := by decide +kernel
theorem dX12_bestAt_124 : decode cX12_bestAt 124 = .ok (.iconst 0, 1) := by decide +kernel
theorem dX12_bestAt_125 : decode cX12_bestAt 125 = .ok (.istore 9, 2) := by decide +kernel
theorem dX12_bestAt_127 : decode cX12_bestAt 127 = .ok (.iload 9, 2) := by decide +kernel
theorem dX12_bestAt_129 : decode cX12_bestAt 129 = .ok (.ifCond .eq 24, 3) := by decide +kernel
theorem dX12_bestAt_132 : decode cX12_bestAt 132 = .ok (.aload_n 0, 1) := by decide +kernel
theorem dX12_bestAt_133 : decode cX12_bestAt 133 = .ok (.getfield 60, 3) := by decide +kernel
theorem dX12_bestAt_136 : decode cX12_bestAt 136 = .ok (.bipush 12, 2) := by decide +kernel
theorem dX12_bestAt_138 : decode cX12_bestAt 138 = .ok (.iload 4, 2) := by decide +kernel
theorem dX12_bestAt_140 : decode cX12_bestAt 140 = .ok (.iconst 1, 1) := by decide +kernel
theorem dX12_bestAt_141 : decode cX12_bestAt 141 = .ok (.iload 8, 2) := by decide +kernel
theorem dX12_bestAt_143 : decode cX12_bestAt 143 = .ok (.ishl, 1) := by decide +kernel
theorem dX12_bestAt_144 : decode cX12_bestAt 144 = .ok (.ior, 1) := by decide +kernel
theorem dX12_bestAt_145 : decode cX12_bestAt 145 = .ok (.imul, 1) := by decide +kernel
theorem dX12_bestAt_146 : decode cX12_bestAt 146 = .ok (.iload 8, 2) := by decide +kernel
theorem dX12_bestAt_148 : decode cX12_bestAt 148 = .ok (.iadd, 1) := by decide +kernel
theorem dX12_bestAt_149 : decode cX12_bestAt 149 = .ok (.iaload, 1) := by decide +kernel
theorem dX12_bestAt_150 : decode cX12_bestAt 150 = .ok (.goto 5, 3) := by decide +kernel
theorem dX12_bestAt_153 : decode cX12_bestAt 153 = .ok (.bipush (-9), 2) := by decide +kernel
theorem dX12_bestAt_155 : decode cX12_bestAt 155 = .ok (.istore 10, 2) := by decide +kernel
theorem dX12_bestAt_157 : decode cX12_bestAt 157 = .ok (.iload 10, 2) := by decide +kernel
theorem dX12_bestAt_159 : decode cX12_bestAt 159 = .ok (.bipush (-9), 2) := by decide +kernel
theorem dX12_bestAt_161 : decode cX12_bestAt 161 = .ok (.if_icmp .eq 36, 3) := by decide +kernel
theorem dX12_bestAt_164 : decode cX12_bestAt 164 = .ok (.iload 10, 2) := by decide +kernel
theorem dX12_bestAt_166 : decode cX12_bestAt 166 = .ok (.aload_n 0, 1) := by decide +kernel
theorem dX12_bestAt_167 : decode cX12_bestAt 167 = .ok (.iload_n 1, 1) := by decide +kernel
theorem dX12_bestAt_168 : decode cX12_bestAt 168 = .ok (.iload 6, 2) := by decide +kernel
theorem dX12_bestAt_170 : decode cX12_bestAt 170 = .ok (.iload 8, 2) := by decide +kernel
theorem dX12_bestAt_172 : decode cX12_bestAt 172 = .ok (.invokevirtual 218, 3) := by decide +kernel
theorem dX12_bestAt_175 : decode cX12_bestAt 175 = .ok (.iadd, 1) := by decide +kernel
theorem dX12_bestAt_176 : decode cX12_bestAt 176 = .ok (.aload_n 0, 1) := by decide +kernel
theorem dX12_bestAt_177 : decode cX12_bestAt 177 = .ok (.getfield 60, 3) := by decide +kernel
theorem dX12_bestAt_180 : decode cX12_bestAt 180 = .ok (.bipush 12, 2) := by decide +kernel
theorem dX12_bestAt_182 : decode cX12_bestAt 182 = .ok (.iload 4, 2) := by decide +kernel
theorem dX12_bestAt_184 : decode cX12_bestAt 184 = .ok (.imul, 1) := by decide +kernel
theorem dX12_bestAt_185 : decode cX12_bestAt 185 = .ok (.iload 5, 2) := by decide +kernel
theorem dX12_bestAt_187 : decode cX12_bestAt 187 = .ok (.iadd, 1) := by decide +kernel
theorem dX12_bestAt_188 : decode cX12_bestAt 188 = .ok (.iaload, 1) := by decide +kernel
theorem dX12_bestAt_189 : decode cX12_bestAt 189 = .ok (.if_icmp .ne 8, 3) := by decide +kernel
theorem dX12_bestAt_192 : decode cX12_bestAt 192 = .ok (.iload 8, 2) := by decide +kernel
theorem dX12_bestAt_194 : decode cX12_bestAt 194 = .ok (.goto 5, 3) := by decide +kernel
theorem dX12_bestAt_197 : decode cX12_bestAt 197 = .ok (.iload 7, 2) := by decide +kernel
theorem dX12_bestAt_199 : decode cX12_bestAt 199 = .ok (.istore 7, 2) := by decide +kernel
theorem dX12_bestAt_201 : decode cX12_bestAt 201 = .ok (.iinc 8 (-1), 3) := by decide +kernel
theorem dX12_bestAt_204 : decode cX12_bestAt 204 = .ok (.goto (-115), 3) := by decide +kernel
theorem dX12_bestAt_207 : decode cX12_bestAt 207 = .ok (.iload 7, 2) := by decide +kernel
theorem dX12_bestAt_209 : decode cX12_bestAt 209 = .ok (.istore 5, 2) := by decide +kernel
theorem dX12_bestAt_211 : decode cX12_bestAt 211 = .ok (.iload 4, 2) := by decide +kernel
theorem dX12_bestAt_213 : decode cX12_bestAt 213 = .ok (.iconst 1, 1) := by decide +kernel
theorem dX12_bestAt_214 : decode cX12_bestAt 214 = .ok (.iload 7, 2) := by decide +kernel
theorem dX12_bestAt_216 : decode cX12_bestAt 216 = .ok (.ishl, 1) := by decide +kernel
theorem dX12_bestAt_217 : decode cX12_bestAt 217 = .ok (.ior, 1) := by decide +kernel
theorem dX12_bestAt_218 : decode cX12_bestAt 218 = .ok (.istore 4, 2) := by decide +kernel
theorem dX12_bestAt_220 : decode cX12_bestAt 220 = .ok (.iinc 6 1, 3) := by decide +kernel
theorem dX12_bestAt_223 : decode cX12_bestAt 223 = .ok (.goto (-152), 3) := by decide +kernel
theorem dX12_bestAt_226 : decode cX12_bestAt 226 = .ok (.iload 5, 2) := by decide +kernel
theorem dX12_bestAt_228 : decode cX12_bestAt 228 = .ok (.ireturn, 1) := by decide +kernel
theorem dX12_hush_0 : decode cX12_hush 0 = .ok (.aload_n 0, 1) := by decide +kernel
theorem dX12_hush_1 : decode cX12_hush 1 = .ok (.iload_n 1, 1) := by decide +kernel
theorem dX12_hush_2 : decode cX12_hush 2 = .ok (.invokevirtual 163, 3) := by decide +kernel
theorem dX12_hush_5 : decode cX12_hush 5 = .ok (.ifCond .eq 11, 3) := by decide +kernel
theorem dX12_hush_8 : decode cX12_hush 8 = .ok (.aload_n 0, 1) := by decide +kernel
theorem dX12_hush_9 : decode cX12_hush 9 = .ok (.iload_n 2, 1) := by decide +kernel
theorem dX12_hush_10 : decode cX12_hush 10 = .ok (.invokevirtual 172, 3) := by decide +kernel
theorem dX12_hush_13 : decode cX12_hush 13 = .ok (.ifCond .ne 5, 3) := by decide +kernel
theorem dX12_hush_16 : decode cX12_hush 16 = .ok (.iconst (-1), 1) := by decide +kernel
theorem dX12_hush_17 : decode cX12_hush 17 = .ok (.ireturn, 1) := by decide +kernel
theorem dX12_hush_18 : decode cX12_hush 18 = .ok (.bipush (-9), 2) := by decide +kernel
theorem dX12_hush_20 : decode cX12_hush 20 = .ok (.istore_n 3, 1) := by decide +kernel
theorem dX12_hush_21 : decode cX12_hush 21 = .ok (.bipush 99, 2) := by decide +kernel
theorem dX12_hush_23 : decode cX12_hush 23 = .ok (.istore 4, 2) := by decide +kernel
theorem dX12_hush_25 : decode cX12_hush 25 = .ok (.iconst 0, 1) := by decide +kernel
theorem dX12_hush_26 : decode cX12_hush 26 = .ok (.istore 5, 2) := by decide +kernel
theorem dX12_hush_28 : decode cX12_hush 28 = .ok (.iload 5, 2) := by decide +kernel
theorem dX12_hush_30 : decode cX12_hush 30 = .ok (.iconst 1, 1) := by decide +kernel
theorem dX12_hush_31 : decode cX12_hush 31 = .ok (.aload_n 0, 1) := by decide +kernel
theorem dX12_hush_32 : decode cX12_hush 32 = .ok (.getfield 88, 3) := by decide +kernel
theorem dX12_hush_35 : decode cX12_hush 35 = .ok (.ishl, 1) := by decide +kernel
theorem dX12_hush_36 : decode cX12_hush 36 = .ok (.if_icmp .ge 80, 3) := by decide +kernel
theorem dX12_hush_39 : decode cX12_hush 39 = .ok (.iload 5, 2) := by decide +kernel
theorem dX12_hush_41 : decode cX12_hush 41 = .ok (.invokestatic 215, 3) := by decide +kernel
theorem dX12_hush_44 : decode cX12_hush 44 = .ok (.iload 4, 2) := by decide +kernel
theorem dX12_hush_46 : decode cX12_hush 46 = .ok (.if_icmp .ge 64, 3) := by decide +kernel
theorem dX12_hush_49 : decode cX12_hush 49 = .ok (.aload_n 0, 1) := by decide +kernel
theorem dX12_hush_50 : decode cX12_hush 50 = .ok (.iload_n 1, 1) := by decide +kernel
theorem dX12_hush_51 : decode cX12_hush 51 = .ok (.aload_n 0, 1) := by decide +kernel
theorem dX12_hush_52 : decode cX12_hush 52 = .ok (.getfield 31, 3) := by decide +kernel
theorem dX12_hush_55 : decode cX12_hush 55 = .ok (.iload_n 1, 1) := by decide +kernel
theorem dX12_hush_56 : decode cX12_hush 56 = .ok (.iaload, 1) := by decide +kernel
theorem dX12_hush_57 : decode cX12_hush 57 = .ok (.bipush (-9), 2) := by decide +kernel
theorem dX12_hush_59 : decode cX12_hush 59 = .ok (.iload 5, 2) := by decide +kernel
theorem dX12_hush_61 : decode cX12_hush 61 = .ok (.invokevirtual 177, 3) := by decide +kernel
theorem dX12_hush_64 : decode cX12_hush 64 = .ok (.aload_n 0, 1) := by decide +kernel
theorem dX12_hush_65 : decode cX12_hush 65 = .ok (.iload_n 2, 1) := by decide +kernel
theorem dX12_hush_66 : decode cX12_hush 66 = .ok (.invokevirtual 181, 3) := by decide +kernel
theorem dX12_hush_69 : decode cX12_hush 69 = .ok (.lconst 0, 1) := by decide +kernel
theorem dX12_hush_70 : decode cX12_hush 70 = .ok (.lcmp, 1) := by decide +kernel
theorem dX12_hush_71 : decode cX12_hush 71 = .ok (.ifCond .ne 7, 3) := by decide +kernel
theorem dX12_hush_74 : decode cX12_hush 74 = .ok (.iconst 1, 1) := by decide +kernel
theorem dX12_hush_75 : decode cX12_hush 75 = .ok (.goto 4, 3) := by decide +kernel
theorem dX12_hush_78 : decode cX12_hush 78 = .ok (.iconst 0, 1) := by decide +kernel
theorem dX12_hush_79 : decode cX12_hush 79 = .ok (.istore 6, 2) := by decide +kernel
theorem dX12_hush_81 : decode cX12_hush 81 = .ok (.iload 6, 2) := by decide +kernel
theorem dX12_hush_83 : decode cX12_hush 83 = .ok (.ifCond .eq 8, 3) := by decide +kernel
theorem dX12_hush_86 : decode cX12_hush 86 = .ok (.iload 5, 2) := by decide +kernel
theorem dX12_hush_88 : decode cX12_hush 88 = .ok (.goto 4, 3) := by decide +kernel
theorem dX12_hush_91 : decode cX12_hush 91 = .ok (.iload_n 3, 1) := by decide +kernel
theorem dX12_hush_92 : decode cX12_hush 92 = .ok (.istore_n 3, 1) := by decide +kernel
theorem dX12_hush_93 : decode cX12_hush 93 = .ok (.iload 6, 2) := by decide +kernel
theorem dX12_hush_95 : decode cX12_hush 95 = .ok (.ifCond .eq 11, 3) := by decide +kernel
theorem dX12_hush_98 : decode cX12_hush 98 = .ok (.iload 5, 2) := by decide +kernel
theorem dX12_hush_100 : decode cX12_hush 100 = .ok (.invokestatic 215, 3) := by decide +kernel
theorem dX12_hush_103 : decode cX12_hush 103 = .ok (.goto 5, 3) := by decide +kernel
theorem dX12_hush_106 : decode cX12_hush 106 = .ok (.iload 4, 2) := by decide +kernel
theorem dX12_hush_108 : decode cX12_hush 108 = .ok (.istore 4, 2) := by decide +kernel
theorem dX12_hush_110 : decode cX12_hush 110 = .ok (.iinc 5 1, 3) := by decide +kernel
theorem dX12_hush_113 : decode cX12_hush 113 = .ok (.goto (-85), 3) := by decide +kernel
theorem dX12_hush_116 : decode cX12_hush 116 = .ok (.iload_n 3, 1) := by decide +kernel
theorem dX12_hush_117 : decode cX12_hush 117 = .ok (.ireturn, 1) := by decide +kernel
theorem dX12_keep_0 : decode cX12_keep 0 = .ok (.iload_n 1, 1) := by decide +kernel
theorem dX12_keep_1 : decode cX12_keep 1 = .ok (.i2l, 1) := by decide +kernel
theorem dX12_keep_2 : decode cX12_keep 2 = .ok (.lconst 0, 1) := by decide +kernel
theorem dX12_keep_3 : decode cX12_keep 3 = .ok (.lconst 1, 1) := by decide +kernel
theorem dX12_keep_4 : decode cX12_keep 4 = .ok (.invokestatic 94, 3) := by decide +kernel
theorem dX12_keep_7 : decode cX12_keep 7 = .ok (.ifCond .ne 5, 3) := by decide +kernel
theorem dX12_keep_10 : decode cX12_keep 10 = .ok (.iconst (-1), 1) := by decide +kernel
theorem dX12_keep_11 : decode cX12_keep 11 = .ok (.ireturn, 1) := by decide +kernel
theorem dX12_keep_12 : decode cX12_keep 12 = .ok (.aload_n 0, 1) := by decide +kernel
theorem dX12_keep_13 : decode cX12_keep 13 = .ok (.getfield 63, 3) := by decide +kernel
theorem dX12_keep_16 : decode cX12_keep 16 = .ok (.iload_n 1, 1) := by decide +kernel
theorem dX12_keep_17 : decode cX12_keep 17 = .ok (.iconst 1, 1) := by decide +kernel
theorem dX12_keep_18 : decode cX12_keep 18 = .ok (.bastore, 1) := by decide +kernel
theorem dX12_keep_19 : decode cX12_keep 19 = .ok (.iconst 0, 1) := by decide +kernel
theorem dX12_keep_20 : decode cX12_keep 20 = .ok (.istore_n 2, 1) := by decide +kernel
theorem dX12_keep_21 : decode cX12_keep 21 = .ok (.iload_n 2, 1) := by decide +kernel
theorem dX12_keep_22 : decode cX12_keep 22 = .ok (.bipush 24, 2) := by decide +kernel
theorem dX12_keep_24 : decode cX12_keep 24 = .ok (.if_icmp .ge 43, 3) := by decide +kernel
theorem dX12_keep_27 : decode cX12_keep 27 = .ok (.aload_n 0, 1) := by decide +kernel
theorem dX12_keep_28 : decode cX12_keep 28 = .ok (.getfield 73, 3) := by decide +kernel
theorem dX12_keep_31 : decode cX12_keep 31 = .ok (.bipush 24, 2) := by decide +kernel
theorem dX12_keep_33 : decode cX12_keep 33 = .ok (.iload_n 1, 1) := by decide +kernel
theorem dX12_keep_34 : decode cX12_keep 34 = .ok (.imul, 1) := by decide +kernel
theorem dX12_keep_35 : decode cX12_keep 35 = .ok (.iload_n 2, 1) := by decide +kernel
theorem dX12_keep_36 : decode cX12_keep 36 = .ok (.iadd, 1) := by decide +kernel
theorem dX12_keep_37 : decode cX12_keep 37 = .ok (.aload_n 0, 1) := by decide +kernel
theorem dX12_keep_38 : decode cX12_keep 38 = .ok (.getfield 28, 3) := by decide +kernel
theorem dX12_keep_41 : decode cX12_keep 41 = .ok (.iload_n 2, 1) := by decide +kernel
theorem dX12_keep_42 : decode cX12_keep 42 = .ok (.iaload, 1) := by decide +kernel
theorem dX12_keep_43 : decode cX12_keep 43 = .ok (.iastore, 1) := by decide +kernel
theorem dX12_keep_44 : decode cX12_keep 44 = .ok (.aload_n 0, 1) := by decide +kernel
theorem dX12_keep_45 : decode cX12_keep 45 = .ok (.getfield 79, 3) := by decide +kernel
theorem dX12_keep_48 : decode cX12_keep 48 = .ok (.bipush 24, 2) := by decide +kernel
theorem dX12_keep_50 : decode cX12_keep 50 = .ok (.iload_n 1, 1) := by decide +kernel
theorem dX12_keep_51 : decode cX12_keep 51 = .ok (.imul, 1) := by decide +kernel
theorem dX12_keep_52 : decode cX12_keep 52 = .ok (.iload_n 2, 1) := by decide +kernel
theorem dX12_keep_53 : decode cX12_keep 53 = .ok (.iadd, 1) := by decide +kernel
theorem dX12_keep_54 : decode cX12_keep 54 = .ok (.aload_n 0, 1) := by decide +kernel
theorem dX12_keep_55 : decode cX12_keep 55 = .ok (.getfield 37, 3) := by decide +kernel
theorem dX12_keep_58 : decode cX12_keep 58 = .ok (.iload_n 2, 1) := by decide +kernel
theorem dX12_keep_59 : decode cX12_keep 59 = .ok (.iaload, 1) := by decide +kernel
theorem dX12_keep_60 : decode cX12_keep 60 = .ok (.iastore, 1) := by decide +kernel
theorem dX12_keep_61 : decode cX12_keep 61 = .ok (.iinc 2 1, 3) := by decide +kernel
theorem dX12_keep_64 : decode cX12_keep 64 = .ok (.goto (-43), 3) := by decide +kernel
theorem dX12_keep_67 : decode cX12_keep 67 = .ok (.iconst 0, 1) := by decide +kernel
theorem dX12_keep_68 : decode cX12_keep 68 = .ok (.istore_n 2, 1) := by decide +kernel
theorem dX12_keep_69 : decode cX12_keep 69 = .ok (.iload_n 2, 1) := by decide +kernel
theorem dX12_keep_70 : decode cX12_keep 70 = .ok (.bipush 12, 2) := by decide +kernel
theorem dX12_keep_72 : decode cX12_keep 72 = .ok (.if_icmp .ge 60, 3) := by decide +kernel
theorem dX12_keep_75 : decode cX12_keep 75 = .ok (.aload_n 0, 1) := by decide +kernel
theorem dX12_keep_76 : decode cX12_keep 76 = .ok (.getfield 67, 3) := by decide +kernel
theorem dX12_keep_79 : decode cX12_keep 79 = .ok (.bipush 12, 2) := by decide +kernel
theorem dX12_keep_81 : decode cX12_keep 81 = .ok (.iload_n 1, 1) := by decide +kernel
theorem dX12_keep_82 : decode cX12_keep 82 = .ok (.imul, 1) := by decide +kernel
theorem dX12_keep_83 : decode cX12_keep 83 = .ok (.iload_n 2, 1) := by decide +kernel
theorem dX12_keep_84 : decode cX12_keep 84 = .ok (.iadd, 1) := by decide +kernel
theorem dX12_keep_85 : decode cX12_keep 85 = .ok (.aload_n 0, 1) := by decide +kernel
theorem dX12_keep_86 : decode cX12_keep 86 = .ok (.getfield 22, 3) := by decide +kernel
theorem dX12_keep_89 : decode cX12_keep 89 = .ok (.iload_n 2, 1) := by decide +kernel
theorem dX12_keep_90 : decode cX12_keep 90 = .ok (.iaload, 1) := by decide +kernel
theorem dX12_keep_91 : decode cX12_keep 91 = .ok (.iastore, 1) := by decide +kernel
theorem dX12_keep_92 : decode cX12_keep 92 = .ok (.aload_n 0, 1) := by decide +kernel
theorem dX12_keep_93 : decode cX12_keep 93 = .ok (.getfield 70, 3) := by decide +kernel
theorem dX12_keep_96 : decode cX12_keep 96 = .ok (.bipush 12, 2) := by decide +kernel
theorem dX12_keep_98 : decode cX12_keep 98 = .ok (.iload_n 1, 1) := by decide +kernel
theorem dX12_keep_99 : decode cX12_keep 99 = .ok (.imul, 1) := by decide +kernel
theorem dX12_keep_100 : decode cX12_keep 100 = .ok (.iload_n 2, 1) := by decide +kernel
theorem dX12_keep_101 : decode cX12_keep 101 = .ok (.iadd, 1) := by decide +kernel
theorem dX12_keep_102 : decode cX12_keep 102 = .ok (.aload_n 0, 1) := by decide +kernel
theorem dX12_keep_103 : decode cX12_keep 103 = .ok (.getfield 25, 3) := by decide +kernel
theorem dX12_keep_106 : decode cX12_keep 106 = .ok (.iload_n 2, 1) := by decide +kernel
theorem dX12_keep_107 : decode cX12_keep 107 = .ok (.iaload, 1) := by decide +kernel
theorem dX12_keep_108 : decode cX12_keep 108 = .ok (.iastore, 1) := by decide +kernel
theorem dX12_keep_109 : decode cX12_keep 109 = .ok (.aload_n 0, 1) := by decide +kernel
theorem dX12_keep_110 : decode cX12_keep 110 = .ok (.getfield 82, 3) := by decide +kernel
theorem dX12_keep_113 : decode cX12_keep 113 = .ok (.bipush 12, 2) := by decide +kernel
theorem dX12_keep_115 : decode cX12_keep 115 = .ok (.iload_n 1, 1) := by decide +kernel
theorem dX12_keep_116 : decode cX12_keep 116 = .ok (.imul, 1) := by decide +kernel
theorem dX12_keep_117 : decode cX12_keep 117 = .ok (.iload_n 2, 1) := by decide +kernel
theorem dX12_keep_118 : decode cX12_keep 118 = .ok (.iadd, 1) := by decide +kernel
theorem dX12_keep_119 : decode cX12_keep 119 = .ok (.aload_n 0, 1) := by decide +kernel
theorem dX12_keep_120 : decode cX12_keep 120 = .ok (.getfield 56, 3) := by decide +kernel
theorem dX12_keep_123 : decode cX12_keep 123 = .ok (.iload_n 2, 1) := by decide +kernel
theorem dX12_keep_124 : decode cX12_keep 124 = .ok (.iaload, 1) := by decide +kernel
theorem dX12_keep_125 : decode cX12_keep 125 = .ok (.iastore, 1) := by decide +kernel
theorem dX12_keep_126 : decode cX12_keep 126 = .ok (.iinc 2 1, 3) := by decide +kernel
theorem dX12_keep_129 : decode cX12_keep 129 = .ok (.goto (-60), 3) := by decide +kernel
theorem dX12_keep_132 : decode cX12_keep 132 = .ok (.iconst 0, 1) := by decide +kernel
theorem dX12_keep_133 : decode cX12_keep 133 = .ok (.istore_n 2, 1) := by decide +kernel
theorem dX12_keep_134 : decode cX12_keep 134 = .ok (.iload_n 2, 1) := by decide +kernel
theorem dX12_keep_135 : decode cX12_keep 135 = .ok (.iconst 4, 1) := by decide +kernel
theorem dX12_keep_136 : decode cX12_keep 136 = .ok (.if_icmp .ge 25, 3) := by decide +kernel
theorem dX12_keep_139 : decode cX12_keep 139 = .ok (.aload_n 0, 1) := by decide +kernel
theorem dX12_keep_140 : decode cX12_keep 140 = .ok (.getfield 76, 3) := by decide +kernel
theorem dX12_keep_143 : decode cX12_keep 143 = .ok (.iconst 4, 1) := by decide +kernel
theorem dX12_keep_144 : decode cX12_keep 144 = .ok (.iload_n 1, 1) := by decide +kernel
theorem dX12_keep_145 : decode cX12_keep 145 = .ok (.imul, 1) := by decide +kernel
theorem dX12_keep_146 : decode cX12_keep 146 = .ok (.iload_n 2, 1) := by decide +kernel
theorem dX12_keep_147 : decode cX12_keep 147 = .ok (.iadd, 1) := by decide +kernel
theorem dX12_keep_148 : decode cX12_keep 148 = .ok (.aload_n 0, 1) := by decide +kernel
theorem dX12_keep_149 : decode cX12_keep 149 = .ok (.getfield 31, 3) := by decide +kernel
theorem dX12_keep_152 : decode cX12_keep 152 = .ok (.iload_n 2, 1) := by decide +kernel
theorem dX12_keep_153 : decode cX12_keep 153 = .ok (.iaload, 1) := by decide +kernel
theorem dX12_keep_154 : decode cX12_keep 154 = .ok (.iastore, 1) := by decide +kernel
theorem dX12_keep_155 : decode cX12_keep 155 = .ok (.iinc 2 1, 3) := by decide +kernel
theorem dX12_keep_158 : decode cX12_keep 158 = .ok (.goto (-24), 3) := by decide +kernel
theorem dX12_keep_161 : decode cX12_keep 161 = .ok (.aload_n 0, 1) := by decide +kernel
theorem dX12_keep_162 : decode cX12_keep 162 = .ok (.getfield 85, 3) := by decide +kernel
theorem dX12_keep_165 : decode cX12_keep 165 = .ok (.iconst 4, 1) := by decide +kernel
theorem dX12_keep_166 : decode cX12_keep 166 = .ok (.iload_n 1, 1) := by decide +kernel
theorem dX12_keep_167 : decode cX12_keep 167 = .ok (.imul, 1) := by decide +kernel
theorem dX12_keep_168 : decode cX12_keep 168 = .ok (.aload_n 0, 1) := by decide +kernel
theorem dX12_keep_169 : decode cX12_keep 169 = .ok (.getfield 88, 3) := by decide +kernel
theorem dX12_keep_172 : decode cX12_keep 172 = .ok (.iastore, 1) := by decide +kernel
theorem dX12_keep_173 : decode cX12_keep 173 = .ok (.aload_n 0, 1) := by decide +kernel
theorem dX12_keep_174 : decode cX12_keep 174 = .ok (.getfield 85, 3) := by decide +kernel
theorem dX12_keep_177 : decode cX12_keep 177 = .ok (.iconst 4, 1) := by decide +kernel
theorem dX12_keep_178 : decode cX12_keep 178 = .ok (.iload_n 1, 1) := by decide +kernel
theorem dX12_keep_179 : decode cX12_keep 179 = .ok (.imul, 1) := by decide +kernel
theorem dX12_keep_180 : decode cX12_keep 180 = .ok (.iconst 1, 1) := by decide +kernel
theorem dX12_keep_181 : decode cX12_keep 181 = .ok (.iadd, 1) := by decide +kernel
theorem dX12_keep_182 : decode cX12_keep 182 = .ok (.aload_n 0, 1) := by decide +kernel
theorem dX12_keep_183 : decode cX12_keep 183 = .ok (.getfield 148, 3) := by decide +kernel
theorem dX12_keep_186 : decode cX12_keep 186 = .ok (.iastore, 1) := by decide +kernel
theorem dX12_keep_187 : decode cX12_keep 187 = .ok (.aload_n 0, 1) := by decide +kernel
theorem dX12_keep_188 : decode cX12_keep 188 = .ok (.getfield 85, 3) := by decide +kernel
theorem dX12_keep_191 : decode cX12_keep 191 = .ok (.iconst 4, 1) := by decide +kernel
theorem dX12_keep_192 : decode cX12_keep 192 = .ok (.iload_n 1, 1) := by decide +kernel
theorem dX12_keep_193 : decode cX12_keep 193 = .ok (.imul, 1) := by decide +kernel
theorem dX12_keep_194 : decode cX12_keep 194 = .ok (.iconst 2, 1) := by decide +kernel
theorem dX12_keep_195 : decode cX12_keep 195 = .ok (.iadd, 1) := by decide +kernel
theorem dX12_keep_196 : decode cX12_keep 196 = .ok (.aload_n 0, 1) := by decide +kernel
theorem dX12_keep_197 : decode cX12_keep 197 = .ok (.getfield 151, 3) := by decide +kernel
theorem dX12_keep_200 : decode cX12_keep 200 = .ok (.iastore, 1) := by decide +kernel
theorem dX12_keep_201 : decode cX12_keep 201 = .ok (.aload_n 0, 1) := by decide +kernel
theorem dX12_keep_202 : decode cX12_keep 202 = .ok (.getfield 85, 3) := by decide +kernel
theorem dX12_keep_205 : decode cX12_keep 205 = .ok (.iconst 4, 1) := by decide +kernel
theorem dX12_keep_206 : decode cX12_keep 206 = .ok (.iload_n 1, 1) := by decide +kernel
theorem dX12_keep_207 : decode cX12_keep 207 = .ok (.imul, 1) := by decide +kernel
theorem dX12_keep_208 : decode cX12_keep 208 = .ok (.iconst 3, 1) := by decide +kernel
theorem dX12_keep_209 : decode cX12_keep 209 = .ok (.iadd, 1) := by decide +kernel
theorem dX12_keep_210 : decode cX12_keep 210 = .ok (.aload_n 0, 1) := by decide +kernel
theorem dX12_keep_211 : decode cX12_keep 211 = .ok (.getfield 154, 3) := by decide +kernel
theorem dX12_keep_214 : decode cX12_keep 214 = .ok (.iastore, 1) := by decide +kernel
theorem dX12_keep_215 : decode cX12_keep 215 = .ok (.aload_n 0, 1) := by decide +kernel
theorem dX12_keep_216 : decode cX12_keep 216 = .ok (.getfield 88, 3) := by decide +kernel
theorem dX12_keep_219 : decode cX12_keep 219 = .ok (.ireturn, 1) := by decide +kernel
theorem dX12_again_0 : decode cX12_again 0 = .ok (.iload_n 1, 1) := by decide +kernel
theorem dX12_again_1 : decode cX12_again 1 = .ok (.i2l, 1) := by decide +kernel
theorem dX12_again_2 : decode cX12_again 2 = .ok (.lconst 0, 1) := by decide +kernel
theorem dX12_again_3 : decode cX12_again 3 = .ok (.lconst 1, 1) := by decide +kernel
theorem dX12_again_4 : decode cX12_again 4 = .ok (.invokestatic 94, 3) := by decide +kernel
theorem dX12_again_7 : decode cX12_again 7 = .ok (.ifCond .ne 5, 3) := by decide +kernel
theorem dX12_again_10 : decode cX12_again 10 = .ok (.iconst (-1), 1) := by decide +kernel
theorem dX12_again_11 : decode cX12_again 11 = .ok (.ireturn, 1) := by decide +kernel
theorem dX12_again_12 : decode cX12_again 12 = .ok (.aload_n 0, 1) := by decide +kernel
theorem dX12_again_13 : decode cX12_again 13 = .ok (.getfield 63, 3) := by decide +kernel
theorem dX12_again_16 : decode cX12_again 16 = .ok (.iload_n 1, 1) := by decide +kernel
theorem dX12_again_17 : decode cX12_again 17 = .ok (.baload, 1) := by decide +kernel
theorem dX12_again_18 : decode cX12_again 18 = .ok (.ifCond .ne 6, 3) := by decide +kernel
theorem dX12_again_21 : decode cX12_again 21 = .ok (.bipush (-3), 2) := by decide +kernel
theorem dX12_again_23 : decode cX12_again 23 = .ok (.ireturn, 1) := by decide +kernel
theorem dX12_again_24 : decode cX12_again 24 = .ok (.iconst 0, 1) := by decide +kernel
theorem dX12_again_25 : decode cX12_again 25 = .ok (.istore_n 2, 1) := by decide +kernel
theorem dX12_again_26 : decode cX12_again 26 = .ok (.iload_n 2, 1) := by decide +kernel
theorem dX12_again_27 : decode cX12_again 27 = .ok (.bipush 24, 2) := by decide +kernel
theorem dX12_again_29 : decode cX12_again 29 = .ok (.if_icmp .ge 43, 3) := by decide +kernel
theorem dX12_again_32 : decode cX12_again 32 = .ok (.aload_n 0, 1) := by decide +kernel
theorem dX12_again_33 : decode cX12_again 33 = .ok (.getfield 28, 3) := by decide +kernel
theorem dX12_again_36 : decode cX12_again 36 = .ok (.iload_n 2, 1) := by decide +kernel
theorem dX12_again_37 : decode cX12_again 37 = .ok (.aload_n 0, 1) := by decide +kernel
theorem dX12_again_38 : decode cX12_again 38 = .ok (.getfield 73, 3) := by decide +kernel
theorem dX12_again_41 : decode cX12_again 41 = .ok (.bipush 24, 2) := by decide +kernel
theorem dX12_again_43 : decode cX12_again 43 = .ok (.iload_n 1, 1) := by decide +kernel
theorem dX12_again_44 : decode cX12_again 44 = .ok (.imul, 1) := by decide +kernel
theorem dX12_again_45 : decode cX12_again 45 = .ok (.iload_n 2, 1) := by decide +kernel
theorem dX12_again_46 : decode cX12_again 46 = .ok (.iadd, 1) := by decide +kernel
theorem dX12_again_47 : decode cX12_again 47 = .ok (.iaload, 1) := by decide +kernel
theorem dX12_again_48 : decode cX12_again 48 = .ok (.iastore, 1) := by decide +kernel
theorem dX12_again_49 : decode cX12_again 49 = .ok (.aload_n 0, 1) := by decide +kernel
theorem dX12_again_50 : decode cX12_again 50 = .ok (.getfield 37, 3) := by decide +kernel
theorem dX12_again_53 : decode cX12_again 53 = .ok (.iload_n 2, 1) := by decide +kernel
theorem dX12_again_54 : decode cX12_again 54 = .ok (.aload_n 0, 1) := by decide +kernel
theorem dX12_again_55 : decode cX12_again 55 = .ok (.getfield 79, 3) := by decide +kernel
theorem dX12_again_58 : decode cX12_again 58 = .ok (.bipush 24, 2) := by decide +kernel
theorem dX12_again_60 : decode cX12_again 60 = .ok (.iload_n 1, 1) := by decide +kernel
theorem dX12_again_61 : decode cX12_again 61 = .ok (.imul, 1) := by decide +kernel
theorem dX12_again_62 : decode cX12_again 62 = .ok (.iload_n 2, 1) := by decide +kernel
theorem dX12_again_63 : decode cX12_again 63 = .ok (.iadd, 1) := by decide +kernel
theorem dX12_again_64 : decode cX12_again 64 = .ok (.iaload, 1) := by decide +kernel
theorem dX12_again_65 : decode cX12_again 65 = .ok (.iastore, 1) := by decide +kernel
theorem dX12_again_66 : decode cX12_again 66 = .ok (.iinc 2 1, 3) := by decide +kernel
theorem dX12_again_69 : decode cX12_again 69 = .ok (.goto (-43), 3) := by decide +kernel
theorem dX12_again_72 : decode cX12_again 72 = .ok (.iconst 0, 1) := by decide +kernel
theorem dX12_again_73 : decode cX12_again 73 = .ok (.istore_n 2, 1) := by decide +kernel
theorem dX12_again_74 : decode cX12_again 74 = .ok (.iload_n 2, 1) := by decide +kernel
theorem dX12_again_75 : decode cX12_again 75 = .ok (.bipush 12, 2) := by decide +kernel
theorem dX12_again_77 : decode cX12_again 77 = .ok (.if_icmp .ge 60, 3) := by decide +kernel
theorem dX12_again_80 : decode cX12_again 80 = .ok (.aload_n 0, 1) := by decide +kernel
theorem dX12_again_81 : decode cX12_again 81 = .ok (.getfield 22, 3) := by decide +kernel
theorem dX12_again_84 : decode cX12_again 84 = .ok (.iload_n 2, 1) := by decide +kernel
theorem dX12_again_85 : decode cX12_again 85 = .ok (.aload_n 0, 1) := by decide +kernel
theorem dX12_again_86 : decode cX12_again 86 = .ok (.getfield 67, 3) := by decide +kernel
theorem dX12_again_89 : decode cX12_again 89 = .ok (.bipush 12, 2) := by decide +kernel
theorem dX12_again_91 : decode cX12_again 91 = .ok (.iload_n 1, 1) := by decide +kernel
theorem dX12_again_92 : decode cX12_again 92 = .ok (.imul, 1) := by decide +kernel
theorem dX12_again_93 : decode cX12_again 93 = .ok (.iload_n 2, 1) := by decide +kernel
theorem dX12_again_94 : decode cX12_again 94 = .ok (.iadd, 1) := by decide +kernel
theorem dX12_again_95 : decode cX12_again 95 = .ok (.iaload, 1) := by decide +kernel
theorem dX12_again_96 : decode cX12_again 96 = .ok (.iastore, 1) := by decide +kernel
theorem dX12_again_97 : decode cX12_again 97 = .ok (.aload_n 0, 1) := by decide +kernel
theorem dX12_again_98 : decode cX12_again 98 = .ok (.getfield 25, 3) := by decide +kernel
theorem dX12_again_101 : decode cX12_again 101 = .ok (.iload_n 2, 1) := by decide +kernel
theorem dX12_again_102 : decode cX12_again 102 = .ok (.aload_n 0, 1) := by decide +kernel
theorem dX12_again_103 : decode cX12_again 103 = .ok (.getfield 70, 3) := by decide +kernel
theorem dX12_again_106 : decode cX12_again 106 = .ok (.bipush 12, 2) := by decide +kernel
theorem dX12_again_108 : decode cX12_again 108 = .ok (.iload_n 1, 1) := by decide +kernel
theorem dX12_again_109 : decode cX12_again 109 = .ok (.imul, 1) := by decide +kernel
theorem dX12_again_110 : decode cX12_again 110 = .ok (.iload_n 2, 1) := by decide +kernel
theorem dX12_again_111 : decode cX12_again 111 = .ok (.iadd, 1) := by decide +kernel
theorem dX12_again_112 : decode cX12_again 112 = .ok (.iaload, 1) := by decide +kernel
theorem dX12_again_113 : decode cX12_again 113 = .ok (.iastore, 1) := by decide +kernel
theorem dX12_again_114 : decode cX12_again 114 = .ok (.aload_n 0, 1) := by decide +kernel
theorem dX12_again_115 : decode cX12_again 115 = .ok (.getfield 56, 3) := by decide +kernel
theorem dX12_again_118 : decode cX12_again 118 = .ok (.iload_n 2, 1) := by decide +kernel
theorem dX12_again_119 : decode cX12_again 119 = .ok (.aload_n 0, 1) := by decide +kernel
theorem dX12_again_120 : decode cX12_again 120 = .ok (.getfield 82, 3) := by decide +kernel
theorem dX12_again_123 : decode cX12_again 123 = .ok (.bipush 12, 2) := by decide +kernel
theorem dX12_again_125 : decode cX12_again 125 = .ok (.iload_n 1, 1) := by decide +kernel
theorem dX12_again_126 : decode cX12_again 126 = .ok (.imul, 1) := by decide +kernel
theorem dX12_again_127 : decode cX12_again 127 = .ok (.iload_n 2, 1) := by decide +kernel
theorem dX12_again_128 : decode cX12_again 128 = .ok (.iadd, 1) := by decide +kernel
theorem dX12_again_129 : decode cX12_again 129 = .ok (.iaload, 1) := by decide +kernel
theorem dX12_again_130 : decode cX12_again 130 = .ok (.iastore, 1) := by decide +kernel
theorem dX12_again_131 : decode cX12_again 131 = .ok (.iinc 2 1, 3) := by decide +kernel
theorem dX12_again_134 : decode cX12_again 134 = .ok (.goto (-60), 3) := by decide +kernel
theorem dX12_again_137 : decode cX12_again 137 = .ok (.iconst 0, 1) := by decide +kernel
theorem dX12_again_138 : decode cX12_again 138 = .ok (.istore_n 2, 1) := by decide +kernel
theorem dX12_again_139 : decode cX12_again 139 = .ok (.iload_n 2, 1) := by decide +kernel
theorem dX12_again_140 : decode cX12_again 140 = .ok (.iconst 4, 1) := by decide +kernel
theorem dX12_again_141 : decode cX12_again 141 = .ok (.if_icmp .ge 25, 3) := by decide +kernel
theorem dX12_again_144 : decode cX12_again 144 = .ok (.aload_n 0, 1) := by decide +kernel
theorem dX12_again_145 : decode cX12_again 145 = .ok (.getfield 31, 3) := by decide +kernel
theorem dX12_again_148 : decode cX12_again 148 = .ok (.iload_n 2, 1) := by decide +kernel
theorem dX12_again_149 : decode cX12_again 149 = .ok (.aload_n 0, 1) := by decide +kernel
theorem dX12_again_150 : decode cX12_again 150 = .ok (.getfield 76, 3) := by decide +kernel
theorem dX12_again_153 : decode cX12_again 153 = .ok (.iconst 4, 1) := by decide +kernel
theorem dX12_again_154 : decode cX12_again 154 = .ok (.iload_n 1, 1) := by decide +kernel
theorem dX12_again_155 : decode cX12_again 155 = .ok (.imul, 1) := by decide +kernel
theorem dX12_again_156 : decode cX12_again 156 = .ok (.iload_n 2, 1) := by decide +kernel
theorem dX12_again_157 : decode cX12_again 157 = .ok (.iadd, 1) := by decide +kernel
theorem dX12_again_158 : decode cX12_again 158 = .ok (.iaload, 1) := by decide +kernel
theorem dX12_again_159 : decode cX12_again 159 = .ok (.iastore, 1) := by decide +kernel
theorem dX12_again_160 : decode cX12_again 160 = .ok (.iinc 2 1, 3) := by decide +kernel
theorem dX12_again_163 : decode cX12_again 163 = .ok (.goto (-24), 3) := by decide +kernel
theorem dX12_again_166 : decode cX12_again 166 = .ok (.aload_n 0, 1) := by decide +kernel
theorem dX12_again_167 : decode cX12_again 167 = .ok (.aload_n 0, 1) := by decide +kernel
theorem dX12_again_168 : decode cX12_again 168 = .ok (.getfield 85, 3) := by decide +kernel
theorem dX12_again_171 : decode cX12_again 171 = .ok (.iconst 4, 1) := by decide +kernel
theorem dX12_again_172 : decode cX12_again 172 = .ok (.iload_n 1, 1) := by decide +kernel
theorem dX12_again_173 : decode cX12_again 173 = .ok (.imul, 1) := by decide +kernel
theorem dX12_again_174 : decode cX12_again 174 = .ok (.iaload, 1) := by decide +kernel
theorem dX12_again_175 : decode cX12_again 175 = .ok (.putfield 88, 3) := by decide +kernel
theorem dX12_again_178 : decode cX12_again 178 = .ok (.aload_n 0, 1) := by decide +kernel
theorem dX12_again_179 : decode cX12_again 179 = .ok (.aload_n 0, 1) := by decide +kernel
theorem dX12_again_180 : decode cX12_again 180 = .ok (.getfield 85, 3) := by decide +kernel
theorem dX12_again_183 : decode cX12_again 183 = .ok (.iconst 4, 1) := by decide +kernel
theorem dX12_again_184 : decode cX12_again 184 = .ok (.iload_n 1, 1) := by decide +kernel
theorem dX12_again_185 : decode cX12_again 185 = .ok (.imul, 1) := by decide +kernel
theorem dX12_again_186 : decode cX12_again 186 = .ok (.iconst 1, 1) := by decide +kernel
theorem dX12_again_187 : decode cX12_again 187 = .ok (.iadd, 1) := by decide +kernel
theorem dX12_again_188 : decode cX12_again 188 = .ok (.iaload, 1) := by decide +kernel
theorem dX12_again_189 : decode cX12_again 189 = .ok (.putfield 148, 3) := by decide +kernel
theorem dX12_again_192 : decode cX12_again 192 = .ok (.aload_n 0, 1) := by decide +kernel
theorem dX12_again_193 : decode cX12_again 193 = .ok (.aload_n 0, 1) := by decide +kernel
theorem dX12_again_194 : decode cX12_again 194 = .ok (.getfield 85, 3) := by decide +kernel
theorem dX12_again_197 : decode cX12_again 197 = .ok (.iconst 4, 1) := by decide +kernel
theorem dX12_again_198 : decode cX12_again 198 = .ok (.iload_n 1, 1) := by decide +kernel
theorem dX12_again_199 : decode cX12_again 199 = .ok (.imul, 1) := by decide +kernel
theorem dX12_again_200 : decode cX12_again 200 = .ok (.iconst 2, 1) := by decide +kernel
theorem dX12_again_201 : decode cX12_again 201 = .ok (.iadd, 1) := by decide +kernel
theorem dX12_again_202 : decode cX12_again 202 = .ok (.iaload, 1) := by decide +kernel
theorem dX12_again_203 : decode cX12_again 203 = .ok (.putfield 151, 3) := by decide +kernel
theorem dX12_again_206 : decode cX12_again 206 = .ok (.aload_n 0, 1) := by decide +kernel
theorem dX12_again_207 : decode cX12_again 207 = .ok (.aload_n 0, 1) := by decide +kernel
theorem dX12_again_208 : decode cX12_again 208 = .ok (.getfield 85, 3) := by decide +kernel
theorem dX12_again_211 : decode cX12_again 211 = .ok (.iconst 4, 1) := by decide +kernel
theorem dX12_again_212 : decode cX12_again 212 = .ok (.iload_n 1, 1) := by decide +kernel
theorem dX12_again_213 : decode cX12_again 213 = .ok (.imul, 1) := by decide +kernel
theorem dX12_again_214 : decode cX12_again 214 = .ok (.iconst 3, 1) := by decide +kernel
theorem dX12_again_215 : decode cX12_again 215 = .ok (.iadd, 1) := by decide +kernel
theorem dX12_again_216 : decode cX12_again 216 = .ok (.iaload, 1) := by decide +kernel
theorem dX12_again_217 : decode cX12_again 217 = .ok (.putfield 154, 3) := by decide +kernel
theorem dX12_again_220 : decode cX12_again 220 = .ok (.aload_n 0, 1) := by decide +kernel
theorem dX12_again_221 : decode cX12_again 221 = .ok (.getfield 88, 3) := by decide +kernel
theorem dX12_again_224 : decode cX12_again 224 = .ok (.ireturn, 1) := by decide +kernel
theorem dX12_count_0 : decode cX12_count 0 = .ok (.iconst 0, 1) := by decide +kernel
theorem dX12_count_1 : decode cX12_count 1 = .ok (.istore_n 2, 1) := by decide +kernel
theorem dX12_count_2 : decode cX12_count 2 = .ok (.iconst 0, 1) := by decide +kernel
theorem dX12_count_3 : decode cX12_count 3 = .ok (.istore_n 3, 1) := by decide +kernel
theorem dX12_count_4 : decode cX12_count 4 = .ok (.iconst 0, 1) := by decide +kernel
theorem dX12_count_5 : decode cX12_count 5 = .ok (.istore 4, 2) := by decide +kernel
theorem dX12_count_7 : decode cX12_count 7 = .ok (.iload 4, 2) := by decide +kernel
theorem dX12_count_9 : decode cX12_count 9 = .ok (.aload_n 0, 1) := by decide +kernel
theorem dX12_count_10 : decode cX12_count 10 = .ok (.getfield 88, 3) := by decide +kernel
theorem dX12_count_13 : decode cX12_count 13 = .ok (.if_icmp .ge 42, 3) := by decide +kernel
theorem dX12_count_16 : decode cX12_count 16 = .ok (.iload_n 2, 1) := by decide +kernel
theorem dX12_count_17 : decode cX12_count 17 = .ok (.aload_n 0, 1) := by decide +kernel
theorem dX12_count_18 : decode cX12_count 18 = .ok (.getfield 25, 3) := by decide +kernel
theorem dX12_count_21 : decode cX12_count 21 = .ok (.iload 4, 2) := by decide +kernel
theorem dX12_count_23 : decode cX12_count 23 = .ok (.iaload, 1) := by decide +kernel
theorem dX12_count_24 : decode cX12_count 24 = .ok (.invokestatic 215, 3) := by decide +kernel
theorem dX12_count_27 : decode cX12_count 27 = .ok (.iadd, 1) := by decide +kernel
theorem dX12_count_28 : decode cX12_count 28 = .ok (.istore_n 2, 1) := by decide +kernel
theorem dX12_count_29 : decode cX12_count 29 = .ok (.iload_n 3, 1) := by decide +kernel
theorem dX12_count_30 : decode cX12_count 30 = .ok (.aload_n 0, 1) := by decide +kernel
theorem dX12_count_31 : decode cX12_count 31 = .ok (.getfield 22, 3) := by decide +kernel
theorem dX12_count_34 : decode cX12_count 34 = .ok (.iload 4, 2) := by decide +kernel
theorem dX12_count_36 : decode cX12_count 36 = .ok (.iaload, 1) := by decide +kernel
theorem dX12_count_37 : decode cX12_count 37 = .ok (.bipush 7, 2) := by decide +kernel
theorem dX12_count_39 : decode cX12_count 39 = .ok (.if_icmp .ne 7, 3) := by decide +kernel
theorem dX12_count_42 : decode cX12_count 42 = .ok (.iconst 1, 1) := by decide +kernel
theorem dX12_count_43 : decode cX12_count 43 = .ok (.goto 4, 3) := by decide +kernel
theorem dX12_count_46 : decode cX12_count 46 = .ok (.iconst 0, 1) := by decide +kernel
theorem dX12_count_47 : decode cX12_count 47 = .ok (.iadd, 1) := by decide +kernel
theorem dX12_count_48 : decode cX12_count 48 = .ok (.istore_n 3, 1) := by decide +kernel
theorem dX12_count_49 : decode cX12_count 49 = .ok (.iinc 4 1, 3) := by decide +kernel
theorem dX12_count_52 : decode cX12_count 52 = .ok (.goto (-45), 3) := by decide +kernel
theorem dX12_count_55 : decode cX12_count 55 = .ok (.iload_n 1, 1) := by decide +kernel
theorem dX12_count_56 : decode cX12_count 56 = .ok (.tableswitch 75 0 6 #[44, 49, 54, 58, 63, 68, 73], 44) := by decide +kernel
theorem dX12_count_100 : decode cX12_count 100 = .ok (.aload_n 0, 1) := by decide +kernel
theorem dX12_count_101 : decode cX12_count 101 = .ok (.getfield 98, 3) := by decide +kernel
theorem dX12_count_104 : decode cX12_count 104 = .ok (.ireturn, 1) := by decide +kernel
theorem dX12_count_105 : decode cX12_count 105 = .ok (.aload_n 0, 1) := by decide +kernel
theorem dX12_count_106 : decode cX12_count 106 = .ok (.getfield 88, 3) := by decide +kernel
theorem dX12_count_109 : decode cX12_count 109 = .ok (.ireturn, 1) := by decide +kernel
theorem dX12_count_110 : decode cX12_count 110 = .ok (.iload_n 2, 1) := by decide +kernel
theorem dX12_count_111 : decode cX12_count 111 = .ok (.iconst 2, 1) := by decide +kernel
theorem dX12_count_112 : decode cX12_count 112 = .ok (.idiv, 1) := by decide +kernel
theorem dX12_count_113 : decode cX12_count 113 = .ok (.ireturn, 1) := by decide +kernel
theorem dX12_count_114 : decode cX12_count 114 = .ok (.aload_n 0, 1) := by decide +kernel
theorem dX12_count_115 : decode cX12_count 115 = .ok (.getfield 148, 3) := by decide +kernel
theorem dX12_count_118 : decode cX12_count 118 = .ok (.ireturn, 1) := by decide +kernel
theorem dX12_count_119 : decode cX12_count 119 = .ok (.aload_n 0, 1) := by decide +kernel
theorem dX12_count_120 : decode cX12_count 120 = .ok (.getfield 151, 3) := by decide +kernel
theorem dX12_count_123 : decode cX12_count 123 = .ok (.ireturn, 1) := by decide +kernel
theorem dX12_count_124 : decode cX12_count 124 = .ok (.aload_n 0, 1) := by decide +kernel
theorem dX12_count_125 : decode cX12_count 125 = .ok (.getfield 154, 3) := by decide +kernel
theorem dX12_count_128 : decode cX12_count 128 = .ok (.ireturn, 1) := by decide +kernel
theorem dX12_count_129 : decode cX12_count 129 = .ok (.iload_n 3, 1) := by decide +kernel
theorem dX12_count_130 : decode cX12_count 130 = .ok (.ireturn, 1) := by decide +kernel
theorem dX12_count_131 : decode cX12_count 131 = .ok (.bipush (-2), 2) := by decide +kernel
theorem dX12_count_133 : decode cX12_count 133 = .ok (.ireturn, 1) := by decide +kernel
