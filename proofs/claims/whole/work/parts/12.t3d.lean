theorem dX12_in_0 : decode cX12_in 0 = .ok (.lload_n 0, 1) := by decide +kernel
theorem dX12_in_1 : decode cX12_in 1 = .ok (.lload_n 2, 1) := by decide +kernel
theorem dX12_in_2 : decode cX12_in 2 = .ok (.lcmp, 1) := by decide +kernel
theorem dX12_in_3 : decode cX12_in 3 = .ok (.ifCond .lt 14, 3) := by decide +kernel
theorem dX12_in_6 : decode cX12_in 6 = .ok (.lload_n 0, 1) := by decide +kernel
theorem dX12_in_7 : decode cX12_in 7 = .ok (.lload 4, 2) := by decide +kernel
theorem dX12_in_9 : decode cX12_in 9 = .ok (.lcmp, 1) := by decide +kernel
theorem dX12_in_10 : decode cX12_in 10 = .ok (.ifCond .gt 7, 3) := by decide +kernel
theorem dX12_in_13 : decode cX12_in 13 = .ok (.iconst 1, 1) := by decide +kernel
theorem dX12_in_14 : decode cX12_in 14 = .ok (.goto 4, 3) := by decide +kernel
theorem dX12_in_17 : decode cX12_in 17 = .ok (.iconst 0, 1) := by decide +kernel
theorem dX12_in_18 : decode cX12_in 18 = .ok (.ireturn, 1) := by decide +kernel
theorem dX12_write_0 : decode cX12_write 0 = .ok (.iload_n 1, 1) := by decide +kernel
theorem dX12_write_1 : decode cX12_write 1 = .ok (.i2l, 1) := by decide +kernel
theorem dX12_write_2 : decode cX12_write 2 = .ok (.lconst 1, 1) := by decide +kernel
theorem dX12_write_3 : decode cX12_write 3 = .ok (.ldc2_w 92, 3) := by decide +kernel
theorem dX12_write_6 : decode cX12_write 6 = .ok (.invokestatic 94, 3) := by decide +kernel
theorem dX12_write_9 : decode cX12_write 9 = .ok (.ifCond .ne 6, 3) := by decide +kernel
theorem dX12_write_12 : decode cX12_write 12 = .ok (.bipush (-2), 2) := by decide +kernel
theorem dX12_write_14 : decode cX12_write 14 = .ok (.ireturn, 1) := by decide +kernel
theorem dX12_write_15 : decode cX12_write 15 = .ok (.aload_n 0, 1) := by decide +kernel
theorem dX12_write_16 : decode cX12_write 16 = .ok (.getfield 98, 3) := by decide +kernel
theorem dX12_write_19 : decode cX12_write 19 = .ok (.iload_n 1, 1) := by decide +kernel
theorem dX12_write_20 : decode cX12_write 20 = .ok (.iadd, 1) := by decide +kernel
theorem dX12_write_21 : decode cX12_write 21 = .ok (.bipush 96, 2) := by decide +kernel
theorem dX12_write_23 : decode cX12_write 23 = .ok (.if_icmp .le 6, 3) := by decide +kernel
theorem dX12_write_26 : decode cX12_write 26 = .ok (.bipush (-4), 2) := by decide +kernel
theorem dX12_write_28 : decode cX12_write 28 = .ok (.ireturn, 1) := by decide +kernel
theorem dX12_write_29 : decode cX12_write 29 = .ok (.iload_n 1, 1) := by decide +kernel
theorem dX12_write_30 : decode cX12_write 30 = .ok (.iconst 1, 1) := by decide +kernel
theorem dX12_write_31 : decode cX12_write 31 = .ok (.isub, 1) := by decide +kernel
theorem dX12_write_32 : decode cX12_write 32 = .ok (.istore 4, 2) := by decide +kernel
theorem dX12_write_34 : decode cX12_write 34 = .ok (.iload 4, 2) := by decide +kernel
theorem dX12_write_36 : decode cX12_write 36 = .ok (.ifCond .lt 40, 3) := by decide +kernel
theorem dX12_write_39 : decode cX12_write 39 = .ok (.aload_n 0, 1) := by decide +kernel
theorem dX12_write_40 : decode cX12_write 40 = .ok (.getfield 34, 3) := by decide +kernel
theorem dX12_write_43 : decode cX12_write 43 = .ok (.aload_n 0, 1) := by decide +kernel
theorem dX12_write_44 : decode cX12_write 44 = .ok (.getfield 98, 3) := by decide +kernel
theorem dX12_write_47 : decode cX12_write 47 = .ok (.lload_n 2, 1) := by decide +kernel
theorem dX12_write_48 : decode cX12_write 48 = .ok (.bipush 8, 2) := by decide +kernel
theorem dX12_write_50 : decode cX12_write 50 = .ok (.iload 4, 2) := by decide +kernel
theorem dX12_write_52 : decode cX12_write 52 = .ok (.imul, 1) := by decide +kernel
theorem dX12_write_53 : decode cX12_write 53 = .ok (.lshr, 1) := by decide +kernel
theorem dX12_write_54 : decode cX12_write 54 = .ok (.ldc2_w 101, 3) := by decide +kernel
theorem dX12_write_57 : decode cX12_write 57 = .ok (.land, 1) := by decide +kernel
theorem dX12_write_58 : decode cX12_write 58 = .ok (.l2i, 1) := by decide +kernel
theorem dX12_write_59 : decode cX12_write 59 = .ok (.iastore, 1) := by decide +kernel
theorem dX12_write_60 : decode cX12_write 60 = .ok (.aload_n 0, 1) := by decide +kernel
theorem dX12_write_61 : decode cX12_write 61 = .ok (.dup, 1) := by decide +kernel
theorem dX12_write_62 : decode cX12_write 62 = .ok (.getfield 98, 3) := by decide +kernel
theorem dX12_write_65 : decode cX12_write 65 = .ok (.iconst 1, 1) := by decide +kernel
theorem dX12_write_66 : decode cX12_write 66 = .ok (.iadd, 1) := by decide +kernel
theorem dX12_write_67 : decode cX12_write 67 = .ok (.putfield 98, 3) := by decide +kernel
theorem dX12_write_70 : decode cX12_write 70 = .ok (.iinc 4 (-1), 3) := by decide +kernel
theorem dX12_write_73 : decode cX12_write 73 = .ok (.goto (-39), 3) := by decide +kernel
theorem dX12_write_76 : decode cX12_write 76 = .ok (.aload_n 0, 1) := by decide +kernel
theorem dX12_write_77 : decode cX12_write 77 = .ok (.getfield 98, 3) := by decide +kernel
theorem dX12_write_80 : decode cX12_write 80 = .ok (.ireturn, 1) := by decide +kernel
theorem dX12_wipe_0 : decode cX12_wipe 0 = .ok (.aload_n 0, 1) := by decide +kernel
theorem dX12_wipe_1 : decode cX12_wipe 1 = .ok (.getfield 98, 3) := by decide +kernel
theorem dX12_wipe_4 : decode cX12_wipe 4 = .ok (.istore_n 1, 1) := by decide +kernel
theorem dX12_wipe_5 : decode cX12_wipe 5 = .ok (.aload_n 0, 1) := by decide +kernel
theorem dX12_wipe_6 : decode cX12_wipe 6 = .ok (.iconst 0, 1) := by decide +kernel
theorem dX12_wipe_7 : decode cX12_wipe 7 = .ok (.putfield 98, 3) := by decide +kernel
theorem dX12_wipe_10 : decode cX12_wipe 10 = .ok (.iload_n 1, 1) := by decide +kernel
theorem dX12_wipe_11 : decode cX12_wipe 11 = .ok (.ireturn, 1) := by decide +kernel
theorem dX12_here_0 : decode cX12_here 0 = .ok (.aload_n 0, 1) := by decide +kernel
theorem dX12_here_1 : decode cX12_here 1 = .ok (.getfield 103, 3) := by decide +kernel
theorem dX12_here_4 : decode cX12_here 4 = .ok (.bipush (-9), 2) := by decide +kernel
theorem dX12_here_6 : decode cX12_here 6 = .ok (.if_icmp .ne 26, 3) := by decide +kernel
theorem dX12_here_9 : decode cX12_here 9 = .ok (.aload_n 0, 1) := by decide +kernel
theorem dX12_here_10 : decode cX12_here 10 = .ok (.getfield 106, 3) := by decide +kernel
theorem dX12_here_13 : decode cX12_here 13 = .ok (.aload_n 0, 1) := by decide +kernel
theorem dX12_here_14 : decode cX12_here 14 = .ok (.getfield 98, 3) := by decide +kernel
theorem dX12_here_17 : decode cX12_here 17 = .ok (.if_icmp .ge 15, 3) := by decide +kernel
theorem dX12_here_20 : decode cX12_here 20 = .ok (.aload_n 0, 1) := by decide +kernel
theorem dX12_here_21 : decode cX12_here 21 = .ok (.getfield 34, 3) := by decide +kernel
theorem dX12_here_24 : decode cX12_here 24 = .ok (.aload_n 0, 1) := by decide +kernel
theorem dX12_here_25 : decode cX12_here 25 = .ok (.getfield 106, 3) := by decide +kernel
theorem dX12_here_28 : decode cX12_here 28 = .ok (.iaload, 1) := by decide +kernel
theorem dX12_here_29 : decode cX12_here 29 = .ok (.goto 4, 3) := by decide +kernel
theorem dX12_here_32 : decode cX12_here 32 = .ok (.iconst (-1), 1) := by decide +kernel
theorem dX12_here_33 : decode cX12_here 33 = .ok (.ireturn, 1) := by decide +kernel
theorem dX12_fail_0 : decode cX12_fail 0 = .ok (.aload_n 0, 1) := by decide +kernel
theorem dX12_fail_1 : decode cX12_fail 1 = .ok (.aload_n 0, 1) := by decide +kernel
theorem dX12_fail_2 : decode cX12_fail 2 = .ok (.getfield 103, 3) := by decide +kernel
theorem dX12_fail_5 : decode cX12_fail 5 = .ok (.bipush (-9), 2) := by decide +kernel
theorem dX12_fail_7 : decode cX12_fail 7 = .ok (.if_icmp .ne 10, 3) := by decide +kernel
theorem dX12_fail_10 : decode cX12_fail 10 = .ok (.aload_n 0, 1) := by decide +kernel
theorem dX12_fail_11 : decode cX12_fail 11 = .ok (.getfield 106, 3) := by decide +kernel
theorem dX12_fail_14 : decode cX12_fail 14 = .ok (.goto 7, 3) := by decide +kernel
theorem dX12_fail_17 : decode cX12_fail 17 = .ok (.aload_n 0, 1) := by decide +kernel
theorem dX12_fail_18 : decode cX12_fail 18 = .ok (.getfield 103, 3) := by decide +kernel
theorem dX12_fail_21 : decode cX12_fail 21 = .ok (.putfield 103, 3) := by decide +kernel
theorem dX12_fail_24 : decode cX12_fail 24 = .ok (.return_, 1) := by decide +kernel
theorem dX12_doorOf_0 : decode cX12_doorOf 0 = .ok (.aload_n 0, 1) := by decide +kernel
theorem dX12_doorOf_1 : decode cX12_doorOf 1 = .ok (.invokevirtual 109, 3) := by decide +kernel
theorem dX12_doorOf_4 : decode cX12_doorOf 4 = .ok (.istore_n 2, 1) := by decide +kernel
theorem dX12_doorOf_5 : decode cX12_doorOf 5 = .ok (.iload_n 2, 1) := by decide +kernel
theorem dX12_doorOf_6 : decode cX12_doorOf 6 = .ok (.i2l, 1) := by decide +kernel
theorem dX12_doorOf_7 : decode cX12_doorOf 7 = .ok (.ldc2_w 113, 3) := by decide +kernel
theorem dX12_doorOf_10 : decode cX12_doorOf 10 = .ok (.ldc2_w 115, 3) := by decide +kernel
theorem dX12_doorOf_13 : decode cX12_doorOf 13 = .ok (.invokestatic 94, 3) := by decide +kernel
theorem dX12_doorOf_16 : decode cX12_doorOf 16 = .ok (.ifCond .eq 10, 3) := by decide +kernel
theorem dX12_doorOf_19 : decode cX12_doorOf 19 = .ok (.iload_n 2, 1) := by decide +kernel
theorem dX12_doorOf_20 : decode cX12_doorOf 20 = .ok (.bipush 48, 2) := by decide +kernel
theorem dX12_doorOf_22 : decode cX12_doorOf 22 = .ok (.isub, 1) := by decide +kernel
theorem dX12_doorOf_23 : decode cX12_doorOf 23 = .ok (.goto 26, 3) := by decide +kernel
theorem dX12_doorOf_26 : decode cX12_doorOf 26 = .ok (.iload_n 2, 1) := by decide +kernel
theorem dX12_doorOf_27 : decode cX12_doorOf 27 = .ok (.i2l, 1) := by decide +kernel
theorem dX12_doorOf_28 : decode cX12_doorOf 28 = .ok (.ldc2_w 117, 3) := by decide +kernel
theorem dX12_doorOf_31 : decode cX12_doorOf 31 = .ok (.ldc2_w 119, 3) := by decide +kernel
theorem dX12_doorOf_34 : decode cX12_doorOf 34 = .ok (.invokestatic 94, 3) := by decide +kernel
theorem dX12_doorOf_37 : decode cX12_doorOf 37 = .ok (.ifCond .eq 10, 3) := by decide +kernel
theorem dX12_doorOf_40 : decode cX12_doorOf 40 = .ok (.iload_n 2, 1) := by decide +kernel
theorem dX12_doorOf_41 : decode cX12_doorOf 41 = .ok (.bipush 87, 2) := by decide +kernel
theorem dX12_doorOf_43 : decode cX12_doorOf 43 = .ok (.isub, 1) := by decide +kernel
theorem dX12_doorOf_44 : decode cX12_doorOf 44 = .ok (.goto 5, 3) := by decide +kernel
theorem dX12_doorOf_47 : decode cX12_doorOf 47 = .ok (.bipush 31, 2) := by decide +kernel
theorem dX12_doorOf_49 : decode cX12_doorOf 49 = .ok (.istore_n 3, 1) := by decide +kernel
theorem dX12_doorOf_50 : decode cX12_doorOf 50 = .ok (.iload_n 3, 1) := by decide +kernel
theorem dX12_doorOf_51 : decode cX12_doorOf 51 = .ok (.bipush 31, 2) := by decide +kernel
theorem dX12_doorOf_53 : decode cX12_doorOf 53 = .ok (.if_icmp .eq 11, 3) := by decide +kernel
theorem dX12_doorOf_56 : decode cX12_doorOf 56 = .ok (.iload_n 1, 1) := by decide +kernel
theorem dX12_doorOf_57 : decode cX12_doorOf 57 = .ok (.iload_n 3, 1) := by decide +kernel
theorem dX12_doorOf_58 : decode cX12_doorOf 58 = .ok (.ishr, 1) := by decide +kernel
theorem dX12_doorOf_59 : decode cX12_doorOf 59 = .ok (.iconst 1, 1) := by decide +kernel
theorem dX12_doorOf_60 : decode cX12_doorOf 60 = .ok (.iand, 1) := by decide +kernel
theorem dX12_doorOf_61 : decode cX12_doorOf 61 = .ok (.ifCond .ne 9, 3) := by decide +kernel
theorem dX12_doorOf_64 : decode cX12_doorOf 64 = .ok (.aload_n 0, 1) := by decide +kernel
theorem dX12_doorOf_65 : decode cX12_doorOf 65 = .ok (.invokevirtual 121, 3) := by decide +kernel
theorem dX12_doorOf_68 : decode cX12_doorOf 68 = .ok (.iconst 0, 1) := by decide +kernel
theorem dX12_doorOf_69 : decode cX12_doorOf 69 = .ok (.ireturn, 1) := by decide +kernel
theorem dX12_doorOf_70 : decode cX12_doorOf 70 = .ok (.aload_n 0, 1) := by decide +kernel
theorem dX12_doorOf_71 : decode cX12_doorOf 71 = .ok (.dup, 1) := by decide +kernel
theorem dX12_doorOf_72 : decode cX12_doorOf 72 = .ok (.getfield 106, 3) := by decide +kernel
theorem dX12_doorOf_75 : decode cX12_doorOf 75 = .ok (.iconst 1, 1) := by decide +kernel
theorem dX12_doorOf_76 : decode cX12_doorOf 76 = .ok (.iadd, 1) := by decide +kernel
theorem dX12_doorOf_77 : decode cX12_doorOf 77 = .ok (.putfield 106, 3) := by decide +kernel
theorem dX12_doorOf_80 : decode cX12_doorOf 80 = .ok (.iload_n 3, 1) := by decide +kernel
theorem dX12_doorOf_81 : decode cX12_doorOf 81 = .ok (.ireturn, 1) := by decide +kernel
theorem dX12_free_0 : decode cX12_free 0 = .ok (.iconst 1, 1) := by decide +kernel
theorem dX12_free_1 : decode cX12_free 1 = .ok (.aload_n 0, 1) := by decide +kernel
theorem dX12_free_2 : decode cX12_free 2 = .ok (.getfield 124, 3) := by decide +kernel
theorem dX12_free_5 : decode cX12_free 5 = .ok (.ishl, 1) := by decide +kernel
theorem dX12_free_6 : decode cX12_free 6 = .ok (.iconst 1, 1) := by decide +kernel
theorem dX12_free_7 : decode cX12_free 7 = .ok (.isub, 1) := by decide +kernel
theorem dX12_free_8 : decode cX12_free 8 = .ok (.aload_n 0, 1) := by decide +kernel
theorem dX12_free_9 : decode cX12_free 9 = .ok (.getfield 13, 3) := by decide +kernel
theorem dX12_free_12 : decode cX12_free 12 = .ok (.iload_n 1, 1) := by decide +kernel
theorem dX12_free_13 : decode cX12_free 13 = .ok (.iaload, 1) := by decide +kernel
theorem dX12_free_14 : decode cX12_free 14 = .ok (.iconst (-1), 1) := by decide +kernel
theorem dX12_free_15 : decode cX12_free 15 = .ok (.ixor, 1) := by decide +kernel
theorem dX12_free_16 : decode cX12_free 16 = .ok (.iand, 1) := by decide +kernel
theorem dX12_free_17 : decode cX12_free 17 = .ok (.iconst 1, 1) := by decide +kernel
theorem dX12_free_18 : decode cX12_free 18 = .ok (.iload_n 1, 1) := by decide +kernel
theorem dX12_free_19 : decode cX12_free 19 = .ok (.ishl, 1) := by decide +kernel
theorem dX12_free_20 : decode cX12_free 20 = .ok (.iconst (-1), 1) := by decide +kernel
theorem dX12_free_21 : decode cX12_free 21 = .ok (.ixor, 1) := by decide +kernel
theorem dX12_free_22 : decode cX12_free 22 = .ok (.iand, 1) := by decide +kernel
theorem dX12_free_23 : decode cX12_free 23 = .ok (.ireturn, 1) := by decide +kernel
theorem dX12_frees_0 : decode cX12_frees 0 = .ok (.iconst 0, 1) := by decide +kernel
theorem dX12_frees_1 : decode cX12_frees 1 = .ok (.istore_n 1, 1) := by decide +kernel
theorem dX12_frees_2 : decode cX12_frees 2 = .ok (.iconst 0, 1) := by decide +kernel
theorem dX12_frees_3 : decode cX12_frees 3 = .ok (.istore_n 2, 1) := by decide +kernel
theorem dX12_frees_4 : decode cX12_frees 4 = .ok (.iload_n 2, 1) := by decide +kernel
theorem dX12_frees_5 : decode cX12_frees 5 = .ok (.aload_n 0, 1) := by decide +kernel
theorem dX12_frees_6 : decode cX12_frees 6 = .ok (.getfield 124, 3) := by decide +kernel
theorem dX12_frees_9 : decode cX12_frees 9 = .ok (.if_icmp .ge 27, 3) := by decide +kernel
theorem dX12_frees_12 : decode cX12_frees 12 = .ok (.iload_n 1, 1) := by decide +kernel
theorem dX12_frees_13 : decode cX12_frees 13 = .ok (.aload_n 0, 1) := by decide +kernel
theorem dX12_frees_14 : decode cX12_frees 14 = .ok (.iload_n 2, 1) := by decide +kernel
theorem dX12_frees_15 : decode cX12_frees 15 = .ok (.invokevirtual 127, 3) := by decide +kernel
theorem dX12_frees_18 : decode cX12_frees 18 = .ok (.ifCond .eq 9, 3) := by decide +kernel
theorem dX12_frees_21 : decode cX12_frees 21 = .ok (.iconst 1, 1) := by decide +kernel
theorem dX12_frees_22 : decode cX12_frees 22 = .ok (.iload_n 2, 1) := by decide +kernel
theorem dX12_frees_23 : decode cX12_frees 23 = .ok (.ishl, 1) := by decide +kernel
theorem dX12_frees_24 : decode cX12_frees 24 = .ok (.goto 4, 3) := by decide +kernel
theorem dX12_frees_27 : decode cX12_frees 27 = .ok (.iconst 0, 1) := by decide +kernel
theorem dX12_frees_28 : decode cX12_frees 28 = .ok (.ior, 1) := by decide +kernel
theorem dX12_frees_29 : decode cX12_frees 29 = .ok (.istore_n 1, 1) := by decide +kernel
theorem dX12_frees_30 : decode cX12_frees 30 = .ok (.iinc 2 1, 3) := by decide +kernel
theorem dX12_frees_33 : decode cX12_frees 33 = .ok (.goto (-29), 3) := by decide +kernel
theorem dX12_frees_36 : decode cX12_frees 36 = .ok (.iload_n 1, 1) := by decide +kernel
theorem dX12_frees_37 : decode cX12_frees 37 = .ok (.ireturn, 1) := by decide +kernel
theorem dX12_readText_0 : decode cX12_readText 0 = .ok (.aload_n 0, 1) := by decide +kernel
theorem dX12_readText_1 : decode cX12_readText 1 = .ok (.iconst 0, 1) := by decide +kernel
theorem dX12_readText_2 : decode cX12_readText 2 = .ok (.putfield 106, 3) := by decide +kernel
theorem dX12_readText_5 : decode cX12_readText 5 = .ok (.aload_n 0, 1) := by decide +kernel
theorem dX12_readText_6 : decode cX12_readText 6 = .ok (.bipush (-9), 2) := by decide +kernel
theorem dX12_readText_8 : decode cX12_readText 8 = .ok (.putfield 103, 3) := by decide +kernel
theorem dX12_readText_11 : decode cX12_readText 11 = .ok (.aload_n 0, 1) := by decide +kernel
theorem dX12_readText_12 : decode cX12_readText 12 = .ok (.iconst 0, 1) := by decide +kernel
theorem dX12_readText_13 : decode cX12_readText 13 = .ok (.putfield 124, 3) := by decide +kernel
theorem dX12_readText_16 : decode cX12_readText 16 = .ok (.aload_n 0, 1) := by decide +kernel
theorem dX12_readText_17 : decode cX12_readText 17 = .ok (.iconst 0, 1) := by decide +kernel
theorem dX12_readText_18 : decode cX12_readText 18 = .ok (.putfield 131, 3) := by decide +kernel
theorem dX12_readText_21 : decode cX12_readText 21 = .ok (.aload_n 0, 1) := by decide +kernel
theorem dX12_readText_22 : decode cX12_readText 22 = .ok (.invokevirtual 109, 3) := by decide +kernel
theorem dX12_readText_25 : decode cX12_readText 25 = .ok (.bipush 68, 2) := by decide +kernel
theorem dX12_readText_27 : decode cX12_readText 27 = .ok (.if_icmp .eq 5, 3) := by decide +kernel
theorem dX12_readText_30 : decode cX12_readText 30 = .ok (.iconst 0, 1) := by decide +kernel
theorem dX12_readText_31 : decode cX12_readText 31 = .ok (.ireturn, 1) := by decide +kernel
theorem dX12_readText_32 : decode cX12_readText 32 = .ok (.aload_n 0, 1) := by decide +kernel
theorem dX12_readText_33 : decode cX12_readText 33 = .ok (.iconst 1, 1) := by decide +kernel
theorem dX12_readText_34 : decode cX12_readText 34 = .ok (.putfield 106, 3) := by decide +kernel
theorem dX12_readText_37 : decode cX12_readText 37 = .ok (.aload_n 0, 1) := by decide +kernel
theorem dX12_readText_38 : decode cX12_readText 38 = .ok (.getfield 124, 3) := by decide +kernel
theorem dX12_readText_41 : decode cX12_readText 41 = .ok (.bipush 12, 2) := by decide +kernel
theorem dX12_readText_43 : decode cX12_readText 43 = .ok (.if_icmp .ge 69, 3) := by decide +kernel
theorem dX12_readText_46 : decode cX12_readText 46 = .ok (.aload_n 0, 1) := by decide +kernel
theorem dX12_readText_47 : decode cX12_readText 47 = .ok (.invokevirtual 109, 3) := by decide +kernel
theorem dX12_readText_50 : decode cX12_readText 50 = .ok (.i2l, 1) := by decide +kernel
theorem dX12_readText_51 : decode cX12_readText 51 = .ok (.ldc2_w 117, 3) := by decide +kernel
theorem dX12_readText_54 : decode cX12_readText 54 = .ok (.ldc2_w 134, 3) := by decide +kernel
theorem dX12_readText_57 : decode cX12_readText 57 = .ok (.invokestatic 94, 3) := by decide +kernel
theorem dX12_readText_60 : decode cX12_readText 60 = .ok (.ifCond .eq 52, 3) := by decide +kernel
theorem dX12_readText_63 : decode cX12_readText 63 = .ok (.aload_n 0, 1) := by decide +kernel
theorem dX12_readText_64 : decode cX12_readText 64 = .ok (.getfield 7, 3) := by decide +kernel
theorem dX12_readText_67 : decode cX12_readText 67 = .ok (.aload_n 0, 1) := by decide +kernel
theorem dX12_readText_68 : decode cX12_readText 68 = .ok (.getfield 124, 3) := by decide +kernel
theorem dX12_readText_71 : decode cX12_readText 71 = .ok (.aload_n 0, 1) := by decide +kernel
theorem dX12_readText_72 : decode cX12_readText 72 = .ok (.invokevirtual 109, 3) := by decide +kernel
theorem dX12_readText_75 : decode cX12_readText 75 = .ok (.bipush 97, 2) := by decide +kernel
theorem dX12_readText_77 : decode cX12_readText 77 = .ok (.isub, 1) := by decide +kernel
theorem dX12_readText_78 : decode cX12_readText 78 = .ok (.iastore, 1) := by decide +kernel
theorem dX12_readText_79 : decode cX12_readText 79 = .ok (.aload_n 0, 1) := by decide +kernel
theorem dX12_readText_80 : decode cX12_readText 80 = .ok (.getfield 13, 3) := by decide +kernel
theorem dX12_readText_83 : decode cX12_readText 83 = .ok (.aload_n 0, 1) := by decide +kernel
theorem dX12_readText_84 : decode cX12_readText 84 = .ok (.getfield 124, 3) := by decide +kernel
theorem dX12_readText_87 : decode cX12_readText 87 = .ok (.iconst 0, 1) := by decide +kernel
theorem dX12_readText_88 : decode cX12_readText 88 = .ok (.iastore, 1) := by decide +kernel
theorem dX12_readText_89 : decode cX12_readText 89 = .ok (.aload_n 0, 1) := by decide +kernel
theorem dX12_readText_90 : decode cX12_readText 90 = .ok (.dup, 1) := by decide +kernel
theorem dX12_readText_91 : decode cX12_readText 91 = .ok (.getfield 124, 3) := by decide +kernel
theorem dX12_readText_94 : decode cX12_readText 94 = .ok (.iconst 1, 1) := by decide +kernel
theorem dX12_readText_95 : decode cX12_readText 95 = .ok (.iadd, 1) := by decide +kernel
theorem dX12_readText_96 : decode cX12_readText 96 = .ok (.putfield 124, 3) := by decide +kernel
theorem dX12_readText_99 : decode cX12_readText 99 = .ok (.aload_n 0, 1) := by decide +kernel
theorem dX12_readText_100 : decode cX12_readText 100 = .ok (.dup, 1) := by decide +kernel
theorem dX12_readText_101 : decode cX12_readText 101 = .ok (.getfield 106, 3) := by decide +kernel
theorem dX12_readText_104 : decode cX12_readText 104 = .ok (.iconst 1, 1) := by decide +kernel
theorem dX12_readText_105 : decode cX12_readText 105 = .ok (.iadd, 1) := by decide +kernel
theorem dX12_readText_106 : decode cX12_readText 106 = .ok (.putfield 106, 3) := by decide +kernel
theorem dX12_readText_109 : decode cX12_readText 109 = .ok (.goto (-72), 3) := by decide +kernel
theorem dX12_readText_112 : decode cX12_readText 112 = .ok (.aload_n 0, 1) := by decide +kernel
theorem dX12_readText_113 : decode cX12_readText 113 = .ok (.getfield 124, 3) := by decide +kernel
theorem dX12_readText_116 : decode cX12_readText 116 = .ok (.ifCond .ne 7, 3) := by decide +kernel
theorem dX12_readText_119 : decode cX12_readText 119 = .ok (.aload_n 0, 1) := by decide +kernel
theorem dX12_readText_120 : decode cX12_readText 120 = .ok (.invokevirtual 121, 3) := by decide +kernel
theorem dX12_readText_123 : decode cX12_readText 123 = .ok (.aload_n 0, 1) := by decide +kernel
theorem dX12_readText_124 : decode cX12_readText 124 = .ok (.getfield 103, 3) := by decide +kernel
theorem dX12_readText_127 : decode cX12_readText 127 = .ok (.bipush (-9), 2) := by decide +kernel
theorem dX12_readText_129 : decode cX12_readText 129 = .ok (.if_icmp .ne 21, 3) := by decide +kernel
theorem dX12_readText_132 : decode cX12_readText 132 = .ok (.aload_n 0, 1) := by decide +kernel
theorem dX12_readText_133 : decode cX12_readText 133 = .ok (.getfield 106, 3) := by decide +kernel
theorem dX12_readText_136 : decode cX12_readText 136 = .ok (.aload_n 0, 1) := by decide +kernel
theorem dX12_readText_137 : decode cX12_readText 137 = .ok (.getfield 98, 3) := by decide +kernel
theorem dX12_readText_140 : decode cX12_readText 140 = .ok (.if_icmp .ge 10, 3) := by decide +kernel
theorem dX12_readText_143 : decode cX12_readText 143 = .ok (.aload_n 0, 1) := by decide +kernel
theorem dX12_readText_144 : decode cX12_readText 144 = .ok (.invokevirtual 136, 3) := by decide +kernel
theorem dX12_readText_147 : decode cX12_readText 147 = .ok (.goto (-24), 3) := by decide +kernel
theorem dX12_readText_150 : decode cX12_readText 150 = .ok (.aload_n 0, 1) := by decide +kernel
theorem dX12_readText_151 : decode cX12_readText 151 = .ok (.getfield 103, 3) := by decide +kernel
theorem dX12_readText_154 : decode cX12_readText 154 = .ok (.ireturn, 1) := by decide +kernel
theorem dX12_readPart_0 : decode cX12_readPart 0 = .ok (.aload_n 0, 1) := by decide +kernel
theorem dX12_readPart_1 : decode cX12_readPart 1 = .ok (.invokevirtual 109, 3) := by decide +kernel
theorem dX12_readPart_4 : decode cX12_readPart 4 = .ok (.bipush 87, 2) := by decide +kernel
theorem dX12_readPart_6 : decode cX12_readPart 6 = .ok (.if_icmp .ne 75, 3) := by decide +kernel
theorem dX12_readPart_9 : decode cX12_readPart 9 = .ok (.aload_n 0, 1) := by decide +kernel
theorem dX12_readPart_10 : decode cX12_readPart 10 = .ok (.invokevirtual 139, 3) := by decide +kernel
theorem dX12_readPart_13 : decode cX12_readPart 13 = .ok (.ifCond .eq 68, 3) := by decide +kernel
theorem dX12_readPart_16 : decode cX12_readPart 16 = .ok (.aload_n 0, 1) := by decide +kernel
theorem dX12_readPart_17 : decode cX12_readPart 17 = .ok (.dup, 1) := by decide +kernel
theorem dX12_readPart_18 : decode cX12_readPart 18 = .ok (.getfield 106, 3) := by decide +kernel
theorem dX12_readPart_21 : decode cX12_readPart 21 = .ok (.iconst 1, 1) := by decide +kernel
theorem dX12_readPart_22 : decode cX12_readPart 22 = .ok (.iadd, 1) := by decide +kernel
theorem dX12_readPart_23 : decode cX12_readPart 23 = .ok (.putfield 106, 3) := by decide +kernel
theorem dX12_readPart_26 : decode cX12_readPart 26 = .ok (.aload_n 0, 1) := by decide +kernel
theorem dX12_readPart_27 : decode cX12_readPart 27 = .ok (.aload_n 0, 1) := by decide +kernel
theorem dX12_readPart_28 : decode cX12_readPart 28 = .ok (.invokevirtual 139, 3) := by decide +kernel
theorem dX12_readPart_31 : decode cX12_readPart 31 = .ok (.invokevirtual 142, 3) := by decide +kernel
theorem dX12_readPart_34 : decode cX12_readPart 34 = .ok (.istore_n 1, 1) := by decide +kernel
theorem dX12_readPart_35 : decode cX12_readPart 35 = .ok (.aload_n 0, 1) := by decide +kernel
theorem dX12_readPart_36 : decode cX12_readPart 36 = .ok (.aload_n 0, 1) := by decide +kernel
theorem dX12_readPart_37 : decode cX12_readPart 37 = .ok (.iload_n 1, 1) := by decide +kernel
theorem dX12_readPart_38 : decode cX12_readPart 38 = .ok (.invokevirtual 127, 3) := by decide +kernel
theorem dX12_readPart_41 : decode cX12_readPart 41 = .ok (.invokevirtual 142, 3) := by decide +kernel
theorem dX12_readPart_44 : decode cX12_readPart 44 = .ok (.istore_n 2, 1) := by decide +kernel
theorem dX12_readPart_45 : decode cX12_readPart 45 = .ok (.aload_n 0, 1) := by decide +kernel
theorem dX12_readPart_46 : decode cX12_readPart 46 = .ok (.getfield 103, 3) := by decide +kernel
theorem dX12_readPart_49 : decode cX12_readPart 49 = .ok (.bipush (-9), 2) := by decide +kernel
theorem dX12_readPart_51 : decode cX12_readPart 51 = .ok (.if_icmp .ne 27, 3) := by decide +kernel
theorem dX12_readPart_54 : decode cX12_readPart 54 = .ok (.aload_n 0, 1) := by decide +kernel
theorem dX12_readPart_55 : decode cX12_readPart 55 = .ok (.getfield 13, 3) := by decide +kernel
theorem dX12_readPart_58 : decode cX12_readPart 58 = .ok (.iload_n 1, 1) := by decide +kernel
theorem dX12_readPart_59 : decode cX12_readPart 59 = .ok (.dup2, 1) := by decide +kernel
theorem dX12_readPart_60 : decode cX12_readPart 60 = .ok (.iaload, 1) := by decide +kernel
theorem dX12_readPart_61 : decode cX12_readPart 61 = .ok (.iconst 1, 1) := by decide +kernel
theorem dX12_readPart_62 : decode cX12_readPart 62 = .ok (.iload_n 2, 1) := by decide +kernel
theorem dX12_readPart_63 : decode cX12_readPart 63 = .ok (.ishl, 1) := by decide +kernel
theorem dX12_readPart_64 : decode cX12_readPart 64 = .ok (.ior, 1) := by decide +kernel
theorem dX12_readPart_65 : decode cX12_readPart 65 = .ok (.iastore, 1) := by decide +kernel
theorem dX12_readPart_66 : decode cX12_readPart 66 = .ok (.aload_n 0, 1) := by decide +kernel
theorem dX12_readPart_67 : decode cX12_readPart 67 = .ok (.getfield 13, 3) := by decide +kernel
theorem dX12_readPart_70 : decode cX12_readPart 70 = .ok (.iload_n 2, 1) := by decide +kernel
theorem dX12_readPart_71 : decode cX12_readPart 71 = .ok (.dup2, 1) := by decide +kernel
theorem dX12_readPart_72 : decode cX12_readPart 72 = .ok (.iaload, 1) := by decide +kernel
theorem dX12_readPart_73 : decode cX12_readPart 73 = .ok (.iconst 1, 1) := by decide +kernel
theorem dX12_readPart_74 : decode cX12_readPart 74 = .ok (.iload_n 1, 1) := by decide +kernel
theorem dX12_readPart_75 : decode cX12_readPart 75 = .ok (.ishl, 1) := by decide +kernel
theorem dX12_readPart_76 : decode cX12_readPart 76 = .ok (.ior, 1) := by decide +kernel
theorem dX12_readPart_77 : decode cX12_readPart 77 = .ok (.iastore, 1) := by decide +kernel
theorem dX12_readPart_78 : decode cX12_readPart 78 = .ok (.goto 150, 3) := by decide +kernel
theorem dX12_readPart_81 : decode cX12_readPart 81 = .ok (.aload_n 0, 1) := by decide +kernel
theorem dX12_readPart_82 : decode cX12_readPart 82 = .ok (.invokevirtual 109, 3) := by decide +kernel
theorem dX12_readPart_85 : decode cX12_readPart 85 = .ok (.bipush 83, 2) := by decide +kernel
theorem dX12_readPart_87 : decode cX12_readPart 87 = .ok (.if_icmp .ne 137, 3) := by decide +kernel
theorem dX12_readPart_90 : decode cX12_readPart 90 = .ok (.aload_n 0, 1) := by decide +kernel
theorem dX12_readPart_91 : decode cX12_readPart 91 = .ok (.getfield 131, 3) := by decide +kernel
theorem dX12_readPart_94 : decode cX12_readPart 94 = .ok (.iconst 4, 1) := by decide +kernel
theorem dX12_readPart_95 : decode cX12_readPart 95 = .ok (.if_icmp .ge 129, 3) := by decide +kernel
theorem dX12_readPart_98 : decode cX12_readPart 98 = .ok (.aload_n 0, 1) := by decide +kernel
theorem dX12_readPart_99 : decode cX12_readPart 99 = .ok (.dup, 1) := by decide +kernel
theorem dX12_readPart_100 : decode cX12_readPart 100 = .ok (.getfield 106, 3) := by decide +kernel
theorem dX12_readPart_103 : decode cX12_readPart 103 = .ok (.iconst 1, 1) := by decide +kernel
theorem dX12_readPart_104 : decode cX12_readPart 104 = .ok (.iadd, 1) := by decide +kernel
theorem dX12_readPart_105 : decode cX12_readPart 105 = .ok (.putfield 106, 3) := by decide +kernel
theorem dX12_readPart_108 : decode cX12_readPart 108 = .ok (.iconst 0, 1) := by decide +kernel
theorem dX12_readPart_109 : decode cX12_readPart 109 = .ok (.istore_n 1, 1) := by decide +kernel
theorem dX12_readPart_110 : decode cX12_readPart 110 = .ok (.iload_n 1, 1) := by decide +kernel
theorem dX12_readPart_111 : decode cX12_readPart 111 = .ok (.bipush 6, 2) := by decide +kernel
theorem dX12_readPart_113 : decode cX12_readPart 113 = .ok (.if_icmp .ge 80, 3) := by decide +kernel
theorem dX12_readPart_116 : decode cX12_readPart 116 = .ok (.aload_n 0, 1) := by decide +kernel
theorem dX12_readPart_117 : decode cX12_readPart 117 = .ok (.invokevirtual 109, 3) := by decide +kernel
theorem dX12_readPart_120 : decode cX12_readPart 120 = .ok (.i2l, 1) := by decide +kernel
theorem dX12_readPart_121 : decode cX12_readPart 121 = .ok (.ldc2_w 117, 3) := by decide +kernel
theorem dX12_readPart_124 : decode cX12_readPart 124 = .ok (.ldc2_w 134, 3) := by decide +kernel
theorem dX12_readPart_127 : decode cX12_readPart 127 = .ok (.invokestatic 94, 3) := by decide +kernel
theorem dX12_readPart_130 : decode cX12_readPart 130 = .ok (.ifCond .ne 12, 3) := by decide +kernel
theorem dX12_readPart_133 : decode cX12_readPart 133 = .ok (.aload_n 0, 1) := by decide +kernel
theorem dX12_readPart_134 : decode cX12_readPart 134 = .ok (.invokevirtual 109, 3) := by decide +kernel
theorem dX12_readPart_137 : decode cX12_readPart 137 = .ok (.bipush 46, 2) := by decide +kernel
theorem dX12_readPart_139 : decode cX12_readPart 139 = .ok (.if_icmp .ne 54, 3) := by decide +kernel
theorem dX12_readPart_142 : decode cX12_readPart 142 = .ok (.aload_n 0, 1) := by decide +kernel
theorem dX12_readPart_143 : decode cX12_readPart 143 = .ok (.getfield 16, 3) := by decide +kernel
theorem dX12_readPart_146 : decode cX12_readPart 146 = .ok (.bipush 6, 2) := by decide +kernel
theorem dX12_readPart_148 : decode cX12_readPart 148 = .ok (.aload_n 0, 1) := by decide +kernel
theorem dX12_readPart_149 : decode cX12_readPart 149 = .ok (.getfield 131, 3) := by decide +kernel
theorem dX12_readPart_152 : decode cX12_readPart 152 = .ok (.imul, 1) := by decide +kernel
theorem dX12_readPart_153 : decode cX12_readPart 153 = .ok (.iload_n 1, 1) := by decide +kernel
theorem dX12_readPart_154 : decode cX12_readPart 154 = .ok (.iadd, 1) := by decide +kernel
theorem dX12_readPart_155 : decode cX12_readPart 155 = .ok (.aload_n 0, 1) := by decide +kernel
theorem dX12_readPart_156 : decode cX12_readPart 156 = .ok (.invokevirtual 109, 3) := by decide +kernel
theorem dX12_readPart_159 : decode cX12_readPart 159 = .ok (.bipush 46, 2) := by decide +kernel
theorem dX12_readPart_161 : decode cX12_readPart 161 = .ok (.if_icmp .ne 8, 3) := by decide +kernel
theorem dX12_readPart_164 : decode cX12_readPart 164 = .ok (.bipush 8, 2) := by decide +kernel
theorem dX12_readPart_166 : decode cX12_readPart 166 = .ok (.goto 10, 3) := by decide +kernel
theorem dX12_readPart_169 : decode cX12_readPart 169 = .ok (.aload_n 0, 1) := by decide +kernel
theorem dX12_readPart_170 : decode cX12_readPart 170 = .ok (.invokevirtual 109, 3) := by decide +kernel
theorem dX12_readPart_173 : decode cX12_readPart 173 = .ok (.bipush 97, 2) := by decide +kernel
theorem dX12_readPart_175 : decode cX12_readPart 175 = .ok (.isub, 1) := by decide +kernel
theorem dX12_readPart_176 : decode cX12_readPart 176 = .ok (.iastore, 1) := by decide +kernel
theorem dX12_readPart_177 : decode cX12_readPart 177 = .ok (.iinc 1 1, 3) := by decide +kernel
theorem dX12_readPart_180 : decode cX12_readPart 180 = .ok (.aload_n 0, 1) := by decide +kernel
theorem dX12_readPart_181 : decode cX12_readPart 181 = .ok (.dup, 1) := by decide +kernel
theorem dX12_readPart_182 : decode cX12_readPart 182 = .ok (.getfield 106, 3) := by decide +kernel
theorem dX12_readPart_185 : decode cX12_readPart 185 = .ok (.iconst 1, 1) := by decide +kernel
theorem dX12_readPart_186 : decode cX12_readPart 186 = .ok (.iadd, 1) := by decide +kernel
theorem dX12_readPart_187 : decode cX12_readPart 187 = .ok (.putfield 106, 3) := by decide +kernel
theorem dX12_readPart_190 : decode cX12_readPart 190 = .ok (.goto (-80), 3) := by decide +kernel
theorem dX12_readPart_193 : decode cX12_readPart 193 = .ok (.iload_n 1, 1) := by decide +kernel
theorem dX12_readPart_194 : decode cX12_readPart 194 = .ok (.ifCond .ne 7, 3) := by decide +kernel
theorem dX12_readPart_197 : decode cX12_readPart 197 = .ok (.aload_n 0, 1) := by decide +kernel
theorem dX12_readPart_198 : decode cX12_readPart 198 = .ok (.invokevirtual 121, 3) := by decide +kernel
theorem dX12_readPart_201 : decode cX12_readPart 201 = .ok (.aload_n 0, 1) := by decide +kernel
theorem dX12_readPart_202 : decode cX12_readPart 202 = .ok (.getfield 19, 3) := by decide +kernel
theorem dX12_readPart_205 : decode cX12_readPart 205 = .ok (.aload_n 0, 1) := by decide +kernel
theorem dX12_readPart_206 : decode cX12_readPart 206 = .ok (.getfield 131, 3) := by decide +kernel
theorem dX12_readPart_209 : decode cX12_readPart 209 = .ok (.iload_n 1, 1) := by decide +kernel
theorem dX12_readPart_210 : decode cX12_readPart 210 = .ok (.iastore, 1) := by decide +kernel
theorem dX12_readPart_211 : decode cX12_readPart 211 = .ok (.aload_n 0, 1) := by decide +kernel
theorem dX12_readPart_212 : decode cX12_readPart 212 = .ok (.dup, 1) := by decide +kernel
theorem dX12_readPart_213 : decode cX12_readPart 213 = .ok (.getfield 131, 3) := by decide +kernel
theorem dX12_readPart_216 : decode cX12_readPart 216 = .ok (.iconst 1, 1) := by decide +kernel
theorem dX12_readPart_217 : decode cX12_readPart 217 = .ok (.iadd, 1) := by decide +kernel
theorem dX12_readPart_218 : decode cX12_readPart 218 = .ok (.putfield 131, 3) := by decide +kernel
theorem dX12_readPart_221 : decode cX12_readPart 221 = .ok (.goto 7, 3) := by decide +kernel
theorem dX12_readPart_224 : decode cX12_readPart 224 = .ok (.aload_n 0, 1) := by decide +kernel
theorem dX12_readPart_225 : decode cX12_readPart 225 = .ok (.invokevirtual 121, 3) := by decide +kernel
theorem dX12_readPart_228 : decode cX12_readPart 228 = .ok (.return_, 1) := by decide +kernel
theorem dX12_fault_0 : decode cX12_fault 0 = .ok (.aload_n 0, 1) := by decide +kernel
theorem dX12_fault_1 : decode cX12_fault 1 = .ok (.invokevirtual 145, 3) := by decide +kernel
theorem dX12_fault_4 : decode cX12_fault 4 = .ok (.ireturn, 1) := by decide +kernel
theorem dX12_town_0 : decode cX12_town 0 = .ok (.aload_n 0, 1) := by decide +kernel
theorem dX12_town_1 : decode cX12_town 1 = .ok (.invokevirtual 145, 3) := by decide +kernel
theorem dX12_town_4 : decode cX12_town 4 = .ok (.bipush (-9), 2) := by decide +kernel
theorem dX12_town_6 : decode cX12_town 6 = .ok (.if_icmp .eq 6, 3) := by decide +kernel
theorem dX12_town_9 : decode cX12_town 9 = .ok (.bipush (-3), 2) := by decide +kernel
theorem dX12_town_11 : decode cX12_town 11 = .ok (.ireturn, 1) := by decide +kernel
theorem dX12_town_12 : decode cX12_town 12 = .ok (.aload_n 0, 1) := by decide +kernel
theorem dX12_town_13 : decode cX12_town 13 = .ok (.aload_n 0, 1) := by decide +kernel
theorem dX12_town_14 : decode cX12_town 14 = .ok (.getfield 124, 3) := by decide +kernel
theorem dX12_town_17 : decode cX12_town 17 = .ok (.putfield 88, 3) := by decide +kernel
theorem dX12_town_20 : decode cX12_town 20 = .ok (.aload_n 0, 1) := by decide +kernel
theorem dX12_town_21 : decode cX12_town 21 = .ok (.aload_n 0, 1) := by decide +kernel
theorem dX12_town_22 : decode cX12_town 22 = .ok (.getfield 131, 3) := by decide +kernel
theorem dX12_town_25 : decode cX12_town 25 = .ok (.putfield 148, 3) := by decide +kernel
theorem dX12_town_28 : decode cX12_town 28 = .ok (.iconst 0, 1) := by decide +kernel
theorem dX12_town_29 : decode cX12_town 29 = .ok (.istore_n 1, 1) := by decide +kernel
theorem dX12_town_30 : decode cX12_town 30 = .ok (.iload_n 1, 1) := by decide +kernel
theorem dX12_town_31 : decode cX12_town 31 = .ok (.bipush 12, 2) := by decide +kernel
theorem dX12_town_33 : decode cX12_town 33 = .ok (.if_icmp .ge 45, 3) := by decide +kernel
theorem dX12_town_36 : decode cX12_town 36 = .ok (.aload_n 0, 1) := by decide +kernel
theorem dX12_town_37 : decode cX12_town 37 = .ok (.getfield 22, 3) := by decide +kernel
theorem dX12_town_40 : decode cX12_town 40 = .ok (.iload_n 1, 1) := by decide +kernel
theorem dX12_town_41 : decode cX12_town 41 = .ok (.aload_n 0, 1) := by decide +kernel
theorem dX12_town_42 : decode cX12_town 42 = .ok (.getfield 7, 3) := by decide +kernel
theorem dX12_town_45 : decode cX12_town 45 = .ok (.iload_n 1, 1) := by decide +kernel
theorem dX12_town_46 : decode cX12_town 46 = .ok (.iaload, 1) := by decide +kernel
theorem dX12_town_47 : decode cX12_town 47 = .ok (.iastore, 1) := by decide +kernel
theorem dX12_town_48 : decode cX12_town 48 = .ok (.aload_n 0, 1) := by decide +kernel
theorem dX12_town_49 : decode cX12_town 49 = .ok (.getfield 25, 3) := by decide +kernel
theorem dX12_town_52 : decode cX12_town 52 = .ok (.iload_n 1, 1) := by decide +kernel
theorem dX12_town_53 : decode cX12_town 53 = .ok (.iload_n 1, 1) := by decide +kernel
theorem dX12_town_54 : decode cX12_town 54 = .ok (.aload_n 0, 1) := by decide +kernel
theorem dX12_town_55 : decode cX12_town 55 = .ok (.getfield 88, 3) := by decide +kernel
theorem dX12_town_58 : decode cX12_town 58 = .ok (.if_icmp .ge 12, 3) := by decide +kernel
theorem dX12_town_61 : decode cX12_town 61 = .ok (.aload_n 0, 1) := by decide +kernel
theorem dX12_town_62 : decode cX12_town 62 = .ok (.getfield 13, 3) := by decide +kernel
theorem dX12_town_65 : decode cX12_town 65 = .ok (.iload_n 1, 1) := by decide +kernel
theorem dX12_town_66 : decode cX12_town 66 = .ok (.iaload, 1) := by decide +kernel
theorem dX12_town_67 : decode cX12_town 67 = .ok (.goto 4, 3) := by decide +kernel
theorem dX12_town_70 : decode cX12_town 70 = .ok (.iconst 0, 1) := by decide +kernel
theorem dX12_town_71 : decode cX12_town 71 = .ok (.iastore, 1) := by decide +kernel
theorem dX12_town_72 : decode cX12_town 72 = .ok (.iinc 1 1, 3) := by decide +kernel
theorem dX12_town_75 : decode cX12_town 75 = .ok (.goto (-45), 3) := by decide +kernel
theorem dX12_town_78 : decode cX12_town 78 = .ok (.iconst 0, 1) := by decide +kernel
theorem dX12_town_79 : decode cX12_town 79 = .ok (.istore_n 1, 1) := by decide +kernel
theorem dX12_town_80 : decode cX12_town 80 = .ok (.iload_n 1, 1) := by decide +kernel
theorem dX12_town_81 : decode cX12_town 81 = .ok (.bipush 24, 2) := by decide +kernel
theorem dX12_town_83 : decode cX12_town 83 = .ok (.if_icmp .ge 21, 3) := by decide +kernel
theorem dX12_town_86 : decode cX12_town 86 = .ok (.aload_n 0, 1) := by decide +kernel
theorem dX12_town_87 : decode cX12_town 87 = .ok (.getfield 28, 3) := by decide +kernel
theorem dX12_town_90 : decode cX12_town 90 = .ok (.iload_n 1, 1) := by decide +kernel
theorem dX12_town_91 : decode cX12_town 91 = .ok (.aload_n 0, 1) := by decide +kernel
theorem dX12_town_92 : decode cX12_town 92 = .ok (.getfield 16, 3) := by decide +kernel
theorem dX12_town_95 : decode cX12_town 95 = .ok (.iload_n 1, 1) := by decide +kernel
theorem dX12_town_96 : decode cX12_town 96 = .ok (.iaload, 1) := by decide +kernel
theorem dX12_town_97 : decode cX12_town 97 = .ok (.iastore, 1) := by decide +kernel
theorem dX12_town_98 : decode cX12_town 98 = .ok (.iinc 1 1, 3) := by decide +kernel
theorem dX12_town_101 : decode cX12_town 101 = .ok (.goto (-21), 3) := by decide +kernel
theorem dX12_town_104 : decode cX12_town 104 = .ok (.iconst 0, 1) := by decide +kernel
theorem dX12_town_105 : decode cX12_town 105 = .ok (.istore_n 1, 1) := by decide +kernel
theorem dX12_town_106 : decode cX12_town 106 = .ok (.iload_n 1, 1) := by decide +kernel
theorem dX12_town_107 : decode cX12_town 107 = .ok (.iconst 4, 1) := by decide +kernel
theorem dX12_town_108 : decode cX12_town 108 = .ok (.if_icmp .ge 21, 3) := by decide +kernel
theorem dX12_town_111 : decode cX12_town 111 = .ok (.aload_n 0, 1) := by decide +kernel
theorem dX12_town_112 : decode cX12_town 112 = .ok (.getfield 31, 3) := by decide +kernel
theorem dX12_town_115 : decode cX12_town 115 = .ok (.iload_n 1, 1) := by decide +kernel
theorem dX12_town_116 : decode cX12_town 116 = .ok (.aload_n 0, 1) := by decide +kernel
theorem dX12_town_117 : decode cX12_town 117 = .ok (.getfield 19, 3) := by decide +kernel
theorem dX12_town_120 : decode cX12_town 120 = .ok (.iload_n 1, 1) := by decide +kernel
theorem dX12_town_121 : decode cX12_town 121 = .ok (.iaload, 1) := by decide +kernel
theorem dX12_town_122 : decode cX12_town 122 = .ok (.iastore, 1) := by decide +kernel
theorem dX12_town_123 : decode cX12_town 123 = .ok (.iinc 1 1, 3) := by decide +kernel
theorem dX12_town_126 : decode cX12_town 126 = .ok (.goto (-20), 3) := by decide +kernel
theorem dX12_town_129 : decode cX12_town 129 = .ok (.aload_n 0, 1) := by decide +kernel
theorem dX12_town_130 : decode cX12_town 130 = .ok (.iconst 0, 1) := by decide +kernel
theorem dX12_town_131 : decode cX12_town 131 = .ok (.putfield 151, 3) := by decide +kernel
theorem dX12_town_134 : decode cX12_town 134 = .ok (.aload_n 0, 1) := by decide +kernel
theorem dX12_town_135 : decode cX12_town 135 = .ok (.iconst 0, 1) := by decide +kernel
theorem dX12_town_136 : decode cX12_town 136 = .ok (.putfield 154, 3) := by decide +kernel
theorem dX12_town_139 : decode cX12_town 139 = .ok (.aload_n 0, 1) := by decide +kernel
theorem dX12_town_140 : decode cX12_town 140 = .ok (.getfield 88, 3) := by decide +kernel
theorem dX12_town_143 : decode cX12_town 143 = .ok (.ireturn, 1) := by decide +kernel
theorem dX12_isDoor_0 : decode cX12_isDoor 0 = .ok (.iload_n 1, 1) := by decide +kernel
theorem dX12_isDoor_1 : decode cX12_isDoor 1 = .ok (.i2l, 1) := by decide +kernel
theorem dX12_isDoor_2 : decode cX12_isDoor 2 = .ok (.lconst 0, 1) := by decide +kernel
theorem dX12_isDoor_3 : decode cX12_isDoor 3 = .ok (.aload_n 0, 1) := by decide +kernel
theorem dX12_isDoor_4 : decode cX12_isDoor 4 = .ok (.getfield 88, 3) := by decide +kernel
theorem dX12_isDoor_7 : decode cX12_isDoor 7 = .ok (.iconst 1, 1) := by decide +kernel
theorem dX12_isDoor_8 : decode cX12_isDoor 8 = .ok (.isub, 1) := by decide +kernel
theorem dX12_isDoor_9 : decode cX12_isDoor 9 = .ok (.i2l, 1) := by decide +kernel
theorem dX12_isDoor_10 : decode cX12_isDoor 10 = .ok (.invokestatic 94, 3) := by decide +kernel
theorem dX12_isDoor_13 : decode cX12_isDoor 13 = .ok (.ireturn, 1) := by decide +kernel
theorem dX12_isSong_0 : decode cX12_isSong 0 = .ok (.iload_n 1, 1) := by decide +kernel
theorem dX12_isSong_1 : decode cX12_isSong 1 = .ok (.i2l, 1) := by decide +kernel
theorem dX12_isSong_2 : decode cX12_isSong 2 = .ok (.lconst 0, 1) := by decide +kernel
theorem dX12_isSong_3 : decode cX12_isSong 3 = .ok (.aload_n 0, 1) := by decide +kernel
theorem dX12_isSong_4 : decode cX12_isSong 4 = .ok (.getfield 148, 3) := by decide +kernel
theorem dX12_isSong_7 : decode cX12_isSong 7 = .ok (.iconst 1, 1) := by decide +kernel
theorem dX12_isSong_8 : decode cX12_isSong 8 = .ok (.isub, 1) := by decide +kernel
theorem dX12_isSong_9 : decode cX12_isSong 9 = .ok (.i2l, 1) := by decide +kernel
theorem dX12_isSong_10 : decode cX12_isSong 10 = .ok (.invokestatic 94, 3) := by decide +kernel
theorem dX12_isSong_13 : decode cX12_isSong 13 = .ok (.ireturn, 1) := by decide +kernel
theorem dX12_note_0 : decode cX12_note 0 = .ok (.aload_n 0, 1) := by decide +kernel
theorem dX12_note_1 : decode cX12_note 1 = .ok (.iload_n 1, 1) := by decide +kernel
theorem dX12_note_2 : decode cX12_note 2 = .ok (.invokevirtual 157, 3) := by decide +kernel
theorem dX12_note_5 : decode cX12_note 5 = .ok (.ifCond .eq 12, 3) := by decide +kernel
theorem dX12_note_8 : decode cX12_note 8 = .ok (.aload_n 0, 1) := by decide +kernel
theorem dX12_note_9 : decode cX12_note 9 = .ok (.getfield 22, 3) := by decide +kernel
theorem dX12_note_12 : decode cX12_note 12 = .ok (.iload_n 1, 1) := by decide +kernel
theorem dX12_note_13 : decode cX12_note 13 = .ok (.iaload, 1) := by decide +kernel
theorem dX12_note_14 : decode cX12_note 14 = .ok (.goto 4, 3) := by decide +kernel
theorem dX12_note_17 : decode cX12_note 17 = .ok (.iconst (-1), 1) := by decide +kernel
theorem dX12_note_18 : decode cX12_note 18 = .ok (.ireturn, 1) := by decide +kernel
theorem dX12_let_0 : decode cX12_let 0 = .ok (.aload_n 0, 1) := by decide +kernel
theorem dX12_let_1 : decode cX12_let 1 = .ok (.iload_n 1, 1) := by decide +kernel
theorem dX12_let_2 : decode cX12_let 2 = .ok (.invokevirtual 157, 3) := by decide +kernel
theorem dX12_let_5 : decode cX12_let 5 = .ok (.ifCond .ne 5, 3) := by decide +kernel
theorem dX12_let_8 : decode cX12_let 8 = .ok (.iconst (-1), 1) := by decide +kernel
theorem dX12_let_9 : decode cX12_let 9 = .ok (.ireturn, 1) := by decide +kernel
theorem dX12_let_10 : decode cX12_let 10 = .ok (.iload_n 2, 1) := by decide +kernel
theorem dX12_let_11 : decode cX12_let 11 = .ok (.i2l, 1) := by decide +kernel
theorem dX12_let_12 : decode cX12_let 12 = .ok (.lconst 0, 1) := by decide +kernel
theorem dX12_let_13 : decode cX12_let 13 = .ok (.ldc2_w 161, 3) := by decide +kernel
theorem dX12_let_16 : decode cX12_let 16 = .ok (.invokestatic 94, 3) := by decide +kernel
theorem dX12_let_19 : decode cX12_let 19 = .ok (.ifCond .ne 6, 3) := by decide +kernel
theorem dX12_let_22 : decode cX12_let 22 = .ok (.bipush (-2), 2) := by decide +kernel
theorem dX12_let_24 : decode cX12_let 24 = .ok (.ireturn, 1) := by decide +kernel
theorem dX12_let_25 : decode cX12_let 25 = .ok (.aload_n 0, 1) := by decide +kernel
theorem dX12_let_26 : decode cX12_let 26 = .ok (.getfield 22, 3) := by decide +kernel
theorem dX12_let_29 : decode cX12_let 29 = .ok (.iload_n 1, 1) := by decide +kernel
theorem dX12_let_30 : decode cX12_let 30 = .ok (.iaload, 1) := by decide +kernel
theorem dX12_let_31 : decode cX12_let 31 = .ok (.istore_n 3, 1) := by decide +kernel
theorem dX12_let_32 : decode cX12_let 32 = .ok (.aload_n 0, 1) := by decide +kernel
theorem dX12_let_33 : decode cX12_let 33 = .ok (.getfield 22, 3) := by decide +kernel
theorem dX12_let_36 : decode cX12_let 36 = .ok (.iload_n 1, 1) := by decide +kernel
theorem dX12_let_37 : decode cX12_let 37 = .ok (.iload_n 2, 1) := by decide +kernel
theorem dX12_let_38 : decode cX12_let 38 = .ok (.iastore, 1) := by decide +kernel
theorem dX12_let_39 : decode cX12_let 39 = .ok (.iload_n 3, 1) := by decide +kernel
theorem dX12_let_40 : decode cX12_let 40 = .ok (.ireturn, 1) := by decide +kernel
theorem dX12_street_0 : decode cX12_street 0 = .ok (.aload_n 0, 1) := by decide +kernel
theorem dX12_street_1 : decode cX12_street 1 = .ok (.iload_n 1, 1) := by decide +kernel
theorem dX12_street_2 : decode cX12_street 2 = .ok (.invokevirtual 157, 3) := by decide +kernel
theorem dX12_street_5 : decode cX12_street 5 = .ok (.ifCond .eq 24, 3) := by decide +kernel
theorem dX12_street_8 : decode cX12_street 8 = .ok (.aload_n 0, 1) := by decide +kernel
theorem dX12_street_9 : decode cX12_street 9 = .ok (.iload_n 2, 1) := by decide +kernel
theorem dX12_street_10 : decode cX12_street 10 = .ok (.invokevirtual 157, 3) := by decide +kernel
theorem dX12_street_13 : decode cX12_street 13 = .ok (.ifCond .eq 16, 3) := by decide +kernel
theorem dX12_street_16 : decode cX12_street 16 = .ok (.aload_n 0, 1) := by decide +kernel
theorem dX12_street_17 : decode cX12_street 17 = .ok (.getfield 25, 3) := by decide +kernel
theorem dX12_street_20 : decode cX12_street 20 = .ok (.iload_n 1, 1) := by decide +kernel
theorem dX12_street_21 : decode cX12_street 21 = .ok (.iaload, 1) := by decide +kernel
theorem dX12_street_22 : decode cX12_street 22 = .ok (.iload_n 2, 1) := by decide +kernel
theorem dX12_street_23 : decode cX12_street 23 = .ok (.ishr, 1) := by decide +kernel
theorem dX12_street_24 : decode cX12_street 24 = .ok (.iconst 1, 1) := by decide +kernel
theorem dX12_street_25 : decode cX12_street 25 = .ok (.iand, 1) := by decide +kernel
theorem dX12_street_26 : decode cX12_street 26 = .ok (.goto 4, 3) := by decide +kernel
theorem dX12_street_29 : decode cX12_street 29 = .ok (.iconst (-1), 1) := by decide +kernel
theorem dX12_street_30 : decode cX12_street 30 = .ok (.ireturn, 1) := by decide +kernel
theorem dX12_road_0 : decode cX12_road 0 = .ok (.aload_n 0, 1) := by decide +kernel
theorem dX12_road_1 : decode cX12_road 1 = .ok (.iload_n 1, 1) := by decide +kernel
theorem dX12_road_2 : decode cX12_road 2 = .ok (.invokevirtual 157, 3) := by decide +kernel
theorem dX12_road_5 : decode cX12_road 5 = .ok (.ifCond .eq 11, 3) := by decide +kernel
theorem dX12_road_8 : decode cX12_road 8 = .ok (.aload_n 0, 1) := by decide +kernel
theorem dX12_road_9 : decode cX12_road 9 = .ok (.iload_n 2, 1) := by decide +kernel
theorem dX12_road_10 : decode cX12_road 10 = .ok (.invokevirtual 157, 3) := by decide +kernel
theorem dX12_road_13 : decode cX12_road 13 = .ok (.ifCond .ne 5, 3) := by decide +kernel
theorem dX12_road_16 : decode cX12_road 16 = .ok (.iconst (-1), 1) := by decide +kernel
theorem dX12_road_17 : decode cX12_road 17 = .ok (.ireturn, 1) := by decide +kernel
theorem dX12_road_18 : decode cX12_road 18 = .ok (.iload_n 1, 1) := by decide +kernel
theorem dX12_road_19 : decode cX12_road 19 = .ok (.iload_n 2, 1) := by decide +kernel
theorem dX12_road_20 : decode cX12_road 20 = .ok (.if_icmp .ne 6, 3) := by decide +kernel
theorem dX12_road_23 : decode cX12_road 23 = .ok (.bipush (-3), 2) := by decide +kernel
theorem dX12_road_25 : decode cX12_road 25 = .ok (.ireturn, 1) := by decide +kernel
theorem dX12_road_26 : decode cX12_road 26 = .ok (.aload_n 0, 1) := by decide +kernel
theorem dX12_road_27 : decode cX12_road 27 = .ok (.getfield 25, 3) := by decide +kernel
theorem dX12_road_30 : decode cX12_road 30 = .ok (.iload_n 1, 1) := by decide +kernel
theorem dX12_road_31 : decode cX12_road 31 = .ok (.iaload, 1) := by decide +kernel
theorem dX12_road_32 : decode cX12_road 32 = .ok (.iload_n 2, 1) := by decide +kernel
theorem dX12_road_33 : decode cX12_road 33 = .ok (.ishr, 1) := by decide +kernel
theorem dX12_road_34 : decode cX12_road 34 = .ok (.iconst 1, 1) := by decide +kernel
theorem dX12_road_35 : decode cX12_road 35 = .ok (.iand, 1) := by decide +kernel
theorem dX12_road_36 : decode cX12_road 36 = .ok (.istore 4, 2) := by decide +kernel
theorem dX12_road_38 : decode cX12_road 38 = .ok (.aload_n 0, 1) := by decide +kernel
theorem dX12_road_39 : decode cX12_road 39 = .ok (.getfield 25, 3) := by decide +kernel
theorem dX12_road_42 : decode cX12_road 42 = .ok (.iload_n 1, 1) := by decide +kernel
theorem dX12_road_43 : decode cX12_road 43 = .ok (.iload_n 3, 1) := by decide +kernel
theorem dX12_road_44 : decode cX12_road 44 = .ok (.ifCond .eq 16, 3) := by decide +kernel
theorem dX12_road_47 : decode cX12_road 47 = .ok (.aload_n 0, 1) := by decide +kernel
theorem dX12_road_48 : decode cX12_road 48 = .ok (.getfield 25, 3) := by decide +kernel
theorem dX12_road_51 : decode cX12_road 51 = .ok (.iload_n 1, 1) := by decide +kernel
theorem dX12_road_52 : decode cX12_road 52 = .ok (.iaload, 1) := by decide +kernel
theorem dX12_road_53 : decode cX12_road 53 = .ok (.iconst 1, 1) := by decide +kernel
theorem dX12_road_54 : decode cX12_road 54 = .ok (.iload_n 2, 1) := by decide +kernel
theorem dX12_road_55 : decode cX12_road 55 = .ok (.ishl, 1) := by decide +kernel
theorem dX12_road_56 : decode cX12_road 56 = .ok (.ior, 1) := by decide +kernel
theorem dX12_road_57 : decode cX12_road 57 = .ok (.goto 15, 3) := by decide +kernel
theorem dX12_road_60 : decode cX12_road 60 = .ok (.aload_n 0, 1) := by decide +kernel
theorem dX12_road_61 : decode cX12_road 61 = .ok (.getfield 25, 3) := by decide +kernel
theorem dX12_road_64 : decode cX12_road 64 = .ok (.iload_n 1, 1) := by decide +kernel
theorem dX12_road_65 : decode cX12_road 65 = .ok (.iaload, 1) := by decide +kernel
theorem dX12_road_66 : decode cX12_road 66 = .ok (.iconst 1, 1) := by decide +kernel
theorem dX12_road_67 : decode cX12_road 67 = .ok (.iload_n 2, 1) := by decide +kernel
theorem dX12_road_68 : decode cX12_road 68 = .ok (.ishl, 1) := by decide +kernel
theorem dX12_road_69 : decode cX12_road 69 = .ok (.iconst (-1), 1) := by decide +kernel
theorem dX12_road_70 : decode cX12_road 70 = .ok (.ixor, 1) := by decide +kernel
theorem dX12_road_71 : decode cX12_road 71 = .ok (.iand, 1) := by decide +kernel
theorem dX12_road_72 : decode cX12_road 72 = .ok (.iastore, 1) := by decide +kernel
theorem dX12_road_73 : decode cX12_road 73 = .ok (.aload_n 0, 1) := by decide +kernel
theorem dX12_road_74 : decode cX12_road 74 = .ok (.getfield 25, 3) := by decide +kernel
theorem dX12_road_77 : decode cX12_road 77 = .ok (.iload_n 2, 1) := by decide +kernel
theorem dX12_road_78 : decode cX12_road 78 = .ok (.iload_n 3, 1) := by decide +kernel
theorem dX12_road_79 : decode cX12_road 79 = .ok (.ifCond .eq 16, 3) := by decide +kernel
theorem dX12_road_82 : decode cX12_road 82 = .ok (.aload_n 0, 1) := by decide +kernel
theorem dX12_road_83 : decode cX12_road 83 = .ok (.getfield 25, 3) := by decide +kernel
theorem dX12_road_86 : decode cX12_road 86 = .ok (.iload_n 2, 1) := by decide +kernel
theorem dX12_road_87 : decode cX12_road 87 = .ok (.iaload, 1) := by decide +kernel
theorem dX12_road_88 : decode cX12_road 88 = .ok (.iconst 1, 1) := by decide +kernel
theorem dX12_road_89 : decode cX12_road 89 = .ok (.iload_n 1, 1) := by decide +kernel
theorem dX12_road_90 : decode cX12_road 90 = .ok (.ishl, 1) := by decide +kernel
theorem dX12_road_91 : decode cX12_road 91 = .ok (.ior, 1) := by decide +kernel
theorem dX12_road_92 : decode cX12_road 92 = .ok (.goto 15, 3) := by decide +kernel
theorem dX12_road_95 : decode cX12_road 95 = .ok (.aload_n 0, 1) := by decide +kernel
theorem dX12_road_96 : decode cX12_road 96 = .ok (.getfield 25, 3) := by decide +kernel
theorem dX12_road_99 : decode cX12_road 99 = .ok (.iload_n 2, 1) := by decide +kernel
theorem dX12_road_100 : decode cX12_road 100 = .ok (.iaload, 1) := by decide +kernel
theorem dX12_road_101 : decode cX12_road 101 = .ok (.iconst 1, 1) := by decide +kernel
theorem dX12_road_102 : decode cX12_road 102 = .ok (.iload_n 1, 1) := by decide +kernel
theorem dX12_road_103 : decode cX12_road 103 = .ok (.ishl, 1) := by decide +kernel
theorem dX12_road_104 : decode cX12_road 104 = .ok (.iconst (-1), 1) := by decide +kernel
theorem dX12_road_105 : decode cX12_road 105 = .ok (.ixor, 1) := by decide +kernel
theorem dX12_road_106 : decode cX12_road 106 = .ok (.iand, 1) := by decide +kernel
theorem dX12_road_107 : decode cX12_road 107 = .ok (.iastore, 1) := by decide +kernel
theorem dX12_road_108 : decode cX12_road 108 = .ok (.aload_n 0, 1) := by decide +kernel
theorem dX12_road_109 : decode cX12_road 109 = .ok (.iconst 0, 1) := by decide +kernel
theorem dX12_road_110 : decode cX12_road 110 = .ok (.putfield 151, 3) := by decide +kernel
theorem dX12_road_113 : decode cX12_road 113 = .ok (.iload 4, 2) := by decide +kernel
theorem dX12_road_115 : decode cX12_road 115 = .ok (.ireturn, 1) := by decide +kernel
theorem dX12_song_0 : decode cX12_song 0 = .ok (.aload_n 0, 1) := by decide +kernel
theorem dX12_song_1 : decode cX12_song 1 = .ok (.iload_n 1, 1) := by decide +kernel
theorem dX12_song_2 : decode cX12_song 2 = .ok (.invokevirtual 163, 3) := by decide +kernel
theorem dX12_song_5 : decode cX12_song 5 = .ok (.ifCond .ne 5, 3) := by decide +kernel
theorem dX12_song_8 : decode cX12_song 8 = .ok (.iconst (-1), 1) := by decide +kernel
theorem dX12_song_9 : decode cX12_song 9 = .ok (.ireturn, 1) := by decide +kernel
theorem dX12_song_10 : decode cX12_song 10 = .ok (.iload_n 2, 1) := by decide +kernel
theorem dX12_song_11 : decode cX12_song 11 = .ok (.i2l, 1) := by decide +kernel
theorem dX12_song_12 : decode cX12_song 12 = .ok (.lconst 0, 1) := by decide +kernel
theorem dX12_song_13 : decode cX12_song 13 = .ok (.aload_n 0, 1) := by decide +kernel
theorem dX12_song_14 : decode cX12_song 14 = .ok (.getfield 31, 3) := by decide +kernel
theorem dX12_song_17 : decode cX12_song 17 = .ok (.iload_n 1, 1) := by decide +kernel
theorem dX12_song_18 : decode cX12_song 18 = .ok (.iaload, 1) := by decide +kernel
theorem dX12_song_19 : decode cX12_song 19 = .ok (.iconst 1, 1) := by decide +kernel
theorem dX12_song_20 : decode cX12_song 20 = .ok (.isub, 1) := by decide +kernel
theorem dX12_song_21 : decode cX12_song 21 = .ok (.i2l, 1) := by decide +kernel
theorem dX12_song_22 : decode cX12_song 22 = .ok (.invokestatic 94, 3) := by decide +kernel
theorem dX12_song_25 : decode cX12_song 25 = .ok (.ifCond .eq 17, 3) := by decide +kernel
theorem dX12_song_28 : decode cX12_song 28 = .ok (.aload_n 0, 1) := by decide +kernel
theorem dX12_song_29 : decode cX12_song 29 = .ok (.getfield 28, 3) := by decide +kernel
theorem dX12_song_32 : decode cX12_song 32 = .ok (.bipush 6, 2) := by decide +kernel
theorem dX12_song_34 : decode cX12_song 34 = .ok (.iload_n 1, 1) := by decide +kernel
theorem dX12_song_35 : decode cX12_song 35 = .ok (.imul, 1) := by decide +kernel
theorem dX12_song_36 : decode cX12_song 36 = .ok (.iload_n 2, 1) := by decide +kernel
theorem dX12_song_37 : decode cX12_song 37 = .ok (.iadd, 1) := by decide +kernel
theorem dX12_song_38 : decode cX12_song 38 = .ok (.iaload, 1) := by decide +kernel
theorem dX12_song_39 : decode cX12_song 39 = .ok (.goto 5, 3) := by decide +kernel
theorem dX12_song_42 : decode cX12_song 42 = .ok (.bipush (-9), 2) := by decide +kernel
theorem dX12_song_44 : decode cX12_song 44 = .ok (.ireturn, 1) := by decide +kernel
theorem dX12_spring_0 : decode cX12_spring 0 = .ok (.aload_n 0, 1) := by decide +kernel
theorem dX12_spring_1 : decode cX12_spring 1 = .ok (.getfield 22, 3) := by decide +kernel
theorem dX12_spring_4 : decode cX12_spring 4 = .ok (.aload_n 0, 1) := by decide +kernel
theorem dX12_spring_5 : decode cX12_spring 5 = .ok (.getfield 88, 3) := by decide +kernel
theorem dX12_spring_8 : decode cX12_spring 8 = .ok (.iconst 1, 1) := by decide +kernel
theorem dX12_spring_9 : decode cX12_spring 9 = .ok (.isub, 1) := by decide +kernel
theorem dX12_spring_10 : decode cX12_spring 10 = .ok (.iaload, 1) := by decide +kernel
theorem dX12_spring_11 : decode cX12_spring 11 = .ok (.istore_n 1, 1) := by decide +kernel
theorem dX12_spring_12 : decode cX12_spring 12 = .ok (.aload_n 0, 1) := by decide +kernel
theorem dX12_spring_13 : decode cX12_spring 13 = .ok (.getfield 88, 3) := by decide +kernel
theorem dX12_spring_16 : decode cX12_spring 16 = .ok (.iconst 1, 1) := by decide +kernel
theorem dX12_spring_17 : decode cX12_spring 17 = .ok (.isub, 1) := by decide +kernel
theorem dX12_spring_18 : decode cX12_spring 18 = .ok (.istore_n 2, 1) := by decide +kernel
theorem dX12_spring_19 : decode cX12_spring 19 = .ok (.iload_n 2, 1) := by decide +kernel
theorem dX12_spring_20 : decode cX12_spring 20 = .ok (.ifCond .le 23, 3) := by decide +kernel
theorem dX12_spring_23 : decode cX12_spring 23 = .ok (.aload_n 0, 1) := by decide +kernel
theorem dX12_spring_24 : decode cX12_spring 24 = .ok (.getfield 22, 3) := by decide +kernel
theorem dX12_spring_27 : decode cX12_spring 27 = .ok (.iload_n 2, 1) := by decide +kernel
theorem dX12_spring_28 : decode cX12_spring 28 = .ok (.aload_n 0, 1) := by decide +kernel
theorem dX12_spring_29 : decode cX12_spring 29 = .ok (.getfield 22, 3) := by decide +kernel
theorem dX12_spring_32 : decode cX12_spring 32 = .ok (.iload_n 2, 1) := by decide +kernel
theorem dX12_spring_33 : decode cX12_spring 33 = .ok (.iconst 1, 1) := by decide +kernel
theorem dX12_spring_34 : decode cX12_spring 34 = .ok (.isub, 1) := by decide +kernel
theorem dX12_spring_35 : decode cX12_spring 35 = .ok (.iaload, 1) := by decide +kernel
theorem dX12_spring_36 : decode cX12_spring 36 = .ok (.iastore, 1) := by decide +kernel
theorem dX12_spring_37 : decode cX12_spring 37 = .ok (.iinc 2 (-1), 3) := by decide +kernel
theorem dX12_spring_40 : decode cX12_spring 40 = .ok (.goto (-21), 3) := by decide +kernel
theorem dX12_spring_43 : decode cX12_spring 43 = .ok (.aload_n 0, 1) := by decide +kernel
theorem dX12_spring_44 : decode cX12_spring 44 = .ok (.getfield 22, 3) := by decide +kernel
theorem dX12_spring_47 : decode cX12_spring 47 = .ok (.iconst 0, 1) := by decide +kernel
theorem dX12_spring_48 : decode cX12_spring 48 = .ok (.iload_n 1, 1) := by decide +kernel
theorem dX12_spring_49 : decode cX12_spring 49 = .ok (.iastore, 1) := by decide +kernel
theorem dX12_spring_50 : decode cX12_spring 50 = .ok (.iload_n 1, 1) := by decide +kernel
theorem dX12_spring_51 : decode cX12_spring 51 = .ok (.ireturn, 1) := by decide +kernel
theorem dX12_go_0 : decode cX12_go 0 = .ok (.aload_n 0, 1) := by decide +kernel
theorem dX12_go_1 : decode cX12_go 1 = .ok (.iload_n 1, 1) := by decide +kernel
theorem dX12_go_2 : decode cX12_go 2 = .ok (.invokevirtual 157, 3) := by decide +kernel
theorem dX12_go_5 : decode cX12_go 5 = .ok (.ifCond .ne 5, 3) := by decide +kernel
theorem dX12_go_8 : decode cX12_go 8 = .ok (.iconst (-1), 1) := by decide +kernel
theorem dX12_go_9 : decode cX12_go 9 = .ok (.ireturn, 1) := by decide +kernel
theorem dX12_go_10 : decode cX12_go 10 = .ok (.aload_n 0, 1) := by decide +kernel
theorem dX12_go_11 : decode cX12_go 11 = .ok (.getfield 151, 3) := by decide +kernel
theorem dX12_go_14 : decode cX12_go 14 = .ok (.ifCond .le 29, 3) := by decide +kernel
theorem dX12_go_17 : decode cX12_go 17 = .ok (.aload_n 0, 1) := by decide +kernel
theorem dX12_go_18 : decode cX12_go 18 = .ok (.getfield 25, 3) := by decide +kernel
theorem dX12_go_21 : decode cX12_go 21 = .ok (.aload_n 0, 1) := by decide +kernel
theorem dX12_go_22 : decode cX12_go 22 = .ok (.getfield 37, 3) := by decide +kernel
theorem dX12_go_25 : decode cX12_go 25 = .ok (.aload_n 0, 1) := by decide +kernel
theorem dX12_go_26 : decode cX12_go 26 = .ok (.getfield 151, 3) := by decide +kernel
theorem dX12_go_29 : decode cX12_go 29 = .ok (.iconst 1, 1) := by decide +kernel
theorem dX12_go_30 : decode cX12_go 30 = .ok (.isub, 1) := by decide +kernel
theorem dX12_go_31 : decode cX12_go 31 = .ok (.iaload, 1) := by decide +kernel
theorem dX12_go_32 : decode cX12_go 32 = .ok (.iaload, 1) := by decide +kernel
theorem dX12_go_33 : decode cX12_go 33 = .ok (.iload_n 1, 1) := by decide +kernel
theorem dX12_go_34 : decode cX12_go 34 = .ok (.ishr, 1) := by decide +kernel
theorem dX12_go_35 : decode cX12_go 35 = .ok (.iconst 1, 1) := by decide +kernel
theorem dX12_go_36 : decode cX12_go 36 = .ok (.iand, 1) := by decide +kernel
theorem dX12_go_37 : decode cX12_go 37 = .ok (.ifCond .ne 6, 3) := by decide +kernel
theorem dX12_go_40 : decode cX12_go 40 = .ok (.bipush (-3), 2) := by decide +kernel
theorem dX12_go_42 : decode cX12_go 42 = .ok (.ireturn, 1) := by decide +kernel
theorem dX12_go_43 : decode cX12_go 43 = .ok (.aload_n 0, 1) := by decide +kernel
theorem dX12_go_44 : decode cX12_go 44 = .ok (.getfield 151, 3) := by decide +kernel
theorem dX12_go_47 : decode cX12_go 47 = .ok (.bipush 24, 2) := by decide +kernel
theorem dX12_go_49 : decode cX12_go 49 = .ok (.if_icmp .ne 6, 3) := by decide +kernel
theorem dX12_go_52 : decode cX12_go 52 = .ok (.bipush (-4), 2) := by decide +kernel
theorem dX12_go_54 : decode cX12_go 54 = .ok (.ireturn, 1) := by decide +kernel
theorem dX12_go_55 : decode cX12_go 55 = .ok (.aload_n 0, 1) := by decide +kernel
theorem dX12_go_56 : decode cX12_go 56 = .ok (.getfield 37, 3) := by decide +kernel
theorem dX12_go_59 : decode cX12_go 59 = .ok (.aload_n 0, 1) := by decide +kernel
theorem dX12_go_60 : decode cX12_go 60 = .ok (.getfield 151, 3) := by decide +kernel
theorem dX12_go_63 : decode cX12_go 63 = .ok (.iload_n 1, 1) := by decide +kernel
theorem dX12_go_64 : decode cX12_go 64 = .ok (.iastore, 1) := by decide +kernel
theorem dX12_go_65 : decode cX12_go 65 = .ok (.aload_n 0, 1) := by decide +kernel
theorem dX12_go_66 : decode cX12_go 66 = .ok (.dup, 1) := by decide +kernel
theorem dX12_go_67 : decode cX12_go 67 = .ok (.getfield 151, 3) := by decide +kernel
theorem dX12_go_70 : decode cX12_go 70 = .ok (.iconst 1, 1) := by decide +kernel
theorem dX12_go_71 : decode cX12_go 71 = .ok (.iadd, 1) := by decide +kernel
theorem dX12_go_72 : decode cX12_go 72 = .ok (.putfield 151, 3) := by decide +kernel
theorem dX12_go_75 : decode cX12_go 75 = .ok (.aload_n 0, 1) := by decide +kernel
theorem dX12_go_76 : decode cX12_go 76 = .ok (.getfield 151, 3) := by decide +kernel
theorem dX12_go_79 : decode cX12_go 79 = .ok (.ireturn, 1) := by decide +kernel
theorem dX12_home_0 : decode cX12_home 0 = .ok (.aload_n 0, 1) := by decide +kernel
theorem dX12_home_1 : decode cX12_home 1 = .ok (.getfield 151, 3) := by decide +kernel
theorem dX12_home_4 : decode cX12_home 4 = .ok (.istore_n 1, 1) := by decide +kernel
theorem dX12_home_5 : decode cX12_home 5 = .ok (.aload_n 0, 1) := by decide +kernel
theorem dX12_home_6 : decode cX12_home 6 = .ok (.iconst 0, 1) := by decide +kernel
theorem dX12_home_7 : decode cX12_home 7 = .ok (.putfield 151, 3) := by decide +kernel
theorem dX12_home_10 : decode cX12_home 10 = .ok (.iload_n 1, 1) := by decide +kernel
theorem dX12_home_11 : decode cX12_home 11 = .ok (.ireturn, 1) := by decide +kernel
theorem dX12_at_0 : decode cX12_at 0 = .ok (.iload_n 1, 1) := by decide +kernel
theorem dX12_at_1 : decode cX12_at 1 = .ok (.i2l, 1) := by decide +kernel
theorem dX12_at_2 : decode cX12_at 2 = .ok (.lconst 0, 1) := by decide +kernel
theorem dX12_at_3 : decode cX12_at 3 = .ok (.aload_n 0, 1) := by decide +kernel
theorem dX12_at_4 : decode cX12_at 4 = .ok (.getfield 151, 3) := by decide +kernel
theorem dX12_at_7 : decode cX12_at 7 = .ok (.iconst 1, 1) := by decide +kernel
theorem dX12_at_8 : decode cX12_at 8 = .ok (.isub, 1) := by decide +kernel
theorem dX12_at_9 : decode cX12_at 9 = .ok (.i2l, 1) := by decide +kernel
theorem dX12_at_10 : decode cX12_at 10 = .ok (.invokestatic 94, 3) := by decide +kernel
theorem dX12_at_13 : decode cX12_at 13 = .ok (.ifCond .eq 12, 3) := by decide +kernel
theorem dX12_at_16 : decode cX12_at 16 = .ok (.aload_n 0, 1) := by decide +kernel
theorem dX12_at_17 : decode cX12_at 17 = .ok (.getfield 37, 3) := by decide +kernel
theorem dX12_at_20 : decode cX12_at 20 = .ok (.iload_n 1, 1) := by decide +kernel
theorem dX12_at_21 : decode cX12_at 21 = .ok (.iaload, 1) := by decide +kernel
theorem dX12_at_22 : decode cX12_at 22 = .ok (.goto 5, 3) := by decide +kernel
theorem dX12_at_25 : decode cX12_at 25 = .ok (.bipush (-9), 2) := by decide +kernel
theorem dX12_at_27 : decode cX12_at 27 = .ok (.ireturn, 1) := by decide +kernel
theorem dX12_fits_0 : decode cX12_fits 0 = .ok (.aload_n 0, 1) := by decide +kernel
theorem dX12_fits_1 : decode cX12_fits 1 = .ok (.getfield 28, 3) := by decide +kernel
theorem dX12_fits_4 : decode cX12_fits 4 = .ok (.bipush 6, 2) := by decide +kernel
theorem dX12_fits_6 : decode cX12_fits 6 = .ok (.iload_n 1, 1) := by decide +kernel
theorem dX12_fits_7 : decode cX12_fits 7 = .ok (.imul, 1) := by decide +kernel
theorem dX12_fits_8 : decode cX12_fits 8 = .ok (.iload_n 2, 1) := by decide +kernel
theorem dX12_fits_9 : decode cX12_fits 9 = .ok (.iadd, 1) := by decide +kernel
theorem dX12_fits_10 : decode cX12_fits 10 = .ok (.iaload, 1) := by decide +kernel
theorem dX12_fits_11 : decode cX12_fits 11 = .ok (.istore 5, 2) := by decide +kernel
theorem dX12_fits_13 : decode cX12_fits 13 = .ok (.iload 5, 2) := by decide +kernel
theorem dX12_fits_15 : decode cX12_fits 15 = .ok (.bipush 8, 2) := by decide +kernel
theorem dX12_fits_17 : decode cX12_fits 17 = .ok (.if_icmp .eq 23, 3) := by decide +kernel
theorem dX12_fits_20 : decode cX12_fits 20 = .ok (.iload 4, 2) := by decide +kernel
theorem dX12_fits_22 : decode cX12_fits 22 = .ok (.iload_n 3, 1) := by decide +kernel
theorem dX12_fits_23 : decode cX12_fits 23 = .ok (.ishr, 1) := by decide +kernel
theorem dX12_fits_24 : decode cX12_fits 24 = .ok (.iconst 1, 1) := by decide +kernel
theorem dX12_fits_25 : decode cX12_fits 25 = .ok (.iand, 1) := by decide +kernel
theorem dX12_fits_26 : decode cX12_fits 26 = .ok (.ifCond .ne 18, 3) := by decide +kernel
theorem dX12_fits_29 : decode cX12_fits 29 = .ok (.aload_n 0, 1) := by decide +kernel
theorem dX12_fits_30 : decode cX12_fits 30 = .ok (.getfield 22, 3) := by decide +kernel
theorem dX12_fits_33 : decode cX12_fits 33 = .ok (.iload_n 3, 1) := by decide +kernel
theorem dX12_fits_34 : decode cX12_fits 34 = .ok (.iaload, 1) := by decide +kernel
theorem dX12_fits_35 : decode cX12_fits 35 = .ok (.iload 5, 2) := by decide +kernel
theorem dX12_fits_37 : decode cX12_fits 37 = .ok (.if_icmp .ne 7, 3) := by decide +kernel
theorem dX12_fits_40 : decode cX12_fits 40 = .ok (.iconst 1, 1) := by decide +kernel
theorem dX12_fits_41 : decode cX12_fits 41 = .ok (.goto 4, 3) := by decide +kernel
theorem dX12_fits_44 : decode cX12_fits 44 = .ok (.iconst 0, 1) := by decide +kernel
theorem dX12_fits_45 : decode cX12_fits 45 = .ok (.ireturn, 1) := by decide +kernel
theorem dX12_heard_0 : decode cX12_heard 0 = .ok (.aload_n 0, 1) := by decide +kernel
theorem dX12_heard_1 : decode cX12_heard 1 = .ok (.iload_n 1, 1) := by decide +kernel
theorem dX12_heard_2 : decode cX12_heard 2 = .ok (.invokevirtual 163, 3) := by decide +kernel
theorem dX12_heard_5 : decode cX12_heard 5 = .ok (.ifCond .ne 5, 3) := by decide +kernel
theorem dX12_heard_8 : decode cX12_heard 8 = .ok (.iconst (-1), 1) := by decide +kernel
theorem dX12_heard_9 : decode cX12_heard 9 = .ok (.ireturn, 1) := by decide +kernel
theorem dX12_heard_10 : decode cX12_heard 10 = .ok (.iload_n 2, 1) := by decide +kernel
theorem dX12_heard_11 : decode cX12_heard 11 = .ok (.i2l, 1) := by decide +kernel
theorem dX12_heard_12 : decode cX12_heard 12 = .ok (.lconst 0, 1) := by decide +kernel
theorem dX12_heard_13 : decode cX12_heard 13 = .ok (.ldc2_w 166, 3) := by decide +kernel
theorem dX12_heard_16 : decode cX12_heard 16 = .ok (.invokestatic 94, 3) := by decide +kernel
theorem dX12_heard_19 : decode cX12_heard 19 = .ok (.ifCond .ne 6, 3) := by decide +kernel
theorem dX12_heard_22 : decode cX12_heard 22 = .ok (.bipush (-2), 2) := by decide +kernel
theorem dX12_heard_24 : decode cX12_heard 24 = .ok (.ireturn, 1) := by decide +kernel
theorem dX12_heard_25 : decode cX12_heard 25 = .ok (.iload_n 2, 1) := by decide +kernel
theorem dX12_heard_26 : decode cX12_heard 26 = .ok (.istore_n 3, 1) := by decide +kernel
theorem dX12_heard_27 : decode cX12_heard 27 = .ok (.iload_n 3, 1) := by decide +kernel
theorem dX12_heard_28 : decode cX12_heard 28 = .ok (.aload_n 0, 1) := by decide +kernel
theorem dX12_heard_29 : decode cX12_heard 29 = .ok (.getfield 31, 3) := by decide +kernel
theorem dX12_heard_32 : decode cX12_heard 32 = .ok (.iload_n 1, 1) := by decide +kernel
theorem dX12_heard_33 : decode cX12_heard 33 = .ok (.iaload, 1) := by decide +kernel
theorem dX12_heard_34 : decode cX12_heard 34 = .ok (.iadd, 1) := by decide +kernel
theorem dX12_heard_35 : decode cX12_heard 35 = .ok (.aload_n 0, 1) := by decide +kernel
theorem dX12_heard_36 : decode cX12_heard 36 = .ok (.getfield 151, 3) := by decide +kernel
theorem dX12_heard_39 : decode cX12_heard 39 = .ok (.if_icmp .gt 71, 3) := by decide +kernel
theorem dX12_heard_42 : decode cX12_heard 42 = .ok (.iconst 1, 1) := by decide +kernel
theorem dX12_heard_43 : decode cX12_heard 43 = .ok (.istore 4, 2) := by decide +kernel
theorem dX12_heard_45 : decode cX12_heard 45 = .ok (.iconst 0, 1) := by decide +kernel
theorem dX12_heard_46 : decode cX12_heard 46 = .ok (.istore 5, 2) := by decide +kernel
theorem dX12_heard_48 : decode cX12_heard 48 = .ok (.iload 5, 2) := by decide +kernel
theorem dX12_heard_50 : decode cX12_heard 50 = .ok (.aload_n 0, 1) := by decide +kernel
theorem dX12_heard_51 : decode cX12_heard 51 = .ok (.getfield 31, 3) := by decide +kernel
theorem dX12_heard_54 : decode cX12_heard 54 = .ok (.iload_n 1, 1) := by decide +kernel
theorem dX12_heard_55 : decode cX12_heard 55 = .ok (.iaload, 1) := by decide +kernel
theorem dX12_heard_56 : decode cX12_heard 56 = .ok (.if_icmp .ge 41, 3) := by decide +kernel
theorem dX12_heard_59 : decode cX12_heard 59 = .ok (.iload 4, 2) := by decide +kernel
theorem dX12_heard_61 : decode cX12_heard 61 = .ok (.ifCond .eq 27, 3) := by decide +kernel
theorem dX12_heard_64 : decode cX12_heard 64 = .ok (.aload_n 0, 1) := by decide +kernel
theorem dX12_heard_65 : decode cX12_heard 65 = .ok (.iload_n 1, 1) := by decide +kernel
theorem dX12_heard_66 : decode cX12_heard 66 = .ok (.iload 5, 2) := by decide +kernel
theorem dX12_heard_68 : decode cX12_heard 68 = .ok (.aload_n 0, 1) := by decide +kernel
theorem dX12_heard_69 : decode cX12_heard 69 = .ok (.getfield 37, 3) := by decide +kernel
theorem dX12_heard_72 : decode cX12_heard 72 = .ok (.iload_n 3, 1) := by decide +kernel
theorem dX12_heard_73 : decode cX12_heard 73 = .ok (.iload 5, 2) := by decide +kernel
theorem dX12_heard_75 : decode cX12_heard 75 = .ok (.iadd, 1) := by decide +kernel
theorem dX12_heard_76 : decode cX12_heard 76 = .ok (.iaload, 1) := by decide +kernel
theorem dX12_heard_77 : decode cX12_heard 77 = .ok (.iconst 0, 1) := by decide +kernel
theorem dX12_heard_78 : decode cX12_heard 78 = .ok (.invokevirtual 168, 3) := by decide +kernel
theorem dX12_heard_81 : decode cX12_heard 81 = .ok (.ifCond .eq 7, 3) := by decide +kernel
theorem dX12_heard_84 : decode cX12_heard 84 = .ok (.iconst 1, 1) := by decide +kernel
theorem dX12_heard_85 : decode cX12_heard 85 = .ok (.goto 4, 3) := by decide +kernel
theorem dX12_heard_88 : decode cX12_heard 88 = .ok (.iconst 0, 1) := by decide +kernel
theorem dX12_heard_89 : decode cX12_heard 89 = .ok (.istore 4, 2) := by decide +kernel
theorem dX12_heard_91 : decode cX12_heard 91 = .ok (.iinc 5 1, 3) := by decide +kernel
theorem dX12_heard_94 : decode cX12_heard 94 = .ok (.goto (-46), 3) := by decide +kernel
theorem dX12_heard_97 : decode cX12_heard 97 = .ok (.iload 4, 2) := by decide +kernel
theorem dX12_heard_99 : decode cX12_heard 99 = .ok (.ifCond .eq 5, 3) := by decide +kernel
theorem dX12_heard_102 : decode cX12_heard 102 = .ok (.iload_n 3, 1) := by decide +kernel
theorem dX12_heard_103 : decode cX12_heard 103 = .ok (.ireturn, 1) := by decide +kernel
theorem dX12_heard_104 : decode cX12_heard 104 = .ok (.iinc 3 1, 3) := by decide +kernel
theorem dX12_heard_107 : decode cX12_heard 107 = .ok (.goto (-80), 3) := by decide +kernel
theorem dX12_heard_110 : decode cX12_heard 110 = .ok (.bipush (-9), 2) := by decide +kernel
theorem dX12_heard_112 : decode cX12_heard 112 = .ok (.ireturn, 1) := by decide +kernel
theorem dX12_layRest_0 : decode cX12_layRest 0 = .ok (.iload_n 2, 1) := by decide +kernel
theorem dX12_layRest_1 : decode cX12_layRest 1 = .ok (.iconst 1, 1) := by decide +kernel
theorem dX12_layRest_2 : decode cX12_layRest 2 = .ok (.isub, 1) := by decide +kernel
theorem dX12_layRest_3 : decode cX12_layRest 3 = .ok (.istore 5, 2) := by decide +kernel
theorem dX12_layRest_5 : decode cX12_layRest 5 = .ok (.iload 5, 2) := by decide +kernel
theorem dX12_layRest_7 : decode cX12_layRest 7 = .ok (.ifCond .lt 159, 3) := by decide +kernel
theorem dX12_layRest_10 : decode cX12_layRest 10 = .ok (.iconst 0, 1) := by decide +kernel
theorem dX12_layRest_11 : decode cX12_layRest 11 = .ok (.istore 6, 2) := by decide +kernel
theorem dX12_layRest_13 : decode cX12_layRest 13 = .ok (.iload 6, 2) := by decide +kernel
theorem dX12_layRest_15 : decode cX12_layRest 15 = .ok (.bipush 12, 2) := by decide +kernel
theorem dX12_layRest_17 : decode cX12_layRest 17 = .ok (.if_icmp .ge 143, 3) := by decide +kernel
theorem dX12_layRest_20 : decode cX12_layRest 20 = .ok (.iload 5, 2) := by decide +kernel
theorem dX12_layRest_22 : decode cX12_layRest 22 = .ok (.iload_n 2, 1) := by decide +kernel
theorem dX12_layRest_23 : decode cX12_layRest 23 = .ok (.iconst 1, 1) := by decide +kernel
theorem dX12_layRest_24 : decode cX12_layRest 24 = .ok (.isub, 1) := by decide +kernel
theorem dX12_layRest_25 : decode cX12_layRest 25 = .ok (.if_icmp .ne 19, 3) := by decide +kernel
theorem dX12_layRest_28 : decode cX12_layRest 28 = .ok (.iload_n 3, 1) := by decide +kernel
theorem dX12_layRest_29 : decode cX12_layRest 29 = .ok (.bipush (-9), 2) := by decide +kernel
theorem dX12_layRest_31 : decode cX12_layRest 31 = .ok (.if_icmp .eq 9, 3) := by decide +kernel
theorem dX12_layRest_34 : decode cX12_layRest 34 = .ok (.iload_n 3, 1) := by decide +kernel
theorem dX12_layRest_35 : decode cX12_layRest 35 = .ok (.iload 6, 2) := by decide +kernel
theorem dX12_layRest_37 : decode cX12_layRest 37 = .ok (.if_icmp .ne 7, 3) := by decide +kernel
theorem dX12_layRest_40 : decode cX12_layRest 40 = .ok (.lconst 1, 1) := by decide +kernel
theorem dX12_layRest_41 : decode cX12_layRest 41 = .ok (.goto 4, 3) := by decide +kernel
theorem dX12_layRest_44 : decode cX12_layRest 44 = .ok (.lconst 0, 1) := by decide +kernel
theorem dX12_layRest_45 : decode cX12_layRest 45 = .ok (.lstore 7, 2) := by decide +kernel
theorem dX12_layRest_47 : decode cX12_layRest 47 = .ok (.iconst 0, 1) := by decide +kernel
theorem dX12_layRest_48 : decode cX12_layRest 48 = .ok (.istore 9, 2) := by decide +kernel
theorem dX12_layRest_50 : decode cX12_layRest 50 = .ok (.iload 9, 2) := by decide +kernel
theorem dX12_layRest_52 : decode cX12_layRest 52 = .ok (.bipush 12, 2) := by decide +kernel
theorem dX12_layRest_54 : decode cX12_layRest 54 = .ok (.if_icmp .ge 58, 3) := by decide +kernel
theorem dX12_layRest_57 : decode cX12_layRest 57 = .ok (.iload 5, 2) := by decide +kernel
theorem dX12_layRest_59 : decode cX12_layRest 59 = .ok (.iload_n 2, 1) := by decide +kernel
theorem dX12_layRest_60 : decode cX12_layRest 60 = .ok (.iconst 1, 1) := by decide +kernel
theorem dX12_layRest_61 : decode cX12_layRest 61 = .ok (.isub, 1) := by decide +kernel
theorem dX12_layRest_62 : decode cX12_layRest 62 = .ok (.if_icmp .ge 50, 3) := by decide +kernel
theorem dX12_layRest_65 : decode cX12_layRest 65 = .ok (.lload 7, 2) := by decide +kernel
theorem dX12_layRest_67 : decode cX12_layRest 67 = .ok (.aload_n 0, 1) := by decide +kernel
theorem dX12_layRest_68 : decode cX12_layRest 68 = .ok (.getfield 25, 3) := by decide +kernel
theorem dX12_layRest_71 : decode cX12_layRest 71 = .ok (.iload 6, 2) := by decide +kernel
theorem dX12_layRest_73 : decode cX12_layRest 73 = .ok (.iaload, 1) := by decide +kernel
theorem dX12_layRest_74 : decode cX12_layRest 74 = .ok (.iload 9, 2) := by decide +kernel
theorem dX12_layRest_76 : decode cX12_layRest 76 = .ok (.ishr, 1) := by decide +kernel
theorem dX12_layRest_77 : decode cX12_layRest 77 = .ok (.iconst 1, 1) := by decide +kernel
theorem dX12_layRest_78 : decode cX12_layRest 78 = .ok (.iand, 1) := by decide +kernel
theorem dX12_layRest_79 : decode cX12_layRest 79 = .ok (.iconst 1, 1) := by decide +kernel
theorem dX12_layRest_80 : decode cX12_layRest 80 = .ok (.if_icmp .ne 22, 3) := by decide +kernel
theorem dX12_layRest_83 : decode cX12_layRest 83 = .ok (.aload_n 0, 1) := by decide +kernel
theorem dX12_layRest_84 : decode cX12_layRest 84 = .ok (.getfield 40, 3) := by decide +kernel
theorem dX12_layRest_87 : decode cX12_layRest 87 = .ok (.bipush 12, 2) := by decide +kernel
theorem dX12_layRest_89 : decode cX12_layRest 89 = .ok (.iload 5, 2) := by decide +kernel
theorem dX12_layRest_91 : decode cX12_layRest 91 = .ok (.imul, 1) := by decide +kernel
theorem dX12_layRest_92 : decode cX12_layRest 92 = .ok (.bipush 12, 2) := by decide +kernel
theorem dX12_layRest_94 : decode cX12_layRest 94 = .ok (.iadd, 1) := by decide +kernel
theorem dX12_layRest_95 : decode cX12_layRest 95 = .ok (.iload 9, 2) := by decide +kernel
theorem dX12_layRest_97 : decode cX12_layRest 97 = .ok (.iadd, 1) := by decide +kernel
theorem dX12_layRest_98 : decode cX12_layRest 98 = .ok (.laload, 1) := by decide +kernel
theorem dX12_layRest_99 : decode cX12_layRest 99 = .ok (.goto 4, 3) := by decide +kernel
theorem dX12_layRest_102 : decode cX12_layRest 102 = .ok (.lconst 0, 1) := by decide +kernel
theorem dX12_layRest_103 : decode cX12_layRest 103 = .ok (.ladd, 1) := by decide +kernel
theorem dX12_layRest_104 : decode cX12_layRest 104 = .ok (.lstore 7, 2) := by decide +kernel
theorem dX12_layRest_106 : decode cX12_layRest 106 = .ok (.iinc 9 1, 3) := by decide +kernel
theorem dX12_layRest_109 : decode cX12_layRest 109 = .ok (.goto (-59), 3) := by decide +kernel
theorem dX12_layRest_112 : decode cX12_layRest 112 = .ok (.aload_n 0, 1) := by decide +kernel
theorem dX12_layRest_113 : decode cX12_layRest 113 = .ok (.getfield 40, 3) := by decide +kernel
theorem dX12_layRest_116 : decode cX12_layRest 116 = .ok (.bipush 12, 2) := by decide +kernel
theorem dX12_layRest_118 : decode cX12_layRest 118 = .ok (.iload 5, 2) := by decide +kernel
theorem dX12_layRest_120 : decode cX12_layRest 120 = .ok (.imul, 1) := by decide +kernel
theorem dX12_layRest_121 : decode cX12_layRest 121 = .ok (.iload 6, 2) := by decide +kernel
theorem dX12_layRest_123 : decode cX12_layRest 123 = .ok (.iadd, 1) := by decide +kernel
theorem dX12_layRest_124 : decode cX12_layRest 124 = .ok (.iload 6, 2) := by decide +kernel
theorem dX12_layRest_126 : decode cX12_layRest 126 = .ok (.aload_n 0, 1) := by decide +kernel
theorem dX12_layRest_127 : decode cX12_layRest 127 = .ok (.getfield 88, 3) := by decide +kernel
theorem dX12_layRest_130 : decode cX12_layRest 130 = .ok (.if_icmp .ge 22, 3) := by decide +kernel
theorem dX12_layRest_133 : decode cX12_layRest 133 = .ok (.aload_n 0, 1) := by decide +kernel
theorem dX12_layRest_134 : decode cX12_layRest 134 = .ok (.iload_n 1, 1) := by decide +kernel
theorem dX12_layRest_135 : decode cX12_layRest 135 = .ok (.iload 5, 2) := by decide +kernel
theorem dX12_layRest_137 : decode cX12_layRest 137 = .ok (.iload 6, 2) := by decide +kernel
theorem dX12_layRest_139 : decode cX12_layRest 139 = .ok (.iload 4, 2) := by decide +kernel
theorem dX12_layRest_141 : decode cX12_layRest 141 = .ok (.invokevirtual 168, 3) := by decide +kernel
theorem dX12_layRest_144 : decode cX12_layRest 144 = .ok (.ifCond .eq 8, 3) := by decide +kernel
theorem dX12_layRest_147 : decode cX12_layRest 147 = .ok (.lload 7, 2) := by decide +kernel
theorem dX12_layRest_149 : decode cX12_layRest 149 = .ok (.goto 4, 3) := by decide +kernel
theorem dX12_layRest_152 : decode cX12_layRest 152 = .ok (.lconst 0, 1) := by decide +kernel
theorem dX12_layRest_153 : decode cX12_layRest 153 = .ok (.lastore, 1) := by decide +kernel
theorem dX12_layRest_154 : decode cX12_layRest 154 = .ok (.iinc 6 1, 3) := by decide +kernel
theorem dX12_layRest_157 : decode cX12_layRest 157 = .ok (.goto (-144), 3) := by decide +kernel
theorem dX12_layRest_160 : decode cX12_layRest 160 = .ok (.iinc 5 (-1), 3) := by decide +kernel
theorem dX12_layRest_163 : decode cX12_layRest 163 = .ok (.goto (-158), 3) := by decide +kernel
theorem dX12_layRest_166 : decode cX12_layRest 166 = .ok (.return_, 1) := by decide +kernel
theorem dX12_restFrom_0 : decode cX12_restFrom 0 = .ok (.lconst 0, 1) := by decide +kernel
theorem dX12_restFrom_1 : decode cX12_restFrom 1 = .ok (.lstore_n 2, 1) := by decide +kernel
theorem dX12_restFrom_2 : decode cX12_restFrom 2 = .ok (.iconst 0, 1) := by decide +kernel
theorem dX12_restFrom_3 : decode cX12_restFrom 3 = .ok (.istore 4, 2) := by decide +kernel
theorem dX12_restFrom_5 : decode cX12_restFrom 5 = .ok (.iload 4, 2) := by decide +kernel
theorem dX12_restFrom_7 : decode cX12_restFrom 7 = .ok (.aload_n 0, 1) := by decide +kernel
theorem dX12_restFrom_8 : decode cX12_restFrom 8 = .ok (.getfield 88, 3) := by decide +kernel
theorem dX12_restFrom_11 : decode cX12_restFrom 11 = .ok (.if_icmp .ge 35, 3) := by decide +kernel
theorem dX12_restFrom_14 : decode cX12_restFrom 14 = .ok (.lload_n 2, 1) := by decide +kernel
theorem dX12_restFrom_15 : decode cX12_restFrom 15 = .ok (.iload_n 1, 1) := by decide +kernel
theorem dX12_restFrom_16 : decode cX12_restFrom 16 = .ok (.bipush (-9), 2) := by decide +kernel
theorem dX12_restFrom_18 : decode cX12_restFrom 18 = .ok (.if_icmp .eq 9, 3) := by decide +kernel
theorem dX12_restFrom_21 : decode cX12_restFrom 21 = .ok (.iload_n 1, 1) := by decide +kernel
theorem dX12_restFrom_22 : decode cX12_restFrom 22 = .ok (.iload 4, 2) := by decide +kernel
theorem dX12_restFrom_24 : decode cX12_restFrom 24 = .ok (.if_icmp .ne 13, 3) := by decide +kernel
theorem dX12_restFrom_27 : decode cX12_restFrom 27 = .ok (.aload_n 0, 1) := by decide +kernel
theorem dX12_restFrom_28 : decode cX12_restFrom 28 = .ok (.getfield 40, 3) := by decide +kernel
theorem dX12_restFrom_31 : decode cX12_restFrom 31 = .ok (.iload 4, 2) := by decide +kernel
theorem dX12_restFrom_33 : decode cX12_restFrom 33 = .ok (.laload, 1) := by decide +kernel
theorem dX12_restFrom_34 : decode cX12_restFrom 34 = .ok (.goto 4, 3) := by decide +kernel
theorem dX12_restFrom_37 : decode cX12_restFrom 37 = .ok (.lconst 0, 1) := by decide +kernel
theorem dX12_restFrom_38 : decode cX12_restFrom 38 = .ok (.ladd, 1) := by decide +kernel
theorem dX12_restFrom_39 : decode cX12_restFrom 39 = .ok (.lstore_n 2, 1) := by decide +kernel
theorem dX12_restFrom_40 : decode cX12_restFrom 40 = .ok (.iinc 4 1, 3) := by decide +kernel
theorem dX12_restFrom_43 : decode cX12_restFrom 43 = .ok (.goto (-38), 3) := by decide +kernel
theorem dX12_restFrom_46 : decode cX12_restFrom 46 = .ok (.lload_n 2, 1) := by decide +kernel
theorem dX12_restFrom_47 : decode cX12_restFrom 47 = .ok (.lreturn, 1) := by decide +kernel
theorem dX12_isAny_0 : decode cX12_isAny 0 = .ok (.iload_n 1, 1) := by decide +kernel
theorem dX12_isAny_1 : decode cX12_isAny 1 = .ok (.bipush (-9), 2) := by decide +kernel
theorem dX12_isAny_3 : decode cX12_isAny 3 = .ok (.if_icmp .eq 11, 3) := by decide +kernel
theorem dX12_isAny_6 : decode cX12_isAny 6 = .ok (.aload_n 0, 1) := by decide +kernel
theorem dX12_isAny_7 : decode cX12_isAny 7 = .ok (.iload_n 1, 1) := by decide +kernel
theorem dX12_isAny_8 : decode cX12_isAny 8 = .ok (.invokevirtual 157, 3) := by decide +kernel
theorem dX12_isAny_11 : decode cX12_isAny 11 = .ok (.ifCond .eq 7, 3) := by decide +kernel
theorem dX12_isAny_14 : decode cX12_isAny 14 = .ok (.iconst 1, 1) := by decide +kernel
theorem dX12_isAny_15 : decode cX12_isAny 15 = .ok (.goto 4, 3) := by decide +kernel
theorem dX12_isAny_18 : decode cX12_isAny 18 = .ok (.iconst 0, 1) := by decide +kernel
theorem dX12_isAny_19 : decode cX12_isAny 19 = .ok (.ireturn, 1) := by decide +kernel
theorem dX12_ways_0 : decode cX12_ways 0 = .ok (.aload_n 0, 1) := by decide +kernel
theorem dX12_ways_1 : decode cX12_ways 1 = .ok (.iload_n 1, 1) := by decide +kernel
theorem dX12_ways_2 : decode cX12_ways 2 = .ok (.invokevirtual 163, 3) := by decide +kernel
theorem dX12_ways_5 : decode cX12_ways 5 = .ok (.ifCond .eq 19, 3) := by decide +kernel
theorem dX12_ways_8 : decode cX12_ways 8 = .ok (.aload_n 0, 1) := by decide +kernel
theorem dX12_ways_9 : decode cX12_ways 9 = .ok (.iload_n 2, 1) := by decide +kernel
theorem dX12_ways_10 : decode cX12_ways 10 = .ok (.invokevirtual 172, 3) := by decide +kernel
theorem dX12_ways_13 : decode cX12_ways 13 = .ok (.ifCond .eq 11, 3) := by decide +kernel
theorem dX12_ways_16 : decode cX12_ways 16 = .ok (.aload_n 0, 1) := by decide +kernel
theorem dX12_ways_17 : decode cX12_ways 17 = .ok (.iload_n 3, 1) := by decide +kernel
theorem dX12_ways_18 : decode cX12_ways 18 = .ok (.invokevirtual 172, 3) := by decide +kernel
theorem dX12_ways_21 : decode cX12_ways 21 = .ok (.ifCond .ne 7, 3) := by decide +kernel
theorem dX12_ways_24 : decode cX12_ways 24 = .ok (.ldc2_w 175, 3) := by decide +kernel
theorem dX12_ways_27 : decode cX12_ways 27 = .ok (.lreturn, 1) := by decide +kernel
theorem dX12_ways_28 : decode cX12_ways 28 = .ok (.aload_n 0, 1) := by decide +kernel
theorem dX12_ways_29 : decode cX12_ways 29 = .ok (.iload_n 1, 1) := by decide +kernel
theorem dX12_ways_30 : decode cX12_ways 30 = .ok (.aload_n 0, 1) := by decide +kernel
theorem dX12_ways_31 : decode cX12_ways 31 = .ok (.getfield 31, 3) := by decide +kernel
theorem dX12_ways_34 : decode cX12_ways 34 = .ok (.iload_n 1, 1) := by decide +kernel
theorem dX12_ways_35 : decode cX12_ways 35 = .ok (.iaload, 1) := by decide +kernel
theorem dX12_ways_36 : decode cX12_ways 36 = .ok (.iload_n 3, 1) := by decide +kernel
theorem dX12_ways_37 : decode cX12_ways 37 = .ok (.iconst 0, 1) := by decide +kernel
theorem dX12_ways_38 : decode cX12_ways 38 = .ok (.invokevirtual 177, 3) := by decide +kernel
theorem dX12_ways_41 : decode cX12_ways 41 = .ok (.aload_n 0, 1) := by decide +kernel
theorem dX12_ways_42 : decode cX12_ways 42 = .ok (.iload_n 2, 1) := by decide +kernel
theorem dX12_ways_43 : decode cX12_ways 43 = .ok (.invokevirtual 181, 3) := by decide +kernel
theorem dX12_ways_46 : decode cX12_ways 46 = .ok (.lreturn, 1) := by decide +kernel
theorem dX12_first_0 : decode cX12_first 0 = .ok (.aload_n 0, 1) := by decide +kernel
theorem dX12_first_1 : decode cX12_first 1 = .ok (.iload_n 1, 1) := by decide +kernel
theorem dX12_first_2 : decode cX12_first 2 = .ok (.invokevirtual 163, 3) := by decide +kernel
theorem dX12_first_5 : decode cX12_first 5 = .ok (.ifCond .ne 5, 3) := by decide +kernel
theorem dX12_first_8 : decode cX12_first 8 = .ok (.iconst (-1), 1) := by decide +kernel
theorem dX12_first_9 : decode cX12_first 9 = .ok (.ireturn, 1) := by decide +kernel
theorem dX12_first_10 : decode cX12_first 10 = .ok (.aload_n 0, 1) := by decide +kernel
theorem dX12_first_11 : decode cX12_first 11 = .ok (.iload_n 1, 1) := by decide +kernel
theorem dX12_first_12 : decode cX12_first 12 = .ok (.aload_n 0, 1) := by decide +kernel
theorem dX12_first_13 : decode cX12_first 13 = .ok (.getfield 31, 3) := by decide +kernel
theorem dX12_first_16 : decode cX12_first 16 = .ok (.iload_n 1, 1) := by decide +kernel
theorem dX12_first_17 : decode cX12_first 17 = .ok (.iaload, 1) := by decide +kernel
theorem dX12_first_18 : decode cX12_first 18 = .ok (.bipush (-9), 2) := by decide +kernel
theorem dX12_first_20 : decode cX12_first 20 = .ok (.iconst 0, 1) := by decide +kernel
theorem dX12_first_21 : decode cX12_first 21 = .ok (.invokevirtual 177, 3) := by decide +kernel
theorem dX12_first_24 : decode cX12_first 24 = .ok (.aload_n 0, 1) := by decide +kernel
theorem dX12_first_25 : decode cX12_first 25 = .ok (.bipush (-9), 2) := by decide +kernel
theorem dX12_first_27 : decode cX12_first 27 = .ok (.invokevirtual 181, 3) := by decide +kernel
theorem dX12_first_30 : decode cX12_first 30 = .ok (.lconst 0, 1) := by decide +kernel
theorem dX12_first_31 : decode cX12_first 31 = .ok (.lcmp, 1) := by decide +kernel
theorem dX12_first_32 : decode cX12_first 32 = .ok (.ifCond .eq 21, 3) := by decide +kernel
theorem dX12_first_35 : decode cX12_first 35 = .ok (.iload_n 2, 1) := by decide +kernel
theorem dX12_first_36 : decode cX12_first 36 = .ok (.i2l, 1) := by decide +kernel
theorem dX12_first_37 : decode cX12_first 37 = .ok (.lconst 0, 1) := by decide +kernel
theorem dX12_first_38 : decode cX12_first 38 = .ok (.aload_n 0, 1) := by decide +kernel
theorem dX12_first_39 : decode cX12_first 39 = .ok (.getfield 31, 3) := by decide +kernel
theorem dX12_first_42 : decode cX12_first 42 = .ok (.iload_n 1, 1) := by decide +kernel
theorem dX12_first_43 : decode cX12_first 43 = .ok (.iaload, 1) := by decide +kernel
theorem dX12_first_44 : decode cX12_first 44 = .ok (.iconst 1, 1) := by decide +kernel
theorem dX12_first_45 : decode cX12_first 45 = .ok (.isub, 1) := by decide +kernel
theorem dX12_first_46 : decode cX12_first 46 = .ok (.i2l, 1) := by decide +kernel
theorem dX12_first_47 : decode cX12_first 47 = .ok (.invokestatic 94, 3) := by decide +kernel
theorem dX12_first_50 : decode cX12_first 50 = .ok (.ifCond .ne 6, 3) := by decide +kernel
theorem dX12_first_53 : decode cX12_first 53 = .ok (.bipush (-9), 2) := by decide +kernel
theorem dX12_first_55 : decode cX12_first 55 = .ok (.ireturn, 1) := by decide +kernel
theorem dX12_first_56 : decode cX12_first 56 = .ok (.iconst 0, 1) := by decide +kernel
theorem dX12_first_57 : decode cX12_first 57 = .ok (.istore_n 3, 1) := by decide +kernel
theorem dX12_first_58 : decode cX12_first 58 = .ok (.aload_n 0, 1) := by decide +kernel
theorem dX12_first_59 : decode cX12_first 59 = .ok (.getfield 40, 3) := by decide +kernel
theorem dX12_first_62 : decode cX12_first 62 = .ok (.iload_n 3, 1) := by decide +kernel
theorem dX12_first_63 : decode cX12_first 63 = .ok (.laload, 1) := by decide +kernel
theorem dX12_first_64 : decode cX12_first 64 = .ok (.lconst 0, 1) := by decide +kernel
theorem dX12_first_65 : decode cX12_first 65 = .ok (.lcmp, 1) := by decide +kernel
theorem dX12_first_66 : decode cX12_first 66 = .ok (.ifCond .ne 9, 3) := by decide +kernel
theorem dX12_first_69 : decode cX12_first 69 = .ok (.iinc 3 1, 3) := by decide +kernel
theorem dX12_first_72 : decode cX12_first 72 = .ok (.goto (-14), 3) := by decide +kernel
theorem dX12_first_75 : decode cX12_first 75 = .ok (.iconst 1, 1) := by decide +kernel
theorem dX12_first_76 : decode cX12_first 76 = .ok (.istore 4, 2) := by decide +kernel
theorem dX12_first_78 : decode cX12_first 78 = .ok (.iload 4, 2) := by decide +kernel
theorem dX12_first_80 : decode cX12_first 80 = .ok (.iload_n 2, 1) := by decide +kernel
theorem dX12_first_81 : decode cX12_first 81 = .ok (.if_icmp .gt 53, 3) := by decide +kernel
theorem dX12_first_84 : decode cX12_first 84 = .ok (.iconst 0, 1) := by decide +kernel
theorem dX12_first_85 : decode cX12_first 85 = .ok (.istore 5, 2) := by decide +kernel
theorem dX12_first_87 : decode cX12_first 87 = .ok (.aload_n 0, 1) := by decide +kernel
theorem dX12_first_88 : decode cX12_first 88 = .ok (.getfield 25, 3) := by decide +kernel
theorem dX12_first_91 : decode cX12_first 91 = .ok (.iload_n 3, 1) := by decide +kernel
theorem dX12_first_92 : decode cX12_first 92 = .ok (.iaload, 1) := by decide +kernel
theorem dX12_first_93 : decode cX12_first 93 = .ok (.iload 5, 2) := by decide +kernel
theorem dX12_first_95 : decode cX12_first 95 = .ok (.ishr, 1) := by decide +kernel
theorem dX12_first_96 : decode cX12_first 96 = .ok (.iconst 1, 1) := by decide +kernel
theorem dX12_first_97 : decode cX12_first 97 = .ok (.iand, 1) := by decide +kernel
theorem dX12_first_98 : decode cX12_first 98 = .ok (.ifCond .eq 21, 3) := by decide +kernel
theorem dX12_first_101 : decode cX12_first 101 = .ok (.aload_n 0, 1) := by decide +kernel
theorem dX12_first_102 : decode cX12_first 102 = .ok (.getfield 40, 3) := by decide +kernel
theorem dX12_first_105 : decode cX12_first 105 = .ok (.bipush 12, 2) := by decide +kernel
theorem dX12_first_107 : decode cX12_first 107 = .ok (.iload 4, 2) := by decide +kernel
theorem dX12_first_109 : decode cX12_first 109 = .ok (.imul, 1) := by decide +kernel
theorem dX12_first_110 : decode cX12_first 110 = .ok (.iload 5, 2) := by decide +kernel
theorem dX12_first_112 : decode cX12_first 112 = .ok (.iadd, 1) := by decide +kernel
theorem dX12_first_113 : decode cX12_first 113 = .ok (.laload, 1) := by decide +kernel
theorem dX12_first_114 : decode cX12_first 114 = .ok (.lconst 0, 1) := by decide +kernel
theorem dX12_first_115 : decode cX12_first 115 = .ok (.lcmp, 1) := by decide +kernel
theorem dX12_first_116 : decode cX12_first 116 = .ok (.ifCond .ne 9, 3) := by decide +kernel
theorem dX12_first_119 : decode cX12_first 119 = .ok (.iinc 5 1, 3) := by decide +kernel
theorem dX12_first_122 : decode cX12_first 122 = .ok (.goto (-35), 3) := by decide +kernel
theorem dX12_first_125 : decode cX12_first 125 = .ok (.iload 5, 2) := by decide +kernel
theorem dX12_first_127 : decode cX12_first 127 = .ok (.istore_n 3, 1) := by decide +kernel
theorem dX12_first_128 : decode cX12_first 128 = .ok (.iinc 4 1, 3) := by decide +kernel
theorem dX12_first_131 : decode cX12_first 131 = .ok (.goto (-53), 3) := by decide +kernel
theorem dX12_first_134 : decode cX12_first 134 = .ok (.iload_n 3, 1) := by decide +kernel
theorem dX12_first_135 : decode cX12_first 135 = .ok (.ireturn, 1) := by decide +kernel
