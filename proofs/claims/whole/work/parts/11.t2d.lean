theorem dX11_write_0 : decode cX11_write 0 = .ok (.iload_n 1, 1) := by decide +kernel
theorem dX11_write_1 : decode cX11_write 1 = .ok (.iconst 1, 1) := by decide +kernel
theorem dX11_write_2 : decode cX11_write 2 = .ok (.if_icmp .lt 9, 3) := by decide +kernel
theorem dX11_write_5 : decode cX11_write 5 = .ok (.iload_n 1, 1) := by decide +kernel
theorem dX11_write_6 : decode cX11_write 6 = .ok (.bipush 8, 2) := by decide +kernel
theorem dX11_write_8 : decode cX11_write 8 = .ok (.if_icmp .le 6, 3) := by decide +kernel
theorem dX11_write_11 : decode cX11_write 11 = .ok (.bipush (-2), 2) := by decide +kernel
theorem dX11_write_13 : decode cX11_write 13 = .ok (.ireturn, 1) := by decide +kernel
theorem dX11_write_14 : decode cX11_write 14 = .ok (.aload_n 0, 1) := by decide +kernel
theorem dX11_write_15 : decode cX11_write 15 = .ok (.getfield 10, 3) := by decide +kernel
theorem dX11_write_18 : decode cX11_write 18 = .ok (.getfield 67, 3) := by decide +kernel
theorem dX11_write_21 : decode cX11_write 21 = .ok (.bipush 96, 2) := by decide +kernel
theorem dX11_write_23 : decode cX11_write 23 = .ok (.iload_n 1, 1) := by decide +kernel
theorem dX11_write_24 : decode cX11_write 24 = .ok (.isub, 1) := by decide +kernel
theorem dX11_write_25 : decode cX11_write 25 = .ok (.if_icmp .le 6, 3) := by decide +kernel
theorem dX11_write_28 : decode cX11_write 28 = .ok (.bipush (-4), 2) := by decide +kernel
theorem dX11_write_30 : decode cX11_write 30 = .ok (.ireturn, 1) := by decide +kernel
theorem dX11_write_31 : decode cX11_write 31 = .ok (.aload_n 0, 1) := by decide +kernel
theorem dX11_write_32 : decode cX11_write 32 = .ok (.getfield 10, 3) := by decide +kernel
theorem dX11_write_35 : decode cX11_write 35 = .ok (.iload_n 1, 1) := by decide +kernel
theorem dX11_write_36 : decode cX11_write 36 = .ok (.lload_n 2, 1) := by decide +kernel
theorem dX11_write_37 : decode cX11_write 37 = .ok (.invokevirtual 71, 3) := by decide +kernel
theorem dX11_write_40 : decode cX11_write 40 = .ok (.aload_n 0, 1) := by decide +kernel
theorem dX11_write_41 : decode cX11_write 41 = .ok (.getfield 10, 3) := by decide +kernel
theorem dX11_write_44 : decode cX11_write 44 = .ok (.getfield 67, 3) := by decide +kernel
theorem dX11_write_47 : decode cX11_write 47 = .ok (.ireturn, 1) := by decide +kernel
theorem dX11_wipe_0 : decode cX11_wipe 0 = .ok (.aload_n 0, 1) := by decide +kernel
theorem dX11_wipe_1 : decode cX11_wipe 1 = .ok (.getfield 10, 3) := by decide +kernel
theorem dX11_wipe_4 : decode cX11_wipe 4 = .ok (.getfield 67, 3) := by decide +kernel
theorem dX11_wipe_7 : decode cX11_wipe 7 = .ok (.istore_n 1, 1) := by decide +kernel
theorem dX11_wipe_8 : decode cX11_wipe 8 = .ok (.aload_n 0, 1) := by decide +kernel
theorem dX11_wipe_9 : decode cX11_wipe 9 = .ok (.getfield 10, 3) := by decide +kernel
theorem dX11_wipe_12 : decode cX11_wipe 12 = .ok (.iconst 0, 1) := by decide +kernel
theorem dX11_wipe_13 : decode cX11_wipe 13 = .ok (.putfield 67, 3) := by decide +kernel
theorem dX11_wipe_16 : decode cX11_wipe 16 = .ok (.iload_n 1, 1) := by decide +kernel
theorem dX11_wipe_17 : decode cX11_wipe 17 = .ok (.ireturn, 1) := by decide +kernel
theorem dX11_fault_0 : decode cX11_fault 0 = .ok (.aload_n 0, 1) := by decide +kernel
theorem dX11_fault_1 : decode cX11_fault 1 = .ok (.getfield 10, 3) := by decide +kernel
theorem dX11_fault_4 : decode cX11_fault 4 = .ok (.aload_n 0, 1) := by decide +kernel
theorem dX11_fault_5 : decode cX11_fault 5 = .ok (.getfield 19, 3) := by decide +kernel
theorem dX11_fault_8 : decode cX11_fault 8 = .ok (.invokevirtual 75, 3) := by decide +kernel
theorem dX11_fault_11 : decode cX11_fault 11 = .ok (.ireturn, 1) := by decide +kernel
theorem dX11_town_0 : decode cX11_town 0 = .ok (.aload_n 0, 1) := by decide +kernel
theorem dX11_town_1 : decode cX11_town 1 = .ok (.getfield 10, 3) := by decide +kernel
theorem dX11_town_4 : decode cX11_town 4 = .ok (.aload_n 0, 1) := by decide +kernel
theorem dX11_town_5 : decode cX11_town 5 = .ok (.getfield 19, 3) := by decide +kernel
theorem dX11_town_8 : decode cX11_town 8 = .ok (.invokevirtual 75, 3) := by decide +kernel
theorem dX11_town_11 : decode cX11_town 11 = .ok (.bipush (-9), 2) := by decide +kernel
theorem dX11_town_13 : decode cX11_town 13 = .ok (.if_icmp .eq 6, 3) := by decide +kernel
theorem dX11_town_16 : decode cX11_town 16 = .ok (.bipush (-3), 2) := by decide +kernel
theorem dX11_town_18 : decode cX11_town 18 = .ok (.ireturn, 1) := by decide +kernel
theorem dX11_town_19 : decode cX11_town 19 = .ok (.aload_n 0, 1) := by decide +kernel
theorem dX11_town_20 : decode cX11_town 20 = .ok (.getfield 26, 3) := by decide +kernel
theorem dX11_town_23 : decode cX11_town 23 = .ok (.getfield 60, 3) := by decide +kernel
theorem dX11_town_26 : decode cX11_town 26 = .ok (.aload_n 0, 1) := by decide +kernel
theorem dX11_town_27 : decode cX11_town 27 = .ok (.getfield 19, 3) := by decide +kernel
theorem dX11_town_30 : decode cX11_town 30 = .ok (.invokevirtual 79, 3) := by decide +kernel
theorem dX11_town_33 : decode cX11_town 33 = .ok (.aload_n 0, 1) := by decide +kernel
theorem dX11_town_34 : decode cX11_town 34 = .ok (.getfield 26, 3) := by decide +kernel
theorem dX11_town_37 : decode cX11_town 37 = .ok (.getfield 83, 3) := by decide +kernel
theorem dX11_town_40 : decode cX11_town 40 = .ok (.iconst 0, 1) := by decide +kernel
theorem dX11_town_41 : decode cX11_town 41 = .ok (.putfield 87, 3) := by decide +kernel
theorem dX11_town_44 : decode cX11_town 44 = .ok (.aload_n 0, 1) := by decide +kernel
theorem dX11_town_45 : decode cX11_town 45 = .ok (.getfield 26, 3) := by decide +kernel
theorem dX11_town_48 : decode cX11_town 48 = .ok (.getfield 90, 3) := by decide +kernel
theorem dX11_town_51 : decode cX11_town 51 = .ok (.iconst 0, 1) := by decide +kernel
theorem dX11_town_52 : decode cX11_town 52 = .ok (.putfield 94, 3) := by decide +kernel
theorem dX11_town_55 : decode cX11_town 55 = .ok (.aload_n 0, 1) := by decide +kernel
theorem dX11_town_56 : decode cX11_town 56 = .ok (.getfield 26, 3) := by decide +kernel
theorem dX11_town_59 : decode cX11_town 59 = .ok (.getfield 60, 3) := by decide +kernel
theorem dX11_town_62 : decode cX11_town 62 = .ok (.getfield 97, 3) := by decide +kernel
theorem dX11_town_65 : decode cX11_town 65 = .ok (.ireturn, 1) := by decide +kernel
theorem dX11_note_0 : decode cX11_note 0 = .ok (.aload_n 0, 1) := by decide +kernel
theorem dX11_note_1 : decode cX11_note 1 = .ok (.getfield 26, 3) := by decide +kernel
theorem dX11_note_4 : decode cX11_note 4 = .ok (.getfield 60, 3) := by decide +kernel
theorem dX11_note_7 : decode cX11_note 7 = .ok (.iload_n 1, 1) := by decide +kernel
theorem dX11_note_8 : decode cX11_note 8 = .ok (.invokevirtual 100, 3) := by decide +kernel
theorem dX11_note_11 : decode cX11_note 11 = .ok (.ifCond .ne 5, 3) := by decide +kernel
theorem dX11_note_14 : decode cX11_note 14 = .ok (.iconst (-1), 1) := by decide +kernel
theorem dX11_note_15 : decode cX11_note 15 = .ok (.ireturn, 1) := by decide +kernel
theorem dX11_note_16 : decode cX11_note 16 = .ok (.aload_n 0, 1) := by decide +kernel
theorem dX11_note_17 : decode cX11_note 17 = .ok (.getfield 26, 3) := by decide +kernel
theorem dX11_note_20 : decode cX11_note 20 = .ok (.getfield 60, 3) := by decide +kernel
theorem dX11_note_23 : decode cX11_note 23 = .ok (.getfield 104, 3) := by decide +kernel
theorem dX11_note_26 : decode cX11_note 26 = .ok (.iload_n 1, 1) := by decide +kernel
theorem dX11_note_27 : decode cX11_note 27 = .ok (.iaload, 1) := by decide +kernel
theorem dX11_note_28 : decode cX11_note 28 = .ok (.ireturn, 1) := by decide +kernel
theorem dX11_let_0 : decode cX11_let 0 = .ok (.aload_n 0, 1) := by decide +kernel
theorem dX11_let_1 : decode cX11_let 1 = .ok (.getfield 26, 3) := by decide +kernel
theorem dX11_let_4 : decode cX11_let 4 = .ok (.getfield 60, 3) := by decide +kernel
theorem dX11_let_7 : decode cX11_let 7 = .ok (.iload_n 1, 1) := by decide +kernel
theorem dX11_let_8 : decode cX11_let 8 = .ok (.invokevirtual 100, 3) := by decide +kernel
theorem dX11_let_11 : decode cX11_let 11 = .ok (.ifCond .ne 5, 3) := by decide +kernel
theorem dX11_let_14 : decode cX11_let 14 = .ok (.iconst (-1), 1) := by decide +kernel
theorem dX11_let_15 : decode cX11_let 15 = .ok (.ireturn, 1) := by decide +kernel
theorem dX11_let_16 : decode cX11_let 16 = .ok (.iload_n 2, 1) := by decide +kernel
theorem dX11_let_17 : decode cX11_let 17 = .ok (.ifCond .lt 9, 3) := by decide +kernel
theorem dX11_let_20 : decode cX11_let 20 = .ok (.iload_n 2, 1) := by decide +kernel
theorem dX11_let_21 : decode cX11_let 21 = .ok (.bipush 7, 2) := by decide +kernel
theorem dX11_let_23 : decode cX11_let 23 = .ok (.if_icmp .le 6, 3) := by decide +kernel
theorem dX11_let_26 : decode cX11_let 26 = .ok (.bipush (-2), 2) := by decide +kernel
theorem dX11_let_28 : decode cX11_let 28 = .ok (.ireturn, 1) := by decide +kernel
theorem dX11_let_29 : decode cX11_let 29 = .ok (.aload_n 0, 1) := by decide +kernel
theorem dX11_let_30 : decode cX11_let 30 = .ok (.getfield 26, 3) := by decide +kernel
theorem dX11_let_33 : decode cX11_let 33 = .ok (.getfield 60, 3) := by decide +kernel
theorem dX11_let_36 : decode cX11_let 36 = .ok (.getfield 104, 3) := by decide +kernel
theorem dX11_let_39 : decode cX11_let 39 = .ok (.iload_n 1, 1) := by decide +kernel
theorem dX11_let_40 : decode cX11_let 40 = .ok (.iaload, 1) := by decide +kernel
theorem dX11_let_41 : decode cX11_let 41 = .ok (.istore_n 3, 1) := by decide +kernel
theorem dX11_let_42 : decode cX11_let 42 = .ok (.aload_n 0, 1) := by decide +kernel
theorem dX11_let_43 : decode cX11_let 43 = .ok (.getfield 26, 3) := by decide +kernel
theorem dX11_let_46 : decode cX11_let 46 = .ok (.getfield 60, 3) := by decide +kernel
theorem dX11_let_49 : decode cX11_let 49 = .ok (.getfield 104, 3) := by decide +kernel
theorem dX11_let_52 : decode cX11_let 52 = .ok (.iload_n 1, 1) := by decide +kernel
theorem dX11_let_53 : decode cX11_let 53 = .ok (.iload_n 2, 1) := by decide +kernel
theorem dX11_let_54 : decode cX11_let 54 = .ok (.iastore, 1) := by decide +kernel
theorem dX11_let_55 : decode cX11_let 55 = .ok (.iload_n 3, 1) := by decide +kernel
theorem dX11_let_56 : decode cX11_let 56 = .ok (.ireturn, 1) := by decide +kernel
theorem dX11_street_0 : decode cX11_street 0 = .ok (.aload_n 0, 1) := by decide +kernel
theorem dX11_street_1 : decode cX11_street 1 = .ok (.getfield 26, 3) := by decide +kernel
theorem dX11_street_4 : decode cX11_street 4 = .ok (.getfield 60, 3) := by decide +kernel
theorem dX11_street_7 : decode cX11_street 7 = .ok (.iload_n 1, 1) := by decide +kernel
theorem dX11_street_8 : decode cX11_street 8 = .ok (.invokevirtual 100, 3) := by decide +kernel
theorem dX11_street_11 : decode cX11_street 11 = .ok (.ifCond .eq 17, 3) := by decide +kernel
theorem dX11_street_14 : decode cX11_street 14 = .ok (.aload_n 0, 1) := by decide +kernel
theorem dX11_street_15 : decode cX11_street 15 = .ok (.getfield 26, 3) := by decide +kernel
theorem dX11_street_18 : decode cX11_street 18 = .ok (.getfield 60, 3) := by decide +kernel
theorem dX11_street_21 : decode cX11_street 21 = .ok (.iload_n 2, 1) := by decide +kernel
theorem dX11_street_22 : decode cX11_street 22 = .ok (.invokevirtual 100, 3) := by decide +kernel
theorem dX11_street_25 : decode cX11_street 25 = .ok (.ifCond .ne 5, 3) := by decide +kernel
theorem dX11_street_28 : decode cX11_street 28 = .ok (.iconst (-1), 1) := by decide +kernel
theorem dX11_street_29 : decode cX11_street 29 = .ok (.ireturn, 1) := by decide +kernel
theorem dX11_street_30 : decode cX11_street 30 = .ok (.aload_n 0, 1) := by decide +kernel
theorem dX11_street_31 : decode cX11_street 31 = .ok (.getfield 26, 3) := by decide +kernel
theorem dX11_street_34 : decode cX11_street 34 = .ok (.getfield 60, 3) := by decide +kernel
theorem dX11_street_37 : decode cX11_street 37 = .ok (.iload_n 1, 1) := by decide +kernel
theorem dX11_street_38 : decode cX11_street 38 = .ok (.iload_n 2, 1) := by decide +kernel
theorem dX11_street_39 : decode cX11_street 39 = .ok (.invokevirtual 108, 3) := by decide +kernel
theorem dX11_street_42 : decode cX11_street 42 = .ok (.ifCond .eq 7, 3) := by decide +kernel
theorem dX11_street_45 : decode cX11_street 45 = .ok (.iconst 1, 1) := by decide +kernel
theorem dX11_street_46 : decode cX11_street 46 = .ok (.goto 4, 3) := by decide +kernel
theorem dX11_street_49 : decode cX11_street 49 = .ok (.iconst 0, 1) := by decide +kernel
theorem dX11_street_50 : decode cX11_street 50 = .ok (.ireturn, 1) := by decide +kernel
theorem dX11_road_0 : decode cX11_road 0 = .ok (.aload_n 0, 1) := by decide +kernel
theorem dX11_road_1 : decode cX11_road 1 = .ok (.getfield 26, 3) := by decide +kernel
theorem dX11_road_4 : decode cX11_road 4 = .ok (.getfield 60, 3) := by decide +kernel
theorem dX11_road_7 : decode cX11_road 7 = .ok (.iload_n 1, 1) := by decide +kernel
theorem dX11_road_8 : decode cX11_road 8 = .ok (.invokevirtual 100, 3) := by decide +kernel
theorem dX11_road_11 : decode cX11_road 11 = .ok (.ifCond .eq 17, 3) := by decide +kernel
theorem dX11_road_14 : decode cX11_road 14 = .ok (.aload_n 0, 1) := by decide +kernel
theorem dX11_road_15 : decode cX11_road 15 = .ok (.getfield 26, 3) := by decide +kernel
theorem dX11_road_18 : decode cX11_road 18 = .ok (.getfield 60, 3) := by decide +kernel
theorem dX11_road_21 : decode cX11_road 21 = .ok (.iload_n 2, 1) := by decide +kernel
theorem dX11_road_22 : decode cX11_road 22 = .ok (.invokevirtual 100, 3) := by decide +kernel
theorem dX11_road_25 : decode cX11_road 25 = .ok (.ifCond .ne 5, 3) := by decide +kernel
theorem dX11_road_28 : decode cX11_road 28 = .ok (.iconst (-1), 1) := by decide +kernel
theorem dX11_road_29 : decode cX11_road 29 = .ok (.ireturn, 1) := by decide +kernel
theorem dX11_road_30 : decode cX11_road 30 = .ok (.iload_n 1, 1) := by decide +kernel
theorem dX11_road_31 : decode cX11_road 31 = .ok (.iload_n 2, 1) := by decide +kernel
theorem dX11_road_32 : decode cX11_road 32 = .ok (.if_icmp .ne 6, 3) := by decide +kernel
theorem dX11_road_35 : decode cX11_road 35 = .ok (.bipush (-3), 2) := by decide +kernel
theorem dX11_road_37 : decode cX11_road 37 = .ok (.ireturn, 1) := by decide +kernel
theorem dX11_road_38 : decode cX11_road 38 = .ok (.aload_n 0, 1) := by decide +kernel
theorem dX11_road_39 : decode cX11_road 39 = .ok (.getfield 26, 3) := by decide +kernel
theorem dX11_road_42 : decode cX11_road 42 = .ok (.getfield 60, 3) := by decide +kernel
theorem dX11_road_45 : decode cX11_road 45 = .ok (.iload_n 1, 1) := by decide +kernel
theorem dX11_road_46 : decode cX11_road 46 = .ok (.iload_n 2, 1) := by decide +kernel
theorem dX11_road_47 : decode cX11_road 47 = .ok (.invokevirtual 108, 3) := by decide +kernel
theorem dX11_road_50 : decode cX11_road 50 = .ok (.ifCond .eq 7, 3) := by decide +kernel
theorem dX11_road_53 : decode cX11_road 53 = .ok (.iconst 1, 1) := by decide +kernel
theorem dX11_road_54 : decode cX11_road 54 = .ok (.goto 4, 3) := by decide +kernel
theorem dX11_road_57 : decode cX11_road 57 = .ok (.iconst 0, 1) := by decide +kernel
theorem dX11_road_58 : decode cX11_road 58 = .ok (.istore 4, 2) := by decide +kernel
theorem dX11_road_60 : decode cX11_road 60 = .ok (.aload_n 0, 1) := by decide +kernel
theorem dX11_road_61 : decode cX11_road 61 = .ok (.getfield 26, 3) := by decide +kernel
theorem dX11_road_64 : decode cX11_road 64 = .ok (.getfield 60, 3) := by decide +kernel
theorem dX11_road_67 : decode cX11_road 67 = .ok (.iload_n 1, 1) := by decide +kernel
theorem dX11_road_68 : decode cX11_road 68 = .ok (.iload_n 2, 1) := by decide +kernel
theorem dX11_road_69 : decode cX11_road 69 = .ok (.iload_n 3, 1) := by decide +kernel
theorem dX11_road_70 : decode cX11_road 70 = .ok (.invokevirtual 112, 3) := by decide +kernel
theorem dX11_road_73 : decode cX11_road 73 = .ok (.aload_n 0, 1) := by decide +kernel
theorem dX11_road_74 : decode cX11_road 74 = .ok (.getfield 26, 3) := by decide +kernel
theorem dX11_road_77 : decode cX11_road 77 = .ok (.getfield 83, 3) := by decide +kernel
theorem dX11_road_80 : decode cX11_road 80 = .ok (.iconst 0, 1) := by decide +kernel
theorem dX11_road_81 : decode cX11_road 81 = .ok (.putfield 87, 3) := by decide +kernel
theorem dX11_road_84 : decode cX11_road 84 = .ok (.iload 4, 2) := by decide +kernel
theorem dX11_road_86 : decode cX11_road 86 = .ok (.ireturn, 1) := by decide +kernel
theorem dX11_song_0 : decode cX11_song 0 = .ok (.aload_n 0, 1) := by decide +kernel
theorem dX11_song_1 : decode cX11_song 1 = .ok (.getfield 26, 3) := by decide +kernel
theorem dX11_song_4 : decode cX11_song 4 = .ok (.getfield 60, 3) := by decide +kernel
theorem dX11_song_7 : decode cX11_song 7 = .ok (.iload_n 1, 1) := by decide +kernel
theorem dX11_song_8 : decode cX11_song 8 = .ok (.invokevirtual 116, 3) := by decide +kernel
theorem dX11_song_11 : decode cX11_song 11 = .ok (.ifCond .ne 5, 3) := by decide +kernel
theorem dX11_song_14 : decode cX11_song 14 = .ok (.iconst (-1), 1) := by decide +kernel
theorem dX11_song_15 : decode cX11_song 15 = .ok (.ireturn, 1) := by decide +kernel
theorem dX11_song_16 : decode cX11_song 16 = .ok (.aload_n 0, 1) := by decide +kernel
theorem dX11_song_17 : decode cX11_song 17 = .ok (.getfield 26, 3) := by decide +kernel
theorem dX11_song_20 : decode cX11_song 20 = .ok (.getfield 60, 3) := by decide +kernel
theorem dX11_song_23 : decode cX11_song 23 = .ok (.iload_n 1, 1) := by decide +kernel
theorem dX11_song_24 : decode cX11_song 24 = .ok (.iload_n 2, 1) := by decide +kernel
theorem dX11_song_25 : decode cX11_song 25 = .ok (.invokevirtual 119, 3) := by decide +kernel
theorem dX11_song_28 : decode cX11_song 28 = .ok (.ireturn, 1) := by decide +kernel
theorem dX11_spring_0 : decode cX11_spring 0 = .ok (.aload_n 0, 1) := by decide +kernel
theorem dX11_spring_1 : decode cX11_spring 1 = .ok (.getfield 26, 3) := by decide +kernel
theorem dX11_spring_4 : decode cX11_spring 4 = .ok (.getfield 60, 3) := by decide +kernel
theorem dX11_spring_7 : decode cX11_spring 7 = .ok (.invokevirtual 123, 3) := by decide +kernel
theorem dX11_spring_10 : decode cX11_spring 10 = .ok (.ireturn, 1) := by decide +kernel
theorem dX11_go_0 : decode cX11_go 0 = .ok (.aload_n 0, 1) := by decide +kernel
theorem dX11_go_1 : decode cX11_go 1 = .ok (.getfield 26, 3) := by decide +kernel
theorem dX11_go_4 : decode cX11_go 4 = .ok (.getfield 60, 3) := by decide +kernel
theorem dX11_go_7 : decode cX11_go 7 = .ok (.iload_n 1, 1) := by decide +kernel
theorem dX11_go_8 : decode cX11_go 8 = .ok (.invokevirtual 100, 3) := by decide +kernel
theorem dX11_go_11 : decode cX11_go 11 = .ok (.ifCond .ne 5, 3) := by decide +kernel
theorem dX11_go_14 : decode cX11_go 14 = .ok (.iconst (-1), 1) := by decide +kernel
theorem dX11_go_15 : decode cX11_go 15 = .ok (.ireturn, 1) := by decide +kernel
theorem dX11_go_16 : decode cX11_go 16 = .ok (.aload_n 0, 1) := by decide +kernel
theorem dX11_go_17 : decode cX11_go 17 = .ok (.getfield 26, 3) := by decide +kernel
theorem dX11_go_20 : decode cX11_go 20 = .ok (.getfield 83, 3) := by decide +kernel
theorem dX11_go_23 : decode cX11_go 23 = .ok (.aload_n 0, 1) := by decide +kernel
theorem dX11_go_24 : decode cX11_go 24 = .ok (.getfield 26, 3) := by decide +kernel
theorem dX11_go_27 : decode cX11_go 27 = .ok (.getfield 83, 3) := by decide +kernel
theorem dX11_go_30 : decode cX11_go 30 = .ok (.getfield 87, 3) := by decide +kernel
theorem dX11_go_33 : decode cX11_go 33 = .ok (.iconst 1, 1) := by decide +kernel
theorem dX11_go_34 : decode cX11_go 34 = .ok (.isub, 1) := by decide +kernel
theorem dX11_go_35 : decode cX11_go 35 = .ok (.invokevirtual 127, 3) := by decide +kernel
theorem dX11_go_38 : decode cX11_go 38 = .ok (.istore_n 2, 1) := by decide +kernel
theorem dX11_go_39 : decode cX11_go 39 = .ok (.iload_n 2, 1) := by decide +kernel
theorem dX11_go_40 : decode cX11_go 40 = .ok (.bipush (-9), 2) := by decide +kernel
theorem dX11_go_42 : decode cX11_go 42 = .ok (.if_icmp .eq 21, 3) := by decide +kernel
theorem dX11_go_45 : decode cX11_go 45 = .ok (.aload_n 0, 1) := by decide +kernel
theorem dX11_go_46 : decode cX11_go 46 = .ok (.getfield 26, 3) := by decide +kernel
theorem dX11_go_49 : decode cX11_go 49 = .ok (.getfield 60, 3) := by decide +kernel
theorem dX11_go_52 : decode cX11_go 52 = .ok (.iload_n 2, 1) := by decide +kernel
theorem dX11_go_53 : decode cX11_go 53 = .ok (.iload_n 1, 1) := by decide +kernel
theorem dX11_go_54 : decode cX11_go 54 = .ok (.invokevirtual 108, 3) := by decide +kernel
theorem dX11_go_57 : decode cX11_go 57 = .ok (.ifCond .ne 6, 3) := by decide +kernel
theorem dX11_go_60 : decode cX11_go 60 = .ok (.bipush (-3), 2) := by decide +kernel
theorem dX11_go_62 : decode cX11_go 62 = .ok (.ireturn, 1) := by decide +kernel
theorem dX11_go_63 : decode cX11_go 63 = .ok (.aload_n 0, 1) := by decide +kernel
theorem dX11_go_64 : decode cX11_go 64 = .ok (.getfield 26, 3) := by decide +kernel
theorem dX11_go_67 : decode cX11_go 67 = .ok (.getfield 83, 3) := by decide +kernel
theorem dX11_go_70 : decode cX11_go 70 = .ok (.getfield 87, 3) := by decide +kernel
theorem dX11_go_73 : decode cX11_go 73 = .ok (.bipush 24, 2) := by decide +kernel
theorem dX11_go_75 : decode cX11_go 75 = .ok (.if_icmp .lt 6, 3) := by decide +kernel
theorem dX11_go_78 : decode cX11_go 78 = .ok (.bipush (-4), 2) := by decide +kernel
theorem dX11_go_80 : decode cX11_go 80 = .ok (.ireturn, 1) := by decide +kernel
theorem dX11_go_81 : decode cX11_go 81 = .ok (.aload_n 0, 1) := by decide +kernel
theorem dX11_go_82 : decode cX11_go 82 = .ok (.getfield 26, 3) := by decide +kernel
theorem dX11_go_85 : decode cX11_go 85 = .ok (.getfield 83, 3) := by decide +kernel
theorem dX11_go_88 : decode cX11_go 88 = .ok (.iload_n 1, 1) := by decide +kernel
theorem dX11_go_89 : decode cX11_go 89 = .ok (.invokevirtual 131, 3) := by decide +kernel
theorem dX11_go_92 : decode cX11_go 92 = .ok (.aload_n 0, 1) := by decide +kernel
theorem dX11_go_93 : decode cX11_go 93 = .ok (.getfield 26, 3) := by decide +kernel
theorem dX11_go_96 : decode cX11_go 96 = .ok (.getfield 83, 3) := by decide +kernel
theorem dX11_go_99 : decode cX11_go 99 = .ok (.getfield 87, 3) := by decide +kernel
theorem dX11_go_102 : decode cX11_go 102 = .ok (.ireturn, 1) := by decide +kernel
theorem dX11_home_0 : decode cX11_home 0 = .ok (.aload_n 0, 1) := by decide +kernel
theorem dX11_home_1 : decode cX11_home 1 = .ok (.getfield 26, 3) := by decide +kernel
theorem dX11_home_4 : decode cX11_home 4 = .ok (.getfield 83, 3) := by decide +kernel
theorem dX11_home_7 : decode cX11_home 7 = .ok (.getfield 87, 3) := by decide +kernel
theorem dX11_home_10 : decode cX11_home 10 = .ok (.istore_n 1, 1) := by decide +kernel
theorem dX11_home_11 : decode cX11_home 11 = .ok (.aload_n 0, 1) := by decide +kernel
theorem dX11_home_12 : decode cX11_home 12 = .ok (.getfield 26, 3) := by decide +kernel
theorem dX11_home_15 : decode cX11_home 15 = .ok (.getfield 83, 3) := by decide +kernel
theorem dX11_home_18 : decode cX11_home 18 = .ok (.iconst 0, 1) := by decide +kernel
theorem dX11_home_19 : decode cX11_home 19 = .ok (.putfield 87, 3) := by decide +kernel
theorem dX11_home_22 : decode cX11_home 22 = .ok (.iload_n 1, 1) := by decide +kernel
theorem dX11_home_23 : decode cX11_home 23 = .ok (.ireturn, 1) := by decide +kernel
theorem dX11_at_0 : decode cX11_at 0 = .ok (.aload_n 0, 1) := by decide +kernel
theorem dX11_at_1 : decode cX11_at 1 = .ok (.getfield 26, 3) := by decide +kernel
theorem dX11_at_4 : decode cX11_at 4 = .ok (.getfield 83, 3) := by decide +kernel
theorem dX11_at_7 : decode cX11_at 7 = .ok (.iload_n 1, 1) := by decide +kernel
theorem dX11_at_8 : decode cX11_at 8 = .ok (.invokevirtual 127, 3) := by decide +kernel
theorem dX11_at_11 : decode cX11_at 11 = .ok (.ireturn, 1) := by decide +kernel
theorem dX11_heard_0 : decode cX11_heard 0 = .ok (.aload_n 0, 1) := by decide +kernel
theorem dX11_heard_1 : decode cX11_heard 1 = .ok (.getfield 26, 3) := by decide +kernel
theorem dX11_heard_4 : decode cX11_heard 4 = .ok (.getfield 60, 3) := by decide +kernel
theorem dX11_heard_7 : decode cX11_heard 7 = .ok (.iload_n 1, 1) := by decide +kernel
theorem dX11_heard_8 : decode cX11_heard 8 = .ok (.invokevirtual 116, 3) := by decide +kernel
theorem dX11_heard_11 : decode cX11_heard 11 = .ok (.ifCond .ne 5, 3) := by decide +kernel
theorem dX11_heard_14 : decode cX11_heard 14 = .ok (.iconst (-1), 1) := by decide +kernel
theorem dX11_heard_15 : decode cX11_heard 15 = .ok (.ireturn, 1) := by decide +kernel
theorem dX11_heard_16 : decode cX11_heard 16 = .ok (.iload_n 2, 1) := by decide +kernel
theorem dX11_heard_17 : decode cX11_heard 17 = .ok (.ifCond .lt 9, 3) := by decide +kernel
theorem dX11_heard_20 : decode cX11_heard 20 = .ok (.iload_n 2, 1) := by decide +kernel
theorem dX11_heard_21 : decode cX11_heard 21 = .ok (.bipush 24, 2) := by decide +kernel
theorem dX11_heard_23 : decode cX11_heard 23 = .ok (.if_icmp .lt 6, 3) := by decide +kernel
theorem dX11_heard_26 : decode cX11_heard 26 = .ok (.bipush (-2), 2) := by decide +kernel
theorem dX11_heard_28 : decode cX11_heard 28 = .ok (.ireturn, 1) := by decide +kernel
theorem dX11_heard_29 : decode cX11_heard 29 = .ok (.aload_n 0, 1) := by decide +kernel
theorem dX11_heard_30 : decode cX11_heard 30 = .ok (.getfield 39, 3) := by decide +kernel
theorem dX11_heard_33 : decode cX11_heard 33 = .ok (.aload_n 0, 1) := by decide +kernel
theorem dX11_heard_34 : decode cX11_heard 34 = .ok (.getfield 26, 3) := by decide +kernel
theorem dX11_heard_37 : decode cX11_heard 37 = .ok (.getfield 60, 3) := by decide +kernel
theorem dX11_heard_40 : decode cX11_heard 40 = .ok (.iload_n 1, 1) := by decide +kernel
theorem dX11_heard_41 : decode cX11_heard 41 = .ok (.invokevirtual 134, 3) := by decide +kernel
theorem dX11_heard_44 : decode cX11_heard 44 = .ok (.aload_n 0, 1) := by decide +kernel
theorem dX11_heard_45 : decode cX11_heard 45 = .ok (.getfield 26, 3) := by decide +kernel
theorem dX11_heard_48 : decode cX11_heard 48 = .ok (.getfield 83, 3) := by decide +kernel
theorem dX11_heard_51 : decode cX11_heard 51 = .ok (.aload_n 0, 1) := by decide +kernel
theorem dX11_heard_52 : decode cX11_heard 52 = .ok (.getfield 39, 3) := by decide +kernel
theorem dX11_heard_55 : decode cX11_heard 55 = .ok (.iload_n 2, 1) := by decide +kernel
theorem dX11_heard_56 : decode cX11_heard 56 = .ok (.invokevirtual 138, 3) := by decide +kernel
theorem dX11_heard_59 : decode cX11_heard 59 = .ok (.ireturn, 1) := by decide +kernel
theorem dX11_ways_0 : decode cX11_ways 0 = .ok (.aload_n 0, 1) := by decide +kernel
theorem dX11_ways_1 : decode cX11_ways 1 = .ok (.getfield 26, 3) := by decide +kernel
theorem dX11_ways_4 : decode cX11_ways 4 = .ok (.getfield 60, 3) := by decide +kernel
theorem dX11_ways_7 : decode cX11_ways 7 = .ok (.iload_n 1, 1) := by decide +kernel
theorem dX11_ways_8 : decode cX11_ways 8 = .ok (.invokevirtual 116, 3) := by decide +kernel
theorem dX11_ways_11 : decode cX11_ways 11 = .ok (.ifCond .eq 19, 3) := by decide +kernel
theorem dX11_ways_14 : decode cX11_ways 14 = .ok (.aload_n 0, 1) := by decide +kernel
theorem dX11_ways_15 : decode cX11_ways 15 = .ok (.iload_n 2, 1) := by decide +kernel
theorem dX11_ways_16 : decode cX11_ways 16 = .ok (.invokevirtual 142, 3) := by decide +kernel
theorem dX11_ways_19 : decode cX11_ways 19 = .ok (.ifCond .eq 11, 3) := by decide +kernel
theorem dX11_ways_22 : decode cX11_ways 22 = .ok (.aload_n 0, 1) := by decide +kernel
theorem dX11_ways_23 : decode cX11_ways 23 = .ok (.iload_n 3, 1) := by decide +kernel
theorem dX11_ways_24 : decode cX11_ways 24 = .ok (.invokevirtual 142, 3) := by decide +kernel
theorem dX11_ways_27 : decode cX11_ways 27 = .ok (.ifCond .ne 7, 3) := by decide +kernel
theorem dX11_ways_30 : decode cX11_ways 30 = .ok (.ldc2_w 145, 3) := by decide +kernel
theorem dX11_ways_33 : decode cX11_ways 33 = .ok (.lreturn, 1) := by decide +kernel
theorem dX11_ways_34 : decode cX11_ways 34 = .ok (.aload_n 0, 1) := by decide +kernel
theorem dX11_ways_35 : decode cX11_ways 35 = .ok (.getfield 39, 3) := by decide +kernel
theorem dX11_ways_38 : decode cX11_ways 38 = .ok (.aload_n 0, 1) := by decide +kernel
theorem dX11_ways_39 : decode cX11_ways 39 = .ok (.getfield 26, 3) := by decide +kernel
theorem dX11_ways_42 : decode cX11_ways 42 = .ok (.getfield 60, 3) := by decide +kernel
theorem dX11_ways_45 : decode cX11_ways 45 = .ok (.iload_n 1, 1) := by decide +kernel
theorem dX11_ways_46 : decode cX11_ways 46 = .ok (.invokevirtual 134, 3) := by decide +kernel
theorem dX11_ways_49 : decode cX11_ways 49 = .ok (.aload_n 0, 1) := by decide +kernel
theorem dX11_ways_50 : decode cX11_ways 50 = .ok (.getfield 39, 3) := by decide +kernel
theorem dX11_ways_53 : decode cX11_ways 53 = .ok (.aload_n 0, 1) := by decide +kernel
theorem dX11_ways_54 : decode cX11_ways 54 = .ok (.getfield 26, 3) := by decide +kernel
theorem dX11_ways_57 : decode cX11_ways 57 = .ok (.getfield 60, 3) := by decide +kernel
theorem dX11_ways_60 : decode cX11_ways 60 = .ok (.aload_n 0, 1) := by decide +kernel
theorem dX11_ways_61 : decode cX11_ways 61 = .ok (.iload_n 2, 1) := by decide +kernel
theorem dX11_ways_62 : decode cX11_ways 62 = .ok (.invokevirtual 147, 3) := by decide +kernel
theorem dX11_ways_65 : decode cX11_ways 65 = .ok (.aload_n 0, 1) := by decide +kernel
theorem dX11_ways_66 : decode cX11_ways 66 = .ok (.iload_n 3, 1) := by decide +kernel
theorem dX11_ways_67 : decode cX11_ways 67 = .ok (.invokevirtual 147, 3) := by decide +kernel
theorem dX11_ways_70 : decode cX11_ways 70 = .ok (.invokevirtual 150, 3) := by decide +kernel
theorem dX11_ways_73 : decode cX11_ways 73 = .ok (.lreturn, 1) := by decide +kernel
theorem dX11_first_0 : decode cX11_first 0 = .ok (.aload_n 0, 1) := by decide +kernel
theorem dX11_first_1 : decode cX11_first 1 = .ok (.getfield 26, 3) := by decide +kernel
theorem dX11_first_4 : decode cX11_first 4 = .ok (.getfield 60, 3) := by decide +kernel
theorem dX11_first_7 : decode cX11_first 7 = .ok (.iload_n 1, 1) := by decide +kernel
theorem dX11_first_8 : decode cX11_first 8 = .ok (.invokevirtual 116, 3) := by decide +kernel
theorem dX11_first_11 : decode cX11_first 11 = .ok (.ifCond .ne 5, 3) := by decide +kernel
theorem dX11_first_14 : decode cX11_first 14 = .ok (.iconst (-1), 1) := by decide +kernel
theorem dX11_first_15 : decode cX11_first 15 = .ok (.ireturn, 1) := by decide +kernel
theorem dX11_first_16 : decode cX11_first 16 = .ok (.aload_n 0, 1) := by decide +kernel
theorem dX11_first_17 : decode cX11_first 17 = .ok (.getfield 39, 3) := by decide +kernel
theorem dX11_first_20 : decode cX11_first 20 = .ok (.aload_n 0, 1) := by decide +kernel
theorem dX11_first_21 : decode cX11_first 21 = .ok (.getfield 26, 3) := by decide +kernel
theorem dX11_first_24 : decode cX11_first 24 = .ok (.getfield 60, 3) := by decide +kernel
theorem dX11_first_27 : decode cX11_first 27 = .ok (.iload_n 1, 1) := by decide +kernel
theorem dX11_first_28 : decode cX11_first 28 = .ok (.invokevirtual 134, 3) := by decide +kernel
theorem dX11_first_31 : decode cX11_first 31 = .ok (.aload_n 0, 1) := by decide +kernel
theorem dX11_first_32 : decode cX11_first 32 = .ok (.getfield 39, 3) := by decide +kernel
theorem dX11_first_35 : decode cX11_first 35 = .ok (.aload_n 0, 1) := by decide +kernel
theorem dX11_first_36 : decode cX11_first 36 = .ok (.getfield 26, 3) := by decide +kernel
theorem dX11_first_39 : decode cX11_first 39 = .ok (.getfield 60, 3) := by decide +kernel
theorem dX11_first_42 : decode cX11_first 42 = .ok (.iload_n 2, 1) := by decide +kernel
theorem dX11_first_43 : decode cX11_first 43 = .ok (.invokevirtual 154, 3) := by decide +kernel
theorem dX11_first_46 : decode cX11_first 46 = .ok (.ireturn, 1) := by decide +kernel
theorem dX11_begun_0 : decode cX11_begun 0 = .ok (.aload_n 0, 1) := by decide +kernel
theorem dX11_begun_1 : decode cX11_begun 1 = .ok (.getfield 26, 3) := by decide +kernel
theorem dX11_begun_4 : decode cX11_begun 4 = .ok (.getfield 60, 3) := by decide +kernel
theorem dX11_begun_7 : decode cX11_begun 7 = .ok (.iload_n 1, 1) := by decide +kernel
theorem dX11_begun_8 : decode cX11_begun 8 = .ok (.invokevirtual 116, 3) := by decide +kernel
theorem dX11_begun_11 : decode cX11_begun 11 = .ok (.ifCond .ne 5, 3) := by decide +kernel
theorem dX11_begun_14 : decode cX11_begun 14 = .ok (.iconst (-1), 1) := by decide +kernel
theorem dX11_begun_15 : decode cX11_begun 15 = .ok (.ireturn, 1) := by decide +kernel
theorem dX11_begun_16 : decode cX11_begun 16 = .ok (.aload_n 0, 1) := by decide +kernel
theorem dX11_begun_17 : decode cX11_begun 17 = .ok (.getfield 39, 3) := by decide +kernel
theorem dX11_begun_20 : decode cX11_begun 20 = .ok (.aload_n 0, 1) := by decide +kernel
theorem dX11_begun_21 : decode cX11_begun 21 = .ok (.getfield 26, 3) := by decide +kernel
theorem dX11_begun_24 : decode cX11_begun 24 = .ok (.getfield 60, 3) := by decide +kernel
theorem dX11_begun_27 : decode cX11_begun 27 = .ok (.iload_n 1, 1) := by decide +kernel
theorem dX11_begun_28 : decode cX11_begun 28 = .ok (.invokevirtual 134, 3) := by decide +kernel
theorem dX11_begun_31 : decode cX11_begun 31 = .ok (.aload_n 0, 1) := by decide +kernel
theorem dX11_begun_32 : decode cX11_begun 32 = .ok (.getfield 39, 3) := by decide +kernel
theorem dX11_begun_35 : decode cX11_begun 35 = .ok (.aload_n 0, 1) := by decide +kernel
theorem dX11_begun_36 : decode cX11_begun 36 = .ok (.getfield 26, 3) := by decide +kernel
theorem dX11_begun_39 : decode cX11_begun 39 = .ok (.getfield 60, 3) := by decide +kernel
theorem dX11_begun_42 : decode cX11_begun 42 = .ok (.invokevirtual 158, 3) := by decide +kernel
theorem dX11_begun_45 : decode cX11_begun 45 = .ok (.ireturn, 1) := by decide +kernel
theorem dX11_round_0 : decode cX11_round 0 = .ok (.aload_n 0, 1) := by decide +kernel
theorem dX11_round_1 : decode cX11_round 1 = .ok (.iload_n 1, 1) := by decide +kernel
theorem dX11_round_2 : decode cX11_round 2 = .ok (.iload_n 2, 1) := by decide +kernel
theorem dX11_round_3 : decode cX11_round 3 = .ok (.iload_n 3, 1) := by decide +kernel
theorem dX11_round_4 : decode cX11_round 4 = .ok (.invokevirtual 161, 3) := by decide +kernel
theorem dX11_round_7 : decode cX11_round 7 = .ok (.ifCond .ne 5, 3) := by decide +kernel
theorem dX11_round_10 : decode cX11_round 10 = .ok (.iconst (-1), 1) := by decide +kernel
theorem dX11_round_11 : decode cX11_round 11 = .ok (.ireturn, 1) := by decide +kernel
theorem dX11_round_12 : decode cX11_round 12 = .ok (.aload_n 0, 1) := by decide +kernel
theorem dX11_round_13 : decode cX11_round 13 = .ok (.getfield 49, 3) := by decide +kernel
theorem dX11_round_16 : decode cX11_round 16 = .ok (.aload_n 0, 1) := by decide +kernel
theorem dX11_round_17 : decode cX11_round 17 = .ok (.getfield 26, 3) := by decide +kernel
theorem dX11_round_20 : decode cX11_round 20 = .ok (.getfield 60, 3) := by decide +kernel
theorem dX11_round_23 : decode cX11_round 23 = .ok (.iload_n 1, 1) := by decide +kernel
theorem dX11_round_24 : decode cX11_round 24 = .ok (.invokevirtual 165, 3) := by decide +kernel
theorem dX11_round_27 : decode cX11_round 27 = .ok (.aload_n 0, 1) := by decide +kernel
theorem dX11_round_28 : decode cX11_round 28 = .ok (.getfield 49, 3) := by decide +kernel
theorem dX11_round_31 : decode cX11_round 31 = .ok (.aload_n 0, 1) := by decide +kernel
theorem dX11_round_32 : decode cX11_round 32 = .ok (.getfield 49, 3) := by decide +kernel
theorem dX11_round_35 : decode cX11_round 35 = .ok (.aload_n 0, 1) := by decide +kernel
theorem dX11_round_36 : decode cX11_round 36 = .ok (.getfield 26, 3) := by decide +kernel
theorem dX11_round_39 : decode cX11_round 39 = .ok (.getfield 60, 3) := by decide +kernel
theorem dX11_round_42 : decode cX11_round 42 = .ok (.iload_n 2, 1) := by decide +kernel
theorem dX11_round_43 : decode cX11_round 43 = .ok (.iload_n 3, 1) := by decide +kernel
theorem dX11_round_44 : decode cX11_round 44 = .ok (.invokevirtual 166, 3) := by decide +kernel
theorem dX11_round_47 : decode cX11_round 47 = .ok (.invokevirtual 170, 3) := by decide +kernel
theorem dX11_round_50 : decode cX11_round 50 = .ok (.ireturn, 1) := by decide +kernel
theorem dX11_roundAt_0 : decode cX11_roundAt 0 = .ok (.aload_n 0, 1) := by decide +kernel
theorem dX11_roundAt_1 : decode cX11_roundAt 1 = .ok (.iload_n 1, 1) := by decide +kernel
theorem dX11_roundAt_2 : decode cX11_roundAt 2 = .ok (.iload_n 2, 1) := by decide +kernel
theorem dX11_roundAt_3 : decode cX11_roundAt 3 = .ok (.iload_n 3, 1) := by decide +kernel
theorem dX11_roundAt_4 : decode cX11_roundAt 4 = .ok (.invokevirtual 161, 3) := by decide +kernel
theorem dX11_roundAt_7 : decode cX11_roundAt 7 = .ok (.ifCond .ne 5, 3) := by decide +kernel
theorem dX11_roundAt_10 : decode cX11_roundAt 10 = .ok (.iconst (-1), 1) := by decide +kernel
theorem dX11_roundAt_11 : decode cX11_roundAt 11 = .ok (.ireturn, 1) := by decide +kernel
theorem dX11_roundAt_12 : decode cX11_roundAt 12 = .ok (.aload_n 0, 1) := by decide +kernel
theorem dX11_roundAt_13 : decode cX11_roundAt 13 = .ok (.getfield 49, 3) := by decide +kernel
theorem dX11_roundAt_16 : decode cX11_roundAt 16 = .ok (.aload_n 0, 1) := by decide +kernel
theorem dX11_roundAt_17 : decode cX11_roundAt 17 = .ok (.getfield 26, 3) := by decide +kernel
theorem dX11_roundAt_20 : decode cX11_roundAt 20 = .ok (.getfield 60, 3) := by decide +kernel
theorem dX11_roundAt_23 : decode cX11_roundAt 23 = .ok (.iload_n 1, 1) := by decide +kernel
theorem dX11_roundAt_24 : decode cX11_roundAt 24 = .ok (.invokevirtual 165, 3) := by decide +kernel
theorem dX11_roundAt_27 : decode cX11_roundAt 27 = .ok (.aload_n 0, 1) := by decide +kernel
theorem dX11_roundAt_28 : decode cX11_roundAt 28 = .ok (.getfield 49, 3) := by decide +kernel
theorem dX11_roundAt_31 : decode cX11_roundAt 31 = .ok (.aload_n 0, 1) := by decide +kernel
theorem dX11_roundAt_32 : decode cX11_roundAt 32 = .ok (.getfield 49, 3) := by decide +kernel
theorem dX11_roundAt_35 : decode cX11_roundAt 35 = .ok (.aload_n 0, 1) := by decide +kernel
theorem dX11_roundAt_36 : decode cX11_roundAt 36 = .ok (.getfield 26, 3) := by decide +kernel
theorem dX11_roundAt_39 : decode cX11_roundAt 39 = .ok (.getfield 60, 3) := by decide +kernel
theorem dX11_roundAt_42 : decode cX11_roundAt 42 = .ok (.iload_n 2, 1) := by decide +kernel
theorem dX11_roundAt_43 : decode cX11_roundAt 43 = .ok (.iload_n 3, 1) := by decide +kernel
theorem dX11_roundAt_44 : decode cX11_roundAt 44 = .ok (.invokevirtual 166, 3) := by decide +kernel
theorem dX11_roundAt_47 : decode cX11_roundAt 47 = .ok (.iload 4, 2) := by decide +kernel
theorem dX11_roundAt_49 : decode cX11_roundAt 49 = .ok (.invokevirtual 173, 3) := by decide +kernel
theorem dX11_roundAt_52 : decode cX11_roundAt 52 = .ok (.ireturn, 1) := by decide +kernel
theorem dX11_safe_0 : decode cX11_safe 0 = .ok (.aload_n 0, 1) := by decide +kernel
theorem dX11_safe_1 : decode cX11_safe 1 = .ok (.iload_n 1, 1) := by decide +kernel
theorem dX11_safe_2 : decode cX11_safe 2 = .ok (.iload_n 2, 1) := by decide +kernel
theorem dX11_safe_3 : decode cX11_safe 3 = .ok (.iload_n 3, 1) := by decide +kernel
theorem dX11_safe_4 : decode cX11_safe 4 = .ok (.invokevirtual 161, 3) := by decide +kernel
theorem dX11_safe_7 : decode cX11_safe 7 = .ok (.ifCond .ne 7, 3) := by decide +kernel
theorem dX11_safe_10 : decode cX11_safe 10 = .ok (.ldc2_w 145, 3) := by decide +kernel
theorem dX11_safe_13 : decode cX11_safe 13 = .ok (.lreturn, 1) := by decide +kernel
theorem dX11_safe_14 : decode cX11_safe 14 = .ok (.iload 4, 2) := by decide +kernel
theorem dX11_safe_16 : decode cX11_safe 16 = .ok (.ifCond .lt 10, 3) := by decide +kernel
theorem dX11_safe_19 : decode cX11_safe 19 = .ok (.iload 4, 2) := by decide +kernel
theorem dX11_safe_21 : decode cX11_safe 21 = .ok (.bipush 12, 2) := by decide +kernel
theorem dX11_safe_23 : decode cX11_safe 23 = .ok (.if_icmp .le 7, 3) := by decide +kernel
theorem dX11_safe_26 : decode cX11_safe 26 = .ok (.ldc2_w 176, 3) := by decide +kernel
theorem dX11_safe_29 : decode cX11_safe 29 = .ok (.lreturn, 1) := by decide +kernel
theorem dX11_safe_30 : decode cX11_safe 30 = .ok (.aload_n 0, 1) := by decide +kernel
theorem dX11_safe_31 : decode cX11_safe 31 = .ok (.getfield 49, 3) := by decide +kernel
theorem dX11_safe_34 : decode cX11_safe 34 = .ok (.aload_n 0, 1) := by decide +kernel
theorem dX11_safe_35 : decode cX11_safe 35 = .ok (.getfield 26, 3) := by decide +kernel
theorem dX11_safe_38 : decode cX11_safe 38 = .ok (.getfield 60, 3) := by decide +kernel
theorem dX11_safe_41 : decode cX11_safe 41 = .ok (.iload_n 1, 1) := by decide +kernel
theorem dX11_safe_42 : decode cX11_safe 42 = .ok (.invokevirtual 165, 3) := by decide +kernel
theorem dX11_safe_45 : decode cX11_safe 45 = .ok (.aload_n 0, 1) := by decide +kernel
theorem dX11_safe_46 : decode cX11_safe 46 = .ok (.getfield 49, 3) := by decide +kernel
theorem dX11_safe_49 : decode cX11_safe 49 = .ok (.aload_n 0, 1) := by decide +kernel
theorem dX11_safe_50 : decode cX11_safe 50 = .ok (.getfield 26, 3) := by decide +kernel
theorem dX11_safe_53 : decode cX11_safe 53 = .ok (.getfield 60, 3) := by decide +kernel
theorem dX11_safe_56 : decode cX11_safe 56 = .ok (.iload_n 2, 1) := by decide +kernel
theorem dX11_safe_57 : decode cX11_safe 57 = .ok (.iload_n 3, 1) := by decide +kernel
theorem dX11_safe_58 : decode cX11_safe 58 = .ok (.iload 4, 2) := by decide +kernel
theorem dX11_safe_60 : decode cX11_safe 60 = .ok (.invokevirtual 178, 3) := by decide +kernel
theorem dX11_safe_63 : decode cX11_safe 63 = .ok (.lreturn, 1) := by decide +kernel
theorem dX11_both_0 : decode cX11_both 0 = .ok (.aload_n 0, 1) := by decide +kernel
theorem dX11_both_1 : decode cX11_both 1 = .ok (.getfield 26, 3) := by decide +kernel
theorem dX11_both_4 : decode cX11_both 4 = .ok (.getfield 60, 3) := by decide +kernel
theorem dX11_both_7 : decode cX11_both 7 = .ok (.iload_n 1, 1) := by decide +kernel
theorem dX11_both_8 : decode cX11_both 8 = .ok (.invokevirtual 116, 3) := by decide +kernel
theorem dX11_both_11 : decode cX11_both 11 = .ok (.ifCond .eq 17, 3) := by decide +kernel
theorem dX11_both_14 : decode cX11_both 14 = .ok (.aload_n 0, 1) := by decide +kernel
theorem dX11_both_15 : decode cX11_both 15 = .ok (.getfield 26, 3) := by decide +kernel
theorem dX11_both_18 : decode cX11_both 18 = .ok (.getfield 60, 3) := by decide +kernel
theorem dX11_both_21 : decode cX11_both 21 = .ok (.iload_n 2, 1) := by decide +kernel
theorem dX11_both_22 : decode cX11_both 22 = .ok (.invokevirtual 116, 3) := by decide +kernel
theorem dX11_both_25 : decode cX11_both 25 = .ok (.ifCond .ne 5, 3) := by decide +kernel
theorem dX11_both_28 : decode cX11_both 28 = .ok (.iconst (-1), 1) := by decide +kernel
theorem dX11_both_29 : decode cX11_both 29 = .ok (.ireturn, 1) := by decide +kernel
theorem dX11_both_30 : decode cX11_both 30 = .ok (.aload_n 0, 1) := by decide +kernel
theorem dX11_both_31 : decode cX11_both 31 = .ok (.getfield 39, 3) := by decide +kernel
theorem dX11_both_34 : decode cX11_both 34 = .ok (.aload_n 0, 1) := by decide +kernel
theorem dX11_both_35 : decode cX11_both 35 = .ok (.getfield 26, 3) := by decide +kernel
theorem dX11_both_38 : decode cX11_both 38 = .ok (.getfield 60, 3) := by decide +kernel
theorem dX11_both_41 : decode cX11_both 41 = .ok (.iload_n 1, 1) := by decide +kernel
theorem dX11_both_42 : decode cX11_both 42 = .ok (.invokevirtual 134, 3) := by decide +kernel
theorem dX11_both_45 : decode cX11_both 45 = .ok (.aload_n 0, 1) := by decide +kernel
theorem dX11_both_46 : decode cX11_both 46 = .ok (.getfield 43, 3) := by decide +kernel
theorem dX11_both_49 : decode cX11_both 49 = .ok (.aload_n 0, 1) := by decide +kernel
theorem dX11_both_50 : decode cX11_both 50 = .ok (.getfield 26, 3) := by decide +kernel
theorem dX11_both_53 : decode cX11_both 53 = .ok (.getfield 60, 3) := by decide +kernel
theorem dX11_both_56 : decode cX11_both 56 = .ok (.iload_n 2, 1) := by decide +kernel
theorem dX11_both_57 : decode cX11_both 57 = .ok (.invokevirtual 134, 3) := by decide +kernel
theorem dX11_both_60 : decode cX11_both 60 = .ok (.aload_n 0, 1) := by decide +kernel
theorem dX11_both_61 : decode cX11_both 61 = .ok (.getfield 26, 3) := by decide +kernel
theorem dX11_both_64 : decode cX11_both 64 = .ok (.getfield 60, 3) := by decide +kernel
theorem dX11_both_67 : decode cX11_both 67 = .ok (.aload_n 0, 1) := by decide +kernel
theorem dX11_both_68 : decode cX11_both 68 = .ok (.getfield 39, 3) := by decide +kernel
theorem dX11_both_71 : decode cX11_both 71 = .ok (.aload_n 0, 1) := by decide +kernel
theorem dX11_both_72 : decode cX11_both 72 = .ok (.getfield 43, 3) := by decide +kernel
theorem dX11_both_75 : decode cX11_both 75 = .ok (.invokestatic 181, 3) := by decide +kernel
theorem dX11_both_78 : decode cX11_both 78 = .ok (.ireturn, 1) := by decide +kernel
theorem dX11_hear_0 : decode cX11_hear 0 = .ok (.iload_n 1, 1) := by decide +kernel
theorem dX11_hear_1 : decode cX11_hear 1 = .ok (.ifCond .lt 9, 3) := by decide +kernel
theorem dX11_hear_4 : decode cX11_hear 4 = .ok (.iload_n 1, 1) := by decide +kernel
theorem dX11_hear_5 : decode cX11_hear 5 = .ok (.bipush 8, 2) := by decide +kernel
theorem dX11_hear_7 : decode cX11_hear 7 = .ok (.if_icmp .le 6, 3) := by decide +kernel
theorem dX11_hear_10 : decode cX11_hear 10 = .ok (.bipush (-2), 2) := by decide +kernel
theorem dX11_hear_12 : decode cX11_hear 12 = .ok (.ireturn, 1) := by decide +kernel
theorem dX11_hear_13 : decode cX11_hear 13 = .ok (.aload_n 0, 1) := by decide +kernel
theorem dX11_hear_14 : decode cX11_hear 14 = .ok (.getfield 26, 3) := by decide +kernel
theorem dX11_hear_17 : decode cX11_hear 17 = .ok (.getfield 90, 3) := by decide +kernel
theorem dX11_hear_20 : decode cX11_hear 20 = .ok (.getfield 94, 3) := by decide +kernel
theorem dX11_hear_23 : decode cX11_hear 23 = .ok (.bipush 12, 2) := by decide +kernel
theorem dX11_hear_25 : decode cX11_hear 25 = .ok (.if_icmp .lt 6, 3) := by decide +kernel
theorem dX11_hear_28 : decode cX11_hear 28 = .ok (.bipush (-4), 2) := by decide +kernel
theorem dX11_hear_30 : decode cX11_hear 30 = .ok (.ireturn, 1) := by decide +kernel
theorem dX11_hear_31 : decode cX11_hear 31 = .ok (.aload_n 0, 1) := by decide +kernel
theorem dX11_hear_32 : decode cX11_hear 32 = .ok (.getfield 26, 3) := by decide +kernel
theorem dX11_hear_35 : decode cX11_hear 35 = .ok (.getfield 90, 3) := by decide +kernel
theorem dX11_hear_38 : decode cX11_hear 38 = .ok (.iload_n 1, 1) := by decide +kernel
theorem dX11_hear_39 : decode cX11_hear 39 = .ok (.invokevirtual 187, 3) := by decide +kernel
theorem dX11_hear_42 : decode cX11_hear 42 = .ok (.aload_n 0, 1) := by decide +kernel
theorem dX11_hear_43 : decode cX11_hear 43 = .ok (.getfield 26, 3) := by decide +kernel
theorem dX11_hear_46 : decode cX11_hear 46 = .ok (.getfield 90, 3) := by decide +kernel
theorem dX11_hear_49 : decode cX11_hear 49 = .ok (.getfield 94, 3) := by decide +kernel
theorem dX11_hear_52 : decode cX11_hear 52 = .ok (.ireturn, 1) := by decide +kernel
theorem dX11_deaf_0 : decode cX11_deaf 0 = .ok (.aload_n 0, 1) := by decide +kernel
theorem dX11_deaf_1 : decode cX11_deaf 1 = .ok (.getfield 26, 3) := by decide +kernel
theorem dX11_deaf_4 : decode cX11_deaf 4 = .ok (.getfield 90, 3) := by decide +kernel
theorem dX11_deaf_7 : decode cX11_deaf 7 = .ok (.getfield 94, 3) := by decide +kernel
theorem dX11_deaf_10 : decode cX11_deaf 10 = .ok (.istore_n 1, 1) := by decide +kernel
theorem dX11_deaf_11 : decode cX11_deaf 11 = .ok (.aload_n 0, 1) := by decide +kernel
theorem dX11_deaf_12 : decode cX11_deaf 12 = .ok (.getfield 26, 3) := by decide +kernel
theorem dX11_deaf_15 : decode cX11_deaf 15 = .ok (.getfield 90, 3) := by decide +kernel
theorem dX11_deaf_18 : decode cX11_deaf 18 = .ok (.iconst 0, 1) := by decide +kernel
theorem dX11_deaf_19 : decode cX11_deaf 19 = .ok (.putfield 94, 3) := by decide +kernel
theorem dX11_deaf_22 : decode cX11_deaf 22 = .ok (.iload_n 1, 1) := by decide +kernel
theorem dX11_deaf_23 : decode cX11_deaf 23 = .ok (.ireturn, 1) := by decide +kernel
theorem dX11_mayBe_0 : decode cX11_mayBe 0 = .ok (.iload_n 1, 1) := by decide +kernel
theorem dX11_mayBe_1 : decode cX11_mayBe 1 = .ok (.ifCond .lt 17, 3) := by decide +kernel
theorem dX11_mayBe_4 : decode cX11_mayBe 4 = .ok (.iload_n 1, 1) := by decide +kernel
theorem dX11_mayBe_5 : decode cX11_mayBe 5 = .ok (.aload_n 0, 1) := by decide +kernel
theorem dX11_mayBe_6 : decode cX11_mayBe 6 = .ok (.getfield 26, 3) := by decide +kernel
theorem dX11_mayBe_9 : decode cX11_mayBe 9 = .ok (.getfield 90, 3) := by decide +kernel
theorem dX11_mayBe_12 : decode cX11_mayBe 12 = .ok (.getfield 94, 3) := by decide +kernel
theorem dX11_mayBe_15 : decode cX11_mayBe 15 = .ok (.if_icmp .lt 6, 3) := by decide +kernel
theorem dX11_mayBe_18 : decode cX11_mayBe 18 = .ok (.bipush (-2), 2) := by decide +kernel
theorem dX11_mayBe_20 : decode cX11_mayBe 20 = .ok (.ireturn, 1) := by decide +kernel
theorem dX11_mayBe_21 : decode cX11_mayBe 21 = .ok (.aload_n 0, 1) := by decide +kernel
theorem dX11_mayBe_22 : decode cX11_mayBe 22 = .ok (.getfield 39, 3) := by decide +kernel
theorem dX11_mayBe_25 : decode cX11_mayBe 25 = .ok (.aload_n 0, 1) := by decide +kernel
theorem dX11_mayBe_26 : decode cX11_mayBe 26 = .ok (.getfield 26, 3) := by decide +kernel
theorem dX11_mayBe_29 : decode cX11_mayBe 29 = .ok (.getfield 60, 3) := by decide +kernel
theorem dX11_mayBe_32 : decode cX11_mayBe 32 = .ok (.aload_n 0, 1) := by decide +kernel
theorem dX11_mayBe_33 : decode cX11_mayBe 33 = .ok (.getfield 26, 3) := by decide +kernel
theorem dX11_mayBe_36 : decode cX11_mayBe 36 = .ok (.getfield 90, 3) := by decide +kernel
theorem dX11_mayBe_39 : decode cX11_mayBe 39 = .ok (.invokevirtual 188, 3) := by decide +kernel
theorem dX11_mayBe_42 : decode cX11_mayBe 42 = .ok (.aload_n 0, 1) := by decide +kernel
theorem dX11_mayBe_43 : decode cX11_mayBe 43 = .ok (.getfield 39, 3) := by decide +kernel
theorem dX11_mayBe_46 : decode cX11_mayBe 46 = .ok (.aload_n 0, 1) := by decide +kernel
theorem dX11_mayBe_47 : decode cX11_mayBe 47 = .ok (.getfield 26, 3) := by decide +kernel
theorem dX11_mayBe_50 : decode cX11_mayBe 50 = .ok (.getfield 60, 3) := by decide +kernel
theorem dX11_mayBe_53 : decode cX11_mayBe 53 = .ok (.iload_n 1, 1) := by decide +kernel
theorem dX11_mayBe_54 : decode cX11_mayBe 54 = .ok (.invokevirtual 192, 3) := by decide +kernel
theorem dX11_mayBe_57 : decode cX11_mayBe 57 = .ok (.aload_n 0, 1) := by decide +kernel
theorem dX11_mayBe_58 : decode cX11_mayBe 58 = .ok (.getfield 39, 3) := by decide +kernel
theorem dX11_mayBe_61 : decode cX11_mayBe 61 = .ok (.aload_n 0, 1) := by decide +kernel
theorem dX11_mayBe_62 : decode cX11_mayBe 62 = .ok (.getfield 26, 3) := by decide +kernel
theorem dX11_mayBe_65 : decode cX11_mayBe 65 = .ok (.getfield 60, 3) := by decide +kernel
theorem dX11_mayBe_68 : decode cX11_mayBe 68 = .ok (.iload_n 1, 1) := by decide +kernel
theorem dX11_mayBe_69 : decode cX11_mayBe 69 = .ok (.invokevirtual 195, 3) := by decide +kernel
theorem dX11_mayBe_72 : decode cX11_mayBe 72 = .ok (.iand, 1) := by decide +kernel
theorem dX11_mayBe_73 : decode cX11_mayBe 73 = .ok (.ireturn, 1) := by decide +kernel
theorem dX11_fitting_0 : decode cX11_fitting 0 = .ok (.aload_n 0, 1) := by decide +kernel
theorem dX11_fitting_1 : decode cX11_fitting 1 = .ok (.getfield 39, 3) := by decide +kernel
theorem dX11_fitting_4 : decode cX11_fitting 4 = .ok (.aload_n 0, 1) := by decide +kernel
theorem dX11_fitting_5 : decode cX11_fitting 5 = .ok (.getfield 26, 3) := by decide +kernel
theorem dX11_fitting_8 : decode cX11_fitting 8 = .ok (.getfield 60, 3) := by decide +kernel
theorem dX11_fitting_11 : decode cX11_fitting 11 = .ok (.aload_n 0, 1) := by decide +kernel
theorem dX11_fitting_12 : decode cX11_fitting 12 = .ok (.getfield 26, 3) := by decide +kernel
theorem dX11_fitting_15 : decode cX11_fitting 15 = .ok (.getfield 90, 3) := by decide +kernel
theorem dX11_fitting_18 : decode cX11_fitting 18 = .ok (.invokevirtual 188, 3) := by decide +kernel
theorem dX11_fitting_21 : decode cX11_fitting 21 = .ok (.aload_n 0, 1) := by decide +kernel
theorem dX11_fitting_22 : decode cX11_fitting 22 = .ok (.getfield 26, 3) := by decide +kernel
theorem dX11_fitting_25 : decode cX11_fitting 25 = .ok (.getfield 60, 3) := by decide +kernel
theorem dX11_fitting_28 : decode cX11_fitting 28 = .ok (.invokevirtual 198, 3) := by decide +kernel
theorem dX11_fitting_31 : decode cX11_fitting 31 = .ok (.istore_n 1, 1) := by decide +kernel
theorem dX11_fitting_32 : decode cX11_fitting 32 = .ok (.aload_n 0, 1) := by decide +kernel
theorem dX11_fitting_33 : decode cX11_fitting 33 = .ok (.getfield 39, 3) := by decide +kernel
theorem dX11_fitting_36 : decode cX11_fitting 36 = .ok (.aload_n 0, 1) := by decide +kernel
theorem dX11_fitting_37 : decode cX11_fitting 37 = .ok (.getfield 26, 3) := by decide +kernel
theorem dX11_fitting_40 : decode cX11_fitting 40 = .ok (.getfield 60, 3) := by decide +kernel
theorem dX11_fitting_43 : decode cX11_fitting 43 = .ok (.iload_n 1, 1) := by decide +kernel
theorem dX11_fitting_44 : decode cX11_fitting 44 = .ok (.iload_n 1, 1) := by decide +kernel
theorem dX11_fitting_45 : decode cX11_fitting 45 = .ok (.invokevirtual 150, 3) := by decide +kernel
theorem dX11_fitting_48 : decode cX11_fitting 48 = .ok (.lreturn, 1) := by decide +kernel
theorem dX11_parted_0 : decode cX11_parted 0 = .ok (.aload_n 0, 1) := by decide +kernel
theorem dX11_parted_1 : decode cX11_parted 1 = .ok (.getfield 39, 3) := by decide +kernel
theorem dX11_parted_4 : decode cX11_parted 4 = .ok (.aload_n 0, 1) := by decide +kernel
theorem dX11_parted_5 : decode cX11_parted 5 = .ok (.getfield 26, 3) := by decide +kernel
theorem dX11_parted_8 : decode cX11_parted 8 = .ok (.getfield 60, 3) := by decide +kernel
theorem dX11_parted_11 : decode cX11_parted 11 = .ok (.aload_n 0, 1) := by decide +kernel
theorem dX11_parted_12 : decode cX11_parted 12 = .ok (.getfield 26, 3) := by decide +kernel
theorem dX11_parted_15 : decode cX11_parted 15 = .ok (.getfield 90, 3) := by decide +kernel
theorem dX11_parted_18 : decode cX11_parted 18 = .ok (.invokevirtual 188, 3) := by decide +kernel
theorem dX11_parted_21 : decode cX11_parted 21 = .ok (.aload_n 0, 1) := by decide +kernel
theorem dX11_parted_22 : decode cX11_parted 22 = .ok (.getfield 26, 3) := by decide +kernel
theorem dX11_parted_25 : decode cX11_parted 25 = .ok (.getfield 60, 3) := by decide +kernel
theorem dX11_parted_28 : decode cX11_parted 28 = .ok (.invokevirtual 198, 3) := by decide +kernel
theorem dX11_parted_31 : decode cX11_parted 31 = .ok (.istore_n 2, 1) := by decide +kernel
theorem dX11_parted_32 : decode cX11_parted 32 = .ok (.aload_n 0, 1) := by decide +kernel
theorem dX11_parted_33 : decode cX11_parted 33 = .ok (.getfield 39, 3) := by decide +kernel
theorem dX11_parted_36 : decode cX11_parted 36 = .ok (.getfield 201, 3) := by decide +kernel
theorem dX11_parted_39 : decode cX11_parted 39 = .ok (.iconst 1, 1) := by decide +kernel
theorem dX11_parted_40 : decode cX11_parted 40 = .ok (.isub, 1) := by decide +kernel
theorem dX11_parted_41 : decode cX11_parted 41 = .ok (.istore_n 3, 1) := by decide +kernel
theorem dX11_parted_42 : decode cX11_parted 42 = .ok (.iload_n 1, 1) := by decide +kernel
theorem dX11_parted_43 : decode cX11_parted 43 = .ok (.ifCond .eq 23, 3) := by decide +kernel
theorem dX11_parted_46 : decode cX11_parted 46 = .ok (.aload_n 0, 1) := by decide +kernel
theorem dX11_parted_47 : decode cX11_parted 47 = .ok (.getfield 26, 3) := by decide +kernel
theorem dX11_parted_50 : decode cX11_parted 50 = .ok (.getfield 60, 3) := by decide +kernel
theorem dX11_parted_53 : decode cX11_parted 53 = .ok (.aload_n 0, 1) := by decide +kernel
theorem dX11_parted_54 : decode cX11_parted 54 = .ok (.getfield 39, 3) := by decide +kernel
theorem dX11_parted_57 : decode cX11_parted 57 = .ok (.iload_n 3, 1) := by decide +kernel
theorem dX11_parted_58 : decode cX11_parted 58 = .ok (.iload_n 2, 1) := by decide +kernel
theorem dX11_parted_59 : decode cX11_parted 59 = .ok (.iload_n 2, 1) := by decide +kernel
theorem dX11_parted_60 : decode cX11_parted 60 = .ok (.invokestatic 202, 3) := by decide +kernel
theorem dX11_parted_63 : decode cX11_parted 63 = .ok (.goto 20, 3) := by decide +kernel
theorem dX11_parted_66 : decode cX11_parted 66 = .ok (.aload_n 0, 1) := by decide +kernel
theorem dX11_parted_67 : decode cX11_parted 67 = .ok (.getfield 26, 3) := by decide +kernel
theorem dX11_parted_70 : decode cX11_parted 70 = .ok (.getfield 60, 3) := by decide +kernel
theorem dX11_parted_73 : decode cX11_parted 73 = .ok (.aload_n 0, 1) := by decide +kernel
theorem dX11_parted_74 : decode cX11_parted 74 = .ok (.getfield 39, 3) := by decide +kernel
theorem dX11_parted_77 : decode cX11_parted 77 = .ok (.iload_n 3, 1) := by decide +kernel
theorem dX11_parted_78 : decode cX11_parted 78 = .ok (.iload_n 2, 1) := by decide +kernel
theorem dX11_parted_79 : decode cX11_parted 79 = .ok (.iload_n 2, 1) := by decide +kernel
theorem dX11_parted_80 : decode cX11_parted 80 = .ok (.invokestatic 208, 3) := by decide +kernel
theorem dX11_parted_83 : decode cX11_parted 83 = .ok (.ireturn, 1) := by decide +kernel
theorem dX11_best_0 : decode cX11_best 0 = .ok (.aload_n 0, 1) := by decide +kernel
theorem dX11_best_1 : decode cX11_best 1 = .ok (.getfield 26, 3) := by decide +kernel
theorem dX11_best_4 : decode cX11_best 4 = .ok (.getfield 60, 3) := by decide +kernel
theorem dX11_best_7 : decode cX11_best 7 = .ok (.iload_n 1, 1) := by decide +kernel
theorem dX11_best_8 : decode cX11_best 8 = .ok (.invokevirtual 116, 3) := by decide +kernel
theorem dX11_best_11 : decode cX11_best 11 = .ok (.ifCond .eq 17, 3) := by decide +kernel
theorem dX11_best_14 : decode cX11_best 14 = .ok (.aload_n 0, 1) := by decide +kernel
theorem dX11_best_15 : decode cX11_best 15 = .ok (.getfield 26, 3) := by decide +kernel
theorem dX11_best_18 : decode cX11_best 18 = .ok (.getfield 60, 3) := by decide +kernel
theorem dX11_best_21 : decode cX11_best 21 = .ok (.iload_n 2, 1) := by decide +kernel
theorem dX11_best_22 : decode cX11_best 22 = .ok (.invokevirtual 100, 3) := by decide +kernel
theorem dX11_best_25 : decode cX11_best 25 = .ok (.ifCond .ne 5, 3) := by decide +kernel
theorem dX11_best_28 : decode cX11_best 28 = .ok (.iconst (-1), 1) := by decide +kernel
theorem dX11_best_29 : decode cX11_best 29 = .ok (.ireturn, 1) := by decide +kernel
theorem dX11_best_30 : decode cX11_best 30 = .ok (.aload_n 0, 1) := by decide +kernel
theorem dX11_best_31 : decode cX11_best 31 = .ok (.getfield 39, 3) := by decide +kernel
theorem dX11_best_34 : decode cX11_best 34 = .ok (.aload_n 0, 1) := by decide +kernel
theorem dX11_best_35 : decode cX11_best 35 = .ok (.getfield 26, 3) := by decide +kernel
theorem dX11_best_38 : decode cX11_best 38 = .ok (.getfield 60, 3) := by decide +kernel
theorem dX11_best_41 : decode cX11_best 41 = .ok (.iload_n 1, 1) := by decide +kernel
theorem dX11_best_42 : decode cX11_best 42 = .ok (.invokevirtual 211, 3) := by decide +kernel
theorem dX11_best_45 : decode cX11_best 45 = .ok (.aload_n 0, 1) := by decide +kernel
theorem dX11_best_46 : decode cX11_best 46 = .ok (.getfield 56, 3) := by decide +kernel
theorem dX11_best_49 : decode cX11_best 49 = .ok (.aload_n 0, 1) := by decide +kernel
theorem dX11_best_50 : decode cX11_best 50 = .ok (.getfield 26, 3) := by decide +kernel
theorem dX11_best_53 : decode cX11_best 53 = .ok (.getfield 60, 3) := by decide +kernel
theorem dX11_best_56 : decode cX11_best 56 = .ok (.aload_n 0, 1) := by decide +kernel
theorem dX11_best_57 : decode cX11_best 57 = .ok (.getfield 39, 3) := by decide +kernel
theorem dX11_best_60 : decode cX11_best 60 = .ok (.iload_n 2, 1) := by decide +kernel
theorem dX11_best_61 : decode cX11_best 61 = .ok (.invokevirtual 214, 3) := by decide +kernel
theorem dX11_best_64 : decode cX11_best 64 = .ok (.ireturn, 1) := by decide +kernel
theorem dX11_bestAt_0 : decode cX11_bestAt 0 = .ok (.aload_n 0, 1) := by decide +kernel
theorem dX11_bestAt_1 : decode cX11_bestAt 1 = .ok (.getfield 26, 3) := by decide +kernel
theorem dX11_bestAt_4 : decode cX11_bestAt 4 = .ok (.getfield 60, 3) := by decide +kernel
theorem dX11_bestAt_7 : decode cX11_bestAt 7 = .ok (.iload_n 1, 1) := by decide +kernel
theorem dX11_bestAt_8 : decode cX11_bestAt 8 = .ok (.invokevirtual 116, 3) := by decide +kernel
theorem dX11_bestAt_11 : decode cX11_bestAt 11 = .ok (.ifCond .eq 17, 3) := by decide +kernel
theorem dX11_bestAt_14 : decode cX11_bestAt 14 = .ok (.aload_n 0, 1) := by decide +kernel
theorem dX11_bestAt_15 : decode cX11_bestAt 15 = .ok (.getfield 26, 3) := by decide +kernel
theorem dX11_bestAt_18 : decode cX11_bestAt 18 = .ok (.getfield 60, 3) := by decide +kernel
theorem dX11_bestAt_21 : decode cX11_bestAt 21 = .ok (.iload_n 2, 1) := by decide +kernel
theorem dX11_bestAt_22 : decode cX11_bestAt 22 = .ok (.invokevirtual 100, 3) := by decide +kernel
theorem dX11_bestAt_25 : decode cX11_bestAt 25 = .ok (.ifCond .ne 5, 3) := by decide +kernel
theorem dX11_bestAt_28 : decode cX11_bestAt 28 = .ok (.iconst (-1), 1) := by decide +kernel
theorem dX11_bestAt_29 : decode cX11_bestAt 29 = .ok (.ireturn, 1) := by decide +kernel
theorem dX11_bestAt_30 : decode cX11_bestAt 30 = .ok (.aload_n 0, 1) := by decide +kernel
theorem dX11_bestAt_31 : decode cX11_bestAt 31 = .ok (.getfield 39, 3) := by decide +kernel
theorem dX11_bestAt_34 : decode cX11_bestAt 34 = .ok (.aload_n 0, 1) := by decide +kernel
theorem dX11_bestAt_35 : decode cX11_bestAt 35 = .ok (.getfield 26, 3) := by decide +kernel
theorem dX11_bestAt_38 : decode cX11_bestAt 38 = .ok (.getfield 60, 3) := by decide +kernel
theorem dX11_bestAt_41 : decode cX11_bestAt 41 = .ok (.iload_n 1, 1) := by decide +kernel
theorem dX11_bestAt_42 : decode cX11_bestAt 42 = .ok (.invokevirtual 211, 3) := by decide +kernel
theorem dX11_bestAt_45 : decode cX11_bestAt 45 = .ok (.aload_n 0, 1) := by decide +kernel
theorem dX11_bestAt_46 : decode cX11_bestAt 46 = .ok (.getfield 56, 3) := by decide +kernel
theorem dX11_bestAt_49 : decode cX11_bestAt 49 = .ok (.aload_n 0, 1) := by decide +kernel
theorem dX11_bestAt_50 : decode cX11_bestAt 50 = .ok (.getfield 26, 3) := by decide +kernel
theorem dX11_bestAt_53 : decode cX11_bestAt 53 = .ok (.getfield 60, 3) := by decide +kernel
theorem dX11_bestAt_56 : decode cX11_bestAt 56 = .ok (.aload_n 0, 1) := by decide +kernel
theorem dX11_bestAt_57 : decode cX11_bestAt 57 = .ok (.getfield 39, 3) := by decide +kernel
theorem dX11_bestAt_60 : decode cX11_bestAt 60 = .ok (.iload_n 2, 1) := by decide +kernel
theorem dX11_bestAt_61 : decode cX11_bestAt 61 = .ok (.iload_n 3, 1) := by decide +kernel
theorem dX11_bestAt_62 : decode cX11_bestAt 62 = .ok (.invokevirtual 218, 3) := by decide +kernel
theorem dX11_bestAt_65 : decode cX11_bestAt 65 = .ok (.ireturn, 1) := by decide +kernel
theorem dX11_hush_0 : decode cX11_hush 0 = .ok (.aload_n 0, 1) := by decide +kernel
theorem dX11_hush_1 : decode cX11_hush 1 = .ok (.getfield 26, 3) := by decide +kernel
theorem dX11_hush_4 : decode cX11_hush 4 = .ok (.getfield 60, 3) := by decide +kernel
theorem dX11_hush_7 : decode cX11_hush 7 = .ok (.iload_n 1, 1) := by decide +kernel
theorem dX11_hush_8 : decode cX11_hush 8 = .ok (.invokevirtual 116, 3) := by decide +kernel
theorem dX11_hush_11 : decode cX11_hush 11 = .ok (.ifCond .eq 11, 3) := by decide +kernel
theorem dX11_hush_14 : decode cX11_hush 14 = .ok (.aload_n 0, 1) := by decide +kernel
theorem dX11_hush_15 : decode cX11_hush 15 = .ok (.iload_n 2, 1) := by decide +kernel
theorem dX11_hush_16 : decode cX11_hush 16 = .ok (.invokevirtual 142, 3) := by decide +kernel
theorem dX11_hush_19 : decode cX11_hush 19 = .ok (.ifCond .ne 5, 3) := by decide +kernel
theorem dX11_hush_22 : decode cX11_hush 22 = .ok (.iconst (-1), 1) := by decide +kernel
theorem dX11_hush_23 : decode cX11_hush 23 = .ok (.ireturn, 1) := by decide +kernel
theorem dX11_hush_24 : decode cX11_hush 24 = .ok (.aload_n 0, 1) := by decide +kernel
theorem dX11_hush_25 : decode cX11_hush 25 = .ok (.getfield 39, 3) := by decide +kernel
theorem dX11_hush_28 : decode cX11_hush 28 = .ok (.aload_n 0, 1) := by decide +kernel
theorem dX11_hush_29 : decode cX11_hush 29 = .ok (.getfield 26, 3) := by decide +kernel
theorem dX11_hush_32 : decode cX11_hush 32 = .ok (.getfield 60, 3) := by decide +kernel
theorem dX11_hush_35 : decode cX11_hush 35 = .ok (.iload_n 1, 1) := by decide +kernel
theorem dX11_hush_36 : decode cX11_hush 36 = .ok (.invokevirtual 134, 3) := by decide +kernel
theorem dX11_hush_39 : decode cX11_hush 39 = .ok (.aload_n 0, 1) := by decide +kernel
theorem dX11_hush_40 : decode cX11_hush 40 = .ok (.getfield 26, 3) := by decide +kernel
theorem dX11_hush_43 : decode cX11_hush 43 = .ok (.getfield 60, 3) := by decide +kernel
theorem dX11_hush_46 : decode cX11_hush 46 = .ok (.aload_n 0, 1) := by decide +kernel
theorem dX11_hush_47 : decode cX11_hush 47 = .ok (.getfield 39, 3) := by decide +kernel
theorem dX11_hush_50 : decode cX11_hush 50 = .ok (.aload_n 0, 1) := by decide +kernel
theorem dX11_hush_51 : decode cX11_hush 51 = .ok (.iload_n 2, 1) := by decide +kernel
theorem dX11_hush_52 : decode cX11_hush 52 = .ok (.invokevirtual 147, 3) := by decide +kernel
theorem dX11_hush_55 : decode cX11_hush 55 = .ok (.invokestatic 222, 3) := by decide +kernel
theorem dX11_hush_58 : decode cX11_hush 58 = .ok (.ireturn, 1) := by decide +kernel
theorem dX11_keep_0 : decode cX11_keep 0 = .ok (.iload_n 1, 1) := by decide +kernel
theorem dX11_keep_1 : decode cX11_keep 1 = .ok (.ifCond .lt 8, 3) := by decide +kernel
theorem dX11_keep_4 : decode cX11_keep 4 = .ok (.iload_n 1, 1) := by decide +kernel
theorem dX11_keep_5 : decode cX11_keep 5 = .ok (.iconst 1, 1) := by decide +kernel
theorem dX11_keep_6 : decode cX11_keep 6 = .ok (.if_icmp .le 5, 3) := by decide +kernel
theorem dX11_keep_9 : decode cX11_keep 9 = .ok (.iconst (-1), 1) := by decide +kernel
theorem dX11_keep_10 : decode cX11_keep 10 = .ok (.ireturn, 1) := by decide +kernel
theorem dX11_keep_11 : decode cX11_keep 11 = .ok (.aload_n 0, 1) := by decide +kernel
theorem dX11_keep_12 : decode cX11_keep 12 = .ok (.iload_n 1, 1) := by decide +kernel
theorem dX11_keep_13 : decode cX11_keep 13 = .ok (.invokevirtual 226, 3) := by decide +kernel
theorem dX11_keep_16 : decode cX11_keep 16 = .ok (.astore_n 2, 1) := by decide +kernel
theorem dX11_keep_17 : decode cX11_keep 17 = .ok (.aload_n 2, 1) := by decide +kernel
theorem dX11_keep_18 : decode cX11_keep 18 = .ok (.aload_n 0, 1) := by decide +kernel
theorem dX11_keep_19 : decode cX11_keep 19 = .ok (.getfield 26, 3) := by decide +kernel
theorem dX11_keep_22 : decode cX11_keep 22 = .ok (.invokevirtual 230, 3) := by decide +kernel
theorem dX11_keep_25 : decode cX11_keep 25 = .ok (.aload_n 2, 1) := by decide +kernel
theorem dX11_keep_26 : decode cX11_keep 26 = .ok (.iconst 1, 1) := by decide +kernel
theorem dX11_keep_27 : decode cX11_keep 27 = .ok (.putfield 233, 3) := by decide +kernel
theorem dX11_keep_30 : decode cX11_keep 30 = .ok (.aload_n 2, 1) := by decide +kernel
theorem dX11_keep_31 : decode cX11_keep 31 = .ok (.getfield 60, 3) := by decide +kernel
theorem dX11_keep_34 : decode cX11_keep 34 = .ok (.getfield 97, 3) := by decide +kernel
theorem dX11_keep_37 : decode cX11_keep 37 = .ok (.ireturn, 1) := by decide +kernel
theorem dX11_again_0 : decode cX11_again 0 = .ok (.iload_n 1, 1) := by decide +kernel
theorem dX11_again_1 : decode cX11_again 1 = .ok (.ifCond .lt 8, 3) := by decide +kernel
theorem dX11_again_4 : decode cX11_again 4 = .ok (.iload_n 1, 1) := by decide +kernel
theorem dX11_again_5 : decode cX11_again 5 = .ok (.iconst 1, 1) := by decide +kernel
theorem dX11_again_6 : decode cX11_again 6 = .ok (.if_icmp .le 5, 3) := by decide +kernel
theorem dX11_again_9 : decode cX11_again 9 = .ok (.iconst (-1), 1) := by decide +kernel
theorem dX11_again_10 : decode cX11_again 10 = .ok (.ireturn, 1) := by decide +kernel
theorem dX11_again_11 : decode cX11_again 11 = .ok (.aload_n 0, 1) := by decide +kernel
theorem dX11_again_12 : decode cX11_again 12 = .ok (.iload_n 1, 1) := by decide +kernel
theorem dX11_again_13 : decode cX11_again 13 = .ok (.invokevirtual 226, 3) := by decide +kernel
theorem dX11_again_16 : decode cX11_again 16 = .ok (.astore_n 2, 1) := by decide +kernel
theorem dX11_again_17 : decode cX11_again 17 = .ok (.aload_n 2, 1) := by decide +kernel
theorem dX11_again_18 : decode cX11_again 18 = .ok (.getfield 233, 3) := by decide +kernel
theorem dX11_again_21 : decode cX11_again 21 = .ok (.ifCond .ne 6, 3) := by decide +kernel
theorem dX11_again_24 : decode cX11_again 24 = .ok (.bipush (-3), 2) := by decide +kernel
theorem dX11_again_26 : decode cX11_again 26 = .ok (.ireturn, 1) := by decide +kernel
theorem dX11_again_27 : decode cX11_again 27 = .ok (.aload_n 0, 1) := by decide +kernel
theorem dX11_again_28 : decode cX11_again 28 = .ok (.getfield 26, 3) := by decide +kernel
theorem dX11_again_31 : decode cX11_again 31 = .ok (.aload_n 2, 1) := by decide +kernel
theorem dX11_again_32 : decode cX11_again 32 = .ok (.invokevirtual 230, 3) := by decide +kernel
theorem dX11_again_35 : decode cX11_again 35 = .ok (.aload_n 0, 1) := by decide +kernel
theorem dX11_again_36 : decode cX11_again 36 = .ok (.getfield 26, 3) := by decide +kernel
theorem dX11_again_39 : decode cX11_again 39 = .ok (.getfield 60, 3) := by decide +kernel
theorem dX11_again_42 : decode cX11_again 42 = .ok (.getfield 97, 3) := by decide +kernel
theorem dX11_again_45 : decode cX11_again 45 = .ok (.ireturn, 1) := by decide +kernel
theorem dX11_count_0 : decode cX11_count 0 = .ok (.iload_n 1, 1) := by decide +kernel
theorem dX11_count_1 : decode cX11_count 1 = .ok (.tableswitch 122 0 6 #[43, 51, 62, 73, 84, 95, 106], 43) := by decide +kernel
theorem dX11_count_44 : decode cX11_count 44 = .ok (.aload_n 0, 1) := by decide +kernel
theorem dX11_count_45 : decode cX11_count 45 = .ok (.getfield 10, 3) := by decide +kernel
theorem dX11_count_48 : decode cX11_count 48 = .ok (.getfield 67, 3) := by decide +kernel
theorem dX11_count_51 : decode cX11_count 51 = .ok (.ireturn, 1) := by decide +kernel
theorem dX11_count_52 : decode cX11_count 52 = .ok (.aload_n 0, 1) := by decide +kernel
theorem dX11_count_53 : decode cX11_count 53 = .ok (.getfield 26, 3) := by decide +kernel
theorem dX11_count_56 : decode cX11_count 56 = .ok (.getfield 60, 3) := by decide +kernel
theorem dX11_count_59 : decode cX11_count 59 = .ok (.getfield 97, 3) := by decide +kernel
theorem dX11_count_62 : decode cX11_count 62 = .ok (.ireturn, 1) := by decide +kernel
theorem dX11_count_63 : decode cX11_count 63 = .ok (.aload_n 0, 1) := by decide +kernel
theorem dX11_count_64 : decode cX11_count 64 = .ok (.getfield 26, 3) := by decide +kernel
theorem dX11_count_67 : decode cX11_count 67 = .ok (.getfield 60, 3) := by decide +kernel
theorem dX11_count_70 : decode cX11_count 70 = .ok (.invokevirtual 237, 3) := by decide +kernel
theorem dX11_count_73 : decode cX11_count 73 = .ok (.ireturn, 1) := by decide +kernel
theorem dX11_count_74 : decode cX11_count 74 = .ok (.aload_n 0, 1) := by decide +kernel
theorem dX11_count_75 : decode cX11_count 75 = .ok (.getfield 26, 3) := by decide +kernel
theorem dX11_count_78 : decode cX11_count 78 = .ok (.getfield 60, 3) := by decide +kernel
theorem dX11_count_81 : decode cX11_count 81 = .ok (.getfield 240, 3) := by decide +kernel
theorem dX11_count_84 : decode cX11_count 84 = .ok (.ireturn, 1) := by decide +kernel
theorem dX11_count_85 : decode cX11_count 85 = .ok (.aload_n 0, 1) := by decide +kernel
theorem dX11_count_86 : decode cX11_count 86 = .ok (.getfield 26, 3) := by decide +kernel
theorem dX11_count_89 : decode cX11_count 89 = .ok (.getfield 83, 3) := by decide +kernel
theorem dX11_count_92 : decode cX11_count 92 = .ok (.getfield 87, 3) := by decide +kernel
theorem dX11_count_95 : decode cX11_count 95 = .ok (.ireturn, 1) := by decide +kernel
theorem dX11_count_96 : decode cX11_count 96 = .ok (.aload_n 0, 1) := by decide +kernel
theorem dX11_count_97 : decode cX11_count 97 = .ok (.getfield 26, 3) := by decide +kernel
theorem dX11_count_100 : decode cX11_count 100 = .ok (.getfield 90, 3) := by decide +kernel
theorem dX11_count_103 : decode cX11_count 103 = .ok (.getfield 94, 3) := by decide +kernel
theorem dX11_count_106 : decode cX11_count 106 = .ok (.ireturn, 1) := by decide +kernel
theorem dX11_count_107 : decode cX11_count 107 = .ok (.aload_n 0, 1) := by decide +kernel
theorem dX11_count_108 : decode cX11_count 108 = .ok (.getfield 26, 3) := by decide +kernel
theorem dX11_count_111 : decode cX11_count 111 = .ok (.getfield 60, 3) := by decide +kernel
theorem dX11_count_114 : decode cX11_count 114 = .ok (.bipush 7, 2) := by decide +kernel
theorem dX11_count_116 : decode cX11_count 116 = .ok (.invokevirtual 243, 3) := by decide +kernel
theorem dX11_count_119 : decode cX11_count 119 = .ok (.invokestatic 246, 3) := by decide +kernel
theorem dX11_count_122 : decode cX11_count 122 = .ok (.ireturn, 1) := by decide +kernel
theorem dX11_count_123 : decode cX11_count 123 = .ok (.bipush (-2), 2) := by decide +kernel
theorem dX11_count_125 : decode cX11_count 125 = .ok (.ireturn, 1) := by decide +kernel
theorem dX11_slotOf_0 : decode cX11_slotOf 0 = .ok (.iload_n 1, 1) := by decide +kernel
theorem dX11_slotOf_1 : decode cX11_slotOf 1 = .ok (.ifCond .ne 10, 3) := by decide +kernel
theorem dX11_slotOf_4 : decode cX11_slotOf 4 = .ok (.aload_n 0, 1) := by decide +kernel
theorem dX11_slotOf_5 : decode cX11_slotOf 5 = .ok (.getfield 30, 3) := by decide +kernel
theorem dX11_slotOf_8 : decode cX11_slotOf 8 = .ok (.goto 7, 3) := by decide +kernel
theorem dX11_slotOf_11 : decode cX11_slotOf 11 = .ok (.aload_n 0, 1) := by decide +kernel
theorem dX11_slotOf_12 : decode cX11_slotOf 12 = .ok (.getfield 33, 3) := by decide +kernel
theorem dX11_slotOf_15 : decode cX11_slotOf 15 = .ok (.areturn, 1) := by decide +kernel
theorem dX11_isDoorOrNone_0 : decode cX11_isDoorOrNone 0 = .ok (.iload_n 1, 1) := by decide +kernel
theorem dX11_isDoorOrNone_1 : decode cX11_isDoorOrNone 1 = .ok (.bipush (-9), 2) := by decide +kernel
theorem dX11_isDoorOrNone_3 : decode cX11_isDoorOrNone 3 = .ok (.if_icmp .eq 17, 3) := by decide +kernel
theorem dX11_isDoorOrNone_6 : decode cX11_isDoorOrNone 6 = .ok (.aload_n 0, 1) := by decide +kernel
theorem dX11_isDoorOrNone_7 : decode cX11_isDoorOrNone 7 = .ok (.getfield 26, 3) := by decide +kernel
theorem dX11_isDoorOrNone_10 : decode cX11_isDoorOrNone 10 = .ok (.getfield 60, 3) := by decide +kernel
theorem dX11_isDoorOrNone_13 : decode cX11_isDoorOrNone 13 = .ok (.iload_n 1, 1) := by decide +kernel
theorem dX11_isDoorOrNone_14 : decode cX11_isDoorOrNone 14 = .ok (.invokevirtual 100, 3) := by decide +kernel
theorem dX11_isDoorOrNone_17 : decode cX11_isDoorOrNone 17 = .ok (.ifCond .eq 7, 3) := by decide +kernel
theorem dX11_isDoorOrNone_20 : decode cX11_isDoorOrNone 20 = .ok (.iconst 1, 1) := by decide +kernel
theorem dX11_isDoorOrNone_21 : decode cX11_isDoorOrNone 21 = .ok (.goto 4, 3) := by decide +kernel
theorem dX11_isDoorOrNone_24 : decode cX11_isDoorOrNone 24 = .ok (.iconst 0, 1) := by decide +kernel
theorem dX11_isDoorOrNone_25 : decode cX11_isDoorOrNone 25 = .ok (.ireturn, 1) := by decide +kernel
theorem dX11_areSongAndDoors_0 : decode cX11_areSongAndDoors 0 = .ok (.aload_n 0, 1) := by decide +kernel
theorem dX11_areSongAndDoors_1 : decode cX11_areSongAndDoors 1 = .ok (.getfield 26, 3) := by decide +kernel
theorem dX11_areSongAndDoors_4 : decode cX11_areSongAndDoors 4 = .ok (.getfield 60, 3) := by decide +kernel
theorem dX11_areSongAndDoors_7 : decode cX11_areSongAndDoors 7 = .ok (.iload_n 1, 1) := by decide +kernel
theorem dX11_areSongAndDoors_8 : decode cX11_areSongAndDoors 8 = .ok (.invokevirtual 116, 3) := by decide +kernel
theorem dX11_areSongAndDoors_11 : decode cX11_areSongAndDoors 11 = .ok (.ifCond .eq 35, 3) := by decide +kernel
theorem dX11_areSongAndDoors_14 : decode cX11_areSongAndDoors 14 = .ok (.aload_n 0, 1) := by decide +kernel
theorem dX11_areSongAndDoors_15 : decode cX11_areSongAndDoors 15 = .ok (.getfield 26, 3) := by decide +kernel
theorem dX11_areSongAndDoors_18 : decode cX11_areSongAndDoors 18 = .ok (.getfield 60, 3) := by decide +kernel
theorem dX11_areSongAndDoors_21 : decode cX11_areSongAndDoors 21 = .ok (.iload_n 2, 1) := by decide +kernel
theorem dX11_areSongAndDoors_22 : decode cX11_areSongAndDoors 22 = .ok (.invokevirtual 100, 3) := by decide +kernel
theorem dX11_areSongAndDoors_25 : decode cX11_areSongAndDoors 25 = .ok (.ifCond .eq 21, 3) := by decide +kernel
theorem dX11_areSongAndDoors_28 : decode cX11_areSongAndDoors 28 = .ok (.aload_n 0, 1) := by decide +kernel
theorem dX11_areSongAndDoors_29 : decode cX11_areSongAndDoors 29 = .ok (.getfield 26, 3) := by decide +kernel
theorem dX11_areSongAndDoors_32 : decode cX11_areSongAndDoors 32 = .ok (.getfield 60, 3) := by decide +kernel
theorem dX11_areSongAndDoors_35 : decode cX11_areSongAndDoors 35 = .ok (.iload_n 3, 1) := by decide +kernel
theorem dX11_areSongAndDoors_36 : decode cX11_areSongAndDoors 36 = .ok (.invokevirtual 100, 3) := by decide +kernel
theorem dX11_areSongAndDoors_39 : decode cX11_areSongAndDoors 39 = .ok (.ifCond .eq 7, 3) := by decide +kernel
theorem dX11_areSongAndDoors_42 : decode cX11_areSongAndDoors 42 = .ok (.iconst 1, 1) := by decide +kernel
theorem dX11_areSongAndDoors_43 : decode cX11_areSongAndDoors 43 = .ok (.goto 4, 3) := by decide +kernel
theorem dX11_areSongAndDoors_46 : decode cX11_areSongAndDoors 46 = .ok (.iconst 0, 1) := by decide +kernel
theorem dX11_areSongAndDoors_47 : decode cX11_areSongAndDoors 47 = .ok (.ireturn, 1) := by decide +kernel
theorem dX11_doorsMeant_0 : decode cX11_doorsMeant 0 = .ok (.iload_n 1, 1) := by decide +kernel
theorem dX11_doorsMeant_1 : decode cX11_doorsMeant 1 = .ok (.bipush (-9), 2) := by decide +kernel
theorem dX11_doorsMeant_3 : decode cX11_doorsMeant 3 = .ok (.if_icmp .ne 16, 3) := by decide +kernel
theorem dX11_doorsMeant_6 : decode cX11_doorsMeant 6 = .ok (.aload_n 0, 1) := by decide +kernel
theorem dX11_doorsMeant_7 : decode cX11_doorsMeant 7 = .ok (.getfield 26, 3) := by decide +kernel
theorem dX11_doorsMeant_10 : decode cX11_doorsMeant 10 = .ok (.getfield 60, 3) := by decide +kernel
theorem dX11_doorsMeant_13 : decode cX11_doorsMeant 13 = .ok (.invokevirtual 198, 3) := by decide +kernel
theorem dX11_doorsMeant_16 : decode cX11_doorsMeant 16 = .ok (.goto 6, 3) := by decide +kernel
theorem dX11_doorsMeant_19 : decode cX11_doorsMeant 19 = .ok (.iconst 1, 1) := by decide +kernel
theorem dX11_doorsMeant_20 : decode cX11_doorsMeant 20 = .ok (.iload_n 1, 1) := by decide +kernel
theorem dX11_doorsMeant_21 : decode cX11_doorsMeant 21 = .ok (.ishl, 1) := by decide +kernel
theorem dX11_doorsMeant_22 : decode cX11_doorsMeant 22 = .ok (.ireturn, 1) := by decide +kernel
theorem dX11_has_0 : decode cX11_has 0 = .ok (.iload_n 0, 1) := by decide +kernel
theorem dX11_has_1 : decode cX11_has 1 = .ok (.iload_n 1, 1) := by decide +kernel
theorem dX11_has_2 : decode cX11_has 2 = .ok (.ishr, 1) := by decide +kernel
theorem dX11_has_3 : decode cX11_has 3 = .ok (.iconst 1, 1) := by decide +kernel
theorem dX11_has_4 : decode cX11_has 4 = .ok (.iand, 1) := by decide +kernel
theorem dX11_has_5 : decode cX11_has 5 = .ok (.ifCond .eq 7, 3) := by decide +kernel
theorem dX11_has_8 : decode cX11_has 8 = .ok (.iconst 1, 1) := by decide +kernel
theorem dX11_has_9 : decode cX11_has 9 = .ok (.goto 4, 3) := by decide +kernel
theorem dX11_has_12 : decode cX11_has 12 = .ok (.iconst 0, 1) := by decide +kernel
theorem dX11_has_13 : decode cX11_has 13 = .ok (.ireturn, 1) := by decide +kernel
theorem dX11_leastOf_0 : decode cX11_leastOf 0 = .ok (.iload_n 0, 1) := by decide +kernel
theorem dX11_leastOf_1 : decode cX11_leastOf 1 = .ok (.ifCond .ne 8, 3) := by decide +kernel
theorem dX11_leastOf_4 : decode cX11_leastOf 4 = .ok (.bipush (-9), 2) := by decide +kernel
theorem dX11_leastOf_6 : decode cX11_leastOf 6 = .ok (.goto 7, 3) := by decide +kernel
theorem dX11_leastOf_9 : decode cX11_leastOf 9 = .ok (.iload_n 0, 1) := by decide +kernel
theorem dX11_leastOf_10 : decode cX11_leastOf 10 = .ok (.invokestatic 251, 3) := by decide +kernel
theorem dX11_leastOf_13 : decode cX11_leastOf 13 = .ok (.ireturn, 1) := by decide +kernel
