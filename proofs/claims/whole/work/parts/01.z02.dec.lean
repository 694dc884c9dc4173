theorem dX7_countAheadOf_26 : decode cX7_countAheadOf 26 = .ok (.if_icmp .ne 6, 3) := by decide +kernel
theorem dX7_countAheadOf_29 : decode cX7_countAheadOf 29 = .ok (.iinc 2 1, 3) := by decide +kernel
theorem dX7_countAheadOf_32 : decode cX7_countAheadOf 32 = .ok (.aload_n 3, 1) := by decide +kernel
theorem dX7_countAheadOf_33 : decode cX7_countAheadOf 33 = .ok (.getfield 21, 3) := by decide +kernel
theorem dX7_countAheadOf_36 : decode cX7_countAheadOf 36 = .ok (.astore_n 3, 1) := by decide +kernel
theorem dX7_countAheadOf_37 : decode cX7_countAheadOf 37 = .ok (.goto (-30), 3) := by decide +kernel
theorem dX7_countAheadOf_40 : decode cX7_countAheadOf 40 = .ok (.iconst (-1), 1) := by decide +kernel
theorem dX7_countAheadOf_41 : decode cX7_countAheadOf 41 = .ok (.ireturn, 1) := by decide +kernel
theorem dX7_length_0 : decode cX7_length 0 = .ok (.iconst 0, 1) := by decide +kernel
theorem dX7_length_1 : decode cX7_length 1 = .ok (.istore_n 1, 1) := by decide +kernel
theorem dX7_length_2 : decode cX7_length 2 = .ok (.aload_n 0, 1) := by decide +kernel
theorem dX7_length_3 : decode cX7_length 3 = .ok (.getfield 9, 3) := by decide +kernel
theorem dX7_length_6 : decode cX7_length 6 = .ok (.astore_n 2, 1) := by decide +kernel
theorem dX7_length_7 : decode cX7_length 7 = .ok (.aload_n 2, 1) := by decide +kernel
theorem dX7_length_8 : decode cX7_length 8 = .ok (.ifnull 14, 3) := by decide +kernel
theorem dX7_length_11 : decode cX7_length 11 = .ok (.iinc 1 1, 3) := by decide +kernel
theorem dX7_length_14 : decode cX7_length 14 = .ok (.aload_n 2, 1) := by decide +kernel
theorem dX7_length_15 : decode cX7_length 15 = .ok (.getfield 21, 3) := by decide +kernel
theorem dX7_length_18 : decode cX7_length 18 = .ok (.astore_n 2, 1) := by decide +kernel
theorem dX7_length_19 : decode cX7_length 19 = .ok (.goto (-12), 3) := by decide +kernel
theorem dX7_length_22 : decode cX7_length 22 = .ok (.iload_n 1, 1) := by decide +kernel
theorem dX7_length_23 : decode cX7_length 23 = .ok (.ireturn, 1) := by decide +kernel
theorem dX8_init_0 : decode cX8_init 0 = .ok (.aload_n 0, 1) := by decide +kernel
theorem dX8_init_1 : decode cX8_init 1 = .ok (.invokespecial 1, 3) := by decide +kernel
theorem dX8_init_4 : decode cX8_init 4 = .ok (.aload_n 0, 1) := by decide +kernel
theorem dX8_init_5 : decode cX8_init 5 = .ok (.aload_n 1, 1) := by decide +kernel
theorem dX8_init_6 : decode cX8_init 6 = .ok (.putfield 7, 3) := by decide +kernel
theorem dX8_init_9 : decode cX8_init 9 = .ok (.aload_n 0, 1) := by decide +kernel
theorem dX8_init_10 : decode cX8_init 10 = .ok (.aload_n 2, 1) := by decide +kernel
theorem dX8_init_11 : decode cX8_init 11 = .ok (.putfield 13, 3) := by decide +kernel
theorem dX8_init_14 : decode cX8_init 14 = .ok (.aload_n 0, 1) := by decide +kernel
theorem dX8_init_15 : decode cX8_init 15 = .ok (.aload_n 2, 1) := by decide +kernel
theorem dX8_init_16 : decode cX8_init 16 = .ok (.getfield 17, 3) := by decide +kernel
theorem dX8_init_19 : decode cX8_init 19 = .ok (.putfield 23, 3) := by decide +kernel
theorem dX8_init_22 : decode cX8_init 22 = .ok (.aload_n 0, 1) := by decide +kernel
theorem dX8_init_23 : decode cX8_init 23 = .ok (.aload_n 0, 1) := by decide +kernel
theorem dX8_init_24 : decode cX8_init 24 = .ok (.getfield 23, 3) := by decide +kernel
theorem dX8_init_27 : decode cX8_init 27 = .ok (.iconst 2, 1) := by decide +kernel
theorem dX8_init_28 : decode cX8_init 28 = .ok (.if_icmp .ge 7, 3) := by decide +kernel
theorem dX8_init_31 : decode cX8_init 31 = .ok (.iconst 1, 1) := by decide +kernel
theorem dX8_init_32 : decode cX8_init 32 = .ok (.goto 4, 3) := by decide +kernel
theorem dX8_init_35 : decode cX8_init 35 = .ok (.iconst 0, 1) := by decide +kernel
theorem dX8_init_36 : decode cX8_init 36 = .ok (.putfield 26, 3) := by decide +kernel
theorem dX8_init_39 : decode cX8_init 39 = .ok (.return_, 1) := by decide +kernel
theorem dX8_cell_0 : decode cX8_cell 0 = .ok (.aload_n 0, 1) := by decide +kernel
theorem dX8_cell_1 : decode cX8_cell 1 = .ok (.getfield 7, 3) := by decide +kernel
theorem dX8_cell_4 : decode cX8_cell 4 = .ok (.aload_n 0, 1) := by decide +kernel
theorem dX8_cell_5 : decode cX8_cell 5 = .ok (.getfield 13, 3) := by decide +kernel
theorem dX8_cell_8 : decode cX8_cell 8 = .ok (.getfield 30, 3) := by decide +kernel
theorem dX8_cell_11 : decode cX8_cell 11 = .ok (.iload_n 1, 1) := by decide +kernel
theorem dX8_cell_12 : decode cX8_cell 12 = .ok (.iadd, 1) := by decide +kernel
theorem dX8_cell_13 : decode cX8_cell 13 = .ok (.invokevirtual 33, 3) := by decide +kernel
theorem dX8_cell_16 : decode cX8_cell 16 = .ok (.ireturn, 1) := by decide +kernel
theorem dX8_swap_0 : decode cX8_swap 0 = .ok (.aload_n 0, 1) := by decide +kernel
theorem dX8_swap_1 : decode cX8_swap 1 = .ok (.getfield 7, 3) := by decide +kernel
theorem dX8_swap_4 : decode cX8_swap 4 = .ok (.aload_n 0, 1) := by decide +kernel
theorem dX8_swap_5 : decode cX8_swap 5 = .ok (.getfield 13, 3) := by decide +kernel
theorem dX8_swap_8 : decode cX8_swap 8 = .ok (.getfield 30, 3) := by decide +kernel
theorem dX8_swap_11 : decode cX8_swap 11 = .ok (.iload_n 1, 1) := by decide +kernel
theorem dX8_swap_12 : decode cX8_swap 12 = .ok (.iadd, 1) := by decide +kernel
theorem dX8_swap_13 : decode cX8_swap 13 = .ok (.aload_n 0, 1) := by decide +kernel
theorem dX8_swap_14 : decode cX8_swap 14 = .ok (.getfield 13, 3) := by decide +kernel
theorem dX8_swap_17 : decode cX8_swap 17 = .ok (.getfield 30, 3) := by decide +kernel
theorem dX8_swap_20 : decode cX8_swap 20 = .ok (.iload_n 2, 1) := by decide +kernel
theorem dX8_swap_21 : decode cX8_swap 21 = .ok (.iadd, 1) := by decide +kernel
theorem dX8_swap_22 : decode cX8_swap 22 = .ok (.invokevirtual 39, 3) := by decide +kernel
theorem dX8_swap_25 : decode cX8_swap 25 = .ok (.return_, 1) := by decide +kernel
theorem dX9_init_0 : decode cX9_init 0 = .ok (.aload_n 0, 1) := by decide +kernel
theorem dX9_init_1 : decode cX9_init 1 = .ok (.invokespecial 1, 3) := by decide +kernel
theorem dX9_init_4 : decode cX9_init 4 = .ok (.aload_n 0, 1) := by decide +kernel
theorem dX9_init_5 : decode cX9_init 5 = .ok (.new 7, 3) := by decide +kernel
theorem dX9_init_8 : decode cX9_init 8 = .ok (.dup, 1) := by decide +kernel
theorem dX9_init_9 : decode cX9_init 9 = .ok (.iload_n 1, 1) := by decide +kernel
theorem dX9_init_10 : decode cX9_init 10 = .ok (.bipush 8, 2) := by decide +kernel
theorem dX9_init_12 : decode cX9_init 12 = .ok (.sipush 3000, 3) := by decide +kernel
theorem dX9_init_15 : decode cX9_init 15 = .ok (.invokestatic 11, 3) := by decide +kernel
theorem dX9_init_18 : decode cX9_init 18 = .ok (.invokespecial 15, 3) := by decide +kernel
theorem dX9_init_21 : decode cX9_init 21 = .ok (.putfield 18, 3) := by decide +kernel
theorem dX9_init_24 : decode cX9_init 24 = .ok (.aload_n 0, 1) := by decide +kernel
theorem dX9_init_25 : decode cX9_init 25 = .ok (.iload_n 2, 1) := by decide +kernel
theorem dX9_init_26 : decode cX9_init 26 = .ok (.iconst 1, 1) := by decide +kernel
theorem dX9_init_27 : decode cX9_init 27 = .ok (.bipush 24, 2) := by decide +kernel
theorem dX9_init_29 : decode cX9_init 29 = .ok (.invokestatic 11, 3) := by decide +kernel
theorem dX9_init_32 : decode cX9_init 32 = .ok (.anewarray 22, 3) := by decide +kernel
theorem dX9_init_35 : decode cX9_init 35 = .ok (.putfield 24, 3) := by decide +kernel
theorem dX9_init_38 : decode cX9_init 38 = .ok (.aload_n 0, 1) := by decide +kernel
theorem dX9_init_39 : decode cX9_init 39 = .ok (.new 28, 3) := by decide +kernel
theorem dX9_init_42 : decode cX9_init 42 = .ok (.dup, 1) := by decide +kernel
theorem dX9_init_43 : decode cX9_init 43 = .ok (.invokespecial 30, 3) := by decide +kernel
theorem dX9_init_46 : decode cX9_init 46 = .ok (.putfield 31, 3) := by decide +kernel
theorem dX9_init_49 : decode cX9_init 49 = .ok (.aload_n 0, 1) := by decide +kernel
theorem dX9_init_50 : decode cX9_init 50 = .ok (.iload_n 3, 1) := by decide +kernel
theorem dX9_init_51 : decode cX9_init 51 = .ok (.iconst 1, 1) := by decide +kernel
theorem dX9_init_52 : decode cX9_init 52 = .ok (.sipush 200, 3) := by decide +kernel
theorem dX9_init_55 : decode cX9_init 55 = .ok (.invokestatic 11, 3) := by decide +kernel
theorem dX9_init_58 : decode cX9_init 58 = .ok (.putfield 35, 3) := by decide +kernel
theorem dX9_init_61 : decode cX9_init 61 = .ok (.return_, 1) := by decide +kernel
theorem dX9_open_0 : decode cX9_open 0 = .ok (.iload_n 1, 1) := by decide +kernel
theorem dX9_open_1 : decode cX9_open 1 = .ok (.invokestatic 39, 3) := by decide +kernel
theorem dX9_open_4 : decode cX9_open 4 = .ok (.ifCond .eq 19, 3) := by decide +kernel
theorem dX9_open_7 : decode cX9_open 7 = .ok (.iload_n 2, 1) := by decide +kernel
theorem dX9_open_8 : decode cX9_open 8 = .ok (.iconst 0, 1) := by decide +kernel
theorem dX9_open_9 : decode cX9_open 9 = .ok (.iconst 4, 1) := by decide +kernel
theorem dX9_open_10 : decode cX9_open 10 = .ok (.invokestatic 43, 3) := by decide +kernel
theorem dX9_open_13 : decode cX9_open 13 = .ok (.ifCond .eq 10, 3) := by decide +kernel
theorem dX9_open_16 : decode cX9_open 16 = .ok (.iload_n 3, 1) := by decide +kernel
theorem dX9_open_17 : decode cX9_open 17 = .ok (.invokestatic 47, 3) := by decide +kernel
theorem dX9_open_20 : decode cX9_open 20 = .ok (.ifCond .ne 6, 3) := by decide +kernel
theorem dX9_open_23 : decode cX9_open 23 = .ok (.bipush (-4), 2) := by decide +kernel
theorem dX9_open_25 : decode cX9_open 25 = .ok (.ireturn, 1) := by decide +kernel
theorem dX9_open_26 : decode cX9_open 26 = .ok (.aload_n 0, 1) := by decide +kernel
theorem dX9_open_27 : decode cX9_open 27 = .ok (.invokevirtual 50, 3) := by decide +kernel
theorem dX9_open_30 : decode cX9_open 30 = .ok (.istore 4, 2) := by decide +kernel
theorem dX9_open_32 : decode cX9_open 32 = .ok (.iload 4, 2) := by decide +kernel
theorem dX9_open_34 : decode cX9_open 34 = .ok (.ifCond .lt 13, 3) := by decide +kernel
theorem dX9_open_37 : decode cX9_open 37 = .ok (.iload 4, 2) := by decide +kernel
theorem dX9_open_39 : decode cX9_open 39 = .ok (.aload_n 0, 1) := by decide +kernel
theorem dX9_open_40 : decode cX9_open 40 = .ok (.getfield 24, 3) := by decide +kernel
theorem dX9_open_43 : decode cX9_open 43 = .ok (.arraylength, 1) := by decide +kernel
theorem dX9_open_44 : decode cX9_open 44 = .ok (.if_icmp .lt 6, 3) := by decide +kernel
theorem dX9_open_47 : decode cX9_open 47 = .ok (.bipush (-5), 2) := by decide +kernel
theorem dX9_open_49 : decode cX9_open 49 = .ok (.ireturn, 1) := by decide +kernel
theorem dX9_open_50 : decode cX9_open 50 = .ok (.new 22, 3) := by decide +kernel
theorem dX9_open_53 : decode cX9_open 53 = .ok (.dup, 1) := by decide +kernel
theorem dX9_open_54 : decode cX9_open 54 = .ok (.iload 4, 2) := by decide +kernel
theorem dX9_open_56 : decode cX9_open 56 = .ok (.iload_n 2, 1) := by decide +kernel
theorem dX9_open_57 : decode cX9_open 57 = .ok (.iload_n 3, 1) := by decide +kernel
theorem dX9_open_58 : decode cX9_open 58 = .ok (.invokespecial 54, 3) := by decide +kernel
theorem dX9_open_61 : decode cX9_open 61 = .ok (.astore 5, 2) := by decide +kernel
theorem dX9_open_63 : decode cX9_open 63 = .ok (.aload_n 0, 1) := by decide +kernel
theorem dX9_open_64 : decode cX9_open 64 = .ok (.aload 5, 2) := by decide +kernel
theorem dX9_open_66 : decode cX9_open 66 = .ok (.iload_n 1, 1) := by decide +kernel
theorem dX9_open_67 : decode cX9_open 67 = .ok (.invokevirtual 57, 3) := by decide +kernel
theorem dX9_open_70 : decode cX9_open 70 = .ok (.ifCond .ne 6, 3) := by decide +kernel
theorem dX9_open_73 : decode cX9_open 73 = .ok (.bipush (-6), 2) := by decide +kernel
theorem dX9_open_75 : decode cX9_open 75 = .ok (.ireturn, 1) := by decide +kernel
theorem dX9_open_76 : decode cX9_open 76 = .ok (.aload_n 0, 1) := by decide +kernel
theorem dX9_open_77 : decode cX9_open 77 = .ok (.getfield 18, 3) := by decide +kernel
theorem dX9_open_80 : decode cX9_open 80 = .ok (.aload 5, 2) := by decide +kernel
theorem dX9_open_82 : decode cX9_open 82 = .ok (.getfield 61, 3) := by decide +kernel
theorem dX9_open_85 : decode cX9_open 85 = .ok (.getfield 65, 3) := by decide +kernel
theorem dX9_open_88 : decode cX9_open 88 = .ok (.iload_n 1, 1) := by decide +kernel
theorem dX9_open_89 : decode cX9_open 89 = .ok (.invokevirtual 70, 3) := by decide +kernel
theorem dX9_open_92 : decode cX9_open 92 = .ok (.aload_n 0, 1) := by decide +kernel
theorem dX9_open_93 : decode cX9_open 93 = .ok (.getfield 24, 3) := by decide +kernel
theorem dX9_open_96 : decode cX9_open 96 = .ok (.iload 4, 2) := by decide +kernel
theorem dX9_open_98 : decode cX9_open 98 = .ok (.aload 5, 2) := by decide +kernel
theorem dX9_open_100 : decode cX9_open 100 = .ok (.aastore, 1) := by decide +kernel
theorem dX9_open_101 : decode cX9_open 101 = .ok (.iload 4, 2) := by decide +kernel
theorem dX9_open_103 : decode cX9_open 103 = .ok (.ireturn, 1) := by decide +kernel
theorem dX9_put_0 : decode cX9_put 0 = .ok (.aload_n 0, 1) := by decide +kernel
theorem dX9_put_1 : decode cX9_put 1 = .ok (.iload_n 1, 1) := by decide +kernel
theorem dX9_put_2 : decode cX9_put 2 = .ok (.invokevirtual 74, 3) := by decide +kernel
theorem dX9_put_5 : decode cX9_put 5 = .ok (.astore 4, 2) := by decide +kernel
theorem dX9_put_7 : decode cX9_put 7 = .ok (.aload 4, 2) := by decide +kernel
theorem dX9_put_9 : decode cX9_put 9 = .ok (.ifnonnull 5, 3) := by decide +kernel
theorem dX9_put_12 : decode cX9_put 12 = .ok (.iconst (-1), 1) := by decide +kernel
theorem dX9_put_13 : decode cX9_put 13 = .ok (.ireturn, 1) := by decide +kernel
theorem dX9_put_14 : decode cX9_put 14 = .ok (.aload 4, 2) := by decide +kernel
theorem dX9_put_16 : decode cX9_put 16 = .ok (.getfield 78, 3) := by decide +kernel
theorem dX9_put_19 : decode cX9_put 19 = .ok (.iconst 1, 1) := by decide +kernel
theorem dX9_put_20 : decode cX9_put 20 = .ok (.if_icmp .eq 6, 3) := by decide +kernel
theorem dX9_put_23 : decode cX9_put 23 = .ok (.bipush (-3), 2) := by decide +kernel
theorem dX9_put_25 : decode cX9_put 25 = .ok (.ireturn, 1) := by decide +kernel
theorem dX9_put_26 : decode cX9_put 26 = .ok (.aload 4, 2) := by decide +kernel
theorem dX9_put_28 : decode cX9_put 28 = .ok (.iload_n 2, 1) := by decide +kernel
theorem dX9_put_29 : decode cX9_put 29 = .ok (.invokevirtual 81, 3) := by decide +kernel
theorem dX9_put_32 : decode cX9_put 32 = .ok (.ifCond .ne 6, 3) := by decide +kernel
theorem dX9_put_35 : decode cX9_put 35 = .ok (.bipush (-2), 2) := by decide +kernel
theorem dX9_put_37 : decode cX9_put 37 = .ok (.ireturn, 1) := by decide +kernel
theorem dX9_put_38 : decode cX9_put 38 = .ok (.aload_n 0, 1) := by decide +kernel
theorem dX9_put_39 : decode cX9_put 39 = .ok (.getfield 18, 3) := by decide +kernel
theorem dX9_put_42 : decode cX9_put 42 = .ok (.aload 4, 2) := by decide +kernel
theorem dX9_put_44 : decode cX9_put 44 = .ok (.getfield 61, 3) := by decide +kernel
theorem dX9_put_47 : decode cX9_put 47 = .ok (.getfield 65, 3) := by decide +kernel
theorem dX9_put_50 : decode cX9_put 50 = .ok (.iload_n 2, 1) := by decide +kernel
theorem dX9_put_51 : decode cX9_put 51 = .ok (.iadd, 1) := by decide +kernel
theorem dX9_put_52 : decode cX9_put 52 = .ok (.iload_n 3, 1) := by decide +kernel
theorem dX9_put_53 : decode cX9_put 53 = .ok (.invokevirtual 84, 3) := by decide +kernel
theorem dX9_put_56 : decode cX9_put 56 = .ok (.iconst 0, 1) := by decide +kernel
theorem dX9_put_57 : decode cX9_put 57 = .ok (.ireturn, 1) := by decide +kernel
theorem dX9_resize_0 : decode cX9_resize 0 = .ok (.aload_n 0, 1) := by decide +kernel
theorem dX9_resize_1 : decode cX9_resize 1 = .ok (.iload_n 1, 1) := by decide +kernel
theorem dX9_resize_2 : decode cX9_resize 2 = .ok (.invokevirtual 74, 3) := by decide +kernel
theorem dX9_resize_5 : decode cX9_resize 5 = .ok (.astore_n 3, 1) := by decide +kernel
theorem dX9_resize_6 : decode cX9_resize 6 = .ok (.aload_n 3, 1) := by decide +kernel
theorem dX9_resize_7 : decode cX9_resize 7 = .ok (.ifnonnull 5, 3) := by decide +kernel
theorem dX9_resize_10 : decode cX9_resize 10 = .ok (.iconst (-1), 1) := by decide +kernel
theorem dX9_resize_11 : decode cX9_resize 11 = .ok (.ireturn, 1) := by decide +kernel
theorem dX9_resize_12 : decode cX9_resize 12 = .ok (.aload_n 3, 1) := by decide +kernel
theorem dX9_resize_13 : decode cX9_resize 13 = .ok (.getfield 78, 3) := by decide +kernel
theorem dX9_resize_16 : decode cX9_resize 16 = .ok (.iconst 1, 1) := by decide +kernel
theorem dX9_resize_17 : decode cX9_resize 17 = .ok (.if_icmp .eq 6, 3) := by decide +kernel
theorem dX9_resize_20 : decode cX9_resize 20 = .ok (.bipush (-3), 2) := by decide +kernel
theorem dX9_resize_22 : decode cX9_resize 22 = .ok (.ireturn, 1) := by decide +kernel
theorem dX9_resize_23 : decode cX9_resize 23 = .ok (.iload_n 2, 1) := by decide +kernel
theorem dX9_resize_24 : decode cX9_resize 24 = .ok (.invokestatic 39, 3) := by decide +kernel
theorem dX9_resize_27 : decode cX9_resize 27 = .ok (.ifCond .ne 6, 3) := by decide +kernel
theorem dX9_resize_30 : decode cX9_resize 30 = .ok (.bipush (-4), 2) := by decide +kernel
theorem dX9_resize_32 : decode cX9_resize 32 = .ok (.ireturn, 1) := by decide +kernel
theorem dX9_resize_33 : decode cX9_resize 33 = .ok (.aload_n 0, 1) := by decide +kernel
theorem dX9_resize_34 : decode cX9_resize 34 = .ok (.aload_n 3, 1) := by decide +kernel
theorem dX9_resize_35 : decode cX9_resize 35 = .ok (.iload_n 2, 1) := by decide +kernel
theorem dX9_resize_36 : decode cX9_resize 36 = .ok (.invokevirtual 87, 3) := by decide +kernel
theorem dX9_resize_39 : decode cX9_resize 39 = .ok (.ifCond .eq 7, 3) := by decide +kernel
theorem dX9_resize_42 : decode cX9_resize 42 = .ok (.iconst 0, 1) := by decide +kernel
theorem dX9_resize_43 : decode cX9_resize 43 = .ok (.goto 5, 3) := by decide +kernel
theorem dX9_resize_46 : decode cX9_resize 46 = .ok (.bipush (-6), 2) := by decide +kernel
theorem dX9_resize_48 : decode cX9_resize 48 = .ok (.ireturn, 1) := by decide +kernel
theorem dX9_submit_0 : decode cX9_submit 0 = .ok (.aload_n 0, 1) := by decide +kernel
theorem dX9_submit_1 : decode cX9_submit 1 = .ok (.iload_n 1, 1) := by decide +kernel
theorem dX9_submit_2 : decode cX9_submit 2 = .ok (.invokevirtual 74, 3) := by decide +kernel
theorem dX9_submit_5 : decode cX9_submit 5 = .ok (.astore_n 2, 1) := by decide +kernel
theorem dX9_submit_6 : decode cX9_submit 6 = .ok (.aload_n 2, 1) := by decide +kernel
theorem dX9_submit_7 : decode cX9_submit 7 = .ok (.ifnonnull 5, 3) := by decide +kernel
theorem dX9_submit_10 : decode cX9_submit 10 = .ok (.iconst (-1), 1) := by decide +kernel
theorem dX9_submit_11 : decode cX9_submit 11 = .ok (.ireturn, 1) := by decide +kernel
theorem dX9_submit_12 : decode cX9_submit 12 = .ok (.aload_n 2, 1) := by decide +kernel
theorem dX9_submit_13 : decode cX9_submit 13 = .ok (.getfield 78, 3) := by decide +kernel
theorem dX9_submit_16 : decode cX9_submit 16 = .ok (.iconst 1, 1) := by decide +kernel
theorem dX9_submit_17 : decode cX9_submit 17 = .ok (.if_icmp .eq 6, 3) := by decide +kernel
theorem dX9_submit_20 : decode cX9_submit 20 = .ok (.bipush (-3), 2) := by decide +kernel
theorem dX9_submit_22 : decode cX9_submit 22 = .ok (.ireturn, 1) := by decide +kernel
theorem dX9_submit_23 : decode cX9_submit 23 = .ok (.aload_n 2, 1) := by decide +kernel
theorem dX9_submit_24 : decode cX9_submit 24 = .ok (.iconst 2, 1) := by decide +kernel
theorem dX9_submit_25 : decode cX9_submit 25 = .ok (.putfield 78, 3) := by decide +kernel
theorem dX9_submit_28 : decode cX9_submit 28 = .ok (.aload_n 2, 1) := by decide +kernel
theorem dX9_submit_29 : decode cX9_submit 29 = .ok (.aload_n 0, 1) := by decide +kernel
theorem dX9_submit_30 : decode cX9_submit 30 = .ok (.getfield 90, 3) := by decide +kernel
theorem dX9_submit_33 : decode cX9_submit 33 = .ok (.putfield 93, 3) := by decide +kernel
theorem dX9_submit_36 : decode cX9_submit 36 = .ok (.aload_n 0, 1) := by decide +kernel
theorem dX9_submit_37 : decode cX9_submit 37 = .ok (.aload_n 2, 1) := by decide +kernel
theorem dX9_submit_38 : decode cX9_submit 38 = .ok (.invokevirtual 96, 3) := by decide +kernel
theorem dX9_submit_41 : decode cX9_submit 41 = .ok (.astore_n 3, 1) := by decide +kernel
theorem dX9_submit_42 : decode cX9_submit 42 = .ok (.aload_n 2, 1) := by decide +kernel
theorem dX9_submit_43 : decode cX9_submit 43 = .ok (.aload_n 3, 1) := by decide +kernel
theorem dX9_submit_44 : decode cX9_submit 44 = .ok (.putfield 100, 3) := by decide +kernel
theorem dX9_submit_47 : decode cX9_submit 47 = .ok (.aload_n 3, 1) := by decide +kernel
theorem dX9_submit_48 : decode cX9_submit 48 = .ok (.invokevirtual 104, 3) := by decide +kernel
theorem dX9_submit_51 : decode cX9_submit 51 = .ok (.aload_n 0, 1) := by decide +kernel
theorem dX9_submit_52 : decode cX9_submit 52 = .ok (.getfield 31, 3) := by decide +kernel
theorem dX9_submit_55 : decode cX9_submit 55 = .ok (.aload_n 2, 1) := by decide +kernel
theorem dX9_submit_56 : decode cX9_submit 56 = .ok (.invokevirtual 109, 3) := by decide +kernel
theorem dX9_submit_59 : decode cX9_submit 59 = .ok (.iconst 0, 1) := by decide +kernel
theorem dX9_submit_60 : decode cX9_submit 60 = .ok (.ireturn, 1) := by decide +kernel
theorem dX9_tick_0 : decode cX9_tick 0 = .ok (.aload_n 0, 1) := by decide +kernel
theorem dX9_tick_1 : decode cX9_tick 1 = .ok (.invokevirtual 113, 3) := by decide +kernel
theorem dX9_tick_4 : decode cX9_tick 4 = .ok (.ireturn, 1) := by decide +kernel
theorem dX9_run_0 : decode cX9_run 0 = .ok (.iload_n 1, 1) := by decide +kernel
theorem dX9_run_1 : decode cX9_run 1 = .ok (.iconst 0, 1) := by decide +kernel
theorem dX9_run_2 : decode cX9_run 2 = .ok (.sipush 3000, 3) := by decide +kernel
theorem dX9_run_5 : decode cX9_run 5 = .ok (.invokestatic 43, 3) := by decide +kernel
theorem dX9_run_8 : decode cX9_run 8 = .ok (.ifCond .ne 6, 3) := by decide +kernel
theorem dX9_run_11 : decode cX9_run 11 = .ok (.bipush (-4), 2) := by decide +kernel
theorem dX9_run_13 : decode cX9_run 13 = .ok (.ireturn, 1) := by decide +kernel
theorem dX9_run_14 : decode cX9_run 14 = .ok (.iconst 0, 1) := by decide +kernel
theorem dX9_run_15 : decode cX9_run 15 = .ok (.istore_n 2, 1) := by decide +kernel
theorem dX9_run_16 : decode cX9_run 16 = .ok (.iload_n 2, 1) := by decide +kernel
theorem dX9_run_17 : decode cX9_run 17 = .ok (.iload_n 1, 1) := by decide +kernel
theorem dX9_run_18 : decode cX9_run 18 = .ok (.if_icmp .ge 24, 3) := by decide +kernel
theorem dX9_run_21 : decode cX9_run 21 = .ok (.aload_n 0, 1) := by decide +kernel
theorem dX9_run_22 : decode cX9_run 22 = .ok (.getfield 31, 3) := by decide +kernel
theorem dX9_run_25 : decode cX9_run 25 = .ok (.getfield 116, 3) := by decide +kernel
theorem dX9_run_28 : decode cX9_run 28 = .ok (.ifnull 14, 3) := by decide +kernel
theorem dX9_run_31 : decode cX9_run 31 = .ok (.aload_n 0, 1) := by decide +kernel
theorem dX9_run_32 : decode cX9_run 32 = .ok (.invokevirtual 113, 3) := by decide +kernel
theorem dX9_run_35 : decode cX9_run 35 = .ok (.pop, 1) := by decide +kernel
theorem dX9_run_36 : decode cX9_run 36 = .ok (.iinc 2 1, 3) := by decide +kernel
theorem dX9_run_39 : decode cX9_run 39 = .ok (.goto (-23), 3) := by decide +kernel
theorem dX9_run_42 : decode cX9_run 42 = .ok (.iload_n 2, 1) := by decide +kernel
theorem dX9_run_43 : decode cX9_run 43 = .ok (.ireturn, 1) := by decide +kernel
theorem dX9_state_0 : decode cX9_state 0 = .ok (.aload_n 0, 1) := by decide +kernel
theorem dX9_state_1 : decode cX9_state 1 = .ok (.iload_n 1, 1) := by decide +kernel
theorem dX9_state_2 : decode cX9_state 2 = .ok (.invokevirtual 74, 3) := by decide +kernel
theorem dX9_state_5 : decode cX9_state 5 = .ok (.astore_n 2, 1) := by decide +kernel
theorem dX9_state_6 : decode cX9_state 6 = .ok (.aload_n 2, 1) := by decide +kernel
theorem dX9_state_7 : decode cX9_state 7 = .ok (.ifnonnull 7, 3) := by decide +kernel
theorem dX9_state_10 : decode cX9_state 10 = .ok (.iconst (-1), 1) := by decide +kernel
theorem dX9_state_11 : decode cX9_state 11 = .ok (.goto 7, 3) := by decide +kernel
theorem dX9_state_14 : decode cX9_state 14 = .ok (.aload_n 2, 1) := by decide +kernel
theorem dX9_state_15 : decode cX9_state 15 = .ok (.getfield 78, 3) := by decide +kernel
theorem dX9_state_18 : decode cX9_state 18 = .ok (.ireturn, 1) := by decide +kernel
theorem dX9_get_0 : decode cX9_get 0 = .ok (.aload_n 0, 1) := by decide +kernel
theorem dX9_get_1 : decode cX9_get 1 = .ok (.iload_n 1, 1) := by decide +kernel
theorem dX9_get_2 : decode cX9_get 2 = .ok (.invokevirtual 74, 3) := by decide +kernel
theorem dX9_get_5 : decode cX9_get 5 = .ok (.astore_n 3, 1) := by decide +kernel
theorem dX9_get_6 : decode cX9_get 6 = .ok (.aload_n 3, 1) := by decide +kernel
theorem dX9_get_7 : decode cX9_get 7 = .ok (.ifnull 11, 3) := by decide +kernel
theorem dX9_get_10 : decode cX9_get 10 = .ok (.aload_n 3, 1) := by decide +kernel
theorem dX9_get_11 : decode cX9_get 11 = .ok (.iload_n 2, 1) := by decide +kernel
theorem dX9_get_12 : decode cX9_get 12 = .ok (.invokevirtual 81, 3) := by decide +kernel
theorem dX9_get_15 : decode cX9_get 15 = .ok (.ifCond .ne 5, 3) := by decide +kernel
theorem dX9_get_18 : decode cX9_get 18 = .ok (.iconst 0, 1) := by decide +kernel
theorem dX9_get_19 : decode cX9_get 19 = .ok (.ireturn, 1) := by decide +kernel
theorem dX9_get_20 : decode cX9_get 20 = .ok (.aload_n 0, 1) := by decide +kernel
theorem dX9_get_21 : decode cX9_get 21 = .ok (.getfield 18, 3) := by decide +kernel
theorem dX9_get_24 : decode cX9_get 24 = .ok (.aload_n 3, 1) := by decide +kernel
theorem dX9_get_25 : decode cX9_get 25 = .ok (.getfield 61, 3) := by decide +kernel
theorem dX9_get_28 : decode cX9_get 28 = .ok (.getfield 65, 3) := by decide +kernel
theorem dX9_get_31 : decode cX9_get 31 = .ok (.iload_n 2, 1) := by decide +kernel
theorem dX9_get_32 : decode cX9_get 32 = .ok (.iadd, 1) := by decide +kernel
theorem dX9_get_33 : decode cX9_get 33 = .ok (.invokevirtual 119, 3) := by decide +kernel
theorem dX9_get_36 : decode cX9_get 36 = .ok (.ireturn, 1) := by decide +kernel
theorem dX9_cancel_0 : decode cX9_cancel 0 = .ok (.aload_n 0, 1) := by decide +kernel
theorem dX9_cancel_1 : decode cX9_cancel 1 = .ok (.iload_n 1, 1) := by decide +kernel
theorem dX9_cancel_2 : decode cX9_cancel 2 = .ok (.invokevirtual 74, 3) := by decide +kernel
theorem dX9_cancel_5 : decode cX9_cancel 5 = .ok (.astore_n 2, 1) := by decide +kernel
theorem dX9_cancel_6 : decode cX9_cancel 6 = .ok (.aload_n 2, 1) := by decide +kernel
theorem dX9_cancel_7 : decode cX9_cancel 7 = .ok (.ifnonnull 5, 3) := by decide +kernel
theorem dX9_cancel_10 : decode cX9_cancel 10 = .ok (.iconst (-1), 1) := by decide +kernel
theorem dX9_cancel_11 : decode cX9_cancel 11 = .ok (.ireturn, 1) := by decide +kernel
theorem dX9_cancel_12 : decode cX9_cancel 12 = .ok (.aload_n 2, 1) := by decide +kernel
theorem dX9_cancel_13 : decode cX9_cancel 13 = .ok (.getfield 78, 3) := by decide +kernel
theorem dX9_cancel_16 : decode cX9_cancel 16 = .ok (.iconst 2, 1) := by decide +kernel
theorem dX9_cancel_17 : decode cX9_cancel 17 = .ok (.if_icmp .eq 6, 3) := by decide +kernel
theorem dX9_cancel_20 : decode cX9_cancel 20 = .ok (.bipush (-3), 2) := by decide +kernel
theorem dX9_cancel_22 : decode cX9_cancel 22 = .ok (.ireturn, 1) := by decide +kernel
theorem dX9_cancel_23 : decode cX9_cancel 23 = .ok (.aload_n 0, 1) := by decide +kernel
theorem dX9_cancel_24 : decode cX9_cancel 24 = .ok (.getfield 31, 3) := by decide +kernel
theorem dX9_cancel_27 : decode cX9_cancel 27 = .ok (.aload_n 2, 1) := by decide +kernel
theorem dX9_cancel_28 : decode cX9_cancel 28 = .ok (.invokevirtual 123, 3) := by decide +kernel
theorem dX9_cancel_31 : decode cX9_cancel 31 = .ok (.aload_n 2, 1) := by decide +kernel
theorem dX9_cancel_32 : decode cX9_cancel 32 = .ok (.iconst 4, 1) := by decide +kernel
theorem dX9_cancel_33 : decode cX9_cancel 33 = .ok (.putfield 78, 3) := by decide +kernel
theorem dX9_cancel_36 : decode cX9_cancel 36 = .ok (.iconst 0, 1) := by decide +kernel
theorem dX9_cancel_37 : decode cX9_cancel 37 = .ok (.ireturn, 1) := by decide +kernel
theorem dX9_raise_0 : decode cX9_raise 0 = .ok (.aload_n 0, 1) := by decide +kernel
theorem dX9_raise_1 : decode cX9_raise 1 = .ok (.iload_n 1, 1) := by decide +kernel
theorem dX9_raise_2 : decode cX9_raise 2 = .ok (.invokevirtual 74, 3) := by decide +kernel
theorem dX9_raise_5 : decode cX9_raise 5 = .ok (.astore_n 3, 1) := by decide +kernel
theorem dX9_raise_6 : decode cX9_raise 6 = .ok (.aload_n 3, 1) := by decide +kernel
theorem dX9_raise_7 : decode cX9_raise 7 = .ok (.ifnonnull 5, 3) := by decide +kernel
theorem dX9_raise_10 : decode cX9_raise 10 = .ok (.iconst (-1), 1) := by decide +kernel
theorem dX9_raise_11 : decode cX9_raise 11 = .ok (.ireturn, 1) := by decide +kernel
theorem dX9_raise_12 : decode cX9_raise 12 = .ok (.iload_n 2, 1) := by decide +kernel
theorem dX9_raise_13 : decode cX9_raise 13 = .ok (.invokestatic 47, 3) := by decide +kernel
theorem dX9_raise_16 : decode cX9_raise 16 = .ok (.ifCond .ne 6, 3) := by decide +kernel
theorem dX9_raise_19 : decode cX9_raise 19 = .ok (.bipush (-4), 2) := by decide +kernel
theorem dX9_raise_21 : decode cX9_raise 21 = .ok (.ireturn, 1) := by decide +kernel
theorem dX9_raise_22 : decode cX9_raise 22 = .ok (.aload_n 3, 1) := by decide +kernel
theorem dX9_raise_23 : decode cX9_raise 23 = .ok (.getfield 78, 3) := by decide +kernel
theorem dX9_raise_26 : decode cX9_raise 26 = .ok (.iconst 1, 1) := by decide +kernel
theorem dX9_raise_27 : decode cX9_raise 27 = .ok (.if_icmp .eq 14, 3) := by decide +kernel
theorem dX9_raise_30 : decode cX9_raise 30 = .ok (.aload_n 3, 1) := by decide +kernel
theorem dX9_raise_31 : decode cX9_raise 31 = .ok (.getfield 78, 3) := by decide +kernel
theorem dX9_raise_34 : decode cX9_raise 34 = .ok (.iconst 2, 1) := by decide +kernel
theorem dX9_raise_35 : decode cX9_raise 35 = .ok (.if_icmp .eq 6, 3) := by decide +kernel
theorem dX9_raise_38 : decode cX9_raise 38 = .ok (.bipush (-3), 2) := by decide +kernel
theorem dX9_raise_40 : decode cX9_raise 40 = .ok (.ireturn, 1) := by decide +kernel
theorem dX9_raise_41 : decode cX9_raise 41 = .ok (.aload_n 0, 1) := by decide +kernel
theorem dX9_raise_42 : decode cX9_raise 42 = .ok (.getfield 31, 3) := by decide +kernel
theorem dX9_raise_45 : decode cX9_raise 45 = .ok (.aload_n 3, 1) := by decide +kernel
theorem dX9_raise_46 : decode cX9_raise 46 = .ok (.invokevirtual 123, 3) := by decide +kernel
theorem dX9_raise_49 : decode cX9_raise 49 = .ok (.aload_n 3, 1) := by decide +kernel
theorem dX9_raise_50 : decode cX9_raise 50 = .ok (.iload_n 2, 1) := by decide +kernel
theorem dX9_raise_51 : decode cX9_raise 51 = .ok (.putfield 126, 3) := by decide +kernel
theorem dX9_raise_54 : decode cX9_raise 54 = .ok (.aload_n 3, 1) := by decide +kernel
theorem dX9_raise_55 : decode cX9_raise 55 = .ok (.getfield 78, 3) := by decide +kernel
theorem dX9_raise_58 : decode cX9_raise 58 = .ok (.iconst 2, 1) := by decide +kernel
theorem dX9_raise_59 : decode cX9_raise 59 = .ok (.if_icmp .ne 11, 3) := by decide +kernel
theorem dX9_raise_62 : decode cX9_raise 62 = .ok (.aload_n 0, 1) := by decide +kernel
theorem dX9_raise_63 : decode cX9_raise 63 = .ok (.getfield 31, 3) := by decide +kernel
theorem dX9_raise_66 : decode cX9_raise 66 = .ok (.aload_n 3, 1) := by decide +kernel
theorem dX9_raise_67 : decode cX9_raise 67 = .ok (.invokevirtual 109, 3) := by decide +kernel
theorem dX9_raise_70 : decode cX9_raise 70 = .ok (.iconst 0, 1) := by decide +kernel
theorem dX9_raise_71 : decode cX9_raise 71 = .ok (.ireturn, 1) := by decide +kernel
theorem dX9_close_0 : decode cX9_close 0 = .ok (.aload_n 0, 1) := by decide +kernel
theorem dX9_close_1 : decode cX9_close 1 = .ok (.iload_n 1, 1) := by decide +kernel
theorem dX9_close_2 : decode cX9_close 2 = .ok (.invokevirtual 74, 3) := by decide +kernel
theorem dX9_close_5 : decode cX9_close 5 = .ok (.astore_n 2, 1) := by decide +kernel
theorem dX9_close_6 : decode cX9_close 6 = .ok (.aload_n 2, 1) := by decide +kernel
theorem dX9_close_7 : decode cX9_close 7 = .ok (.ifnonnull 5, 3) := by decide +kernel
theorem dX9_close_10 : decode cX9_close 10 = .ok (.iconst (-1), 1) := by decide +kernel
theorem dX9_close_11 : decode cX9_close 11 = .ok (.ireturn, 1) := by decide +kernel
theorem dX9_close_12 : decode cX9_close 12 = .ok (.aload_n 2, 1) := by decide +kernel
theorem dX9_close_13 : decode cX9_close 13 = .ok (.getfield 78, 3) := by decide +kernel
theorem dX9_close_16 : decode cX9_close 16 = .ok (.iconst 2, 1) := by decide +kernel
theorem dX9_close_17 : decode cX9_close 17 = .ok (.if_icmp .ne 6, 3) := by decide +kernel
theorem dX9_close_20 : decode cX9_close 20 = .ok (.bipush (-3), 2) := by decide +kernel
theorem dX9_close_22 : decode cX9_close 22 = .ok (.ireturn, 1) := by decide +kernel
theorem dX9_close_23 : decode cX9_close 23 = .ok (.aload_n 0, 1) := by decide +kernel
theorem dX9_close_24 : decode cX9_close 24 = .ok (.getfield 18, 3) := by decide +kernel
theorem dX9_close_27 : decode cX9_close 27 = .ok (.aload_n 2, 1) := by decide +kernel
theorem dX9_close_28 : decode cX9_close 28 = .ok (.getfield 61, 3) := by decide +kernel
theorem dX9_close_31 : decode cX9_close 31 = .ok (.invokevirtual 129, 3) := by decide +kernel
theorem dX9_close_34 : decode cX9_close 34 = .ok (.aload_n 0, 1) := by decide +kernel
theorem dX9_close_35 : decode cX9_close 35 = .ok (.getfield 18, 3) := by decide +kernel
theorem dX9_close_38 : decode cX9_close 38 = .ok (.aload_n 2, 1) := by decide +kernel
theorem dX9_close_39 : decode cX9_close 39 = .ok (.getfield 133, 3) := by decide +kernel
theorem dX9_close_42 : decode cX9_close 42 = .ok (.invokevirtual 129, 3) := by decide +kernel
theorem dX9_close_45 : decode cX9_close 45 = .ok (.aload_n 0, 1) := by decide +kernel
theorem dX9_close_46 : decode cX9_close 46 = .ok (.getfield 24, 3) := by decide +kernel
theorem dX9_close_49 : decode cX9_close 49 = .ok (.iload_n 1, 1) := by decide +kernel
theorem dX9_close_50 : decode cX9_close 50 = .ok (.aconst_null, 1) := by decide +kernel
theorem dX9_close_51 : decode cX9_close 51 = .ok (.aastore, 1) := by decide +kernel
theorem dX9_close_52 : decode cX9_close 52 = .ok (.iconst 0, 1) := by decide +kernel
theorem dX9_close_53 : decode cX9_close 53 = .ok (.ireturn, 1) := by decide +kernel
theorem dX9_pack_0 : decode cX9_pack 0 = .ok (.aload_n 0, 1) := by decide +kernel
theorem dX9_pack_1 : decode cX9_pack 1 = .ok (.getfield 18, 3) := by decide +kernel
theorem dX9_pack_4 : decode cX9_pack 4 = .ok (.invokevirtual 136, 3) := by decide +kernel
theorem dX9_pack_7 : decode cX9_pack 7 = .ok (.ireturn, 1) := by decide +kernel
theorem dX9_word_0 : decode cX9_word 0 = .ok (.aload_n 0, 1) := by decide +kernel
theorem dX9_word_1 : decode cX9_word 1 = .ok (.getfield 18, 3) := by decide +kernel
theorem dX9_word_4 : decode cX9_word 4 = .ok (.iload_n 1, 1) := by decide +kernel
theorem dX9_word_5 : decode cX9_word 5 = .ok (.invokevirtual 119, 3) := by decide +kernel
theorem dX9_word_8 : decode cX9_word 8 = .ok (.ireturn, 1) := by decide +kernel
theorem dX9_job_0 : decode cX9_job 0 = .ok (.aload_n 0, 1) := by decide +kernel
theorem dX9_job_1 : decode cX9_job 1 = .ok (.iload_n 1, 1) := by decide +kernel
theorem dX9_job_2 : decode cX9_job 2 = .ok (.invokevirtual 74, 3) := by decide +kernel
theorem dX9_job_5 : decode cX9_job 5 = .ok (.astore_n 3, 1) := by decide +kernel
theorem dX9_job_6 : decode cX9_job 6 = .ok (.aload_n 3, 1) := by decide +kernel
theorem dX9_job_7 : decode cX9_job 7 = .ok (.ifnonnull 5, 3) := by decide +kernel
theorem dX9_job_10 : decode cX9_job 10 = .ok (.iconst (-1), 1) := by decide +kernel
theorem dX9_job_11 : decode cX9_job 11 = .ok (.ireturn, 1) := by decide +kernel
theorem dX9_job_12 : decode cX9_job 12 = .ok (.iload_n 2, 1) := by decide +kernel
theorem dX9_job_13 : decode cX9_job 13 = .ok (.tableswitch 109 0 8 #[51, 59, 64, 69, 74, 82, 90, 99, 104], 51) := by decide +kernel
theorem dX9_job_64 : decode cX9_job 64 = .ok (.aload_n 3, 1) := by decide +kernel
theorem dX9_job_65 : decode cX9_job 65 = .ok (.getfield 61, 3) := by decide +kernel
theorem dX9_job_68 : decode cX9_job 68 = .ok (.getfield 139, 3) := by decide +kernel
theorem dX9_job_71 : decode cX9_job 71 = .ok (.ireturn, 1) := by decide +kernel
theorem dX9_job_72 : decode cX9_job 72 = .ok (.aload_n 3, 1) := by decide +kernel
theorem dX9_job_73 : decode cX9_job 73 = .ok (.getfield 142, 3) := by decide +kernel
theorem dX9_job_76 : decode cX9_job 76 = .ok (.ireturn, 1) := by decide +kernel
theorem dX9_job_77 : decode cX9_job 77 = .ok (.aload_n 3, 1) := by decide +kernel
theorem dX9_job_78 : decode cX9_job 78 = .ok (.getfield 126, 3) := by decide +kernel
theorem dX9_job_81 : decode cX9_job 81 = .ok (.ireturn, 1) := by decide +kernel
theorem dX9_job_82 : decode cX9_job 82 = .ok (.aload_n 3, 1) := by decide +kernel
theorem dX9_job_83 : decode cX9_job 83 = .ok (.getfield 145, 3) := by decide +kernel
theorem dX9_job_86 : decode cX9_job 86 = .ok (.ireturn, 1) := by decide +kernel
theorem dX9_job_87 : decode cX9_job 87 = .ok (.aload_n 3, 1) := by decide +kernel
theorem dX9_job_88 : decode cX9_job 88 = .ok (.getfield 61, 3) := by decide +kernel
theorem dX9_job_91 : decode cX9_job 91 = .ok (.getfield 65, 3) := by decide +kernel
theorem dX9_job_94 : decode cX9_job 94 = .ok (.ireturn, 1) := by decide +kernel
theorem dX9_job_95 : decode cX9_job 95 = .ok (.aload_n 3, 1) := by decide +kernel
theorem dX9_job_96 : decode cX9_job 96 = .ok (.getfield 133, 3) := by decide +kernel
theorem dX9_job_99 : decode cX9_job 99 = .ok (.getfield 65, 3) := by decide +kernel
theorem dX9_job_102 : decode cX9_job 102 = .ok (.ireturn, 1) := by decide +kernel
theorem dX9_job_103 : decode cX9_job 103 = .ok (.aload_n 0, 1) := by decide +kernel
theorem dX9_job_104 : decode cX9_job 104 = .ok (.getfield 31, 3) := by decide +kernel
theorem dX9_job_107 : decode cX9_job 107 = .ok (.aload_n 3, 1) := by decide +kernel
theorem dX9_job_108 : decode cX9_job 108 = .ok (.invokevirtual 148, 3) := by decide +kernel
theorem dX9_job_111 : decode cX9_job 111 = .ok (.ireturn, 1) := by decide +kernel
theorem dX9_job_112 : decode cX9_job 112 = .ok (.aload_n 3, 1) := by decide +kernel
theorem dX9_job_113 : decode cX9_job 113 = .ok (.getfield 93, 3) := by decide +kernel
theorem dX9_job_116 : decode cX9_job 116 = .ok (.ireturn, 1) := by decide +kernel
theorem dX9_job_117 : decode cX9_job 117 = .ok (.aload_n 3, 1) := by decide +kernel
theorem dX9_job_118 : decode cX9_job 118 = .ok (.getfield 152, 3) := by decide +kernel
theorem dX9_job_121 : decode cX9_job 121 = .ok (.ireturn, 1) := by decide +kernel
theorem dX9_job_122 : decode cX9_job 122 = .ok (.iconst (-1), 1) := by decide +kernel
theorem dX9_job_123 : decode cX9_job 123 = .ok (.ireturn, 1) := by decide +kernel
theorem dX9_count_0 : decode cX9_count 0 = .ok (.iload_n 1, 1) := by decide +kernel
theorem dX9_count_1 : decode cX9_count 1 = .ok (.tableswitch 112 0 8 #[51, 59, 67, 75, 80, 85, 93, 98, 107], 51) := by decide +kernel
theorem dX9_count_52 : decode cX9_count 52 = .ok (.aload_n 0, 1) := by decide +kernel
theorem dX9_count_53 : decode cX9_count 53 = .ok (.getfield 18, 3) := by decide +kernel
theorem dX9_count_56 : decode cX9_count 56 = .ok (.invokevirtual 155, 3) := by decide +kernel
theorem dX9_count_59 : decode cX9_count 59 = .ok (.ireturn, 1) := by decide +kernel
theorem dX9_count_60 : decode cX9_count 60 = .ok (.aload_n 0, 1) := by decide +kernel
theorem dX9_count_61 : decode cX9_count 61 = .ok (.getfield 18, 3) := by decide +kernel
theorem dX9_count_64 : decode cX9_count 64 = .ok (.invokevirtual 158, 3) := by decide +kernel
theorem dX9_count_67 : decode cX9_count 67 = .ok (.ireturn, 1) := by decide +kernel
theorem dX9_count_68 : decode cX9_count 68 = .ok (.aload_n 0, 1) := by decide +kernel
theorem dX9_count_69 : decode cX9_count 69 = .ok (.getfield 18, 3) := by decide +kernel
theorem dX9_count_72 : decode cX9_count 72 = .ok (.invokevirtual 161, 3) := by decide +kernel
theorem dX9_count_75 : decode cX9_count 75 = .ok (.ireturn, 1) := by decide +kernel
theorem dX9_count_76 : decode cX9_count 76 = .ok (.aload_n 0, 1) := by decide +kernel
theorem dX9_count_77 : decode cX9_count 77 = .ok (.getfield 90, 3) := by decide +kernel
theorem dX9_count_80 : decode cX9_count 80 = .ok (.ireturn, 1) := by decide +kernel
theorem dX9_count_81 : decode cX9_count 81 = .ok (.aload_n 0, 1) := by decide +kernel
theorem dX9_count_82 : decode cX9_count 82 = .ok (.invokevirtual 164, 3) := by decide +kernel
theorem dX9_count_85 : decode cX9_count 85 = .ok (.ireturn, 1) := by decide +kernel
theorem dX9_count_86 : decode cX9_count 86 = .ok (.aload_n 0, 1) := by decide +kernel
theorem dX9_count_87 : decode cX9_count 87 = .ok (.getfield 31, 3) := by decide +kernel
theorem dX9_count_90 : decode cX9_count 90 = .ok (.invokevirtual 167, 3) := by decide +kernel
theorem dX9_count_93 : decode cX9_count 93 = .ok (.ireturn, 1) := by decide +kernel
theorem dX9_count_94 : decode cX9_count 94 = .ok (.aload_n 0, 1) := by decide +kernel
theorem dX9_count_95 : decode cX9_count 95 = .ok (.getfield 170, 3) := by decide +kernel
theorem dX9_count_98 : decode cX9_count 98 = .ok (.ireturn, 1) := by decide +kernel
theorem dX9_count_99 : decode cX9_count 99 = .ok (.aload_n 0, 1) := by decide +kernel
theorem dX9_count_100 : decode cX9_count 100 = .ok (.getfield 18, 3) := by decide +kernel
theorem dX9_count_103 : decode cX9_count 103 = .ok (.getfield 171, 3) := by decide +kernel
theorem dX9_count_106 : decode cX9_count 106 = .ok (.arraylength, 1) := by decide +kernel
theorem dX9_count_107 : decode cX9_count 107 = .ok (.ireturn, 1) := by decide +kernel
theorem dX9_count_108 : decode cX9_count 108 = .ok (.aload_n 0, 1) := by decide +kernel
theorem dX9_count_109 : decode cX9_count 109 = .ok (.getfield 35, 3) := by decide +kernel
theorem dX9_count_112 : decode cX9_count 112 = .ok (.ireturn, 1) := by decide +kernel
theorem dX9_count_113 : decode cX9_count 113 = .ok (.iconst (-1), 1) := by decide +kernel
theorem dX9_count_114 : decode cX9_count 114 = .ok (.ireturn, 1) := by decide +kernel
theorem dX9_nearest_0 : decode cX9_nearest 0 = .ok (.iload_n 1, 1) := by decide +kernel
theorem dX9_nearest_1 : decode cX9_nearest 1 = .ok (.iload_n 2, 1) := by decide +kernel
theorem dX9_nearest_2 : decode cX9_nearest 2 = .ok (.iload_n 0, 1) := by decide +kernel
theorem dX9_nearest_3 : decode cX9_nearest 3 = .ok (.invokestatic 175, 3) := by decide +kernel
theorem dX9_nearest_6 : decode cX9_nearest 6 = .ok (.invokestatic 181, 3) := by decide +kernel
theorem dX9_nearest_9 : decode cX9_nearest 9 = .ok (.ireturn, 1) := by decide +kernel
theorem dX9_isBetween_0 : decode cX9_isBetween 0 = .ok (.iload_n 0, 1) := by decide +kernel
theorem dX9_isBetween_1 : decode cX9_isBetween 1 = .ok (.iload_n 1, 1) := by decide +kernel
theorem dX9_isBetween_2 : decode cX9_isBetween 2 = .ok (.if_icmp .lt 12, 3) := by decide +kernel
theorem dX9_isBetween_5 : decode cX9_isBetween 5 = .ok (.iload_n 0, 1) := by decide +kernel
theorem dX9_isBetween_6 : decode cX9_isBetween 6 = .ok (.iload_n 2, 1) := by decide +kernel
theorem dX9_isBetween_7 : decode cX9_isBetween 7 = .ok (.if_icmp .gt 7, 3) := by decide +kernel
theorem dX9_isBetween_10 : decode cX9_isBetween 10 = .ok (.iconst 1, 1) := by decide +kernel
theorem dX9_isBetween_11 : decode cX9_isBetween 11 = .ok (.goto 4, 3) := by decide +kernel
theorem dX9_isBetween_14 : decode cX9_isBetween 14 = .ok (.iconst 0, 1) := by decide +kernel
theorem dX9_isBetween_15 : decode cX9_isBetween 15 = .ok (.ireturn, 1) := by decide +kernel
theorem dX9_isCount_0 : decode cX9_isCount 0 = .ok (.iload_n 0, 1) := by decide +kernel
theorem dX9_isCount_1 : decode cX9_isCount 1 = .ok (.iconst 0, 1) := by decide +kernel
theorem dX9_isCount_2 : decode cX9_isCount 2 = .ok (.sipush 1000, 3) := by decide +kernel
theorem dX9_isCount_5 : decode cX9_isCount 5 = .ok (.invokestatic 43, 3) := by decide +kernel
theorem dX9_isCount_8 : decode cX9_isCount 8 = .ok (.ireturn, 1) := by decide +kernel
theorem dX9_isPriority_0 : decode cX9_isPriority 0 = .ok (.iload_n 0, 1) := by decide +kernel
theorem dX9_isPriority_1 : decode cX9_isPriority 1 = .ok (.iconst 0, 1) := by decide +kernel
theorem dX9_isPriority_2 : decode cX9_isPriority 2 = .ok (.iconst 3, 1) := by decide +kernel
theorem dX9_isPriority_3 : decode cX9_isPriority 3 = .ok (.invokestatic 43, 3) := by decide +kernel
theorem dX9_isPriority_6 : decode cX9_isPriority 6 = .ok (.ireturn, 1) := by decide +kernel
theorem dX9_find_0 : decode cX9_find 0 = .ok (.iload_n 1, 1) := by decide +kernel
theorem dX9_find_1 : decode cX9_find 1 = .ok (.ifCond .lt 21, 3) := by decide +kernel
theorem dX9_find_4 : decode cX9_find 4 = .ok (.iload_n 1, 1) := by decide +kernel
theorem dX9_find_5 : decode cX9_find 5 = .ok (.aload_n 0, 1) := by decide +kernel
theorem dX9_find_6 : decode cX9_find 6 = .ok (.getfield 24, 3) := by decide +kernel
theorem dX9_find_9 : decode cX9_find 9 = .ok (.arraylength, 1) := by decide +kernel
theorem dX9_find_10 : decode cX9_find 10 = .ok (.if_icmp .ge 12, 3) := by decide +kernel
theorem dX9_find_13 : decode cX9_find 13 = .ok (.aload_n 0, 1) := by decide +kernel
theorem dX9_find_14 : decode cX9_find 14 = .ok (.getfield 24, 3) := by decide +kernel
theorem dX9_find_17 : decode cX9_find 17 = .ok (.iload_n 1, 1) := by decide +kernel
theorem dX9_find_18 : decode cX9_find 18 = .ok (.aaload, 1) := by decide +kernel
theorem dX9_find_19 : decode cX9_find 19 = .ok (.goto 4, 3) := by decide +kernel
theorem dX9_find_22 : decode cX9_find 22 = .ok (.aconst_null, 1) := by decide +kernel
theorem dX9_find_23 : decode cX9_find 23 = .ok (.areturn, 1) := by decide +kernel
theorem dX9_leastFreeNumber_0 : decode cX9_leastFreeNumber 0 = .ok (.iconst 0, 1) := by decide +kernel
theorem dX9_leastFreeNumber_1 : decode cX9_leastFreeNumber 1 = .ok (.istore_n 1, 1) := by decide +kernel
theorem dX9_leastFreeNumber_2 : decode cX9_leastFreeNumber 2 = .ok (.iload_n 1, 1) := by decide +kernel
theorem dX9_leastFreeNumber_3 : decode cX9_leastFreeNumber 3 = .ok (.aload_n 0, 1) := by decide +kernel
theorem dX9_leastFreeNumber_4 : decode cX9_leastFreeNumber 4 = .ok (.getfield 24, 3) := by decide +kernel
theorem dX9_leastFreeNumber_7 : decode cX9_leastFreeNumber 7 = .ok (.arraylength, 1) := by decide +kernel
theorem dX9_leastFreeNumber_8 : decode cX9_leastFreeNumber 8 = .ok (.if_icmp .ge 20, 3) := by decide +kernel
theorem dX9_leastFreeNumber_11 : decode cX9_leastFreeNumber 11 = .ok (.aload_n 0, 1) := by decide +kernel
theorem dX9_leastFreeNumber_12 : decode cX9_leastFreeNumber 12 = .ok (.getfield 24, 3) := by decide +kernel
theorem dX9_leastFreeNumber_15 : decode cX9_leastFreeNumber 15 = .ok (.iload_n 1, 1) := by decide +kernel
theorem dX9_leastFreeNumber_16 : decode cX9_leastFreeNumber 16 = .ok (.aaload, 1) := by decide +kernel
theorem dX9_leastFreeNumber_17 : decode cX9_leastFreeNumber 17 = .ok (.ifnonnull 5, 3) := by decide +kernel
theorem dX9_leastFreeNumber_20 : decode cX9_leastFreeNumber 20 = .ok (.iload_n 1, 1) := by decide +kernel
theorem dX9_leastFreeNumber_21 : decode cX9_leastFreeNumber 21 = .ok (.ireturn, 1) := by decide +kernel
theorem dX9_leastFreeNumber_22 : decode cX9_leastFreeNumber 22 = .ok (.iinc 1 1, 3) := by decide +kernel
theorem dX9_leastFreeNumber_25 : decode cX9_leastFreeNumber 25 = .ok (.goto (-23), 3) := by decide +kernel
theorem dX9_leastFreeNumber_28 : decode cX9_leastFreeNumber 28 = .ok (.iconst (-1), 1) := by decide +kernel
theorem dX9_leastFreeNumber_29 : decode cX9_leastFreeNumber 29 = .ok (.ireturn, 1) := by decide +kernel
theorem dX9_countJobs_0 : decode cX9_countJobs 0 = .ok (.iconst 0, 1) := by decide +kernel
theorem dX9_countJobs_1 : decode cX9_countJobs 1 = .ok (.istore_n 1, 1) := by decide +kernel
theorem dX9_countJobs_2 : decode cX9_countJobs 2 = .ok (.iconst 0, 1) := by decide +kernel
theorem dX9_countJobs_3 : decode cX9_countJobs 3 = .ok (.istore_n 2, 1) := by decide +kernel
theorem dX9_countJobs_4 : decode cX9_countJobs 4 = .ok (.iload_n 2, 1) := by decide +kernel
theorem dX9_countJobs_5 : decode cX9_countJobs 5 = .ok (.aload_n 0, 1) := by decide +kernel
theorem dX9_countJobs_6 : decode cX9_countJobs 6 = .ok (.getfield 24, 3) := by decide +kernel
theorem dX9_countJobs_9 : decode cX9_countJobs 9 = .ok (.arraylength, 1) := by decide +kernel
theorem dX9_countJobs_10 : decode cX9_countJobs 10 = .ok (.if_icmp .ge 21, 3) := by decide +kernel
theorem dX9_countJobs_13 : decode cX9_countJobs 13 = .ok (.aload_n 0, 1) := by decide +kernel
theorem dX9_countJobs_14 : decode cX9_countJobs 14 = .ok (.getfield 24, 3) := by decide +kernel
theorem dX9_countJobs_17 : decode cX9_countJobs 17 = .ok (.iload_n 2, 1) := by decide +kernel
theorem dX9_countJobs_18 : decode cX9_countJobs 18 = .ok (.aaload, 1) := by decide +kernel
theorem dX9_countJobs_19 : decode cX9_countJobs 19 = .ok (.ifnull 6, 3) := by decide +kernel
theorem dX9_countJobs_22 : decode cX9_countJobs 22 = .ok (.iinc 1 1, 3) := by decide +kernel
theorem dX9_countJobs_25 : decode cX9_countJobs 25 = .ok (.iinc 2 1, 3) := by decide +kernel
theorem dX9_countJobs_28 : decode cX9_countJobs 28 = .ok (.goto (-24), 3) := by decide +kernel
theorem dX9_countJobs_31 : decode cX9_countJobs 31 = .ok (.iload_n 1, 1) := by decide +kernel
theorem dX9_countJobs_32 : decode cX9_countJobs 32 = .ok (.ireturn, 1) := by decide +kernel
theorem dX9_bufferSize_0 : decode cX9_bufferSize 0 = .ok (.iload_n 0, 1) := by decide +kernel
theorem dX9_bufferSize_1 : decode cX9_bufferSize 1 = .ok (.iconst 2, 1) := by decide +kernel
theorem dX9_bufferSize_2 : decode cX9_bufferSize 2 = .ok (.if_icmp .ne 5, 3) := by decide +kernel
theorem dX9_bufferSize_5 : decode cX9_bufferSize 5 = .ok (.iload_n 1, 1) := by decide +kernel
theorem dX9_bufferSize_6 : decode cX9_bufferSize 6 = .ok (.ireturn, 1) := by decide +kernel
theorem dX9_bufferSize_7 : decode cX9_bufferSize 7 = .ok (.iload_n 0, 1) := by decide +kernel
theorem dX9_bufferSize_8 : decode cX9_bufferSize 8 = .ok (.iconst 4, 1) := by decide +kernel
theorem dX9_bufferSize_9 : decode cX9_bufferSize 9 = .ok (.if_icmp .ne 8, 3) := by decide +kernel
theorem dX9_bufferSize_12 : decode cX9_bufferSize 12 = .ok (.bipush 24, 2) := by decide +kernel
theorem dX9_bufferSize_14 : decode cX9_bufferSize 14 = .ok (.goto 4, 3) := by decide +kernel
theorem dX9_bufferSize_17 : decode cX9_bufferSize 17 = .ok (.iconst 0, 1) := by decide +kernel
theorem dX9_bufferSize_18 : decode cX9_bufferSize 18 = .ok (.ireturn, 1) := by decide +kernel
theorem dX9_takeCellsAndBuffer_0 : decode cX9_takeCellsAndBuffer 0 = .ok (.aload_n 0, 1) := by decide +kernel
theorem dX9_takeCellsAndBuffer_1 : decode cX9_takeCellsAndBuffer 1 = .ok (.getfield 18, 3) := by decide +kernel
theorem dX9_takeCellsAndBuffer_4 : decode cX9_takeCellsAndBuffer 4 = .ok (.aload_n 1, 1) := by decide +kernel
theorem dX9_takeCellsAndBuffer_5 : decode cX9_takeCellsAndBuffer 5 = .ok (.getfield 61, 3) := by decide +kernel
theorem dX9_takeCellsAndBuffer_8 : decode cX9_takeCellsAndBuffer 8 = .ok (.iload_n 2, 1) := by decide +kernel
theorem dX9_takeCellsAndBuffer_9 : decode cX9_takeCellsAndBuffer 9 = .ok (.invokevirtual 184, 3) := by decide +kernel
theorem dX9_takeCellsAndBuffer_12 : decode cX9_takeCellsAndBuffer 12 = .ok (.ifCond .ne 5, 3) := by decide +kernel
theorem dX9_takeCellsAndBuffer_15 : decode cX9_takeCellsAndBuffer 15 = .ok (.iconst 0, 1) := by decide +kernel
theorem dX9_takeCellsAndBuffer_16 : decode cX9_takeCellsAndBuffer 16 = .ok (.ireturn, 1) := by decide +kernel
theorem dX9_takeCellsAndBuffer_17 : decode cX9_takeCellsAndBuffer 17 = .ok (.aload_n 0, 1) := by decide +kernel
theorem dX9_takeCellsAndBuffer_18 : decode cX9_takeCellsAndBuffer 18 = .ok (.getfield 18, 3) := by decide +kernel
theorem dX9_takeCellsAndBuffer_21 : decode cX9_takeCellsAndBuffer 21 = .ok (.aload_n 1, 1) := by decide +kernel
theorem dX9_takeCellsAndBuffer_22 : decode cX9_takeCellsAndBuffer 22 = .ok (.getfield 133, 3) := by decide +kernel
theorem dX9_takeCellsAndBuffer_25 : decode cX9_takeCellsAndBuffer 25 = .ok (.aload_n 1, 1) := by decide +kernel
theorem dX9_takeCellsAndBuffer_26 : decode cX9_takeCellsAndBuffer 26 = .ok (.getfield 142, 3) := by decide +kernel
theorem dX9_takeCellsAndBuffer_29 : decode cX9_takeCellsAndBuffer 29 = .ok (.iload_n 2, 1) := by decide +kernel
theorem dX9_takeCellsAndBuffer_30 : decode cX9_takeCellsAndBuffer 30 = .ok (.invokestatic 188, 3) := by decide +kernel
theorem dX9_takeCellsAndBuffer_33 : decode cX9_takeCellsAndBuffer 33 = .ok (.invokevirtual 184, 3) := by decide +kernel
theorem dX9_takeCellsAndBuffer_36 : decode cX9_takeCellsAndBuffer 36 = .ok (.ifCond .ne 16, 3) := by decide +kernel
theorem dX9_takeCellsAndBuffer_39 : decode cX9_takeCellsAndBuffer 39 = .ok (.aload_n 0, 1) := by decide +kernel
theorem dX9_takeCellsAndBuffer_40 : decode cX9_takeCellsAndBuffer 40 = .ok (.getfield 18, 3) := by decide +kernel
theorem dX9_takeCellsAndBuffer_43 : decode cX9_takeCellsAndBuffer 43 = .ok (.aload_n 1, 1) := by decide +kernel
theorem dX9_takeCellsAndBuffer_44 : decode cX9_takeCellsAndBuffer 44 = .ok (.getfield 61, 3) := by decide +kernel
theorem dX9_takeCellsAndBuffer_47 : decode cX9_takeCellsAndBuffer 47 = .ok (.invokevirtual 129, 3) := by decide +kernel
theorem dX9_takeCellsAndBuffer_50 : decode cX9_takeCellsAndBuffer 50 = .ok (.iconst 0, 1) := by decide +kernel
theorem dX9_takeCellsAndBuffer_51 : decode cX9_takeCellsAndBuffer 51 = .ok (.ireturn, 1) := by decide +kernel
theorem dX9_takeCellsAndBuffer_52 : decode cX9_takeCellsAndBuffer 52 = .ok (.iconst 1, 1) := by decide +kernel
theorem dX9_takeCellsAndBuffer_53 : decode cX9_takeCellsAndBuffer 53 = .ok (.ireturn, 1) := by decide +kernel
theorem dX9_exchangeBlocks_0 : decode cX9_exchangeBlocks 0 = .ok (.aload_n 1, 1) := by decide +kernel
theorem dX9_exchangeBlocks_1 : decode cX9_exchangeBlocks 1 = .ok (.getfield 142, 3) := by decide +kernel
theorem dX9_exchangeBlocks_4 : decode cX9_exchangeBlocks 4 = .ok (.iconst 2, 1) := by decide +kernel
theorem dX9_exchangeBlocks_5 : decode cX9_exchangeBlocks 5 = .ok (.if_icmp .ne 7, 3) := by decide +kernel
theorem dX9_exchangeBlocks_8 : decode cX9_exchangeBlocks 8 = .ok (.iconst 1, 1) := by decide +kernel
theorem dX9_exchangeBlocks_9 : decode cX9_exchangeBlocks 9 = .ok (.goto 4, 3) := by decide +kernel
theorem dX9_exchangeBlocks_12 : decode cX9_exchangeBlocks 12 = .ok (.iconst 0, 1) := by decide +kernel
theorem dX9_exchangeBlocks_13 : decode cX9_exchangeBlocks 13 = .ok (.istore_n 3, 1) := by decide +kernel
theorem dX9_exchangeBlocks_14 : decode cX9_exchangeBlocks 14 = .ok (.aload_n 1, 1) := by decide +kernel
theorem dX9_exchangeBlocks_15 : decode cX9_exchangeBlocks 15 = .ok (.getfield 61, 3) := by decide +kernel
theorem dX9_exchangeBlocks_18 : decode cX9_exchangeBlocks 18 = .ok (.getfield 65, 3) := by decide +kernel
theorem dX9_exchangeBlocks_21 : decode cX9_exchangeBlocks 21 = .ok (.istore 4, 2) := by decide +kernel
theorem dX9_exchangeBlocks_23 : decode cX9_exchangeBlocks 23 = .ok (.aload_n 1, 1) := by decide +kernel
theorem dX9_exchangeBlocks_24 : decode cX9_exchangeBlocks 24 = .ok (.getfield 133, 3) := by decide +kernel
theorem dX9_exchangeBlocks_27 : decode cX9_exchangeBlocks 27 = .ok (.getfield 65, 3) := by decide +kernel
theorem dX9_exchangeBlocks_30 : decode cX9_exchangeBlocks 30 = .ok (.istore 5, 2) := by decide +kernel
theorem dX9_exchangeBlocks_32 : decode cX9_exchangeBlocks 32 = .ok (.aload_n 1, 1) := by decide +kernel
theorem dX9_exchangeBlocks_33 : decode cX9_exchangeBlocks 33 = .ok (.getfield 61, 3) := by decide +kernel
theorem dX9_exchangeBlocks_36 : decode cX9_exchangeBlocks 36 = .ok (.getfield 139, 3) := by decide +kernel
theorem dX9_exchangeBlocks_39 : decode cX9_exchangeBlocks 39 = .ok (.istore 6, 2) := by decide +kernel
theorem dX9_exchangeBlocks_41 : decode cX9_exchangeBlocks 41 = .ok (.aload_n 0, 1) := by decide +kernel
theorem dX9_exchangeBlocks_42 : decode cX9_exchangeBlocks 42 = .ok (.getfield 18, 3) := by decide +kernel
theorem dX9_exchangeBlocks_45 : decode cX9_exchangeBlocks 45 = .ok (.aload_n 1, 1) := by decide +kernel
theorem dX9_exchangeBlocks_46 : decode cX9_exchangeBlocks 46 = .ok (.getfield 61, 3) := by decide +kernel
theorem dX9_exchangeBlocks_49 : decode cX9_exchangeBlocks 49 = .ok (.invokevirtual 129, 3) := by decide +kernel
theorem dX9_exchangeBlocks_52 : decode cX9_exchangeBlocks 52 = .ok (.iload_n 3, 1) := by decide +kernel
theorem dX9_exchangeBlocks_53 : decode cX9_exchangeBlocks 53 = .ok (.ifCond .eq 14, 3) := by decide +kernel
theorem dX9_exchangeBlocks_56 : decode cX9_exchangeBlocks 56 = .ok (.aload_n 0, 1) := by decide +kernel
theorem dX9_exchangeBlocks_57 : decode cX9_exchangeBlocks 57 = .ok (.getfield 18, 3) := by decide +kernel
theorem dX9_exchangeBlocks_60 : decode cX9_exchangeBlocks 60 = .ok (.aload_n 1, 1) := by decide +kernel
theorem dX9_exchangeBlocks_61 : decode cX9_exchangeBlocks 61 = .ok (.getfield 133, 3) := by decide +kernel
theorem dX9_exchangeBlocks_64 : decode cX9_exchangeBlocks 64 = .ok (.invokevirtual 129, 3) := by decide +kernel
theorem dX9_exchangeBlocks_67 : decode cX9_exchangeBlocks 67 = .ok (.iload_n 3, 1) := by decide +kernel
theorem dX9_exchangeBlocks_68 : decode cX9_exchangeBlocks 68 = .ok (.ifCond .eq 12, 3) := by decide +kernel
theorem dX9_exchangeBlocks_71 : decode cX9_exchangeBlocks 71 = .ok (.aload_n 0, 1) := by decide +kernel
theorem dX9_exchangeBlocks_72 : decode cX9_exchangeBlocks 72 = .ok (.aload_n 1, 1) := by decide +kernel
theorem dX9_exchangeBlocks_73 : decode cX9_exchangeBlocks 73 = .ok (.iload_n 2, 1) := by decide +kernel
theorem dX9_exchangeBlocks_74 : decode cX9_exchangeBlocks 74 = .ok (.invokevirtual 57, 3) := by decide +kernel
theorem dX9_exchangeBlocks_77 : decode cX9_exchangeBlocks 77 = .ok (.goto 15, 3) := by decide +kernel
theorem dX9_exchangeBlocks_80 : decode cX9_exchangeBlocks 80 = .ok (.aload_n 0, 1) := by decide +kernel
theorem dX9_exchangeBlocks_81 : decode cX9_exchangeBlocks 81 = .ok (.getfield 18, 3) := by decide +kernel
theorem dX9_exchangeBlocks_84 : decode cX9_exchangeBlocks 84 = .ok (.aload_n 1, 1) := by decide +kernel
theorem dX9_exchangeBlocks_85 : decode cX9_exchangeBlocks 85 = .ok (.getfield 61, 3) := by decide +kernel
theorem dX9_exchangeBlocks_88 : decode cX9_exchangeBlocks 88 = .ok (.iload_n 2, 1) := by decide +kernel
theorem dX9_exchangeBlocks_89 : decode cX9_exchangeBlocks 89 = .ok (.invokevirtual 184, 3) := by decide +kernel
theorem dX9_exchangeBlocks_92 : decode cX9_exchangeBlocks 92 = .ok (.istore 7, 2) := by decide +kernel
theorem dX9_exchangeBlocks_94 : decode cX9_exchangeBlocks 94 = .ok (.iload 7, 2) := by decide +kernel
theorem dX9_exchangeBlocks_96 : decode cX9_exchangeBlocks 96 = .ok (.ifCond .ne 39, 3) := by decide +kernel
theorem dX9_exchangeBlocks_99 : decode cX9_exchangeBlocks 99 = .ok (.aload_n 0, 1) := by decide +kernel
theorem dX9_exchangeBlocks_100 : decode cX9_exchangeBlocks 100 = .ok (.getfield 18, 3) := by decide +kernel
theorem dX9_exchangeBlocks_103 : decode cX9_exchangeBlocks 103 = .ok (.aload_n 1, 1) := by decide +kernel
theorem dX9_exchangeBlocks_104 : decode cX9_exchangeBlocks 104 = .ok (.getfield 61, 3) := by decide +kernel
theorem dX9_exchangeBlocks_107 : decode cX9_exchangeBlocks 107 = .ok (.iload 4, 2) := by decide +kernel
theorem dX9_exchangeBlocks_109 : decode cX9_exchangeBlocks 109 = .ok (.iload 6, 2) := by decide +kernel
theorem dX9_exchangeBlocks_111 : decode cX9_exchangeBlocks 111 = .ok (.invokevirtual 191, 3) := by decide +kernel
theorem dX9_exchangeBlocks_114 : decode cX9_exchangeBlocks 114 = .ok (.iload_n 3, 1) := by decide +kernel
theorem dX9_exchangeBlocks_115 : decode cX9_exchangeBlocks 115 = .ok (.ifCond .eq 18, 3) := by decide +kernel
theorem dX9_exchangeBlocks_118 : decode cX9_exchangeBlocks 118 = .ok (.aload_n 0, 1) := by decide +kernel
theorem dX9_exchangeBlocks_119 : decode cX9_exchangeBlocks 119 = .ok (.getfield 18, 3) := by decide +kernel
theorem dX9_exchangeBlocks_122 : decode cX9_exchangeBlocks 122 = .ok (.aload_n 1, 1) := by decide +kernel
theorem dX9_exchangeBlocks_123 : decode cX9_exchangeBlocks 123 = .ok (.getfield 133, 3) := by decide +kernel
theorem dX9_exchangeBlocks_126 : decode cX9_exchangeBlocks 126 = .ok (.iload 5, 2) := by decide +kernel
theorem dX9_exchangeBlocks_128 : decode cX9_exchangeBlocks 128 = .ok (.iload 6, 2) := by decide +kernel
theorem dX9_exchangeBlocks_130 : decode cX9_exchangeBlocks 130 = .ok (.invokevirtual 191, 3) := by decide +kernel
theorem dX9_exchangeBlocks_133 : decode cX9_exchangeBlocks 133 = .ok (.iconst 0, 1) := by decide +kernel
theorem dX9_exchangeBlocks_134 : decode cX9_exchangeBlocks 134 = .ok (.ireturn, 1) := by decide +kernel
theorem dX9_exchangeBlocks_135 : decode cX9_exchangeBlocks 135 = .ok (.iload 6, 2) := by decide +kernel
theorem dX9_exchangeBlocks_137 : decode cX9_exchangeBlocks 137 = .ok (.iload_n 2, 1) := by decide +kernel
theorem dX9_exchangeBlocks_138 : decode cX9_exchangeBlocks 138 = .ok (.invokestatic 175, 3) := by decide +kernel
theorem dX9_exchangeBlocks_141 : decode cX9_exchangeBlocks 141 = .ok (.istore 8, 2) := by decide +kernel
theorem dX9_exchangeBlocks_143 : decode cX9_exchangeBlocks 143 = .ok (.aload_n 0, 1) := by decide +kernel
theorem dX9_exchangeBlocks_144 : decode cX9_exchangeBlocks 144 = .ok (.getfield 18, 3) := by decide +kernel
theorem dX9_exchangeBlocks_147 : decode cX9_exchangeBlocks 147 = .ok (.iload 4, 2) := by decide +kernel
theorem dX9_exchangeBlocks_149 : decode cX9_exchangeBlocks 149 = .ok (.aload_n 1, 1) := by decide +kernel
theorem dX9_exchangeBlocks_150 : decode cX9_exchangeBlocks 150 = .ok (.getfield 61, 3) := by decide +kernel
theorem dX9_exchangeBlocks_153 : decode cX9_exchangeBlocks 153 = .ok (.getfield 65, 3) := by decide +kernel
theorem dX9_exchangeBlocks_156 : decode cX9_exchangeBlocks 156 = .ok (.iload 8, 2) := by decide +kernel
theorem dX9_exchangeBlocks_158 : decode cX9_exchangeBlocks 158 = .ok (.invokevirtual 195, 3) := by decide +kernel
theorem dX9_exchangeBlocks_161 : decode cX9_exchangeBlocks 161 = .ok (.aload_n 0, 1) := by decide +kernel
theorem dX9_exchangeBlocks_162 : decode cX9_exchangeBlocks 162 = .ok (.getfield 18, 3) := by decide +kernel
theorem dX9_exchangeBlocks_165 : decode cX9_exchangeBlocks 165 = .ok (.aload_n 1, 1) := by decide +kernel
theorem dX9_exchangeBlocks_166 : decode cX9_exchangeBlocks 166 = .ok (.getfield 61, 3) := by decide +kernel
theorem dX9_exchangeBlocks_169 : decode cX9_exchangeBlocks 169 = .ok (.getfield 65, 3) := by decide +kernel
theorem dX9_exchangeBlocks_172 : decode cX9_exchangeBlocks 172 = .ok (.iload 8, 2) := by decide +kernel
theorem dX9_exchangeBlocks_174 : decode cX9_exchangeBlocks 174 = .ok (.iadd, 1) := by decide +kernel
theorem dX9_exchangeBlocks_175 : decode cX9_exchangeBlocks 175 = .ok (.iload_n 2, 1) := by decide +kernel
theorem dX9_exchangeBlocks_176 : decode cX9_exchangeBlocks 176 = .ok (.iload 8, 2) := by decide +kernel
theorem dX9_exchangeBlocks_178 : decode cX9_exchangeBlocks 178 = .ok (.isub, 1) := by decide +kernel
theorem dX9_exchangeBlocks_179 : decode cX9_exchangeBlocks 179 = .ok (.invokevirtual 70, 3) := by decide +kernel
theorem dX9_exchangeBlocks_182 : decode cX9_exchangeBlocks 182 = .ok (.iconst 1, 1) := by decide +kernel
theorem dX9_exchangeBlocks_183 : decode cX9_exchangeBlocks 183 = .ok (.ireturn, 1) := by decide +kernel
theorem dX9_sortingOf_0 : decode cX9_sortingOf 0 = .ok (.aload_n 1, 1) := by decide +kernel
theorem dX9_sortingOf_1 : decode cX9_sortingOf 1 = .ok (.getfield 142, 3) := by decide +kernel
theorem dX9_sortingOf_4 : decode cX9_sortingOf 4 = .ok (.tableswitch 114 1 4 #[32, 48, 68, 94], 32) := by decide +kernel
theorem dX9_sortingOf_36 : decode cX9_sortingOf 36 = .ok (.new 198, 3) := by decide +kernel
theorem dX9_sortingOf_39 : decode cX9_sortingOf 39 = .ok (.dup, 1) := by decide +kernel
theorem dX9_sortingOf_40 : decode cX9_sortingOf 40 = .ok (.aload_n 0, 1) := by decide +kernel
theorem dX9_sortingOf_41 : decode cX9_sortingOf 41 = .ok (.getfield 18, 3) := by decide +kernel
theorem dX9_sortingOf_44 : decode cX9_sortingOf 44 = .ok (.aload_n 1, 1) := by decide +kernel
theorem dX9_sortingOf_45 : decode cX9_sortingOf 45 = .ok (.getfield 61, 3) := by decide +kernel
theorem dX9_sortingOf_48 : decode cX9_sortingOf 48 = .ok (.invokespecial 200, 3) := by decide +kernel
theorem dX9_sortingOf_51 : decode cX9_sortingOf 51 = .ok (.areturn, 1) := by decide +kernel
theorem dX9_sortingOf_52 : decode cX9_sortingOf 52 = .ok (.new 203, 3) := by decide +kernel
theorem dX9_sortingOf_55 : decode cX9_sortingOf 55 = .ok (.dup, 1) := by decide +kernel
theorem dX9_sortingOf_56 : decode cX9_sortingOf 56 = .ok (.aload_n 0, 1) := by decide +kernel
theorem dX9_sortingOf_57 : decode cX9_sortingOf 57 = .ok (.getfield 18, 3) := by decide +kernel
theorem dX9_sortingOf_60 : decode cX9_sortingOf 60 = .ok (.aload_n 1, 1) := by decide +kernel
theorem dX9_sortingOf_61 : decode cX9_sortingOf 61 = .ok (.getfield 61, 3) := by decide +kernel
theorem dX9_sortingOf_64 : decode cX9_sortingOf 64 = .ok (.aload_n 1, 1) := by decide +kernel
theorem dX9_sortingOf_65 : decode cX9_sortingOf 65 = .ok (.getfield 133, 3) := by decide +kernel
theorem dX9_sortingOf_68 : decode cX9_sortingOf 68 = .ok (.invokespecial 205, 3) := by decide +kernel
theorem dX9_sortingOf_71 : decode cX9_sortingOf 71 = .ok (.areturn, 1) := by decide +kernel
theorem dX9_sortingOf_72 : decode cX9_sortingOf 72 = .ok (.new 208, 3) := by decide +kernel
theorem dX9_sortingOf_75 : decode cX9_sortingOf 75 = .ok (.dup, 1) := by decide +kernel
theorem dX9_sortingOf_76 : decode cX9_sortingOf 76 = .ok (.aload_n 0, 1) := by decide +kernel
theorem dX9_sortingOf_77 : decode cX9_sortingOf 77 = .ok (.getfield 18, 3) := by decide +kernel
theorem dX9_sortingOf_80 : decode cX9_sortingOf 80 = .ok (.aload_n 1, 1) := by decide +kernel
theorem dX9_sortingOf_81 : decode cX9_sortingOf 81 = .ok (.getfield 61, 3) := by decide +kernel
theorem dX9_sortingOf_84 : decode cX9_sortingOf 84 = .ok (.aload_n 1, 1) := by decide +kernel
theorem dX9_sortingOf_85 : decode cX9_sortingOf 85 = .ok (.getfield 61, 3) := by decide +kernel
theorem dX9_sortingOf_88 : decode cX9_sortingOf 88 = .ok (.getfield 139, 3) := by decide +kernel
theorem dX9_sortingOf_91 : decode cX9_sortingOf 91 = .ok (.invokestatic 210, 3) := by decide +kernel
theorem dX9_sortingOf_94 : decode cX9_sortingOf 94 = .ok (.invokespecial 213, 3) := by decide +kernel
theorem dX9_sortingOf_97 : decode cX9_sortingOf 97 = .ok (.areturn, 1) := by decide +kernel
theorem dX9_sortingOf_98 : decode cX9_sortingOf 98 = .ok (.new 216, 3) := by decide +kernel
theorem dX9_sortingOf_101 : decode cX9_sortingOf 101 = .ok (.dup, 1) := by decide +kernel
theorem dX9_sortingOf_102 : decode cX9_sortingOf 102 = .ok (.aload_n 0, 1) := by decide +kernel
theorem dX9_sortingOf_103 : decode cX9_sortingOf 103 = .ok (.getfield 18, 3) := by decide +kernel
theorem dX9_sortingOf_106 : decode cX9_sortingOf 106 = .ok (.aload_n 1, 1) := by decide +kernel
theorem dX9_sortingOf_107 : decode cX9_sortingOf 107 = .ok (.getfield 61, 3) := by decide +kernel
theorem dX9_sortingOf_110 : decode cX9_sortingOf 110 = .ok (.aload_n 1, 1) := by decide +kernel
theorem dX9_sortingOf_111 : decode cX9_sortingOf 111 = .ok (.getfield 133, 3) := by decide +kernel
theorem dX9_sortingOf_114 : decode cX9_sortingOf 114 = .ok (.invokespecial 218, 3) := by decide +kernel
theorem dX9_sortingOf_117 : decode cX9_sortingOf 117 = .ok (.areturn, 1) := by decide +kernel
theorem dX9_sortingOf_118 : decode cX9_sortingOf 118 = .ok (.new 208, 3) := by decide +kernel
theorem dX9_sortingOf_121 : decode cX9_sortingOf 121 = .ok (.dup, 1) := by decide +kernel
theorem dX9_sortingOf_122 : decode cX9_sortingOf 122 = .ok (.aload_n 0, 1) := by decide +kernel
theorem dX9_sortingOf_123 : decode cX9_sortingOf 123 = .ok (.getfield 18, 3) := by decide +kernel
theorem dX9_sortingOf_126 : decode cX9_sortingOf 126 = .ok (.aload_n 1, 1) := by decide +kernel
theorem dX9_sortingOf_127 : decode cX9_sortingOf 127 = .ok (.getfield 61, 3) := by decide +kernel
theorem dX9_sortingOf_130 : decode cX9_sortingOf 130 = .ok (.iconst 1, 1) := by decide +kernel
theorem dX9_sortingOf_131 : decode cX9_sortingOf 131 = .ok (.invokespecial 213, 3) := by decide +kernel
theorem dX9_sortingOf_134 : decode cX9_sortingOf 134 = .ok (.areturn, 1) := by decide +kernel
theorem dX9_greatestGapBelow_0 : decode cX9_greatestGapBelow 0 = .ok (.iconst 1, 1) := by decide +kernel
theorem dX9_greatestGapBelow_1 : decode cX9_greatestGapBelow 1 = .ok (.istore_n 1, 1) := by decide +kernel
theorem dX9_greatestGapBelow_2 : decode cX9_greatestGapBelow 2 = .ok (.iload_n 1, 1) := by decide +kernel
theorem dX9_greatestGapBelow_3 : decode cX9_greatestGapBelow 3 = .ok (.sipush 1000, 3) := by decide +kernel
theorem dX9_greatestGapBelow_6 : decode cX9_greatestGapBelow 6 = .ok (.if_icmp .ge 21, 3) := by decide +kernel
theorem dX9_greatestGapBelow_9 : decode cX9_greatestGapBelow 9 = .ok (.iconst 3, 1) := by decide +kernel
theorem dX9_greatestGapBelow_10 : decode cX9_greatestGapBelow 10 = .ok (.iload_n 1, 1) := by decide +kernel
theorem dX9_greatestGapBelow_11 : decode cX9_greatestGapBelow 11 = .ok (.imul, 1) := by decide +kernel
theorem dX9_greatestGapBelow_12 : decode cX9_greatestGapBelow 12 = .ok (.iconst 1, 1) := by decide +kernel
theorem dX9_greatestGapBelow_13 : decode cX9_greatestGapBelow 13 = .ok (.iadd, 1) := by decide +kernel
theorem dX9_greatestGapBelow_14 : decode cX9_greatestGapBelow 14 = .ok (.iload_n 0, 1) := by decide +kernel
theorem dX9_greatestGapBelow_15 : decode cX9_greatestGapBelow 15 = .ok (.if_icmp .ge 12, 3) := by decide +kernel
theorem dX9_greatestGapBelow_18 : decode cX9_greatestGapBelow 18 = .ok (.iconst 3, 1) := by decide +kernel
theorem dX9_greatestGapBelow_19 : decode cX9_greatestGapBelow 19 = .ok (.iload_n 1, 1) := by decide +kernel
theorem dX9_greatestGapBelow_20 : decode cX9_greatestGapBelow 20 = .ok (.imul, 1) := by decide +kernel
theorem dX9_greatestGapBelow_21 : decode cX9_greatestGapBelow 21 = .ok (.iconst 1, 1) := by decide +kernel
theorem dX9_greatestGapBelow_22 : decode cX9_greatestGapBelow 22 = .ok (.iadd, 1) := by decide +kernel
theorem dX9_greatestGapBelow_23 : decode cX9_greatestGapBelow 23 = .ok (.istore_n 1, 1) := by decide +kernel
theorem dX9_greatestGapBelow_24 : decode cX9_greatestGapBelow 24 = .ok (.goto (-22), 3) := by decide +kernel
theorem dX9_greatestGapBelow_27 : decode cX9_greatestGapBelow 27 = .ok (.iload_n 1, 1) := by decide +kernel
theorem dX9_greatestGapBelow_28 : decode cX9_greatestGapBelow 28 = .ok (.ireturn, 1) := by decide +kernel
theorem dX9_takeTurn_0 : decode cX9_takeTurn 0 = .ok (.aload_n 0, 1) := by decide +kernel
theorem dX9_takeTurn_1 : decode cX9_takeTurn 1 = .ok (.dup, 1) := by decide +kernel
theorem dX9_takeTurn_2 : decode cX9_takeTurn 2 = .ok (.getfield 90, 3) := by decide +kernel
theorem dX9_takeTurn_5 : decode cX9_takeTurn 5 = .ok (.iconst 1, 1) := by decide +kernel
theorem dX9_takeTurn_6 : decode cX9_takeTurn 6 = .ok (.iadd, 1) := by decide +kernel
theorem dX9_takeTurn_7 : decode cX9_takeTurn 7 = .ok (.putfield 90, 3) := by decide +kernel
theorem dX9_takeTurn_10 : decode cX9_takeTurn 10 = .ok (.aload_n 0, 1) := by decide +kernel
theorem dX9_takeTurn_11 : decode cX9_takeTurn 11 = .ok (.getfield 31, 3) := by decide +kernel
theorem dX9_takeTurn_14 : decode cX9_takeTurn 14 = .ok (.getfield 116, 3) := by decide +kernel
theorem dX9_takeTurn_17 : decode cX9_takeTurn 17 = .ok (.astore_n 1, 1) := by decide +kernel
theorem dX9_takeTurn_18 : decode cX9_takeTurn 18 = .ok (.aload_n 1, 1) := by decide +kernel
theorem dX9_takeTurn_19 : decode cX9_takeTurn 19 = .ok (.ifnonnull 5, 3) := by decide +kernel
theorem dX9_takeTurn_22 : decode cX9_takeTurn 22 = .ok (.iconst (-1), 1) := by decide +kernel
theorem dX9_takeTurn_23 : decode cX9_takeTurn 23 = .ok (.ireturn, 1) := by decide +kernel
theorem dX9_takeTurn_24 : decode cX9_takeTurn 24 = .ok (.aload_n 0, 1) := by decide +kernel
theorem dX9_takeTurn_25 : decode cX9_takeTurn 25 = .ok (.getfield 31, 3) := by decide +kernel
theorem dX9_takeTurn_28 : decode cX9_takeTurn 28 = .ok (.aload_n 1, 1) := by decide +kernel
theorem dX9_takeTurn_29 : decode cX9_takeTurn 29 = .ok (.invokevirtual 123, 3) := by decide +kernel
theorem dX9_takeTurn_32 : decode cX9_takeTurn 32 = .ok (.aload_n 0, 1) := by decide +kernel
theorem dX9_takeTurn_33 : decode cX9_takeTurn 33 = .ok (.dup, 1) := by decide +kernel
theorem dX9_takeTurn_34 : decode cX9_takeTurn 34 = .ok (.getfield 170, 3) := by decide +kernel
theorem dX9_takeTurn_37 : decode cX9_takeTurn 37 = .ok (.aload_n 1, 1) := by decide +kernel
theorem dX9_takeTurn_38 : decode cX9_takeTurn 38 = .ok (.aload_n 0, 1) := by decide +kernel
theorem dX9_takeTurn_39 : decode cX9_takeTurn 39 = .ok (.getfield 35, 3) := by decide +kernel
theorem dX9_takeTurn_42 : decode cX9_takeTurn 42 = .ok (.invokevirtual 219, 3) := by decide +kernel
theorem dX9_takeTurn_45 : decode cX9_takeTurn 45 = .ok (.iadd, 1) := by decide +kernel
theorem dX9_takeTurn_46 : decode cX9_takeTurn 46 = .ok (.putfield 170, 3) := by decide +kernel
theorem dX9_takeTurn_49 : decode cX9_takeTurn 49 = .ok (.aload_n 1, 1) := by decide +kernel
theorem dX9_takeTurn_50 : decode cX9_takeTurn 50 = .ok (.invokevirtual 222, 3) := by decide +kernel
theorem dX9_takeTurn_53 : decode cX9_takeTurn 53 = .ok (.ifCond .eq 19, 3) := by decide +kernel
theorem dX9_takeTurn_56 : decode cX9_takeTurn 56 = .ok (.aload_n 1, 1) := by decide +kernel
theorem dX9_takeTurn_57 : decode cX9_takeTurn 57 = .ok (.iconst 3, 1) := by decide +kernel
theorem dX9_takeTurn_58 : decode cX9_takeTurn 58 = .ok (.putfield 78, 3) := by decide +kernel
theorem dX9_takeTurn_61 : decode cX9_takeTurn 61 = .ok (.aload_n 1, 1) := by decide +kernel
theorem dX9_takeTurn_62 : decode cX9_takeTurn 62 = .ok (.aload_n 0, 1) := by decide +kernel
theorem dX9_takeTurn_63 : decode cX9_takeTurn 63 = .ok (.getfield 90, 3) := by decide +kernel
theorem dX9_takeTurn_66 : decode cX9_takeTurn 66 = .ok (.putfield 152, 3) := by decide +kernel
theorem dX9_takeTurn_69 : decode cX9_takeTurn 69 = .ok (.goto 11, 3) := by decide +kernel
theorem dX9_takeTurn_72 : decode cX9_takeTurn 72 = .ok (.aload_n 0, 1) := by decide +kernel
theorem dX9_takeTurn_73 : decode cX9_takeTurn 73 = .ok (.getfield 31, 3) := by decide +kernel
theorem dX9_takeTurn_76 : decode cX9_takeTurn 76 = .ok (.aload_n 1, 1) := by decide +kernel
theorem dX9_takeTurn_77 : decode cX9_takeTurn 77 = .ok (.invokevirtual 109, 3) := by decide +kernel
theorem dX9_takeTurn_80 : decode cX9_takeTurn 80 = .ok (.aload_n 1, 1) := by decide +kernel
theorem dX9_takeTurn_81 : decode cX9_takeTurn 81 = .ok (.getfield 226, 3) := by decide +kernel
theorem dX9_takeTurn_84 : decode cX9_takeTurn 84 = .ok (.ireturn, 1) := by decide +kernel
theorem dX10_init_0 : decode cX10_init 0 = .ok (.aload_n 0, 1) := by decide +kernel
theorem dX10_init_1 : decode cX10_init 1 = .ok (.invokespecial 1, 3) := by decide +kernel
theorem dX10_init_4 : decode cX10_init 4 = .ok (.aload_n 0, 1) := by decide +kernel
theorem dX10_init_5 : decode cX10_init 5 = .ok (.bipush 24, 2) := by decide +kernel
theorem dX10_init_7 : decode cX10_init 7 = .ok (.newarray .int, 2) := by decide +kernel
theorem dX10_init_9 : decode cX10_init 9 = .ok (.putfield 9, 3) := by decide +kernel
theorem dX10_init_12 : decode cX10_init 12 = .ok (.aload_n 0, 1) := by decide +kernel
theorem dX10_init_13 : decode cX10_init 13 = .ok (.bipush 24, 2) := by decide +kernel
theorem dX10_init_15 : decode cX10_init 15 = .ok (.newarray .int, 2) := by decide +kernel
theorem dX10_init_17 : decode cX10_init 17 = .ok (.putfield 13, 3) := by decide +kernel
theorem dX10_init_20 : decode cX10_init 20 = .ok (.aload_n 0, 1) := by decide +kernel
theorem dX10_init_21 : decode cX10_init 21 = .ok (.bipush 24, 2) := by decide +kernel
theorem dX10_init_23 : decode cX10_init 23 = .ok (.newarray .int, 2) := by decide +kernel
theorem dX10_init_25 : decode cX10_init 25 = .ok (.putfield 16, 3) := by decide +kernel
theorem dX10_init_28 : decode cX10_init 28 = .ok (.aload_n 0, 1) := by decide +kernel
theorem dX10_init_29 : decode cX10_init 29 = .ok (.bipush 24, 2) := by decide +kernel
theorem dX10_init_31 : decode cX10_init 31 = .ok (.newarray .int, 2) := by decide +kernel
theorem dX10_init_33 : decode cX10_init 33 = .ok (.putfield 19, 3) := by decide +kernel
theorem dX10_init_36 : decode cX10_init 36 = .ok (.aload_n 0, 1) := by decide +kernel
theorem dX10_init_37 : decode cX10_init 37 = .ok (.bipush 24, 2) := by decide +kernel
theorem dX10_init_39 : decode cX10_init 39 = .ok (.newarray .int, 2) := by decide +kernel
theorem dX10_init_41 : decode cX10_init 41 = .ok (.putfield 22, 3) := by decide +kernel
theorem dX10_init_44 : decode cX10_init 44 = .ok (.aload_n 0, 1) := by decide +kernel
theorem dX10_init_45 : decode cX10_init 45 = .ok (.bipush 24, 2) := by decide +kernel
theorem dX10_init_47 : decode cX10_init 47 = .ok (.newarray .int, 2) := by decide +kernel
theorem dX10_init_49 : decode cX10_init 49 = .ok (.putfield 25, 3) := by decide +kernel
theorem dX10_init_52 : decode cX10_init 52 = .ok (.aload_n 0, 1) := by decide +kernel
theorem dX10_init_53 : decode cX10_init 53 = .ok (.bipush 24, 2) := by decide +kernel
theorem dX10_init_55 : decode cX10_init 55 = .ok (.newarray .int, 2) := by decide +kernel
theorem dX10_init_57 : decode cX10_init 57 = .ok (.putfield 28, 3) := by decide +kernel
theorem dX10_init_60 : decode cX10_init 60 = .ok (.aload_n 0, 1) := by decide +kernel
theorem dX10_init_61 : decode cX10_init 61 = .ok (.bipush 24, 2) := by decide +kernel
theorem dX10_init_63 : decode cX10_init 63 = .ok (.newarray .int, 2) := by decide +kernel
theorem dX10_init_65 : decode cX10_init 65 = .ok (.putfield 31, 3) := by decide +kernel
theorem dX10_init_68 : decode cX10_init 68 = .ok (.aload_n 0, 1) := by decide +kernel
theorem dX10_init_69 : decode cX10_init 69 = .ok (.bipush 24, 2) := by decide +kernel
theorem dX10_init_71 : decode cX10_init 71 = .ok (.newarray .int, 2) := by decide +kernel
theorem dX10_init_73 : decode cX10_init 73 = .ok (.putfield 34, 3) := by decide +kernel
theorem dX10_init_76 : decode cX10_init 76 = .ok (.aload_n 0, 1) := by decide +kernel
theorem dX10_init_77 : decode cX10_init 77 = .ok (.bipush 24, 2) := by decide +kernel
theorem dX10_init_79 : decode cX10_init 79 = .ok (.newarray .int, 2) := by decide +kernel
theorem dX10_init_81 : decode cX10_init 81 = .ok (.putfield 37, 3) := by decide +kernel
theorem dX10_init_84 : decode cX10_init 84 = .ok (.aload_n 0, 1) := by decide +kernel
theorem dX10_init_85 : decode cX10_init 85 = .ok (.bipush 24, 2) := by decide +kernel
theorem dX10_init_87 : decode cX10_init 87 = .ok (.newarray .boolean, 2) := by decide +kernel
theorem dX10_init_89 : decode cX10_init 89 = .ok (.putfield 40, 3) := by decide +kernel
theorem dX10_init_92 : decode cX10_init 92 = .ok (.aload_n 0, 1) := by decide +kernel
theorem dX10_init_93 : decode cX10_init 93 = .ok (.sipush 1000, 3) := by decide +kernel
theorem dX10_init_96 : decode cX10_init 96 = .ok (.newarray .int, 2) := by decide +kernel
theorem dX10_init_98 : decode cX10_init 98 = .ok (.putfield 44, 3) := by decide +kernel
theorem dX10_init_101 : decode cX10_init 101 = .ok (.aload_n 0, 1) := by decide +kernel
theorem dX10_init_102 : decode cX10_init 102 = .ok (.sipush 240, 3) := by decide +kernel
theorem dX10_init_105 : decode cX10_init 105 = .ok (.newarray .int, 2) := by decide +kernel
theorem dX10_init_107 : decode cX10_init 107 = .ok (.putfield 47, 3) := by decide +kernel
theorem dX10_init_110 : decode cX10_init 110 = .ok (.aload_n 0, 1) := by decide +kernel
theorem dX10_init_111 : decode cX10_init 111 = .ok (.bipush 8, 2) := by decide +kernel
theorem dX10_init_113 : decode cX10_init 113 = .ok (.sipush 3000, 3) := by decide +kernel
theorem dX10_init_116 : decode cX10_init 116 = .ok (.iload_n 1, 1) := by decide +kernel
theorem dX10_init_117 : decode cX10_init 117 = .ok (.invokestatic 50, 3) := by decide +kernel
theorem dX10_init_120 : decode cX10_init 120 = .ok (.invokestatic 56, 3) := by decide +kernel
theorem dX10_init_123 : decode cX10_init 123 = .ok (.putfield 59, 3) := by decide +kernel
theorem dX10_init_126 : decode cX10_init 126 = .ok (.aload_n 0, 1) := by decide +kernel
theorem dX10_init_127 : decode cX10_init 127 = .ok (.iconst 1, 1) := by decide +kernel
theorem dX10_init_128 : decode cX10_init 128 = .ok (.bipush 24, 2) := by decide +kernel
theorem dX10_init_130 : decode cX10_init 130 = .ok (.iload_n 2, 1) := by decide +kernel
theorem dX10_init_131 : decode cX10_init 131 = .ok (.invokestatic 50, 3) := by decide +kernel
theorem dX10_init_134 : decode cX10_init 134 = .ok (.invokestatic 56, 3) := by decide +kernel
theorem dX10_init_137 : decode cX10_init 137 = .ok (.putfield 63, 3) := by decide +kernel
theorem dX10_init_140 : decode cX10_init 140 = .ok (.aload_n 0, 1) := by decide +kernel
theorem dX10_init_141 : decode cX10_init 141 = .ok (.iconst 1, 1) := by decide +kernel
theorem dX10_init_142 : decode cX10_init 142 = .ok (.sipush 200, 3) := by decide +kernel
theorem dX10_init_145 : decode cX10_init 145 = .ok (.iload_n 3, 1) := by decide +kernel
theorem dX10_init_146 : decode cX10_init 146 = .ok (.invokestatic 50, 3) := by decide +kernel
theorem dX10_init_149 : decode cX10_init 149 = .ok (.invokestatic 56, 3) := by decide +kernel
theorem dX10_init_152 : decode cX10_init 152 = .ok (.putfield 66, 3) := by decide +kernel
theorem dX10_init_155 : decode cX10_init 155 = .ok (.aload_n 0, 1) := by decide +kernel
theorem dX10_init_156 : decode cX10_init 156 = .ok (.aload_n 0, 1) := by decide +kernel
theorem dX10_init_157 : decode cX10_init 157 = .ok (.getfield 59, 3) := by decide +kernel
theorem dX10_init_160 : decode cX10_init 160 = .ok (.newarray .int, 2) := by decide +kernel
theorem dX10_init_162 : decode cX10_init 162 = .ok (.putfield 69, 3) := by decide +kernel
theorem dX10_init_165 : decode cX10_init 165 = .ok (.return_, 1) := by decide +kernel
theorem dX10_bufferSize_0 : decode cX10_bufferSize 0 = .ok (.aload_n 0, 1) := by decide +kernel
theorem dX10_bufferSize_1 : decode cX10_bufferSize 1 = .ok (.getfield 16, 3) := by decide +kernel
theorem dX10_bufferSize_4 : decode cX10_bufferSize 4 = .ok (.iload_n 1, 1) := by decide +kernel
theorem dX10_bufferSize_5 : decode cX10_bufferSize 5 = .ok (.iaload, 1) := by decide +kernel
theorem dX10_bufferSize_6 : decode cX10_bufferSize 6 = .ok (.iconst 2, 1) := by decide +kernel
theorem dX10_bufferSize_7 : decode cX10_bufferSize 7 = .ok (.if_icmp .ne 12, 3) := by decide +kernel
theorem dX10_bufferSize_10 : decode cX10_bufferSize 10 = .ok (.aload_n 0, 1) := by decide +kernel
theorem dX10_bufferSize_11 : decode cX10_bufferSize 11 = .ok (.getfield 13, 3) := by decide +kernel
theorem dX10_bufferSize_14 : decode cX10_bufferSize 14 = .ok (.iload_n 1, 1) := by decide +kernel
theorem dX10_bufferSize_15 : decode cX10_bufferSize 15 = .ok (.iaload, 1) := by decide +kernel
theorem dX10_bufferSize_16 : decode cX10_bufferSize 16 = .ok (.goto 19, 3) := by decide +kernel
theorem dX10_bufferSize_19 : decode cX10_bufferSize 19 = .ok (.aload_n 0, 1) := by decide +kernel
theorem dX10_bufferSize_20 : decode cX10_bufferSize 20 = .ok (.getfield 16, 3) := by decide +kernel
theorem dX10_bufferSize_23 : decode cX10_bufferSize 23 = .ok (.iload_n 1, 1) := by decide +kernel
theorem dX10_bufferSize_24 : decode cX10_bufferSize 24 = .ok (.iaload, 1) := by decide +kernel
theorem dX10_bufferSize_25 : decode cX10_bufferSize 25 = .ok (.iconst 4, 1) := by decide +kernel
theorem dX10_bufferSize_26 : decode cX10_bufferSize 26 = .ok (.if_icmp .ne 8, 3) := by decide +kernel
theorem dX10_bufferSize_29 : decode cX10_bufferSize 29 = .ok (.bipush 24, 2) := by decide +kernel
theorem dX10_bufferSize_31 : decode cX10_bufferSize 31 = .ok (.goto 4, 3) := by decide +kernel
theorem dX10_bufferSize_34 : decode cX10_bufferSize 34 = .ok (.iconst 0, 1) := by decide +kernel
theorem dX10_bufferSize_35 : decode cX10_bufferSize 35 = .ok (.ireturn, 1) := by decide +kernel
theorem dX10_has_0 : decode cX10_has 0 = .ok (.aload_n 0, 1) := by decide +kernel
theorem dX10_has_1 : decode cX10_has 1 = .ok (.getfield 9, 3) := by decide +kernel
theorem dX10_has_4 : decode cX10_has 4 = .ok (.iload_n 1, 1) := by decide +kernel
theorem dX10_has_5 : decode cX10_has 5 = .ok (.iaload, 1) := by decide +kernel
theorem dX10_has_6 : decode cX10_has 6 = .ok (.ifCond .eq 7, 3) := by decide +kernel
theorem dX10_has_9 : decode cX10_has 9 = .ok (.iconst 1, 1) := by decide +kernel
theorem dX10_has_10 : decode cX10_has 10 = .ok (.goto 4, 3) := by decide +kernel
theorem dX10_has_13 : decode cX10_has 13 = .ok (.iconst 0, 1) := by decide +kernel
theorem dX10_has_14 : decode cX10_has 14 = .ok (.ireturn, 1) := by decide +kernel
theorem dX10_nextFrom_0 : decode cX10_nextFrom 0 = .ok (.iconst (-1), 1) := by decide +kernel
theorem dX10_nextFrom_1 : decode cX10_nextFrom 1 = .ok (.istore_n 2, 1) := by decide +kernel
theorem dX10_nextFrom_2 : decode cX10_nextFrom 2 = .ok (.aload_n 0, 1) := by decide +kernel
theorem dX10_nextFrom_3 : decode cX10_nextFrom 3 = .ok (.getfield 59, 3) := by decide +kernel
theorem dX10_nextFrom_6 : decode cX10_nextFrom 6 = .ok (.istore_n 3, 1) := by decide +kernel
theorem dX10_nextFrom_7 : decode cX10_nextFrom 7 = .ok (.iconst 0, 1) := by decide +kernel
theorem dX10_nextFrom_8 : decode cX10_nextFrom 8 = .ok (.istore 4, 2) := by decide +kernel
theorem dX10_nextFrom_10 : decode cX10_nextFrom 10 = .ok (.iload 4, 2) := by decide +kernel
theorem dX10_nextFrom_12 : decode cX10_nextFrom 12 = .ok (.bipush 24, 2) := by decide +kernel
theorem dX10_nextFrom_14 : decode cX10_nextFrom 14 = .ok (.if_icmp .ge 90, 3) := by decide +kernel
theorem dX10_nextFrom_17 : decode cX10_nextFrom 17 = .ok (.aload_n 0, 1) := by decide +kernel
theorem dX10_nextFrom_18 : decode cX10_nextFrom 18 = .ok (.iload 4, 2) := by decide +kernel
theorem dX10_nextFrom_20 : decode cX10_nextFrom 20 = .ok (.invokevirtual 72, 3) := by decide +kernel
theorem dX10_nextFrom_23 : decode cX10_nextFrom 23 = .ok (.ifCond .ne 6, 3) := by decide +kernel
theorem dX10_nextFrom_26 : decode cX10_nextFrom 26 = .ok (.goto 72, 3) := by decide +kernel
theorem dX10_nextFrom_29 : decode cX10_nextFrom 29 = .ok (.aload_n 0, 1) := by decide +kernel
theorem dX10_nextFrom_30 : decode cX10_nextFrom 30 = .ok (.getfield 25, 3) := by decide +kernel
theorem dX10_nextFrom_33 : decode cX10_nextFrom 33 = .ok (.iload 4, 2) := by decide +kernel
theorem dX10_nextFrom_35 : decode cX10_nextFrom 35 = .ok (.iaload, 1) := by decide +kernel
theorem dX10_nextFrom_36 : decode cX10_nextFrom 36 = .ok (.iload_n 1, 1) := by decide +kernel
theorem dX10_nextFrom_37 : decode cX10_nextFrom 37 = .ok (.if_icmp .lt 25, 3) := by decide +kernel
theorem dX10_nextFrom_40 : decode cX10_nextFrom 40 = .ok (.aload_n 0, 1) := by decide +kernel
theorem dX10_nextFrom_41 : decode cX10_nextFrom 41 = .ok (.getfield 25, 3) := by decide +kernel
theorem dX10_nextFrom_44 : decode cX10_nextFrom 44 = .ok (.iload 4, 2) := by decide +kernel
theorem dX10_nextFrom_46 : decode cX10_nextFrom 46 = .ok (.iaload, 1) := by decide +kernel
theorem dX10_nextFrom_47 : decode cX10_nextFrom 47 = .ok (.iload_n 3, 1) := by decide +kernel
theorem dX10_nextFrom_48 : decode cX10_nextFrom 48 = .ok (.if_icmp .ge 14, 3) := by decide +kernel
theorem dX10_nextFrom_51 : decode cX10_nextFrom 51 = .ok (.aload_n 0, 1) := by decide +kernel
theorem dX10_nextFrom_52 : decode cX10_nextFrom 52 = .ok (.getfield 25, 3) := by decide +kernel
theorem dX10_nextFrom_55 : decode cX10_nextFrom 55 = .ok (.iload 4, 2) := by decide +kernel
theorem dX10_nextFrom_57 : decode cX10_nextFrom 57 = .ok (.iaload, 1) := by decide +kernel
theorem dX10_nextFrom_58 : decode cX10_nextFrom 58 = .ok (.istore_n 3, 1) := by decide +kernel
theorem dX10_nextFrom_59 : decode cX10_nextFrom 59 = .ok (.iload 4, 2) := by decide +kernel
theorem dX10_nextFrom_61 : decode cX10_nextFrom 61 = .ok (.istore_n 2, 1) := by decide +kernel
theorem dX10_nextFrom_62 : decode cX10_nextFrom 62 = .ok (.aload_n 0, 1) := by decide +kernel
theorem dX10_nextFrom_63 : decode cX10_nextFrom 63 = .ok (.getfield 28, 3) := by decide +kernel
theorem dX10_nextFrom_66 : decode cX10_nextFrom 66 = .ok (.iload 4, 2) := by decide +kernel
theorem dX10_nextFrom_68 : decode cX10_nextFrom 68 = .ok (.iaload, 1) := by decide +kernel
theorem dX10_nextFrom_69 : decode cX10_nextFrom 69 = .ok (.iload_n 1, 1) := by decide +kernel
theorem dX10_nextFrom_70 : decode cX10_nextFrom 70 = .ok (.if_icmp .lt 28, 3) := by decide +kernel
theorem dX10_nextFrom_73 : decode cX10_nextFrom 73 = .ok (.aload_n 0, 1) := by decide +kernel
theorem dX10_nextFrom_74 : decode cX10_nextFrom 74 = .ok (.getfield 28, 3) := by decide +kernel
theorem dX10_nextFrom_77 : decode cX10_nextFrom 77 = .ok (.iload 4, 2) := by decide +kernel
theorem dX10_nextFrom_79 : decode cX10_nextFrom 79 = .ok (.iaload, 1) := by decide +kernel
theorem dX10_nextFrom_80 : decode cX10_nextFrom 80 = .ok (.iload_n 3, 1) := by decide +kernel
theorem dX10_nextFrom_81 : decode cX10_nextFrom 81 = .ok (.if_icmp .ge 17, 3) := by decide +kernel
theorem dX10_nextFrom_84 : decode cX10_nextFrom 84 = .ok (.aload_n 0, 1) := by decide +kernel
theorem dX10_nextFrom_85 : decode cX10_nextFrom 85 = .ok (.getfield 28, 3) := by decide +kernel
theorem dX10_nextFrom_88 : decode cX10_nextFrom 88 = .ok (.iload 4, 2) := by decide +kernel
theorem dX10_nextFrom_90 : decode cX10_nextFrom 90 = .ok (.iaload, 1) := by decide +kernel
theorem dX10_nextFrom_91 : decode cX10_nextFrom 91 = .ok (.istore_n 3, 1) := by decide +kernel
theorem dX10_nextFrom_92 : decode cX10_nextFrom 92 = .ok (.bipush 100, 2) := by decide +kernel
theorem dX10_nextFrom_94 : decode cX10_nextFrom 94 = .ok (.iload 4, 2) := by decide +kernel
theorem dX10_nextFrom_96 : decode cX10_nextFrom 96 = .ok (.iadd, 1) := by decide +kernel
theorem dX10_nextFrom_97 : decode cX10_nextFrom 97 = .ok (.istore_n 2, 1) := by decide +kernel
theorem dX10_nextFrom_98 : decode cX10_nextFrom 98 = .ok (.iinc 4 1, 3) := by decide +kernel
theorem dX10_nextFrom_101 : decode cX10_nextFrom 101 = .ok (.goto (-91), 3) := by decide +kernel
theorem dX10_nextFrom_104 : decode cX10_nextFrom 104 = .ok (.iload_n 2, 1) := by decide +kernel
theorem dX10_nextFrom_105 : decode cX10_nextFrom 105 = .ok (.ireturn, 1) := by decide +kernel
theorem dX10_beginOf_0 : decode cX10_beginOf 0 = .ok (.iload_n 1, 1) := by decide +kernel
theorem dX10_beginOf_1 : decode cX10_beginOf 1 = .ok (.bipush 100, 2) := by decide +kernel
theorem dX10_beginOf_3 : decode cX10_beginOf 3 = .ok (.if_icmp .lt 15, 3) := by decide +kernel
theorem dX10_beginOf_6 : decode cX10_beginOf 6 = .ok (.aload_n 0, 1) := by decide +kernel
theorem dX10_beginOf_7 : decode cX10_beginOf 7 = .ok (.getfield 28, 3) := by decide +kernel
theorem dX10_beginOf_10 : decode cX10_beginOf 10 = .ok (.iload_n 1, 1) := by decide +kernel
theorem dX10_beginOf_11 : decode cX10_beginOf 11 = .ok (.bipush 100, 2) := by decide +kernel
theorem dX10_beginOf_13 : decode cX10_beginOf 13 = .ok (.isub, 1) := by decide +kernel
theorem dX10_beginOf_14 : decode cX10_beginOf 14 = .ok (.iaload, 1) := by decide +kernel
theorem dX10_beginOf_15 : decode cX10_beginOf 15 = .ok (.goto 9, 3) := by decide +kernel
theorem dX10_beginOf_18 : decode cX10_beginOf 18 = .ok (.aload_n 0, 1) := by decide +kernel
theorem dX10_beginOf_19 : decode cX10_beginOf 19 = .ok (.getfield 25, 3) := by decide +kernel
theorem dX10_beginOf_22 : decode cX10_beginOf 22 = .ok (.iload_n 1, 1) := by decide +kernel
theorem dX10_beginOf_23 : decode cX10_beginOf 23 = .ok (.iaload, 1) := by decide +kernel
theorem dX10_beginOf_24 : decode cX10_beginOf 24 = .ok (.ireturn, 1) := by decide +kernel
theorem dX10_sizeOf_0 : decode cX10_sizeOf 0 = .ok (.iload_n 1, 1) := by decide +kernel
theorem dX10_sizeOf_1 : decode cX10_sizeOf 1 = .ok (.bipush 100, 2) := by decide +kernel
theorem dX10_sizeOf_3 : decode cX10_sizeOf 3 = .ok (.if_icmp .lt 14, 3) := by decide +kernel
theorem dX10_sizeOf_6 : decode cX10_sizeOf 6 = .ok (.aload_n 0, 1) := by decide +kernel
theorem dX10_sizeOf_7 : decode cX10_sizeOf 7 = .ok (.iload_n 1, 1) := by decide +kernel
theorem dX10_sizeOf_8 : decode cX10_sizeOf 8 = .ok (.bipush 100, 2) := by decide +kernel
theorem dX10_sizeOf_10 : decode cX10_sizeOf 10 = .ok (.isub, 1) := by decide +kernel
theorem dX10_sizeOf_11 : decode cX10_sizeOf 11 = .ok (.invokevirtual 76, 3) := by decide +kernel
theorem dX10_sizeOf_14 : decode cX10_sizeOf 14 = .ok (.goto 9, 3) := by decide +kernel
theorem dX10_sizeOf_17 : decode cX10_sizeOf 17 = .ok (.aload_n 0, 1) := by decide +kernel
theorem dX10_sizeOf_18 : decode cX10_sizeOf 18 = .ok (.getfield 13, 3) := by decide +kernel
theorem dX10_sizeOf_21 : decode cX10_sizeOf 21 = .ok (.iload_n 1, 1) := by decide +kernel
theorem dX10_sizeOf_22 : decode cX10_sizeOf 22 = .ok (.iaload, 1) := by decide +kernel
theorem dX10_sizeOf_23 : decode cX10_sizeOf 23 = .ok (.ireturn, 1) := by decide +kernel
theorem dX10_room_0 : decode cX10_room 0 = .ok (.iconst 0, 1) := by decide +kernel
theorem dX10_room_1 : decode cX10_room 1 = .ok (.istore_n 2, 1) := by decide +kernel
theorem dX10_room_2 : decode cX10_room 2 = .ok (.iload_n 2, 1) := by decide +kernel
theorem dX10_room_3 : decode cX10_room 3 = .ok (.aload_n 0, 1) := by decide +kernel
theorem dX10_room_4 : decode cX10_room 4 = .ok (.getfield 59, 3) := by decide +kernel
theorem dX10_room_7 : decode cX10_room 7 = .ok (.if_icmp .ge 57, 3) := by decide +kernel
theorem dX10_room_10 : decode cX10_room 10 = .ok (.aload_n 0, 1) := by decide +kernel
theorem dX10_room_11 : decode cX10_room 11 = .ok (.iload_n 2, 1) := by decide +kernel
theorem dX10_room_12 : decode cX10_room 12 = .ok (.invokevirtual 80, 3) := by decide +kernel
theorem dX10_room_15 : decode cX10_room 15 = .ok (.istore_n 3, 1) := by decide +kernel
theorem dX10_room_16 : decode cX10_room 16 = .ok (.iload_n 3, 1) := by decide +kernel
theorem dX10_room_17 : decode cX10_room 17 = .ok (.iconst (-1), 1) := by decide +kernel
theorem dX10_room_18 : decode cX10_room 18 = .ok (.if_icmp .ne 10, 3) := by decide +kernel
theorem dX10_room_21 : decode cX10_room 21 = .ok (.aload_n 0, 1) := by decide +kernel
theorem dX10_room_22 : decode cX10_room 22 = .ok (.getfield 59, 3) := by decide +kernel
theorem dX10_room_25 : decode cX10_room 25 = .ok (.goto 8, 3) := by decide +kernel
theorem dX10_room_28 : decode cX10_room 28 = .ok (.aload_n 0, 1) := by decide +kernel
theorem dX10_room_29 : decode cX10_room 29 = .ok (.iload_n 3, 1) := by decide +kernel
theorem dX10_room_30 : decode cX10_room 30 = .ok (.invokevirtual 83, 3) := by decide +kernel
theorem dX10_room_33 : decode cX10_room 33 = .ok (.istore 4, 2) := by decide +kernel
theorem dX10_room_35 : decode cX10_room 35 = .ok (.iload 4, 2) := by decide +kernel
theorem dX10_room_37 : decode cX10_room 37 = .ok (.iload_n 2, 1) := by decide +kernel
theorem dX10_room_38 : decode cX10_room 38 = .ok (.isub, 1) := by decide +kernel
theorem dX10_room_39 : decode cX10_room 39 = .ok (.iload_n 1, 1) := by decide +kernel
theorem dX10_room_40 : decode cX10_room 40 = .ok (.if_icmp .lt 5, 3) := by decide +kernel
theorem dX10_room_43 : decode cX10_room 43 = .ok (.iload_n 2, 1) := by decide +kernel
theorem dX10_room_44 : decode cX10_room 44 = .ok (.ireturn, 1) := by decide +kernel
theorem dX10_room_45 : decode cX10_room 45 = .ok (.iload_n 3, 1) := by decide +kernel
theorem dX10_room_46 : decode cX10_room 46 = .ok (.iconst (-1), 1) := by decide +kernel
theorem dX10_room_47 : decode cX10_room 47 = .ok (.if_icmp .ne 5, 3) := by decide +kernel
theorem dX10_room_50 : decode cX10_room 50 = .ok (.iconst (-1), 1) := by decide +kernel
theorem dX10_room_51 : decode cX10_room 51 = .ok (.ireturn, 1) := by decide +kernel
theorem dX10_room_52 : decode cX10_room 52 = .ok (.iload 4, 2) := by decide +kernel
theorem dX10_room_54 : decode cX10_room 54 = .ok (.aload_n 0, 1) := by decide +kernel
theorem dX10_room_55 : decode cX10_room 55 = .ok (.iload_n 3, 1) := by decide +kernel
theorem dX10_room_56 : decode cX10_room 56 = .ok (.invokevirtual 86, 3) := by decide +kernel
theorem dX10_room_59 : decode cX10_room 59 = .ok (.iadd, 1) := by decide +kernel
theorem dX10_room_60 : decode cX10_room 60 = .ok (.istore_n 2, 1) := by decide +kernel
theorem dX10_room_61 : decode cX10_room 61 = .ok (.goto (-59), 3) := by decide +kernel
theorem dX10_room_64 : decode cX10_room 64 = .ok (.iconst (-1), 1) := by decide +kernel
theorem dX10_room_65 : decode cX10_room 65 = .ok (.ireturn, 1) := by decide +kernel
theorem dX10_gaps_0 : decode cX10_gaps 0 = .ok (.iconst 0, 1) := by decide +kernel
theorem dX10_gaps_1 : decode cX10_gaps 1 = .ok (.istore_n 2, 1) := by decide +kernel
theorem dX10_gaps_2 : decode cX10_gaps 2 = .ok (.iconst 0, 1) := by decide +kernel
theorem dX10_gaps_3 : decode cX10_gaps 3 = .ok (.istore_n 3, 1) := by decide +kernel
theorem dX10_gaps_4 : decode cX10_gaps 4 = .ok (.iconst 0, 1) := by decide +kernel
theorem dX10_gaps_5 : decode cX10_gaps 5 = .ok (.istore 4, 2) := by decide +kernel
theorem dX10_gaps_7 : decode cX10_gaps 7 = .ok (.iconst 0, 1) := by decide +kernel
theorem dX10_gaps_8 : decode cX10_gaps 8 = .ok (.istore 5, 2) := by decide +kernel
theorem dX10_gaps_10 : decode cX10_gaps 10 = .ok (.iload 5, 2) := by decide +kernel
theorem dX10_gaps_12 : decode cX10_gaps 12 = .ok (.aload_n 0, 1) := by decide +kernel
theorem dX10_gaps_13 : decode cX10_gaps 13 = .ok (.getfield 59, 3) := by decide +kernel
theorem dX10_gaps_16 : decode cX10_gaps 16 = .ok (.if_icmp .ge 87, 3) := by decide +kernel
theorem dX10_gaps_19 : decode cX10_gaps 19 = .ok (.aload_n 0, 1) := by decide +kernel
theorem dX10_gaps_20 : decode cX10_gaps 20 = .ok (.iload 5, 2) := by decide +kernel
theorem dX10_gaps_22 : decode cX10_gaps 22 = .ok (.invokevirtual 80, 3) := by decide +kernel
theorem dX10_gaps_25 : decode cX10_gaps 25 = .ok (.istore 6, 2) := by decide +kernel
theorem dX10_gaps_27 : decode cX10_gaps 27 = .ok (.iload 6, 2) := by decide +kernel
theorem dX10_gaps_29 : decode cX10_gaps 29 = .ok (.iconst (-1), 1) := by decide +kernel
theorem dX10_gaps_30 : decode cX10_gaps 30 = .ok (.if_icmp .ne 10, 3) := by decide +kernel
theorem dX10_gaps_33 : decode cX10_gaps 33 = .ok (.aload_n 0, 1) := by decide +kernel
theorem dX10_gaps_34 : decode cX10_gaps 34 = .ok (.getfield 59, 3) := by decide +kernel
theorem dX10_gaps_37 : decode cX10_gaps 37 = .ok (.goto 9, 3) := by decide +kernel
theorem dX10_gaps_40 : decode cX10_gaps 40 = .ok (.aload_n 0, 1) := by decide +kernel
theorem dX10_gaps_41 : decode cX10_gaps 41 = .ok (.iload 6, 2) := by decide +kernel
theorem dX10_gaps_43 : decode cX10_gaps 43 = .ok (.invokevirtual 83, 3) := by decide +kernel
theorem dX10_gaps_46 : decode cX10_gaps 46 = .ok (.istore 7, 2) := by decide +kernel
theorem dX10_gaps_48 : decode cX10_gaps 48 = .ok (.iload 7, 2) := by decide +kernel
theorem dX10_gaps_50 : decode cX10_gaps 50 = .ok (.iload 5, 2) := by decide +kernel
theorem dX10_gaps_52 : decode cX10_gaps 52 = .ok (.if_icmp .le 24, 3) := by decide +kernel
theorem dX10_gaps_55 : decode cX10_gaps 55 = .ok (.iload_n 2, 1) := by decide +kernel
theorem dX10_gaps_56 : decode cX10_gaps 56 = .ok (.iload 7, 2) := by decide +kernel
theorem dX10_gaps_58 : decode cX10_gaps 58 = .ok (.iload 5, 2) := by decide +kernel
theorem dX10_gaps_60 : decode cX10_gaps 60 = .ok (.isub, 1) := by decide +kernel
theorem dX10_gaps_61 : decode cX10_gaps 61 = .ok (.iadd, 1) := by decide +kernel
theorem dX10_gaps_62 : decode cX10_gaps 62 = .ok (.istore_n 2, 1) := by decide +kernel
theorem dX10_gaps_63 : decode cX10_gaps 63 = .ok (.iload_n 3, 1) := by decide +kernel
theorem dX10_gaps_64 : decode cX10_gaps 64 = .ok (.iload 7, 2) := by decide +kernel
theorem dX10_gaps_66 : decode cX10_gaps 66 = .ok (.iload 5, 2) := by decide +kernel
theorem dX10_gaps_68 : decode cX10_gaps 68 = .ok (.isub, 1) := by decide +kernel
theorem dX10_gaps_69 : decode cX10_gaps 69 = .ok (.invokestatic 56, 3) := by decide +kernel
theorem dX10_gaps_72 : decode cX10_gaps 72 = .ok (.istore_n 3, 1) := by decide +kernel
theorem dX10_gaps_73 : decode cX10_gaps 73 = .ok (.iinc 4 1, 3) := by decide +kernel
theorem dX10_gaps_76 : decode cX10_gaps 76 = .ok (.iload 6, 2) := by decide +kernel
theorem dX10_gaps_78 : decode cX10_gaps 78 = .ok (.iconst (-1), 1) := by decide +kernel
theorem dX10_gaps_79 : decode cX10_gaps 79 = .ok (.if_icmp .ne 10, 3) := by decide +kernel
theorem dX10_gaps_82 : decode cX10_gaps 82 = .ok (.aload_n 0, 1) := by decide +kernel
theorem dX10_gaps_83 : decode cX10_gaps 83 = .ok (.getfield 59, 3) := by decide +kernel
theorem dX10_gaps_86 : decode cX10_gaps 86 = .ok (.goto 12, 3) := by decide +kernel
theorem dX10_gaps_89 : decode cX10_gaps 89 = .ok (.iload 7, 2) := by decide +kernel
theorem dX10_gaps_91 : decode cX10_gaps 91 = .ok (.aload_n 0, 1) := by decide +kernel
theorem dX10_gaps_92 : decode cX10_gaps 92 = .ok (.iload 6, 2) := by decide +kernel
theorem dX10_gaps_94 : decode cX10_gaps 94 = .ok (.invokevirtual 86, 3) := by decide +kernel
theorem dX10_gaps_97 : decode cX10_gaps 97 = .ok (.iadd, 1) := by decide +kernel
theorem dX10_gaps_98 : decode cX10_gaps 98 = .ok (.istore 5, 2) := by decide +kernel
theorem dX10_gaps_100 : decode cX10_gaps 100 = .ok (.goto (-90), 3) := by decide +kernel
theorem dX10_gaps_103 : decode cX10_gaps 103 = .ok (.iload_n 1, 1) := by decide +kernel
theorem dX10_gaps_104 : decode cX10_gaps 104 = .ok (.ifCond .ne 7, 3) := by decide +kernel
theorem dX10_gaps_107 : decode cX10_gaps 107 = .ok (.iload_n 2, 1) := by decide +kernel
theorem dX10_gaps_108 : decode cX10_gaps 108 = .ok (.goto 14, 3) := by decide +kernel
theorem dX10_gaps_111 : decode cX10_gaps 111 = .ok (.iload_n 1, 1) := by decide +kernel
theorem dX10_gaps_112 : decode cX10_gaps 112 = .ok (.iconst 1, 1) := by decide +kernel
theorem dX10_gaps_113 : decode cX10_gaps 113 = .ok (.if_icmp .ne 7, 3) := by decide +kernel
theorem dX10_gaps_116 : decode cX10_gaps 116 = .ok (.iload_n 3, 1) := by decide +kernel
theorem dX10_gaps_117 : decode cX10_gaps 117 = .ok (.goto 5, 3) := by decide +kernel
theorem dX10_gaps_120 : decode cX10_gaps 120 = .ok (.iload 4, 2) := by decide +kernel
theorem dX10_gaps_122 : decode cX10_gaps 122 = .ok (.ireturn, 1) := by decide +kernel
theorem dX10_takes_0 : decode cX10_takes 0 = .ok (.aload_n 0, 1) := by decide +kernel
theorem dX10_takes_1 : decode cX10_takes 1 = .ok (.getfield 25, 3) := by decide +kernel
theorem dX10_takes_4 : decode cX10_takes 4 = .ok (.iload_n 1, 1) := by decide +kernel
theorem dX10_takes_5 : decode cX10_takes 5 = .ok (.iconst (-1), 1) := by decide +kernel
theorem dX10_takes_6 : decode cX10_takes 6 = .ok (.iastore, 1) := by decide +kernel
theorem dX10_takes_7 : decode cX10_takes 7 = .ok (.iload_n 2, 1) := by decide +kernel
theorem dX10_takes_8 : decode cX10_takes 8 = .ok (.ifCond .ne 10, 3) := by decide +kernel
theorem dX10_takes_11 : decode cX10_takes 11 = .ok (.aload_n 0, 1) := by decide +kernel
theorem dX10_takes_12 : decode cX10_takes 12 = .ok (.getfield 28, 3) := by decide +kernel
theorem dX10_takes_15 : decode cX10_takes 15 = .ok (.iload_n 1, 1) := by decide +kernel
theorem dX10_takes_16 : decode cX10_takes 16 = .ok (.iconst (-1), 1) := by decide +kernel
theorem dX10_takes_17 : decode cX10_takes 17 = .ok (.iastore, 1) := by decide +kernel
theorem dX10_takes_18 : decode cX10_takes 18 = .ok (.aload_n 0, 1) := by decide +kernel
theorem dX10_takes_19 : decode cX10_takes 19 = .ok (.getfield 13, 3) := by decide +kernel
theorem dX10_takes_22 : decode cX10_takes 22 = .ok (.iload_n 1, 1) := by decide +kernel
theorem dX10_takes_23 : decode cX10_takes 23 = .ok (.iaload, 1) := by decide +kernel
theorem dX10_takes_24 : decode cX10_takes 24 = .ok (.ifCond .le 28, 3) := by decide +kernel
theorem dX10_takes_27 : decode cX10_takes 27 = .ok (.aload_n 0, 1) := by decide +kernel
theorem dX10_takes_28 : decode cX10_takes 28 = .ok (.aload_n 0, 1) := by decide +kernel
theorem dX10_takes_29 : decode cX10_takes 29 = .ok (.getfield 13, 3) := by decide +kernel
theorem dX10_takes_32 : decode cX10_takes 32 = .ok (.iload_n 1, 1) := by decide +kernel
theorem dX10_takes_33 : decode cX10_takes 33 = .ok (.iaload, 1) := by decide +kernel
theorem dX10_takes_34 : decode cX10_takes 34 = .ok (.invokevirtual 89, 3) := by decide +kernel
theorem dX10_takes_37 : decode cX10_takes 37 = .ok (.istore_n 3, 1) := by decide +kernel
theorem dX10_takes_38 : decode cX10_takes 38 = .ok (.iload_n 3, 1) := by decide +kernel
theorem dX10_takes_39 : decode cX10_takes 39 = .ok (.iconst (-1), 1) := by decide +kernel
theorem dX10_takes_40 : decode cX10_takes 40 = .ok (.if_icmp .ne 5, 3) := by decide +kernel
theorem dX10_takes_43 : decode cX10_takes 43 = .ok (.iconst 0, 1) := by decide +kernel
theorem dX10_takes_44 : decode cX10_takes 44 = .ok (.ireturn, 1) := by decide +kernel
theorem dX10_takes_45 : decode cX10_takes 45 = .ok (.aload_n 0, 1) := by decide +kernel
theorem dX10_takes_46 : decode cX10_takes 46 = .ok (.getfield 25, 3) := by decide +kernel
theorem dX10_takes_49 : decode cX10_takes 49 = .ok (.iload_n 1, 1) := by decide +kernel
theorem dX10_takes_50 : decode cX10_takes 50 = .ok (.iload_n 3, 1) := by decide +kernel
theorem dX10_takes_51 : decode cX10_takes 51 = .ok (.iastore, 1) := by decide +kernel
theorem dX10_takes_52 : decode cX10_takes 52 = .ok (.iload_n 2, 1) := by decide +kernel
theorem dX10_takes_53 : decode cX10_takes 53 = .ok (.ifCond .ne 11, 3) := by decide +kernel
theorem dX10_takes_56 : decode cX10_takes 56 = .ok (.aload_n 0, 1) := by decide +kernel
theorem dX10_takes_57 : decode cX10_takes 57 = .ok (.iload_n 1, 1) := by decide +kernel
theorem dX10_takes_58 : decode cX10_takes 58 = .ok (.invokevirtual 76, 3) := by decide +kernel
theorem dX10_takes_61 : decode cX10_takes 61 = .ok (.ifCond .ne 5, 3) := by decide +kernel
theorem dX10_takes_64 : decode cX10_takes 64 = .ok (.iconst 1, 1) := by decide +kernel
theorem dX10_takes_65 : decode cX10_takes 65 = .ok (.ireturn, 1) := by decide +kernel
theorem dX10_takes_66 : decode cX10_takes 66 = .ok (.aload_n 0, 1) := by decide +kernel
theorem dX10_takes_67 : decode cX10_takes 67 = .ok (.aload_n 0, 1) := by decide +kernel
theorem dX10_takes_68 : decode cX10_takes 68 = .ok (.iload_n 1, 1) := by decide +kernel
theorem dX10_takes_69 : decode cX10_takes 69 = .ok (.invokevirtual 76, 3) := by decide +kernel
theorem dX10_takes_72 : decode cX10_takes 72 = .ok (.invokevirtual 89, 3) := by decide +kernel
theorem dX10_takes_75 : decode cX10_takes 75 = .ok (.istore_n 3, 1) := by decide +kernel
theorem dX10_takes_76 : decode cX10_takes 76 = .ok (.iload_n 3, 1) := by decide +kernel
theorem dX10_takes_77 : decode cX10_takes 77 = .ok (.iconst (-1), 1) := by decide +kernel
theorem dX10_takes_78 : decode cX10_takes 78 = .ok (.if_icmp .ne 12, 3) := by decide +kernel
theorem dX10_takes_81 : decode cX10_takes 81 = .ok (.aload_n 0, 1) := by decide +kernel
theorem dX10_takes_82 : decode cX10_takes 82 = .ok (.getfield 25, 3) := by decide +kernel
theorem dX10_takes_85 : decode cX10_takes 85 = .ok (.iload_n 1, 1) := by decide +kernel
theorem dX10_takes_86 : decode cX10_takes 86 = .ok (.iconst (-1), 1) := by decide +kernel
theorem dX10_takes_87 : decode cX10_takes 87 = .ok (.iastore, 1) := by decide +kernel
theorem dX10_takes_88 : decode cX10_takes 88 = .ok (.iconst 0, 1) := by decide +kernel
theorem dX10_takes_89 : decode cX10_takes 89 = .ok (.ireturn, 1) := by decide +kernel
theorem dX10_takes_90 : decode cX10_takes 90 = .ok (.aload_n 0, 1) := by decide +kernel
theorem dX10_takes_91 : decode cX10_takes 91 = .ok (.getfield 28, 3) := by decide +kernel
theorem dX10_takes_94 : decode cX10_takes 94 = .ok (.iload_n 1, 1) := by decide +kernel
theorem dX10_takes_95 : decode cX10_takes 95 = .ok (.iload_n 3, 1) := by decide +kernel
theorem dX10_takes_96 : decode cX10_takes 96 = .ok (.iastore, 1) := by decide +kernel
theorem dX10_takes_97 : decode cX10_takes 97 = .ok (.iconst 1, 1) := by decide +kernel
theorem dX10_takes_98 : decode cX10_takes 98 = .ok (.ireturn, 1) := by decide +kernel
theorem dX10_isJob_0 : decode cX10_isJob 0 = .ok (.iload_n 1, 1) := by decide +kernel
theorem dX10_isJob_1 : decode cX10_isJob 1 = .ok (.ifCond .lt 23, 3) := by decide +kernel
theorem dX10_isJob_4 : decode cX10_isJob 4 = .ok (.iload_n 1, 1) := by decide +kernel
theorem dX10_isJob_5 : decode cX10_isJob 5 = .ok (.aload_n 0, 1) := by decide +kernel
theorem dX10_isJob_6 : decode cX10_isJob 6 = .ok (.getfield 63, 3) := by decide +kernel
theorem dX10_isJob_9 : decode cX10_isJob 9 = .ok (.if_icmp .ge 15, 3) := by decide +kernel
theorem dX10_isJob_12 : decode cX10_isJob 12 = .ok (.aload_n 0, 1) := by decide +kernel
theorem dX10_isJob_13 : decode cX10_isJob 13 = .ok (.iload_n 1, 1) := by decide +kernel
theorem dX10_isJob_14 : decode cX10_isJob 14 = .ok (.invokevirtual 72, 3) := by decide +kernel
theorem dX10_isJob_17 : decode cX10_isJob 17 = .ok (.ifCond .eq 7, 3) := by decide +kernel
theorem dX10_isJob_20 : decode cX10_isJob 20 = .ok (.iconst 1, 1) := by decide +kernel
theorem dX10_isJob_21 : decode cX10_isJob 21 = .ok (.goto 4, 3) := by decide +kernel
theorem dX10_isJob_24 : decode cX10_isJob 24 = .ok (.iconst 0, 1) := by decide +kernel
theorem dX10_isJob_25 : decode cX10_isJob 25 = .ok (.ireturn, 1) := by decide +kernel
theorem dX10_open_0 : decode cX10_open 0 = .ok (.iload_n 1, 1) := by decide +kernel
theorem dX10_open_1 : decode cX10_open 1 = .ok (.ifCond .lt 28, 3) := by decide +kernel
