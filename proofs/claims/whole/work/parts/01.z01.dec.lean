theorem dX0_init_0 : decode cX0_init 0 = .ok (.aload_n 0, 1) := by decide +kernel
theorem dX0_init_1 : decode cX0_init 1 = .ok (.invokespecial 3, 3) := by decide +kernel
theorem dX0_init_4 : decode cX0_init 4 = .ok (.aload_n 0, 1) := by decide +kernel
theorem dX0_init_5 : decode cX0_init 5 = .ok (.iload_n 1, 1) := by decide +kernel
theorem dX0_init_6 : decode cX0_init 6 = .ok (.iconst 0, 1) := by decide +kernel
theorem dX0_init_7 : decode cX0_init 7 = .ok (.invokestatic 9, 3) := by decide +kernel
theorem dX0_init_10 : decode cX0_init 10 = .ok (.newarray .int, 2) := by decide +kernel
theorem dX0_init_12 : decode cX0_init 12 = .ok (.putfield 15, 3) := by decide +kernel
theorem dX0_init_15 : decode cX0_init 15 = .ok (.aload_n 0, 1) := by decide +kernel
theorem dX0_init_16 : decode cX0_init 16 = .ok (.new 21, 3) := by decide +kernel
theorem dX0_init_19 : decode cX0_init 19 = .ok (.dup, 1) := by decide +kernel
theorem dX0_init_20 : decode cX0_init 20 = .ok (.invokespecial 23, 3) := by decide +kernel
theorem dX0_init_23 : decode cX0_init 23 = .ok (.putfield 24, 3) := by decide +kernel
theorem dX0_init_26 : decode cX0_init 26 = .ok (.aload_n 0, 1) := by decide +kernel
theorem dX0_init_27 : decode cX0_init 27 = .ok (.getfield 24, 3) := by decide +kernel
theorem dX0_init_30 : decode cX0_init 30 = .ok (.iconst 0, 1) := by decide +kernel
theorem dX0_init_31 : decode cX0_init 31 = .ok (.putfield 28, 3) := by decide +kernel
theorem dX0_init_34 : decode cX0_init 34 = .ok (.return_, 1) := by decide +kernel
theorem dX0_read_0 : decode cX0_read 0 = .ok (.iload_n 1, 1) := by decide +kernel
theorem dX0_read_1 : decode cX0_read 1 = .ok (.ifCond .lt 21, 3) := by decide +kernel
theorem dX0_read_4 : decode cX0_read 4 = .ok (.iload_n 1, 1) := by decide +kernel
theorem dX0_read_5 : decode cX0_read 5 = .ok (.aload_n 0, 1) := by decide +kernel
theorem dX0_read_6 : decode cX0_read 6 = .ok (.getfield 15, 3) := by decide +kernel
theorem dX0_read_9 : decode cX0_read 9 = .ok (.arraylength, 1) := by decide +kernel
theorem dX0_read_10 : decode cX0_read 10 = .ok (.if_icmp .ge 12, 3) := by decide +kernel
theorem dX0_read_13 : decode cX0_read 13 = .ok (.aload_n 0, 1) := by decide +kernel
theorem dX0_read_14 : decode cX0_read 14 = .ok (.getfield 15, 3) := by decide +kernel
theorem dX0_read_17 : decode cX0_read 17 = .ok (.iload_n 1, 1) := by decide +kernel
theorem dX0_read_18 : decode cX0_read 18 = .ok (.iaload, 1) := by decide +kernel
theorem dX0_read_19 : decode cX0_read 19 = .ok (.goto 4, 3) := by decide +kernel
theorem dX0_read_22 : decode cX0_read 22 = .ok (.iconst 0, 1) := by decide +kernel
theorem dX0_read_23 : decode cX0_read 23 = .ok (.ireturn, 1) := by decide +kernel
theorem dX0_write_0 : decode cX0_write 0 = .ok (.iload_n 1, 1) := by decide +kernel
theorem dX0_write_1 : decode cX0_write 1 = .ok (.ifCond .lt 19, 3) := by decide +kernel
theorem dX0_write_4 : decode cX0_write 4 = .ok (.iload_n 1, 1) := by decide +kernel
theorem dX0_write_5 : decode cX0_write 5 = .ok (.aload_n 0, 1) := by decide +kernel
theorem dX0_write_6 : decode cX0_write 6 = .ok (.getfield 15, 3) := by decide +kernel
theorem dX0_write_9 : decode cX0_write 9 = .ok (.arraylength, 1) := by decide +kernel
theorem dX0_write_10 : decode cX0_write 10 = .ok (.if_icmp .ge 10, 3) := by decide +kernel
theorem dX0_write_13 : decode cX0_write 13 = .ok (.aload_n 0, 1) := by decide +kernel
theorem dX0_write_14 : decode cX0_write 14 = .ok (.getfield 15, 3) := by decide +kernel
theorem dX0_write_17 : decode cX0_write 17 = .ok (.iload_n 1, 1) := by decide +kernel
theorem dX0_write_18 : decode cX0_write 18 = .ok (.iload_n 2, 1) := by decide +kernel
theorem dX0_write_19 : decode cX0_write 19 = .ok (.iastore, 1) := by decide +kernel
theorem dX0_write_20 : decode cX0_write 20 = .ok (.return_, 1) := by decide +kernel
theorem dX0_swap_0 : decode cX0_swap 0 = .ok (.iload_n 1, 1) := by decide +kernel
theorem dX0_swap_1 : decode cX0_swap 1 = .ok (.ifCond .lt 51, 3) := by decide +kernel
theorem dX0_swap_4 : decode cX0_swap 4 = .ok (.iload_n 1, 1) := by decide +kernel
theorem dX0_swap_5 : decode cX0_swap 5 = .ok (.aload_n 0, 1) := by decide +kernel
theorem dX0_swap_6 : decode cX0_swap 6 = .ok (.getfield 15, 3) := by decide +kernel
theorem dX0_swap_9 : decode cX0_swap 9 = .ok (.arraylength, 1) := by decide +kernel
theorem dX0_swap_10 : decode cX0_swap 10 = .ok (.if_icmp .ge 42, 3) := by decide +kernel
theorem dX0_swap_13 : decode cX0_swap 13 = .ok (.iload_n 2, 1) := by decide +kernel
theorem dX0_swap_14 : decode cX0_swap 14 = .ok (.ifCond .lt 38, 3) := by decide +kernel
theorem dX0_swap_17 : decode cX0_swap 17 = .ok (.iload_n 2, 1) := by decide +kernel
theorem dX0_swap_18 : decode cX0_swap 18 = .ok (.aload_n 0, 1) := by decide +kernel
theorem dX0_swap_19 : decode cX0_swap 19 = .ok (.getfield 15, 3) := by decide +kernel
theorem dX0_swap_22 : decode cX0_swap 22 = .ok (.arraylength, 1) := by decide +kernel
theorem dX0_swap_23 : decode cX0_swap 23 = .ok (.if_icmp .ge 29, 3) := by decide +kernel
theorem dX0_swap_26 : decode cX0_swap 26 = .ok (.aload_n 0, 1) := by decide +kernel
theorem dX0_swap_27 : decode cX0_swap 27 = .ok (.getfield 15, 3) := by decide +kernel
theorem dX0_swap_30 : decode cX0_swap 30 = .ok (.iload_n 1, 1) := by decide +kernel
theorem dX0_swap_31 : decode cX0_swap 31 = .ok (.iaload, 1) := by decide +kernel
theorem dX0_swap_32 : decode cX0_swap 32 = .ok (.istore_n 3, 1) := by decide +kernel
theorem dX0_swap_33 : decode cX0_swap 33 = .ok (.aload_n 0, 1) := by decide +kernel
theorem dX0_swap_34 : decode cX0_swap 34 = .ok (.getfield 15, 3) := by decide +kernel
theorem dX0_swap_37 : decode cX0_swap 37 = .ok (.iload_n 1, 1) := by decide +kernel
theorem dX0_swap_38 : decode cX0_swap 38 = .ok (.aload_n 0, 1) := by decide +kernel
theorem dX0_swap_39 : decode cX0_swap 39 = .ok (.getfield 15, 3) := by decide +kernel
theorem dX0_swap_42 : decode cX0_swap 42 = .ok (.iload_n 2, 1) := by decide +kernel
theorem dX0_swap_43 : decode cX0_swap 43 = .ok (.iaload, 1) := by decide +kernel
theorem dX0_swap_44 : decode cX0_swap 44 = .ok (.iastore, 1) := by decide +kernel
theorem dX0_swap_45 : decode cX0_swap 45 = .ok (.aload_n 0, 1) := by decide +kernel
theorem dX0_swap_46 : decode cX0_swap 46 = .ok (.getfield 15, 3) := by decide +kernel
theorem dX0_swap_49 : decode cX0_swap 49 = .ok (.iload_n 2, 1) := by decide +kernel
theorem dX0_swap_50 : decode cX0_swap 50 = .ok (.iload_n 3, 1) := by decide +kernel
theorem dX0_swap_51 : decode cX0_swap 51 = .ok (.iastore, 1) := by decide +kernel
theorem dX0_swap_52 : decode cX0_swap 52 = .ok (.return_, 1) := by decide +kernel
theorem dX0_clear_0 : decode cX0_clear 0 = .ok (.iconst 0, 1) := by decide +kernel
theorem dX0_clear_1 : decode cX0_clear 1 = .ok (.istore_n 3, 1) := by decide +kernel
theorem dX0_clear_2 : decode cX0_clear 2 = .ok (.iload_n 3, 1) := by decide +kernel
theorem dX0_clear_3 : decode cX0_clear 3 = .ok (.iload_n 2, 1) := by decide +kernel
theorem dX0_clear_4 : decode cX0_clear 4 = .ok (.if_icmp .ge 17, 3) := by decide +kernel
theorem dX0_clear_7 : decode cX0_clear 7 = .ok (.aload_n 0, 1) := by decide +kernel
theorem dX0_clear_8 : decode cX0_clear 8 = .ok (.iload_n 1, 1) := by decide +kernel
theorem dX0_clear_9 : decode cX0_clear 9 = .ok (.iload_n 3, 1) := by decide +kernel
theorem dX0_clear_10 : decode cX0_clear 10 = .ok (.iadd, 1) := by decide +kernel
theorem dX0_clear_11 : decode cX0_clear 11 = .ok (.iconst 0, 1) := by decide +kernel
theorem dX0_clear_12 : decode cX0_clear 12 = .ok (.invokevirtual 32, 3) := by decide +kernel
theorem dX0_clear_15 : decode cX0_clear 15 = .ok (.iinc 3 1, 3) := by decide +kernel
theorem dX0_clear_18 : decode cX0_clear 18 = .ok (.goto (-16), 3) := by decide +kernel
theorem dX0_clear_21 : decode cX0_clear 21 = .ok (.return_, 1) := by decide +kernel
theorem dX0_copy_0 : decode cX0_copy 0 = .ok (.aload_n 0, 1) := by decide +kernel
theorem dX0_copy_1 : decode cX0_copy 1 = .ok (.getfield 15, 3) := by decide +kernel
theorem dX0_copy_4 : decode cX0_copy 4 = .ok (.arraylength, 1) := by decide +kernel
theorem dX0_copy_5 : decode cX0_copy 5 = .ok (.iload_n 3, 1) := by decide +kernel
theorem dX0_copy_6 : decode cX0_copy 6 = .ok (.isub, 1) := by decide +kernel
theorem dX0_copy_7 : decode cX0_copy 7 = .ok (.istore 4, 2) := by decide +kernel
theorem dX0_copy_9 : decode cX0_copy 9 = .ok (.iload_n 3, 1) := by decide +kernel
theorem dX0_copy_10 : decode cX0_copy 10 = .ok (.ifCond .le 37, 3) := by decide +kernel
theorem dX0_copy_13 : decode cX0_copy 13 = .ok (.iload_n 1, 1) := by decide +kernel
theorem dX0_copy_14 : decode cX0_copy 14 = .ok (.ifCond .lt 33, 3) := by decide +kernel
theorem dX0_copy_17 : decode cX0_copy 17 = .ok (.iload_n 1, 1) := by decide +kernel
theorem dX0_copy_18 : decode cX0_copy 18 = .ok (.iload 4, 2) := by decide +kernel
theorem dX0_copy_20 : decode cX0_copy 20 = .ok (.if_icmp .gt 27, 3) := by decide +kernel
theorem dX0_copy_23 : decode cX0_copy 23 = .ok (.iload_n 2, 1) := by decide +kernel
theorem dX0_copy_24 : decode cX0_copy 24 = .ok (.ifCond .lt 23, 3) := by decide +kernel
theorem dX0_copy_27 : decode cX0_copy 27 = .ok (.iload_n 2, 1) := by decide +kernel
theorem dX0_copy_28 : decode cX0_copy 28 = .ok (.iload 4, 2) := by decide +kernel
theorem dX0_copy_30 : decode cX0_copy 30 = .ok (.if_icmp .gt 17, 3) := by decide +kernel
theorem dX0_copy_33 : decode cX0_copy 33 = .ok (.aload_n 0, 1) := by decide +kernel
theorem dX0_copy_34 : decode cX0_copy 34 = .ok (.getfield 15, 3) := by decide +kernel
theorem dX0_copy_37 : decode cX0_copy 37 = .ok (.iload_n 1, 1) := by decide +kernel
theorem dX0_copy_38 : decode cX0_copy 38 = .ok (.aload_n 0, 1) := by decide +kernel
theorem dX0_copy_39 : decode cX0_copy 39 = .ok (.getfield 15, 3) := by decide +kernel
theorem dX0_copy_42 : decode cX0_copy 42 = .ok (.iload_n 2, 1) := by decide +kernel
theorem dX0_copy_43 : decode cX0_copy 43 = .ok (.iload_n 3, 1) := by decide +kernel
theorem dX0_copy_44 : decode cX0_copy 44 = .ok (.invokestatic 36, 3) := by decide +kernel
theorem dX0_copy_47 : decode cX0_copy 47 = .ok (.return_, 1) := by decide +kernel
theorem dX0_gapBehind_0 : decode cX0_gapBehind 0 = .ok (.aload_n 1, 1) := by decide +kernel
theorem dX0_gapBehind_1 : decode cX0_gapBehind 1 = .ok (.getfield 42, 3) := by decide +kernel
theorem dX0_gapBehind_4 : decode cX0_gapBehind 4 = .ok (.ifnonnull 11, 3) := by decide +kernel
theorem dX0_gapBehind_7 : decode cX0_gapBehind 7 = .ok (.aload_n 0, 1) := by decide +kernel
theorem dX0_gapBehind_8 : decode cX0_gapBehind 8 = .ok (.getfield 15, 3) := by decide +kernel
theorem dX0_gapBehind_11 : decode cX0_gapBehind 11 = .ok (.arraylength, 1) := by decide +kernel
theorem dX0_gapBehind_12 : decode cX0_gapBehind 12 = .ok (.goto 10, 3) := by decide +kernel
theorem dX0_gapBehind_15 : decode cX0_gapBehind 15 = .ok (.aload_n 1, 1) := by decide +kernel
theorem dX0_gapBehind_16 : decode cX0_gapBehind 16 = .ok (.getfield 42, 3) := by decide +kernel
theorem dX0_gapBehind_19 : decode cX0_gapBehind 19 = .ok (.getfield 28, 3) := by decide +kernel
theorem dX0_gapBehind_22 : decode cX0_gapBehind 22 = .ok (.istore_n 2, 1) := by decide +kernel
theorem dX0_gapBehind_23 : decode cX0_gapBehind 23 = .ok (.iload_n 2, 1) := by decide +kernel
theorem dX0_gapBehind_24 : decode cX0_gapBehind 24 = .ok (.aload_n 1, 1) := by decide +kernel
theorem dX0_gapBehind_25 : decode cX0_gapBehind 25 = .ok (.invokevirtual 45, 3) := by decide +kernel
theorem dX0_gapBehind_28 : decode cX0_gapBehind 28 = .ok (.isub, 1) := by decide +kernel
theorem dX0_gapBehind_29 : decode cX0_gapBehind 29 = .ok (.ireturn, 1) := by decide +kernel
theorem dX0_take_0 : decode cX0_take 0 = .ok (.iload_n 2, 1) := by decide +kernel
theorem dX0_take_1 : decode cX0_take 1 = .ok (.ifCond .gt 5, 3) := by decide +kernel
theorem dX0_take_4 : decode cX0_take 4 = .ok (.iconst 1, 1) := by decide +kernel
theorem dX0_take_5 : decode cX0_take 5 = .ok (.ireturn, 1) := by decide +kernel
theorem dX0_take_6 : decode cX0_take 6 = .ok (.aload_n 0, 1) := by decide +kernel
theorem dX0_take_7 : decode cX0_take 7 = .ok (.getfield 24, 3) := by decide +kernel
theorem dX0_take_10 : decode cX0_take 10 = .ok (.astore_n 3, 1) := by decide +kernel
theorem dX0_take_11 : decode cX0_take 11 = .ok (.aload_n 3, 1) := by decide +kernel
theorem dX0_take_12 : decode cX0_take 12 = .ok (.ifnull 33, 3) := by decide +kernel
theorem dX0_take_15 : decode cX0_take 15 = .ok (.aload_n 0, 1) := by decide +kernel
theorem dX0_take_16 : decode cX0_take 16 = .ok (.aload_n 3, 1) := by decide +kernel
theorem dX0_take_17 : decode cX0_take 17 = .ok (.invokevirtual 49, 3) := by decide +kernel
theorem dX0_take_20 : decode cX0_take 20 = .ok (.iload_n 2, 1) := by decide +kernel
theorem dX0_take_21 : decode cX0_take 21 = .ok (.if_icmp .lt 16, 3) := by decide +kernel
theorem dX0_take_24 : decode cX0_take 24 = .ok (.aload_n 0, 1) := by decide +kernel
theorem dX0_take_25 : decode cX0_take 25 = .ok (.aload_n 3, 1) := by decide +kernel
theorem dX0_take_26 : decode cX0_take 26 = .ok (.aload_n 1, 1) := by decide +kernel
theorem dX0_take_27 : decode cX0_take 27 = .ok (.aload_n 3, 1) := by decide +kernel
theorem dX0_take_28 : decode cX0_take 28 = .ok (.invokevirtual 45, 3) := by decide +kernel
theorem dX0_take_31 : decode cX0_take 31 = .ok (.iload_n 2, 1) := by decide +kernel
theorem dX0_take_32 : decode cX0_take 32 = .ok (.invokevirtual 53, 3) := by decide +kernel
theorem dX0_take_35 : decode cX0_take 35 = .ok (.iconst 1, 1) := by decide +kernel
theorem dX0_take_36 : decode cX0_take 36 = .ok (.ireturn, 1) := by decide +kernel
theorem dX0_take_37 : decode cX0_take 37 = .ok (.aload_n 3, 1) := by decide +kernel
theorem dX0_take_38 : decode cX0_take 38 = .ok (.getfield 42, 3) := by decide +kernel
theorem dX0_take_41 : decode cX0_take 41 = .ok (.astore_n 3, 1) := by decide +kernel
theorem dX0_take_42 : decode cX0_take 42 = .ok (.goto (-31), 3) := by decide +kernel
theorem dX0_take_45 : decode cX0_take 45 = .ok (.iconst 0, 1) := by decide +kernel
theorem dX0_take_46 : decode cX0_take 46 = .ok (.ireturn, 1) := by decide +kernel
theorem dX0_putAt_0 : decode cX0_putAt 0 = .ok (.iload_n 3, 1) := by decide +kernel
theorem dX0_putAt_1 : decode cX0_putAt 1 = .ok (.ifCond .gt 4, 3) := by decide +kernel
theorem dX0_putAt_4 : decode cX0_putAt 4 = .ok (.return_, 1) := by decide +kernel
theorem dX0_putAt_5 : decode cX0_putAt 5 = .ok (.aload_n 0, 1) := by decide +kernel
theorem dX0_putAt_6 : decode cX0_putAt 6 = .ok (.getfield 24, 3) := by decide +kernel
theorem dX0_putAt_9 : decode cX0_putAt 9 = .ok (.astore 4, 2) := by decide +kernel
theorem dX0_putAt_11 : decode cX0_putAt 11 = .ok (.aload_n 0, 1) := by decide +kernel
theorem dX0_putAt_12 : decode cX0_putAt 12 = .ok (.getfield 24, 3) := by decide +kernel
theorem dX0_putAt_15 : decode cX0_putAt 15 = .ok (.getfield 42, 3) := by decide +kernel
theorem dX0_putAt_18 : decode cX0_putAt 18 = .ok (.astore 5, 2) := by decide +kernel
theorem dX0_putAt_20 : decode cX0_putAt 20 = .ok (.aload 5, 2) := by decide +kernel
theorem dX0_putAt_22 : decode cX0_putAt 22 = .ok (.ifnull 26, 3) := by decide +kernel
theorem dX0_putAt_25 : decode cX0_putAt 25 = .ok (.aload 5, 2) := by decide +kernel
theorem dX0_putAt_27 : decode cX0_putAt 27 = .ok (.getfield 28, 3) := by decide +kernel
theorem dX0_putAt_30 : decode cX0_putAt 30 = .ok (.iload_n 2, 1) := by decide +kernel
theorem dX0_putAt_31 : decode cX0_putAt 31 = .ok (.if_icmp .ge 17, 3) := by decide +kernel
theorem dX0_putAt_34 : decode cX0_putAt 34 = .ok (.aload 5, 2) := by decide +kernel
theorem dX0_putAt_36 : decode cX0_putAt 36 = .ok (.astore 4, 2) := by decide +kernel
theorem dX0_putAt_38 : decode cX0_putAt 38 = .ok (.aload 5, 2) := by decide +kernel
theorem dX0_putAt_40 : decode cX0_putAt 40 = .ok (.getfield 42, 3) := by decide +kernel
theorem dX0_putAt_43 : decode cX0_putAt 43 = .ok (.astore 5, 2) := by decide +kernel
theorem dX0_putAt_45 : decode cX0_putAt 45 = .ok (.goto (-25), 3) := by decide +kernel
theorem dX0_putAt_48 : decode cX0_putAt 48 = .ok (.aload_n 0, 1) := by decide +kernel
theorem dX0_putAt_49 : decode cX0_putAt 49 = .ok (.aload 4, 2) := by decide +kernel
theorem dX0_putAt_51 : decode cX0_putAt 51 = .ok (.aload_n 1, 1) := by decide +kernel
theorem dX0_putAt_52 : decode cX0_putAt 52 = .ok (.iload_n 2, 1) := by decide +kernel
theorem dX0_putAt_53 : decode cX0_putAt 53 = .ok (.iload_n 3, 1) := by decide +kernel
theorem dX0_putAt_54 : decode cX0_putAt 54 = .ok (.invokevirtual 53, 3) := by decide +kernel
theorem dX0_putAt_57 : decode cX0_putAt 57 = .ok (.return_, 1) := by decide +kernel
theorem dX0_link_0 : decode cX0_link 0 = .ok (.aload_n 2, 1) := by decide +kernel
theorem dX0_link_1 : decode cX0_link 1 = .ok (.iload_n 3, 1) := by decide +kernel
theorem dX0_link_2 : decode cX0_link 2 = .ok (.putfield 28, 3) := by decide +kernel
theorem dX0_link_5 : decode cX0_link 5 = .ok (.aload_n 2, 1) := by decide +kernel
theorem dX0_link_6 : decode cX0_link 6 = .ok (.iload 4, 2) := by decide +kernel
theorem dX0_link_8 : decode cX0_link 8 = .ok (.putfield 57, 3) := by decide +kernel
theorem dX0_link_11 : decode cX0_link 11 = .ok (.aload_n 2, 1) := by decide +kernel
theorem dX0_link_12 : decode cX0_link 12 = .ok (.aload_n 1, 1) := by decide +kernel
theorem dX0_link_13 : decode cX0_link 13 = .ok (.getfield 42, 3) := by decide +kernel
theorem dX0_link_16 : decode cX0_link 16 = .ok (.putfield 42, 3) := by decide +kernel
theorem dX0_link_19 : decode cX0_link 19 = .ok (.aload_n 1, 1) := by decide +kernel
theorem dX0_link_20 : decode cX0_link 20 = .ok (.aload_n 2, 1) := by decide +kernel
theorem dX0_link_21 : decode cX0_link 21 = .ok (.putfield 42, 3) := by decide +kernel
theorem dX0_link_24 : decode cX0_link 24 = .ok (.return_, 1) := by decide +kernel
theorem dX0_giveBack_0 : decode cX0_giveBack 0 = .ok (.aload_n 0, 1) := by decide +kernel
theorem dX0_giveBack_1 : decode cX0_giveBack 1 = .ok (.getfield 24, 3) := by decide +kernel
theorem dX0_giveBack_4 : decode cX0_giveBack 4 = .ok (.astore_n 2, 1) := by decide +kernel
theorem dX0_giveBack_5 : decode cX0_giveBack 5 = .ok (.aload_n 2, 1) := by decide +kernel
theorem dX0_giveBack_6 : decode cX0_giveBack 6 = .ok (.ifnull 30, 3) := by decide +kernel
theorem dX0_giveBack_9 : decode cX0_giveBack 9 = .ok (.aload_n 2, 1) := by decide +kernel
theorem dX0_giveBack_10 : decode cX0_giveBack 10 = .ok (.getfield 42, 3) := by decide +kernel
theorem dX0_giveBack_13 : decode cX0_giveBack 13 = .ok (.aload_n 1, 1) := by decide +kernel
theorem dX0_giveBack_14 : decode cX0_giveBack 14 = .ok (.if_acmp .ne 14, 3) := by decide +kernel
theorem dX0_giveBack_17 : decode cX0_giveBack 17 = .ok (.aload_n 2, 1) := by decide +kernel
theorem dX0_giveBack_18 : decode cX0_giveBack 18 = .ok (.aload_n 1, 1) := by decide +kernel
theorem dX0_giveBack_19 : decode cX0_giveBack 19 = .ok (.getfield 42, 3) := by decide +kernel
theorem dX0_giveBack_22 : decode cX0_giveBack 22 = .ok (.putfield 42, 3) := by decide +kernel
theorem dX0_giveBack_25 : decode cX0_giveBack 25 = .ok (.goto 11, 3) := by decide +kernel
theorem dX0_giveBack_28 : decode cX0_giveBack 28 = .ok (.aload_n 2, 1) := by decide +kernel
theorem dX0_giveBack_29 : decode cX0_giveBack 29 = .ok (.getfield 42, 3) := by decide +kernel
theorem dX0_giveBack_32 : decode cX0_giveBack 32 = .ok (.astore_n 2, 1) := by decide +kernel
theorem dX0_giveBack_33 : decode cX0_giveBack 33 = .ok (.goto (-28), 3) := by decide +kernel
theorem dX0_giveBack_36 : decode cX0_giveBack 36 = .ok (.aload_n 1, 1) := by decide +kernel
theorem dX0_giveBack_37 : decode cX0_giveBack 37 = .ok (.iconst (-1), 1) := by decide +kernel
theorem dX0_giveBack_38 : decode cX0_giveBack 38 = .ok (.putfield 28, 3) := by decide +kernel
theorem dX0_giveBack_41 : decode cX0_giveBack 41 = .ok (.aload_n 1, 1) := by decide +kernel
theorem dX0_giveBack_42 : decode cX0_giveBack 42 = .ok (.iconst 0, 1) := by decide +kernel
theorem dX0_giveBack_43 : decode cX0_giveBack 43 = .ok (.putfield 57, 3) := by decide +kernel
theorem dX0_giveBack_46 : decode cX0_giveBack 46 = .ok (.aload_n 1, 1) := by decide +kernel
theorem dX0_giveBack_47 : decode cX0_giveBack 47 = .ok (.aconst_null, 1) := by decide +kernel
theorem dX0_giveBack_48 : decode cX0_giveBack 48 = .ok (.putfield 42, 3) := by decide +kernel
theorem dX0_giveBack_51 : decode cX0_giveBack 51 = .ok (.return_, 1) := by decide +kernel
theorem dX0_moveAllDown_0 : decode cX0_moveAllDown 0 = .ok (.iconst 0, 1) := by decide +kernel
theorem dX0_moveAllDown_1 : decode cX0_moveAllDown 1 = .ok (.istore_n 1, 1) := by decide +kernel
theorem dX0_moveAllDown_2 : decode cX0_moveAllDown 2 = .ok (.iconst 0, 1) := by decide +kernel
theorem dX0_moveAllDown_3 : decode cX0_moveAllDown 3 = .ok (.istore_n 2, 1) := by decide +kernel
theorem dX0_moveAllDown_4 : decode cX0_moveAllDown 4 = .ok (.aload_n 0, 1) := by decide +kernel
theorem dX0_moveAllDown_5 : decode cX0_moveAllDown 5 = .ok (.getfield 24, 3) := by decide +kernel
theorem dX0_moveAllDown_8 : decode cX0_moveAllDown 8 = .ok (.getfield 42, 3) := by decide +kernel
theorem dX0_moveAllDown_11 : decode cX0_moveAllDown 11 = .ok (.astore_n 3, 1) := by decide +kernel
theorem dX0_moveAllDown_12 : decode cX0_moveAllDown 12 = .ok (.aload_n 3, 1) := by decide +kernel
theorem dX0_moveAllDown_13 : decode cX0_moveAllDown 13 = .ok (.ifnull 49, 3) := by decide +kernel
theorem dX0_moveAllDown_16 : decode cX0_moveAllDown 16 = .ok (.aload_n 3, 1) := by decide +kernel
theorem dX0_moveAllDown_17 : decode cX0_moveAllDown 17 = .ok (.getfield 28, 3) := by decide +kernel
theorem dX0_moveAllDown_20 : decode cX0_moveAllDown 20 = .ok (.iload_n 2, 1) := by decide +kernel
theorem dX0_moveAllDown_21 : decode cX0_moveAllDown 21 = .ok (.if_icmp .eq 28, 3) := by decide +kernel
theorem dX0_moveAllDown_24 : decode cX0_moveAllDown 24 = .ok (.aload_n 0, 1) := by decide +kernel
theorem dX0_moveAllDown_25 : decode cX0_moveAllDown 25 = .ok (.aload_n 3, 1) := by decide +kernel
theorem dX0_moveAllDown_26 : decode cX0_moveAllDown 26 = .ok (.getfield 28, 3) := by decide +kernel
theorem dX0_moveAllDown_29 : decode cX0_moveAllDown 29 = .ok (.iload_n 2, 1) := by decide +kernel
theorem dX0_moveAllDown_30 : decode cX0_moveAllDown 30 = .ok (.aload_n 3, 1) := by decide +kernel
theorem dX0_moveAllDown_31 : decode cX0_moveAllDown 31 = .ok (.getfield 57, 3) := by decide +kernel
theorem dX0_moveAllDown_34 : decode cX0_moveAllDown 34 = .ok (.invokevirtual 60, 3) := by decide +kernel
theorem dX0_moveAllDown_37 : decode cX0_moveAllDown 37 = .ok (.aload_n 3, 1) := by decide +kernel
theorem dX0_moveAllDown_38 : decode cX0_moveAllDown 38 = .ok (.iload_n 2, 1) := by decide +kernel
theorem dX0_moveAllDown_39 : decode cX0_moveAllDown 39 = .ok (.putfield 28, 3) := by decide +kernel
theorem dX0_moveAllDown_42 : decode cX0_moveAllDown 42 = .ok (.iload_n 1, 1) := by decide +kernel
theorem dX0_moveAllDown_43 : decode cX0_moveAllDown 43 = .ok (.aload_n 3, 1) := by decide +kernel
theorem dX0_moveAllDown_44 : decode cX0_moveAllDown 44 = .ok (.getfield 57, 3) := by decide +kernel
theorem dX0_moveAllDown_47 : decode cX0_moveAllDown 47 = .ok (.iadd, 1) := by decide +kernel
theorem dX0_moveAllDown_48 : decode cX0_moveAllDown 48 = .ok (.istore_n 1, 1) := by decide +kernel
theorem dX0_moveAllDown_49 : decode cX0_moveAllDown 49 = .ok (.aload_n 3, 1) := by decide +kernel
theorem dX0_moveAllDown_50 : decode cX0_moveAllDown 50 = .ok (.invokevirtual 45, 3) := by decide +kernel
theorem dX0_moveAllDown_53 : decode cX0_moveAllDown 53 = .ok (.istore_n 2, 1) := by decide +kernel
theorem dX0_moveAllDown_54 : decode cX0_moveAllDown 54 = .ok (.aload_n 3, 1) := by decide +kernel
theorem dX0_moveAllDown_55 : decode cX0_moveAllDown 55 = .ok (.getfield 42, 3) := by decide +kernel
theorem dX0_moveAllDown_58 : decode cX0_moveAllDown 58 = .ok (.astore_n 3, 1) := by decide +kernel
theorem dX0_moveAllDown_59 : decode cX0_moveAllDown 59 = .ok (.goto (-47), 3) := by decide +kernel
theorem dX0_moveAllDown_62 : decode cX0_moveAllDown 62 = .ok (.iload_n 1, 1) := by decide +kernel
theorem dX0_moveAllDown_63 : decode cX0_moveAllDown 63 = .ok (.ireturn, 1) := by decide +kernel
theorem dX0_countFreeWords_0 : decode cX0_countFreeWords 0 = .ok (.iconst 0, 1) := by decide +kernel
theorem dX0_countFreeWords_1 : decode cX0_countFreeWords 1 = .ok (.istore_n 1, 1) := by decide +kernel
theorem dX0_countFreeWords_2 : decode cX0_countFreeWords 2 = .ok (.aload_n 0, 1) := by decide +kernel
theorem dX0_countFreeWords_3 : decode cX0_countFreeWords 3 = .ok (.getfield 24, 3) := by decide +kernel
theorem dX0_countFreeWords_6 : decode cX0_countFreeWords 6 = .ok (.astore_n 2, 1) := by decide +kernel
theorem dX0_countFreeWords_7 : decode cX0_countFreeWords 7 = .ok (.aload_n 2, 1) := by decide +kernel
theorem dX0_countFreeWords_8 : decode cX0_countFreeWords 8 = .ok (.ifnull 19, 3) := by decide +kernel
theorem dX0_countFreeWords_11 : decode cX0_countFreeWords 11 = .ok (.iload_n 1, 1) := by decide +kernel
theorem dX0_countFreeWords_12 : decode cX0_countFreeWords 12 = .ok (.aload_n 0, 1) := by decide +kernel
theorem dX0_countFreeWords_13 : decode cX0_countFreeWords 13 = .ok (.aload_n 2, 1) := by decide +kernel
theorem dX0_countFreeWords_14 : decode cX0_countFreeWords 14 = .ok (.invokevirtual 49, 3) := by decide +kernel
theorem dX0_countFreeWords_17 : decode cX0_countFreeWords 17 = .ok (.iadd, 1) := by decide +kernel
theorem dX0_countFreeWords_18 : decode cX0_countFreeWords 18 = .ok (.istore_n 1, 1) := by decide +kernel
theorem dX0_countFreeWords_19 : decode cX0_countFreeWords 19 = .ok (.aload_n 2, 1) := by decide +kernel
theorem dX0_countFreeWords_20 : decode cX0_countFreeWords 20 = .ok (.getfield 42, 3) := by decide +kernel
theorem dX0_countFreeWords_23 : decode cX0_countFreeWords 23 = .ok (.astore_n 2, 1) := by decide +kernel
theorem dX0_countFreeWords_24 : decode cX0_countFreeWords 24 = .ok (.goto (-17), 3) := by decide +kernel
theorem dX0_countFreeWords_27 : decode cX0_countFreeWords 27 = .ok (.iload_n 1, 1) := by decide +kernel
theorem dX0_countFreeWords_28 : decode cX0_countFreeWords 28 = .ok (.ireturn, 1) := by decide +kernel
theorem dX0_sizeOfLargestGap_0 : decode cX0_sizeOfLargestGap 0 = .ok (.iconst 0, 1) := by decide +kernel
theorem dX0_sizeOfLargestGap_1 : decode cX0_sizeOfLargestGap 1 = .ok (.istore_n 1, 1) := by decide +kernel
theorem dX0_sizeOfLargestGap_2 : decode cX0_sizeOfLargestGap 2 = .ok (.aload_n 0, 1) := by decide +kernel
theorem dX0_sizeOfLargestGap_3 : decode cX0_sizeOfLargestGap 3 = .ok (.getfield 24, 3) := by decide +kernel
theorem dX0_sizeOfLargestGap_6 : decode cX0_sizeOfLargestGap 6 = .ok (.astore_n 2, 1) := by decide +kernel
theorem dX0_sizeOfLargestGap_7 : decode cX0_sizeOfLargestGap 7 = .ok (.aload_n 2, 1) := by decide +kernel
theorem dX0_sizeOfLargestGap_8 : decode cX0_sizeOfLargestGap 8 = .ok (.ifnull 21, 3) := by decide +kernel
theorem dX0_sizeOfLargestGap_11 : decode cX0_sizeOfLargestGap 11 = .ok (.iload_n 1, 1) := by decide +kernel
theorem dX0_sizeOfLargestGap_12 : decode cX0_sizeOfLargestGap 12 = .ok (.aload_n 0, 1) := by decide +kernel
theorem dX0_sizeOfLargestGap_13 : decode cX0_sizeOfLargestGap 13 = .ok (.aload_n 2, 1) := by decide +kernel
theorem dX0_sizeOfLargestGap_14 : decode cX0_sizeOfLargestGap 14 = .ok (.invokevirtual 49, 3) := by decide +kernel
theorem dX0_sizeOfLargestGap_17 : decode cX0_sizeOfLargestGap 17 = .ok (.invokestatic 9, 3) := by decide +kernel
theorem dX0_sizeOfLargestGap_20 : decode cX0_sizeOfLargestGap 20 = .ok (.istore_n 1, 1) := by decide +kernel
theorem dX0_sizeOfLargestGap_21 : decode cX0_sizeOfLargestGap 21 = .ok (.aload_n 2, 1) := by decide +kernel
theorem dX0_sizeOfLargestGap_22 : decode cX0_sizeOfLargestGap 22 = .ok (.getfield 42, 3) := by decide +kernel
theorem dX0_sizeOfLargestGap_25 : decode cX0_sizeOfLargestGap 25 = .ok (.astore_n 2, 1) := by decide +kernel
theorem dX0_sizeOfLargestGap_26 : decode cX0_sizeOfLargestGap 26 = .ok (.goto (-19), 3) := by decide +kernel
theorem dX0_sizeOfLargestGap_29 : decode cX0_sizeOfLargestGap 29 = .ok (.iload_n 1, 1) := by decide +kernel
theorem dX0_sizeOfLargestGap_30 : decode cX0_sizeOfLargestGap 30 = .ok (.ireturn, 1) := by decide +kernel
theorem dX0_countGaps_0 : decode cX0_countGaps 0 = .ok (.iconst 0, 1) := by decide +kernel
theorem dX0_countGaps_1 : decode cX0_countGaps 1 = .ok (.istore_n 1, 1) := by decide +kernel
theorem dX0_countGaps_2 : decode cX0_countGaps 2 = .ok (.aload_n 0, 1) := by decide +kernel
theorem dX0_countGaps_3 : decode cX0_countGaps 3 = .ok (.getfield 24, 3) := by decide +kernel
theorem dX0_countGaps_6 : decode cX0_countGaps 6 = .ok (.astore_n 2, 1) := by decide +kernel
theorem dX0_countGaps_7 : decode cX0_countGaps 7 = .ok (.aload_n 2, 1) := by decide +kernel
theorem dX0_countGaps_8 : decode cX0_countGaps 8 = .ok (.ifnull 22, 3) := by decide +kernel
theorem dX0_countGaps_11 : decode cX0_countGaps 11 = .ok (.aload_n 0, 1) := by decide +kernel
theorem dX0_countGaps_12 : decode cX0_countGaps 12 = .ok (.aload_n 2, 1) := by decide +kernel
theorem dX0_countGaps_13 : decode cX0_countGaps 13 = .ok (.invokevirtual 49, 3) := by decide +kernel
theorem dX0_countGaps_16 : decode cX0_countGaps 16 = .ok (.ifCond .le 6, 3) := by decide +kernel
theorem dX0_countGaps_19 : decode cX0_countGaps 19 = .ok (.iinc 1 1, 3) := by decide +kernel
theorem dX0_countGaps_22 : decode cX0_countGaps 22 = .ok (.aload_n 2, 1) := by decide +kernel
theorem dX0_countGaps_23 : decode cX0_countGaps 23 = .ok (.getfield 42, 3) := by decide +kernel
theorem dX0_countGaps_26 : decode cX0_countGaps 26 = .ok (.astore_n 2, 1) := by decide +kernel
theorem dX0_countGaps_27 : decode cX0_countGaps 27 = .ok (.goto (-20), 3) := by decide +kernel
theorem dX0_countGaps_30 : decode cX0_countGaps 30 = .ok (.iload_n 1, 1) := by decide +kernel
theorem dX0_countGaps_31 : decode cX0_countGaps 31 = .ok (.ireturn, 1) := by decide +kernel
theorem dX1_init_0 : decode cX1_init 0 = .ok (.aload_n 0, 1) := by decide +kernel
theorem dX1_init_1 : decode cX1_init 1 = .ok (.invokespecial 3, 3) := by decide +kernel
theorem dX1_init_4 : decode cX1_init 4 = .ok (.aload_n 0, 1) := by decide +kernel
theorem dX1_init_5 : decode cX1_init 5 = .ok (.iconst (-1), 1) := by decide +kernel
theorem dX1_init_6 : decode cX1_init 6 = .ok (.putfield 9, 3) := by decide +kernel
theorem dX1_init_9 : decode cX1_init 9 = .ok (.return_, 1) := by decide +kernel
theorem dX1_end_0 : decode cX1_end 0 = .ok (.aload_n 0, 1) := by decide +kernel
theorem dX1_end_1 : decode cX1_end 1 = .ok (.getfield 9, 3) := by decide +kernel
theorem dX1_end_4 : decode cX1_end 4 = .ok (.aload_n 0, 1) := by decide +kernel
theorem dX1_end_5 : decode cX1_end 5 = .ok (.getfield 15, 3) := by decide +kernel
theorem dX1_end_8 : decode cX1_end 8 = .ok (.iadd, 1) := by decide +kernel
theorem dX1_end_9 : decode cX1_end 9 = .ok (.ireturn, 1) := by decide +kernel
theorem dX2_init_0 : decode cX2_init 0 = .ok (.aload_n 0, 1) := by decide +kernel
theorem dX2_init_1 : decode cX2_init 1 = .ok (.aload_n 1, 1) := by decide +kernel
theorem dX2_init_2 : decode cX2_init 2 = .ok (.aload_n 2, 1) := by decide +kernel
theorem dX2_init_3 : decode cX2_init 3 = .ok (.invokespecial 1, 3) := by decide +kernel
theorem dX2_init_6 : decode cX2_init 6 = .ok (.aload_n 0, 1) := by decide +kernel
theorem dX2_init_7 : decode cX2_init 7 = .ok (.iload_n 3, 1) := by decide +kernel
theorem dX2_init_8 : decode cX2_init 8 = .ok (.putfield 7, 3) := by decide +kernel
theorem dX2_init_11 : decode cX2_init 11 = .ok (.return_, 1) := by decide +kernel
theorem dX2_begin_0 : decode cX2_begin 0 = .ok (.aload_n 0, 1) := by decide +kernel
theorem dX2_begin_1 : decode cX2_begin 1 = .ok (.aload_n 0, 1) := by decide +kernel
theorem dX2_begin_2 : decode cX2_begin 2 = .ok (.getfield 7, 3) := by decide +kernel
theorem dX2_begin_5 : decode cX2_begin 5 = .ok (.putfield 13, 3) := by decide +kernel
theorem dX2_begin_8 : decode cX2_begin 8 = .ok (.aload_n 0, 1) := by decide +kernel
theorem dX2_begin_9 : decode cX2_begin 9 = .ok (.aload_n 0, 1) := by decide +kernel
theorem dX2_begin_10 : decode cX2_begin 10 = .ok (.getfield 7, 3) := by decide +kernel
theorem dX2_begin_13 : decode cX2_begin 13 = .ok (.putfield 16, 3) := by decide +kernel
theorem dX2_begin_16 : decode cX2_begin 16 = .ok (.return_, 1) := by decide +kernel
theorem dX2_compareNext_0 : decode cX2_compareNext 0 = .ok (.aload_n 0, 1) := by decide +kernel
theorem dX2_compareNext_1 : decode cX2_compareNext 1 = .ok (.aload_n 0, 1) := by decide +kernel
theorem dX2_compareNext_2 : decode cX2_compareNext 2 = .ok (.getfield 16, 3) := by decide +kernel
theorem dX2_compareNext_5 : decode cX2_compareNext 5 = .ok (.aload_n 0, 1) := by decide +kernel
theorem dX2_compareNext_6 : decode cX2_compareNext 6 = .ok (.getfield 7, 3) := by decide +kernel
theorem dX2_compareNext_9 : decode cX2_compareNext 9 = .ok (.isub, 1) := by decide +kernel
theorem dX2_compareNext_10 : decode cX2_compareNext 10 = .ok (.invokevirtual 19, 3) := by decide +kernel
theorem dX2_compareNext_13 : decode cX2_compareNext 13 = .ok (.aload_n 0, 1) := by decide +kernel
theorem dX2_compareNext_14 : decode cX2_compareNext 14 = .ok (.aload_n 0, 1) := by decide +kernel
theorem dX2_compareNext_15 : decode cX2_compareNext 15 = .ok (.getfield 16, 3) := by decide +kernel
theorem dX2_compareNext_18 : decode cX2_compareNext 18 = .ok (.invokevirtual 19, 3) := by decide +kernel
theorem dX2_compareNext_21 : decode cX2_compareNext 21 = .ok (.if_icmp .le 7, 3) := by decide +kernel
theorem dX2_compareNext_24 : decode cX2_compareNext 24 = .ok (.iconst 1, 1) := by decide +kernel
theorem dX2_compareNext_25 : decode cX2_compareNext 25 = .ok (.goto 4, 3) := by decide +kernel
theorem dX2_compareNext_28 : decode cX2_compareNext 28 = .ok (.iconst 0, 1) := by decide +kernel
theorem dX2_compareNext_29 : decode cX2_compareNext 29 = .ok (.istore_n 1, 1) := by decide +kernel
theorem dX2_compareNext_30 : decode cX2_compareNext 30 = .ok (.iload_n 1, 1) := by decide +kernel
theorem dX2_compareNext_31 : decode cX2_compareNext 31 = .ok (.ifCond .eq 33, 3) := by decide +kernel
theorem dX2_compareNext_34 : decode cX2_compareNext 34 = .ok (.aload_n 0, 1) := by decide +kernel
theorem dX2_compareNext_35 : decode cX2_compareNext 35 = .ok (.aload_n 0, 1) := by decide +kernel
theorem dX2_compareNext_36 : decode cX2_compareNext 36 = .ok (.getfield 16, 3) := by decide +kernel
theorem dX2_compareNext_39 : decode cX2_compareNext 39 = .ok (.aload_n 0, 1) := by decide +kernel
theorem dX2_compareNext_40 : decode cX2_compareNext 40 = .ok (.getfield 7, 3) := by decide +kernel
theorem dX2_compareNext_43 : decode cX2_compareNext 43 = .ok (.isub, 1) := by decide +kernel
theorem dX2_compareNext_44 : decode cX2_compareNext 44 = .ok (.aload_n 0, 1) := by decide +kernel
theorem dX2_compareNext_45 : decode cX2_compareNext 45 = .ok (.getfield 16, 3) := by decide +kernel
theorem dX2_compareNext_48 : decode cX2_compareNext 48 = .ok (.invokevirtual 23, 3) := by decide +kernel
theorem dX2_compareNext_51 : decode cX2_compareNext 51 = .ok (.aload_n 0, 1) := by decide +kernel
theorem dX2_compareNext_52 : decode cX2_compareNext 52 = .ok (.dup, 1) := by decide +kernel
theorem dX2_compareNext_53 : decode cX2_compareNext 53 = .ok (.getfield 16, 3) := by decide +kernel
theorem dX2_compareNext_56 : decode cX2_compareNext 56 = .ok (.aload_n 0, 1) := by decide +kernel
theorem dX2_compareNext_57 : decode cX2_compareNext 57 = .ok (.getfield 7, 3) := by decide +kernel
theorem dX2_compareNext_60 : decode cX2_compareNext 60 = .ok (.isub, 1) := by decide +kernel
theorem dX2_compareNext_61 : decode cX2_compareNext 61 = .ok (.putfield 16, 3) := by decide +kernel
theorem dX2_compareNext_64 : decode cX2_compareNext 64 = .ok (.iload_n 1, 1) := by decide +kernel
theorem dX2_compareNext_65 : decode cX2_compareNext 65 = .ok (.ifCond .eq 14, 3) := by decide +kernel
theorem dX2_compareNext_68 : decode cX2_compareNext 68 = .ok (.aload_n 0, 1) := by decide +kernel
theorem dX2_compareNext_69 : decode cX2_compareNext 69 = .ok (.getfield 16, 3) := by decide +kernel
theorem dX2_compareNext_72 : decode cX2_compareNext 72 = .ok (.aload_n 0, 1) := by decide +kernel
theorem dX2_compareNext_73 : decode cX2_compareNext 73 = .ok (.getfield 7, 3) := by decide +kernel
theorem dX2_compareNext_76 : decode cX2_compareNext 76 = .ok (.if_icmp .ge 7, 3) := by decide +kernel
theorem dX2_compareNext_79 : decode cX2_compareNext 79 = .ok (.aload_n 0, 1) := by decide +kernel
theorem dX2_compareNext_80 : decode cX2_compareNext 80 = .ok (.invokevirtual 27, 3) := by decide +kernel
theorem dX2_compareNext_83 : decode cX2_compareNext 83 = .ok (.return_, 1) := by decide +kernel
theorem dX2_goOnWithNextNumber_0 : decode cX2_goOnWithNextNumber 0 = .ok (.aload_n 0, 1) := by decide +kernel
theorem dX2_goOnWithNextNumber_1 : decode cX2_goOnWithNextNumber 1 = .ok (.dup, 1) := by decide +kernel
theorem dX2_goOnWithNextNumber_2 : decode cX2_goOnWithNextNumber 2 = .ok (.getfield 13, 3) := by decide +kernel
theorem dX2_goOnWithNextNumber_5 : decode cX2_goOnWithNextNumber 5 = .ok (.iconst 1, 1) := by decide +kernel
theorem dX2_goOnWithNextNumber_6 : decode cX2_goOnWithNextNumber 6 = .ok (.iadd, 1) := by decide +kernel
theorem dX2_goOnWithNextNumber_7 : decode cX2_goOnWithNextNumber 7 = .ok (.putfield 13, 3) := by decide +kernel
theorem dX2_goOnWithNextNumber_10 : decode cX2_goOnWithNextNumber 10 = .ok (.aload_n 0, 1) := by decide +kernel
theorem dX2_goOnWithNextNumber_11 : decode cX2_goOnWithNextNumber 11 = .ok (.getfield 13, 3) := by decide +kernel
theorem dX2_goOnWithNextNumber_14 : decode cX2_goOnWithNextNumber 14 = .ok (.aload_n 0, 1) := by decide +kernel
theorem dX2_goOnWithNextNumber_15 : decode cX2_goOnWithNextNumber 15 = .ok (.getfield 31, 3) := by decide +kernel
theorem dX2_goOnWithNextNumber_18 : decode cX2_goOnWithNextNumber 18 = .ok (.if_icmp .lt 39, 3) := by decide +kernel
theorem dX2_goOnWithNextNumber_21 : decode cX2_goOnWithNextNumber 21 = .ok (.aload_n 0, 1) := by decide +kernel
theorem dX2_goOnWithNextNumber_22 : decode cX2_goOnWithNextNumber 22 = .ok (.aload_n 0, 1) := by decide +kernel
theorem dX2_goOnWithNextNumber_23 : decode cX2_goOnWithNextNumber 23 = .ok (.getfield 7, 3) := by decide +kernel
theorem dX2_goOnWithNextNumber_26 : decode cX2_goOnWithNextNumber 26 = .ok (.iconst 1, 1) := by decide +kernel
theorem dX2_goOnWithNextNumber_27 : decode cX2_goOnWithNextNumber 27 = .ok (.isub, 1) := by decide +kernel
theorem dX2_goOnWithNextNumber_28 : decode cX2_goOnWithNextNumber 28 = .ok (.iconst 3, 1) := by decide +kernel
theorem dX2_goOnWithNextNumber_29 : decode cX2_goOnWithNextNumber 29 = .ok (.idiv, 1) := by decide +kernel
theorem dX2_goOnWithNextNumber_30 : decode cX2_goOnWithNextNumber 30 = .ok (.putfield 7, 3) := by decide +kernel
theorem dX2_goOnWithNextNumber_33 : decode cX2_goOnWithNextNumber 33 = .ok (.aload_n 0, 1) := by decide +kernel
theorem dX2_goOnWithNextNumber_34 : decode cX2_goOnWithNextNumber 34 = .ok (.aload_n 0, 1) := by decide +kernel
theorem dX2_goOnWithNextNumber_35 : decode cX2_goOnWithNextNumber 35 = .ok (.getfield 7, 3) := by decide +kernel
theorem dX2_goOnWithNextNumber_38 : decode cX2_goOnWithNextNumber 38 = .ok (.putfield 13, 3) := by decide +kernel
theorem dX2_goOnWithNextNumber_41 : decode cX2_goOnWithNextNumber 41 = .ok (.aload_n 0, 1) := by decide +kernel
theorem dX2_goOnWithNextNumber_42 : decode cX2_goOnWithNextNumber 42 = .ok (.aload_n 0, 1) := by decide +kernel
theorem dX2_goOnWithNextNumber_43 : decode cX2_goOnWithNextNumber 43 = .ok (.getfield 7, 3) := by decide +kernel
theorem dX2_goOnWithNextNumber_46 : decode cX2_goOnWithNextNumber 46 = .ok (.ifCond .gt 7, 3) := by decide +kernel
theorem dX2_goOnWithNextNumber_49 : decode cX2_goOnWithNextNumber 49 = .ok (.iconst 1, 1) := by decide +kernel
theorem dX2_goOnWithNextNumber_50 : decode cX2_goOnWithNextNumber 50 = .ok (.goto 4, 3) := by decide +kernel
theorem dX2_goOnWithNextNumber_53 : decode cX2_goOnWithNextNumber 53 = .ok (.iconst 0, 1) := by decide +kernel
theorem dX2_goOnWithNextNumber_54 : decode cX2_goOnWithNextNumber 54 = .ok (.putfield 34, 3) := by decide +kernel
theorem dX2_goOnWithNextNumber_57 : decode cX2_goOnWithNextNumber 57 = .ok (.aload_n 0, 1) := by decide +kernel
theorem dX2_goOnWithNextNumber_58 : decode cX2_goOnWithNextNumber 58 = .ok (.aload_n 0, 1) := by decide +kernel
theorem dX2_goOnWithNextNumber_59 : decode cX2_goOnWithNextNumber 59 = .ok (.getfield 13, 3) := by decide +kernel
theorem dX2_goOnWithNextNumber_62 : decode cX2_goOnWithNextNumber 62 = .ok (.putfield 16, 3) := by decide +kernel
theorem dX2_goOnWithNextNumber_65 : decode cX2_goOnWithNextNumber 65 = .ok (.return_, 1) := by decide +kernel
theorem dX3_init_0 : decode cX3_init 0 = .ok (.aload_n 0, 1) := by decide +kernel
theorem dX3_init_1 : decode cX3_init 1 = .ok (.aload_n 1, 1) := by decide +kernel
theorem dX3_init_2 : decode cX3_init 2 = .ok (.aload_n 2, 1) := by decide +kernel
theorem dX3_init_3 : decode cX3_init 3 = .ok (.invokespecial 1, 3) := by decide +kernel
theorem dX3_init_6 : decode cX3_init 6 = .ok (.return_, 1) := by decide +kernel
theorem dX3_begin_0 : decode cX3_begin 0 = .ok (.aload_n 0, 1) := by decide +kernel
theorem dX3_begin_1 : decode cX3_begin 1 = .ok (.aload_n 0, 1) := by decide +kernel
theorem dX3_begin_2 : decode cX3_begin 2 = .ok (.getfield 7, 3) := by decide +kernel
theorem dX3_begin_5 : decode cX3_begin 5 = .ok (.iconst 2, 1) := by decide +kernel
theorem dX3_begin_6 : decode cX3_begin 6 = .ok (.idiv, 1) := by decide +kernel
theorem dX3_begin_7 : decode cX3_begin 7 = .ok (.iconst 1, 1) := by decide +kernel
theorem dX3_begin_8 : decode cX3_begin 8 = .ok (.isub, 1) := by decide +kernel
theorem dX3_begin_9 : decode cX3_begin 9 = .ok (.putfield 13, 3) := by decide +kernel
theorem dX3_begin_12 : decode cX3_begin 12 = .ok (.aload_n 0, 1) := by decide +kernel
theorem dX3_begin_13 : decode cX3_begin 13 = .ok (.aload_n 0, 1) := by decide +kernel
theorem dX3_begin_14 : decode cX3_begin 14 = .ok (.getfield 7, 3) := by decide +kernel
theorem dX3_begin_17 : decode cX3_begin 17 = .ok (.putfield 16, 3) := by decide +kernel
theorem dX3_begin_20 : decode cX3_begin 20 = .ok (.aload_n 0, 1) := by decide +kernel
theorem dX3_begin_21 : decode cX3_begin 21 = .ok (.aload_n 0, 1) := by decide +kernel
theorem dX3_begin_22 : decode cX3_begin 22 = .ok (.getfield 13, 3) := by decide +kernel
theorem dX3_begin_25 : decode cX3_begin 25 = .ok (.invokevirtual 19, 3) := by decide +kernel
theorem dX3_begin_28 : decode cX3_begin 28 = .ok (.return_, 1) := by decide +kernel
theorem dX3_compareNext_0 : decode cX3_compareNext 0 = .ok (.aload_n 0, 1) := by decide +kernel
theorem dX3_compareNext_1 : decode cX3_compareNext 1 = .ok (.getfield 23, 3) := by decide +kernel
theorem dX3_compareNext_4 : decode cX3_compareNext 4 = .ok (.ifCond .eq 40, 3) := by decide +kernel
theorem dX3_compareNext_7 : decode cX3_compareNext 7 = .ok (.aload_n 0, 1) := by decide +kernel
theorem dX3_compareNext_8 : decode cX3_compareNext 8 = .ok (.aload_n 0, 1) := by decide +kernel
theorem dX3_compareNext_9 : decode cX3_compareNext 9 = .ok (.getfield 27, 3) := by decide +kernel
theorem dX3_compareNext_12 : decode cX3_compareNext 12 = .ok (.invokevirtual 30, 3) := by decide +kernel
theorem dX3_compareNext_15 : decode cX3_compareNext 15 = .ok (.aload_n 0, 1) := by decide +kernel
theorem dX3_compareNext_16 : decode cX3_compareNext 16 = .ok (.aload_n 0, 1) := by decide +kernel
theorem dX3_compareNext_17 : decode cX3_compareNext 17 = .ok (.getfield 27, 3) := by decide +kernel
theorem dX3_compareNext_20 : decode cX3_compareNext 20 = .ok (.iconst 1, 1) := by decide +kernel
theorem dX3_compareNext_21 : decode cX3_compareNext 21 = .ok (.iadd, 1) := by decide +kernel
theorem dX3_compareNext_22 : decode cX3_compareNext 22 = .ok (.invokevirtual 30, 3) := by decide +kernel
theorem dX3_compareNext_25 : decode cX3_compareNext 25 = .ok (.if_icmp .ge 13, 3) := by decide +kernel
theorem dX3_compareNext_28 : decode cX3_compareNext 28 = .ok (.aload_n 0, 1) := by decide +kernel
theorem dX3_compareNext_29 : decode cX3_compareNext 29 = .ok (.dup, 1) := by decide +kernel
theorem dX3_compareNext_30 : decode cX3_compareNext 30 = .ok (.getfield 27, 3) := by decide +kernel
theorem dX3_compareNext_33 : decode cX3_compareNext 33 = .ok (.iconst 1, 1) := by decide +kernel
theorem dX3_compareNext_34 : decode cX3_compareNext 34 = .ok (.iadd, 1) := by decide +kernel
theorem dX3_compareNext_35 : decode cX3_compareNext 35 = .ok (.putfield 27, 3) := by decide +kernel
theorem dX3_compareNext_38 : decode cX3_compareNext 38 = .ok (.aload_n 0, 1) := by decide +kernel
theorem dX3_compareNext_39 : decode cX3_compareNext 39 = .ok (.iconst 0, 1) := by decide +kernel
theorem dX3_compareNext_40 : decode cX3_compareNext 40 = .ok (.putfield 23, 3) := by decide +kernel
theorem dX3_compareNext_43 : decode cX3_compareNext 43 = .ok (.return_, 1) := by decide +kernel
theorem dX3_compareNext_44 : decode cX3_compareNext 44 = .ok (.aload_n 0, 1) := by decide +kernel
theorem dX3_compareNext_45 : decode cX3_compareNext 45 = .ok (.aload_n 0, 1) := by decide +kernel
theorem dX3_compareNext_46 : decode cX3_compareNext 46 = .ok (.getfield 34, 3) := by decide +kernel
theorem dX3_compareNext_49 : decode cX3_compareNext 49 = .ok (.invokevirtual 30, 3) := by decide +kernel
theorem dX3_compareNext_52 : decode cX3_compareNext 52 = .ok (.aload_n 0, 1) := by decide +kernel
theorem dX3_compareNext_53 : decode cX3_compareNext 53 = .ok (.aload_n 0, 1) := by decide +kernel
theorem dX3_compareNext_54 : decode cX3_compareNext 54 = .ok (.getfield 27, 3) := by decide +kernel
theorem dX3_compareNext_57 : decode cX3_compareNext 57 = .ok (.invokevirtual 30, 3) := by decide +kernel
theorem dX3_compareNext_60 : decode cX3_compareNext 60 = .ok (.if_icmp .ge 7, 3) := by decide +kernel
theorem dX3_compareNext_63 : decode cX3_compareNext 63 = .ok (.iconst 1, 1) := by decide +kernel
theorem dX3_compareNext_64 : decode cX3_compareNext 64 = .ok (.goto 4, 3) := by decide +kernel
theorem dX3_compareNext_67 : decode cX3_compareNext 67 = .ok (.iconst 0, 1) := by decide +kernel
theorem dX3_compareNext_68 : decode cX3_compareNext 68 = .ok (.istore_n 1, 1) := by decide +kernel
theorem dX3_compareNext_69 : decode cX3_compareNext 69 = .ok (.iload_n 1, 1) := by decide +kernel
theorem dX3_compareNext_70 : decode cX3_compareNext 70 = .ok (.ifCond .eq 23, 3) := by decide +kernel
theorem dX3_compareNext_73 : decode cX3_compareNext 73 = .ok (.aload_n 0, 1) := by decide +kernel
theorem dX3_compareNext_74 : decode cX3_compareNext 74 = .ok (.aload_n 0, 1) := by decide +kernel
theorem dX3_compareNext_75 : decode cX3_compareNext 75 = .ok (.getfield 34, 3) := by decide +kernel
theorem dX3_compareNext_78 : decode cX3_compareNext 78 = .ok (.aload_n 0, 1) := by decide +kernel
theorem dX3_compareNext_79 : decode cX3_compareNext 79 = .ok (.getfield 27, 3) := by decide +kernel
theorem dX3_compareNext_82 : decode cX3_compareNext 82 = .ok (.invokevirtual 37, 3) := by decide +kernel
theorem dX3_compareNext_85 : decode cX3_compareNext 85 = .ok (.aload_n 0, 1) := by decide +kernel
theorem dX3_compareNext_86 : decode cX3_compareNext 86 = .ok (.aload_n 0, 1) := by decide +kernel
theorem dX3_compareNext_87 : decode cX3_compareNext 87 = .ok (.getfield 27, 3) := by decide +kernel
theorem dX3_compareNext_90 : decode cX3_compareNext 90 = .ok (.invokevirtual 19, 3) := by decide +kernel
theorem dX3_compareNext_93 : decode cX3_compareNext 93 = .ok (.iload_n 1, 1) := by decide +kernel
theorem dX3_compareNext_94 : decode cX3_compareNext 94 = .ok (.ifCond .eq 14, 3) := by decide +kernel
theorem dX3_compareNext_97 : decode cX3_compareNext 97 = .ok (.aload_n 0, 1) := by decide +kernel
theorem dX3_compareNext_98 : decode cX3_compareNext 98 = .ok (.getfield 27, 3) := by decide +kernel
theorem dX3_compareNext_101 : decode cX3_compareNext 101 = .ok (.aload_n 0, 1) := by decide +kernel
theorem dX3_compareNext_102 : decode cX3_compareNext 102 = .ok (.getfield 16, 3) := by decide +kernel
theorem dX3_compareNext_105 : decode cX3_compareNext 105 = .ok (.if_icmp .lt 7, 3) := by decide +kernel
theorem dX3_compareNext_108 : decode cX3_compareNext 108 = .ok (.aload_n 0, 1) := by decide +kernel
theorem dX3_compareNext_109 : decode cX3_compareNext 109 = .ok (.invokevirtual 41, 3) := by decide +kernel
theorem dX3_compareNext_112 : decode cX3_compareNext 112 = .ok (.return_, 1) := by decide +kernel
theorem dX3_sinkFrom_0 : decode cX3_sinkFrom 0 = .ok (.aload_n 0, 1) := by decide +kernel
theorem dX3_sinkFrom_1 : decode cX3_sinkFrom 1 = .ok (.iload_n 1, 1) := by decide +kernel
theorem dX3_sinkFrom_2 : decode cX3_sinkFrom 2 = .ok (.putfield 34, 3) := by decide +kernel
theorem dX3_sinkFrom_5 : decode cX3_sinkFrom 5 = .ok (.aload_n 0, 1) := by decide +kernel
theorem dX3_sinkFrom_6 : decode cX3_sinkFrom 6 = .ok (.iconst 2, 1) := by decide +kernel
theorem dX3_sinkFrom_7 : decode cX3_sinkFrom 7 = .ok (.iload_n 1, 1) := by decide +kernel
theorem dX3_sinkFrom_8 : decode cX3_sinkFrom 8 = .ok (.imul, 1) := by decide +kernel
theorem dX3_sinkFrom_9 : decode cX3_sinkFrom 9 = .ok (.iconst 1, 1) := by decide +kernel
theorem dX3_sinkFrom_10 : decode cX3_sinkFrom 10 = .ok (.iadd, 1) := by decide +kernel
theorem dX3_sinkFrom_11 : decode cX3_sinkFrom 11 = .ok (.putfield 27, 3) := by decide +kernel
theorem dX3_sinkFrom_14 : decode cX3_sinkFrom 14 = .ok (.aload_n 0, 1) := by decide +kernel
theorem dX3_sinkFrom_15 : decode cX3_sinkFrom 15 = .ok (.aload_n 0, 1) := by decide +kernel
theorem dX3_sinkFrom_16 : decode cX3_sinkFrom 16 = .ok (.getfield 27, 3) := by decide +kernel
theorem dX3_sinkFrom_19 : decode cX3_sinkFrom 19 = .ok (.iconst 1, 1) := by decide +kernel
theorem dX3_sinkFrom_20 : decode cX3_sinkFrom 20 = .ok (.iadd, 1) := by decide +kernel
theorem dX3_sinkFrom_21 : decode cX3_sinkFrom 21 = .ok (.aload_n 0, 1) := by decide +kernel
theorem dX3_sinkFrom_22 : decode cX3_sinkFrom 22 = .ok (.getfield 16, 3) := by decide +kernel
theorem dX3_sinkFrom_25 : decode cX3_sinkFrom 25 = .ok (.if_icmp .ge 7, 3) := by decide +kernel
theorem dX3_sinkFrom_28 : decode cX3_sinkFrom 28 = .ok (.iconst 1, 1) := by decide +kernel
theorem dX3_sinkFrom_29 : decode cX3_sinkFrom 29 = .ok (.goto 4, 3) := by decide +kernel
theorem dX3_sinkFrom_32 : decode cX3_sinkFrom 32 = .ok (.iconst 0, 1) := by decide +kernel
theorem dX3_sinkFrom_33 : decode cX3_sinkFrom 33 = .ok (.putfield 23, 3) := by decide +kernel
theorem dX3_sinkFrom_36 : decode cX3_sinkFrom 36 = .ok (.return_, 1) := by decide +kernel
theorem dX3_goOnWithNextSink_0 : decode cX3_goOnWithNextSink 0 = .ok (.aload_n 0, 1) := by decide +kernel
theorem dX3_goOnWithNextSink_1 : decode cX3_goOnWithNextSink 1 = .ok (.getfield 13, 3) := by decide +kernel
theorem dX3_goOnWithNextSink_4 : decode cX3_goOnWithNextSink 4 = .ok (.ifCond .le 22, 3) := by decide +kernel
theorem dX3_goOnWithNextSink_7 : decode cX3_goOnWithNextSink 7 = .ok (.aload_n 0, 1) := by decide +kernel
theorem dX3_goOnWithNextSink_8 : decode cX3_goOnWithNextSink 8 = .ok (.dup, 1) := by decide +kernel
theorem dX3_goOnWithNextSink_9 : decode cX3_goOnWithNextSink 9 = .ok (.getfield 13, 3) := by decide +kernel
theorem dX3_goOnWithNextSink_12 : decode cX3_goOnWithNextSink 12 = .ok (.iconst 1, 1) := by decide +kernel
theorem dX3_goOnWithNextSink_13 : decode cX3_goOnWithNextSink 13 = .ok (.isub, 1) := by decide +kernel
theorem dX3_goOnWithNextSink_14 : decode cX3_goOnWithNextSink 14 = .ok (.putfield 13, 3) := by decide +kernel
theorem dX3_goOnWithNextSink_17 : decode cX3_goOnWithNextSink 17 = .ok (.aload_n 0, 1) := by decide +kernel
theorem dX3_goOnWithNextSink_18 : decode cX3_goOnWithNextSink 18 = .ok (.aload_n 0, 1) := by decide +kernel
theorem dX3_goOnWithNextSink_19 : decode cX3_goOnWithNextSink 19 = .ok (.getfield 13, 3) := by decide +kernel
theorem dX3_goOnWithNextSink_22 : decode cX3_goOnWithNextSink 22 = .ok (.invokevirtual 19, 3) := by decide +kernel
theorem dX3_goOnWithNextSink_25 : decode cX3_goOnWithNextSink 25 = .ok (.return_, 1) := by decide +kernel
theorem dX3_goOnWithNextSink_26 : decode cX3_goOnWithNextSink 26 = .ok (.aload_n 0, 1) := by decide +kernel
theorem dX3_goOnWithNextSink_27 : decode cX3_goOnWithNextSink 27 = .ok (.dup, 1) := by decide +kernel
theorem dX3_goOnWithNextSink_28 : decode cX3_goOnWithNextSink 28 = .ok (.getfield 16, 3) := by decide +kernel
theorem dX3_goOnWithNextSink_31 : decode cX3_goOnWithNextSink 31 = .ok (.iconst 1, 1) := by decide +kernel
theorem dX3_goOnWithNextSink_32 : decode cX3_goOnWithNextSink 32 = .ok (.isub, 1) := by decide +kernel
theorem dX3_goOnWithNextSink_33 : decode cX3_goOnWithNextSink 33 = .ok (.putfield 16, 3) := by decide +kernel
theorem dX3_goOnWithNextSink_36 : decode cX3_goOnWithNextSink 36 = .ok (.aload_n 0, 1) := by decide +kernel
theorem dX3_goOnWithNextSink_37 : decode cX3_goOnWithNextSink 37 = .ok (.iconst 0, 1) := by decide +kernel
theorem dX3_goOnWithNextSink_38 : decode cX3_goOnWithNextSink 38 = .ok (.aload_n 0, 1) := by decide +kernel
theorem dX3_goOnWithNextSink_39 : decode cX3_goOnWithNextSink 39 = .ok (.getfield 16, 3) := by decide +kernel
theorem dX3_goOnWithNextSink_42 : decode cX3_goOnWithNextSink 42 = .ok (.invokevirtual 37, 3) := by decide +kernel
theorem dX3_goOnWithNextSink_45 : decode cX3_goOnWithNextSink 45 = .ok (.aload_n 0, 1) := by decide +kernel
theorem dX3_goOnWithNextSink_46 : decode cX3_goOnWithNextSink 46 = .ok (.iconst 0, 1) := by decide +kernel
theorem dX3_goOnWithNextSink_47 : decode cX3_goOnWithNextSink 47 = .ok (.invokevirtual 19, 3) := by decide +kernel
theorem dX3_goOnWithNextSink_50 : decode cX3_goOnWithNextSink 50 = .ok (.aload_n 0, 1) := by decide +kernel
theorem dX3_goOnWithNextSink_51 : decode cX3_goOnWithNextSink 51 = .ok (.aload_n 0, 1) := by decide +kernel
theorem dX3_goOnWithNextSink_52 : decode cX3_goOnWithNextSink 52 = .ok (.getfield 16, 3) := by decide +kernel
theorem dX3_goOnWithNextSink_55 : decode cX3_goOnWithNextSink 55 = .ok (.iconst 1, 1) := by decide +kernel
theorem dX3_goOnWithNextSink_56 : decode cX3_goOnWithNextSink 56 = .ok (.if_icmp .gt 7, 3) := by decide +kernel
theorem dX3_goOnWithNextSink_59 : decode cX3_goOnWithNextSink 59 = .ok (.iconst 1, 1) := by decide +kernel
theorem dX3_goOnWithNextSink_60 : decode cX3_goOnWithNextSink 60 = .ok (.goto 4, 3) := by decide +kernel
theorem dX3_goOnWithNextSink_63 : decode cX3_goOnWithNextSink 63 = .ok (.iconst 0, 1) := by decide +kernel
theorem dX3_goOnWithNextSink_64 : decode cX3_goOnWithNextSink 64 = .ok (.putfield 45, 3) := by decide +kernel
theorem dX3_goOnWithNextSink_67 : decode cX3_goOnWithNextSink 67 = .ok (.return_, 1) := by decide +kernel
theorem dX4_init_0 : decode cX4_init 0 = .ok (.aload_n 0, 1) := by decide +kernel
theorem dX4_init_1 : decode cX4_init 1 = .ok (.invokespecial 3, 3) := by decide +kernel
theorem dX4_init_4 : decode cX4_init 4 = .ok (.aload_n 0, 1) := by decide +kernel
theorem dX4_init_5 : decode cX4_init 5 = .ok (.iload_n 1, 1) := by decide +kernel
theorem dX4_init_6 : decode cX4_init 6 = .ok (.putfield 9, 3) := by decide +kernel
theorem dX4_init_9 : decode cX4_init 9 = .ok (.aload_n 0, 1) := by decide +kernel
theorem dX4_init_10 : decode cX4_init 10 = .ok (.iload_n 2, 1) := by decide +kernel
theorem dX4_init_11 : decode cX4_init 11 = .ok (.putfield 15, 3) := by decide +kernel
theorem dX4_init_14 : decode cX4_init 14 = .ok (.aload_n 0, 1) := by decide +kernel
theorem dX4_init_15 : decode cX4_init 15 = .ok (.iload_n 3, 1) := by decide +kernel
theorem dX4_init_16 : decode cX4_init 16 = .ok (.putfield 18, 3) := by decide +kernel
theorem dX4_init_19 : decode cX4_init 19 = .ok (.aload_n 0, 1) := by decide +kernel
theorem dX4_init_20 : decode cX4_init 20 = .ok (.new 21, 3) := by decide +kernel
theorem dX4_init_23 : decode cX4_init 23 = .ok (.dup, 1) := by decide +kernel
theorem dX4_init_24 : decode cX4_init 24 = .ok (.invokespecial 23, 3) := by decide +kernel
theorem dX4_init_27 : decode cX4_init 27 = .ok (.putfield 24, 3) := by decide +kernel
theorem dX4_init_30 : decode cX4_init 30 = .ok (.aload_n 0, 1) := by decide +kernel
theorem dX4_init_31 : decode cX4_init 31 = .ok (.new 21, 3) := by decide +kernel
theorem dX4_init_34 : decode cX4_init 34 = .ok (.dup, 1) := by decide +kernel
theorem dX4_init_35 : decode cX4_init 35 = .ok (.invokespecial 23, 3) := by decide +kernel
theorem dX4_init_38 : decode cX4_init 38 = .ok (.putfield 28, 3) := by decide +kernel
theorem dX4_init_41 : decode cX4_init 41 = .ok (.aload_n 0, 1) := by decide +kernel
theorem dX4_init_42 : decode cX4_init 42 = .ok (.iconst 1, 1) := by decide +kernel
theorem dX4_init_43 : decode cX4_init 43 = .ok (.putfield 31, 3) := by decide +kernel
theorem dX4_init_46 : decode cX4_init 46 = .ok (.aload_n 0, 1) := by decide +kernel
theorem dX4_init_47 : decode cX4_init 47 = .ok (.iconst (-1), 1) := by decide +kernel
theorem dX4_init_48 : decode cX4_init 48 = .ok (.putfield 34, 3) := by decide +kernel
theorem dX4_init_51 : decode cX4_init 51 = .ok (.aload_n 0, 1) := by decide +kernel
theorem dX4_init_52 : decode cX4_init 52 = .ok (.iconst (-1), 1) := by decide +kernel
theorem dX4_init_53 : decode cX4_init 53 = .ok (.putfield 37, 3) := by decide +kernel
theorem dX4_init_56 : decode cX4_init 56 = .ok (.return_, 1) := by decide +kernel
theorem dX4_hasNumber_0 : decode cX4_hasNumber 0 = .ok (.iload_n 1, 1) := by decide +kernel
theorem dX4_hasNumber_1 : decode cX4_hasNumber 1 = .ok (.ifCond .lt 18, 3) := by decide +kernel
theorem dX4_hasNumber_4 : decode cX4_hasNumber 4 = .ok (.iload_n 1, 1) := by decide +kernel
theorem dX4_hasNumber_5 : decode cX4_hasNumber 5 = .ok (.aload_n 0, 1) := by decide +kernel
theorem dX4_hasNumber_6 : decode cX4_hasNumber 6 = .ok (.getfield 24, 3) := by decide +kernel
theorem dX4_hasNumber_9 : decode cX4_hasNumber 9 = .ok (.getfield 40, 3) := by decide +kernel
theorem dX4_hasNumber_12 : decode cX4_hasNumber 12 = .ok (.if_icmp .ge 7, 3) := by decide +kernel
theorem dX4_hasNumber_15 : decode cX4_hasNumber 15 = .ok (.iconst 1, 1) := by decide +kernel
theorem dX4_hasNumber_16 : decode cX4_hasNumber 16 = .ok (.goto 4, 3) := by decide +kernel
theorem dX4_hasNumber_19 : decode cX4_hasNumber 19 = .ok (.iconst 0, 1) := by decide +kernel
theorem dX4_hasNumber_20 : decode cX4_hasNumber 20 = .ok (.ireturn, 1) := by decide +kernel
theorem dX4_isSorted_0 : decode cX4_isSorted 0 = .ok (.aload_n 0, 1) := by decide +kernel
theorem dX4_isSorted_1 : decode cX4_isSorted 1 = .ok (.getfield 43, 3) := by decide +kernel
theorem dX4_isSorted_4 : decode cX4_isSorted 4 = .ok (.ifnull 13, 3) := by decide +kernel
theorem dX4_isSorted_7 : decode cX4_isSorted 7 = .ok (.aload_n 0, 1) := by decide +kernel
theorem dX4_isSorted_8 : decode cX4_isSorted 8 = .ok (.getfield 43, 3) := by decide +kernel
theorem dX4_isSorted_11 : decode cX4_isSorted 11 = .ok (.getfield 47, 3) := by decide +kernel
theorem dX4_isSorted_14 : decode cX4_isSorted 14 = .ok (.ifCond .eq 7, 3) := by decide +kernel
theorem dX4_isSorted_17 : decode cX4_isSorted 17 = .ok (.iconst 1, 1) := by decide +kernel
theorem dX4_isSorted_18 : decode cX4_isSorted 18 = .ok (.goto 4, 3) := by decide +kernel
theorem dX4_isSorted_21 : decode cX4_isSorted 21 = .ok (.iconst 0, 1) := by decide +kernel
theorem dX4_isSorted_22 : decode cX4_isSorted 22 = .ok (.ireturn, 1) := by decide +kernel
theorem dX4_compareUpTo_0 : decode cX4_compareUpTo 0 = .ok (.iconst 0, 1) := by decide +kernel
theorem dX4_compareUpTo_1 : decode cX4_compareUpTo 1 = .ok (.istore_n 2, 1) := by decide +kernel
theorem dX4_compareUpTo_2 : decode cX4_compareUpTo 2 = .ok (.iload_n 2, 1) := by decide +kernel
theorem dX4_compareUpTo_3 : decode cX4_compareUpTo 3 = .ok (.iload_n 1, 1) := by decide +kernel
theorem dX4_compareUpTo_4 : decode cX4_compareUpTo 4 = .ok (.if_icmp .ge 33, 3) := by decide +kernel
theorem dX4_compareUpTo_7 : decode cX4_compareUpTo 7 = .ok (.aload_n 0, 1) := by decide +kernel
theorem dX4_compareUpTo_8 : decode cX4_compareUpTo 8 = .ok (.getfield 43, 3) := by decide +kernel
theorem dX4_compareUpTo_11 : decode cX4_compareUpTo 11 = .ok (.ifnull 26, 3) := by decide +kernel
theorem dX4_compareUpTo_14 : decode cX4_compareUpTo 14 = .ok (.aload_n 0, 1) := by decide +kernel
theorem dX4_compareUpTo_15 : decode cX4_compareUpTo 15 = .ok (.getfield 43, 3) := by decide +kernel
theorem dX4_compareUpTo_18 : decode cX4_compareUpTo 18 = .ok (.getfield 47, 3) := by decide +kernel
theorem dX4_compareUpTo_21 : decode cX4_compareUpTo 21 = .ok (.ifCond .ne 16, 3) := by decide +kernel
theorem dX4_compareUpTo_24 : decode cX4_compareUpTo 24 = .ok (.aload_n 0, 1) := by decide +kernel
theorem dX4_compareUpTo_25 : decode cX4_compareUpTo 25 = .ok (.getfield 43, 3) := by decide +kernel
theorem dX4_compareUpTo_28 : decode cX4_compareUpTo 28 = .ok (.invokevirtual 53, 3) := by decide +kernel
theorem dX4_compareUpTo_31 : decode cX4_compareUpTo 31 = .ok (.iinc 2 1, 3) := by decide +kernel
theorem dX4_compareUpTo_34 : decode cX4_compareUpTo 34 = .ok (.goto (-32), 3) := by decide +kernel
theorem dX4_compareUpTo_37 : decode cX4_compareUpTo 37 = .ok (.aload_n 0, 1) := by decide +kernel
theorem dX4_compareUpTo_38 : decode cX4_compareUpTo 38 = .ok (.dup, 1) := by decide +kernel
theorem dX4_compareUpTo_39 : decode cX4_compareUpTo 39 = .ok (.getfield 56, 3) := by decide +kernel
theorem dX4_compareUpTo_42 : decode cX4_compareUpTo 42 = .ok (.iload_n 2, 1) := by decide +kernel
theorem dX4_compareUpTo_43 : decode cX4_compareUpTo 43 = .ok (.iadd, 1) := by decide +kernel
theorem dX4_compareUpTo_44 : decode cX4_compareUpTo 44 = .ok (.putfield 56, 3) := by decide +kernel
theorem dX4_compareUpTo_47 : decode cX4_compareUpTo 47 = .ok (.iload_n 2, 1) := by decide +kernel
theorem dX4_compareUpTo_48 : decode cX4_compareUpTo 48 = .ok (.ireturn, 1) := by decide +kernel
theorem dX5_init_0 : decode cX5_init 0 = .ok (.aload_n 0, 1) := by decide +kernel
theorem dX5_init_1 : decode cX5_init 1 = .ok (.aload_n 1, 1) := by decide +kernel
theorem dX5_init_2 : decode cX5_init 2 = .ok (.aload_n 2, 1) := by decide +kernel
theorem dX5_init_3 : decode cX5_init 3 = .ok (.invokespecial 1, 3) := by decide +kernel
theorem dX5_init_6 : decode cX5_init 6 = .ok (.aload_n 0, 1) := by decide +kernel
theorem dX5_init_7 : decode cX5_init 7 = .ok (.aload_n 3, 1) := by decide +kernel
theorem dX5_init_8 : decode cX5_init 8 = .ok (.putfield 7, 3) := by decide +kernel
theorem dX5_init_11 : decode cX5_init 11 = .ok (.return_, 1) := by decide +kernel
theorem dX5_begin_0 : decode cX5_begin 0 = .ok (.aload_n 0, 1) := by decide +kernel
theorem dX5_begin_1 : decode cX5_begin 1 = .ok (.iconst 1, 1) := by decide +kernel
theorem dX5_begin_2 : decode cX5_begin 2 = .ok (.putfield 13, 3) := by decide +kernel
theorem dX5_begin_5 : decode cX5_begin 5 = .ok (.aload_n 0, 1) := by decide +kernel
theorem dX5_begin_6 : decode cX5_begin 6 = .ok (.iconst 0, 1) := by decide +kernel
theorem dX5_begin_7 : decode cX5_begin 7 = .ok (.invokevirtual 17, 3) := by decide +kernel
theorem dX5_begin_10 : decode cX5_begin 10 = .ok (.return_, 1) := by decide +kernel
theorem dX5_compareNext_0 : decode cX5_compareNext 0 = .ok (.aload_n 0, 1) := by decide +kernel
theorem dX5_compareNext_1 : decode cX5_compareNext 1 = .ok (.getfield 21, 3) := by decide +kernel
theorem dX5_compareNext_4 : decode cX5_compareNext 4 = .ok (.aload_n 0, 1) := by decide +kernel
theorem dX5_compareNext_5 : decode cX5_compareNext 5 = .ok (.invokevirtual 25, 3) := by decide +kernel
theorem dX5_compareNext_8 : decode cX5_compareNext 8 = .ok (.aload_n 0, 1) := by decide +kernel
theorem dX5_compareNext_9 : decode cX5_compareNext 9 = .ok (.getfield 29, 3) := by decide +kernel
theorem dX5_compareNext_12 : decode cX5_compareNext 12 = .ok (.iadd, 1) := by decide +kernel
theorem dX5_compareNext_13 : decode cX5_compareNext 13 = .ok (.invokevirtual 32, 3) := by decide +kernel
theorem dX5_compareNext_16 : decode cX5_compareNext 16 = .ok (.istore_n 1, 1) := by decide +kernel
theorem dX5_compareNext_17 : decode cX5_compareNext 17 = .ok (.aload_n 0, 1) := by decide +kernel
theorem dX5_compareNext_18 : decode cX5_compareNext 18 = .ok (.getfield 21, 3) := by decide +kernel
theorem dX5_compareNext_21 : decode cX5_compareNext 21 = .ok (.aload_n 0, 1) := by decide +kernel
theorem dX5_compareNext_22 : decode cX5_compareNext 22 = .ok (.invokevirtual 25, 3) := by decide +kernel
theorem dX5_compareNext_25 : decode cX5_compareNext 25 = .ok (.aload_n 0, 1) := by decide +kernel
theorem dX5_compareNext_26 : decode cX5_compareNext 26 = .ok (.getfield 38, 3) := by decide +kernel
theorem dX5_compareNext_29 : decode cX5_compareNext 29 = .ok (.iadd, 1) := by decide +kernel
theorem dX5_compareNext_30 : decode cX5_compareNext 30 = .ok (.invokevirtual 32, 3) := by decide +kernel
theorem dX5_compareNext_33 : decode cX5_compareNext 33 = .ok (.istore_n 2, 1) := by decide +kernel
theorem dX5_compareNext_34 : decode cX5_compareNext 34 = .ok (.iload_n 1, 1) := by decide +kernel
theorem dX5_compareNext_35 : decode cX5_compareNext 35 = .ok (.iload_n 2, 1) := by decide +kernel
theorem dX5_compareNext_36 : decode cX5_compareNext 36 = .ok (.if_icmp .gt 33, 3) := by decide +kernel
theorem dX5_compareNext_39 : decode cX5_compareNext 39 = .ok (.aload_n 0, 1) := by decide +kernel
theorem dX5_compareNext_40 : decode cX5_compareNext 40 = .ok (.getfield 21, 3) := by decide +kernel
theorem dX5_compareNext_43 : decode cX5_compareNext 43 = .ok (.aload_n 0, 1) := by decide +kernel
theorem dX5_compareNext_44 : decode cX5_compareNext 44 = .ok (.invokevirtual 41, 3) := by decide +kernel
theorem dX5_compareNext_47 : decode cX5_compareNext 47 = .ok (.aload_n 0, 1) := by decide +kernel
theorem dX5_compareNext_48 : decode cX5_compareNext 48 = .ok (.getfield 44, 3) := by decide +kernel
theorem dX5_compareNext_51 : decode cX5_compareNext 51 = .ok (.iadd, 1) := by decide +kernel
theorem dX5_compareNext_52 : decode cX5_compareNext 52 = .ok (.iload_n 1, 1) := by decide +kernel
theorem dX5_compareNext_53 : decode cX5_compareNext 53 = .ok (.invokevirtual 47, 3) := by decide +kernel
theorem dX5_compareNext_56 : decode cX5_compareNext 56 = .ok (.aload_n 0, 1) := by decide +kernel
theorem dX5_compareNext_57 : decode cX5_compareNext 57 = .ok (.dup, 1) := by decide +kernel
theorem dX5_compareNext_58 : decode cX5_compareNext 58 = .ok (.getfield 29, 3) := by decide +kernel
theorem dX5_compareNext_61 : decode cX5_compareNext 61 = .ok (.iconst 1, 1) := by decide +kernel
theorem dX5_compareNext_62 : decode cX5_compareNext 62 = .ok (.iadd, 1) := by decide +kernel
theorem dX5_compareNext_63 : decode cX5_compareNext 63 = .ok (.putfield 29, 3) := by decide +kernel
theorem dX5_compareNext_66 : decode cX5_compareNext 66 = .ok (.goto 30, 3) := by decide +kernel
theorem dX5_compareNext_69 : decode cX5_compareNext 69 = .ok (.aload_n 0, 1) := by decide +kernel
theorem dX5_compareNext_70 : decode cX5_compareNext 70 = .ok (.getfield 21, 3) := by decide +kernel
theorem dX5_compareNext_73 : decode cX5_compareNext 73 = .ok (.aload_n 0, 1) := by decide +kernel
theorem dX5_compareNext_74 : decode cX5_compareNext 74 = .ok (.invokevirtual 41, 3) := by decide +kernel
theorem dX5_compareNext_77 : decode cX5_compareNext 77 = .ok (.aload_n 0, 1) := by decide +kernel
theorem dX5_compareNext_78 : decode cX5_compareNext 78 = .ok (.getfield 44, 3) := by decide +kernel
theorem dX5_compareNext_81 : decode cX5_compareNext 81 = .ok (.iadd, 1) := by decide +kernel
theorem dX5_compareNext_82 : decode cX5_compareNext 82 = .ok (.iload_n 2, 1) := by decide +kernel
theorem dX5_compareNext_83 : decode cX5_compareNext 83 = .ok (.invokevirtual 47, 3) := by decide +kernel
theorem dX5_compareNext_86 : decode cX5_compareNext 86 = .ok (.aload_n 0, 1) := by decide +kernel
theorem dX5_compareNext_87 : decode cX5_compareNext 87 = .ok (.dup, 1) := by decide +kernel
theorem dX5_compareNext_88 : decode cX5_compareNext 88 = .ok (.getfield 38, 3) := by decide +kernel
theorem dX5_compareNext_91 : decode cX5_compareNext 91 = .ok (.iconst 1, 1) := by decide +kernel
theorem dX5_compareNext_92 : decode cX5_compareNext 92 = .ok (.iadd, 1) := by decide +kernel
theorem dX5_compareNext_93 : decode cX5_compareNext 93 = .ok (.putfield 38, 3) := by decide +kernel
theorem dX5_compareNext_96 : decode cX5_compareNext 96 = .ok (.aload_n 0, 1) := by decide +kernel
theorem dX5_compareNext_97 : decode cX5_compareNext 97 = .ok (.dup, 1) := by decide +kernel
theorem dX5_compareNext_98 : decode cX5_compareNext 98 = .ok (.getfield 44, 3) := by decide +kernel
theorem dX5_compareNext_101 : decode cX5_compareNext 101 = .ok (.iconst 1, 1) := by decide +kernel
theorem dX5_compareNext_102 : decode cX5_compareNext 102 = .ok (.iadd, 1) := by decide +kernel
theorem dX5_compareNext_103 : decode cX5_compareNext 103 = .ok (.putfield 44, 3) := by decide +kernel
theorem dX5_compareNext_106 : decode cX5_compareNext 106 = .ok (.aload_n 0, 1) := by decide +kernel
theorem dX5_compareNext_107 : decode cX5_compareNext 107 = .ok (.getfield 29, 3) := by decide +kernel
theorem dX5_compareNext_110 : decode cX5_compareNext 110 = .ok (.aload_n 0, 1) := by decide +kernel
theorem dX5_compareNext_111 : decode cX5_compareNext 111 = .ok (.getfield 51, 3) := by decide +kernel
theorem dX5_compareNext_114 : decode cX5_compareNext 114 = .ok (.if_icmp .ge 14, 3) := by decide +kernel
theorem dX5_compareNext_117 : decode cX5_compareNext 117 = .ok (.aload_n 0, 1) := by decide +kernel
theorem dX5_compareNext_118 : decode cX5_compareNext 118 = .ok (.getfield 38, 3) := by decide +kernel
theorem dX5_compareNext_121 : decode cX5_compareNext 121 = .ok (.aload_n 0, 1) := by decide +kernel
theorem dX5_compareNext_122 : decode cX5_compareNext 122 = .ok (.getfield 54, 3) := by decide +kernel
theorem dX5_compareNext_125 : decode cX5_compareNext 125 = .ok (.if_icmp .lt 7, 3) := by decide +kernel
theorem dX5_compareNext_128 : decode cX5_compareNext 128 = .ok (.aload_n 0, 1) := by decide +kernel
theorem dX5_compareNext_129 : decode cX5_compareNext 129 = .ok (.invokevirtual 57, 3) := by decide +kernel
theorem dX5_compareNext_132 : decode cX5_compareNext 132 = .ok (.return_, 1) := by decide +kernel
theorem dX5_from_0 : decode cX5_from 0 = .ok (.aload_n 0, 1) := by decide +kernel
theorem dX5_from_1 : decode cX5_from 1 = .ok (.getfield 61, 3) := by decide +kernel
theorem dX5_from_4 : decode cX5_from 4 = .ok (.ifCond .eq 13, 3) := by decide +kernel
theorem dX5_from_7 : decode cX5_from 7 = .ok (.aload_n 0, 1) := by decide +kernel
theorem dX5_from_8 : decode cX5_from 8 = .ok (.getfield 7, 3) := by decide +kernel
theorem dX5_from_11 : decode cX5_from 11 = .ok (.getfield 65, 3) := by decide +kernel
theorem dX5_from_14 : decode cX5_from 14 = .ok (.goto 10, 3) := by decide +kernel
theorem dX5_from_17 : decode cX5_from 17 = .ok (.aload_n 0, 1) := by decide +kernel
theorem dX5_from_18 : decode cX5_from 18 = .ok (.getfield 68, 3) := by decide +kernel
theorem dX5_from_21 : decode cX5_from 21 = .ok (.getfield 65, 3) := by decide +kernel
theorem dX5_from_24 : decode cX5_from 24 = .ok (.ireturn, 1) := by decide +kernel
theorem dX5_to_0 : decode cX5_to 0 = .ok (.aload_n 0, 1) := by decide +kernel
theorem dX5_to_1 : decode cX5_to 1 = .ok (.getfield 61, 3) := by decide +kernel
theorem dX5_to_4 : decode cX5_to 4 = .ok (.ifCond .eq 13, 3) := by decide +kernel
theorem dX5_to_7 : decode cX5_to 7 = .ok (.aload_n 0, 1) := by decide +kernel
theorem dX5_to_8 : decode cX5_to 8 = .ok (.getfield 68, 3) := by decide +kernel
theorem dX5_to_11 : decode cX5_to 11 = .ok (.getfield 65, 3) := by decide +kernel
theorem dX5_to_14 : decode cX5_to 14 = .ok (.goto 10, 3) := by decide +kernel
theorem dX5_to_17 : decode cX5_to 17 = .ok (.aload_n 0, 1) := by decide +kernel
theorem dX5_to_18 : decode cX5_to 18 = .ok (.getfield 7, 3) := by decide +kernel
theorem dX5_to_21 : decode cX5_to 21 = .ok (.getfield 65, 3) := by decide +kernel
theorem dX5_to_24 : decode cX5_to 24 = .ok (.ireturn, 1) := by decide +kernel
theorem dX5_standAt_0 : decode cX5_standAt 0 = .ok (.aload_n 0, 1) := by decide +kernel
theorem dX5_standAt_1 : decode cX5_standAt 1 = .ok (.iload_n 1, 1) := by decide +kernel
theorem dX5_standAt_2 : decode cX5_standAt 2 = .ok (.putfield 29, 3) := by decide +kernel
theorem dX5_standAt_5 : decode cX5_standAt 5 = .ok (.aload_n 0, 1) := by decide +kernel
theorem dX5_standAt_6 : decode cX5_standAt 6 = .ok (.iload_n 1, 1) := by decide +kernel
theorem dX5_standAt_7 : decode cX5_standAt 7 = .ok (.aload_n 0, 1) := by decide +kernel
theorem dX5_standAt_8 : decode cX5_standAt 8 = .ok (.getfield 13, 3) := by decide +kernel
theorem dX5_standAt_11 : decode cX5_standAt 11 = .ok (.iadd, 1) := by decide +kernel
theorem dX5_standAt_12 : decode cX5_standAt 12 = .ok (.aload_n 0, 1) := by decide +kernel
theorem dX5_standAt_13 : decode cX5_standAt 13 = .ok (.getfield 71, 3) := by decide +kernel
theorem dX5_standAt_16 : decode cX5_standAt 16 = .ok (.invokestatic 74, 3) := by decide +kernel
theorem dX5_standAt_19 : decode cX5_standAt 19 = .ok (.putfield 51, 3) := by decide +kernel
theorem dX5_standAt_22 : decode cX5_standAt 22 = .ok (.aload_n 0, 1) := by decide +kernel
theorem dX5_standAt_23 : decode cX5_standAt 23 = .ok (.aload_n 0, 1) := by decide +kernel
theorem dX5_standAt_24 : decode cX5_standAt 24 = .ok (.getfield 51, 3) := by decide +kernel
theorem dX5_standAt_27 : decode cX5_standAt 27 = .ok (.putfield 38, 3) := by decide +kernel
theorem dX5_standAt_30 : decode cX5_standAt 30 = .ok (.aload_n 0, 1) := by decide +kernel
theorem dX5_standAt_31 : decode cX5_standAt 31 = .ok (.iload_n 1, 1) := by decide +kernel
theorem dX5_standAt_32 : decode cX5_standAt 32 = .ok (.iconst 2, 1) := by decide +kernel
theorem dX5_standAt_33 : decode cX5_standAt 33 = .ok (.aload_n 0, 1) := by decide +kernel
theorem dX5_standAt_34 : decode cX5_standAt 34 = .ok (.getfield 13, 3) := by decide +kernel
theorem dX5_standAt_37 : decode cX5_standAt 37 = .ok (.imul, 1) := by decide +kernel
theorem dX5_standAt_38 : decode cX5_standAt 38 = .ok (.iadd, 1) := by decide +kernel
theorem dX5_standAt_39 : decode cX5_standAt 39 = .ok (.aload_n 0, 1) := by decide +kernel
theorem dX5_standAt_40 : decode cX5_standAt 40 = .ok (.getfield 71, 3) := by decide +kernel
theorem dX5_standAt_43 : decode cX5_standAt 43 = .ok (.invokestatic 74, 3) := by decide +kernel
theorem dX5_standAt_46 : decode cX5_standAt 46 = .ok (.putfield 54, 3) := by decide +kernel
theorem dX5_standAt_49 : decode cX5_standAt 49 = .ok (.aload_n 0, 1) := by decide +kernel
theorem dX5_standAt_50 : decode cX5_standAt 50 = .ok (.iload_n 1, 1) := by decide +kernel
theorem dX5_standAt_51 : decode cX5_standAt 51 = .ok (.putfield 44, 3) := by decide +kernel
theorem dX5_standAt_54 : decode cX5_standAt 54 = .ok (.return_, 1) := by decide +kernel
theorem dX5_goOnWithNextRows_0 : decode cX5_goOnWithNextRows 0 = .ok (.aload_n 0, 1) := by decide +kernel
theorem dX5_goOnWithNextRows_1 : decode cX5_goOnWithNextRows 1 = .ok (.invokevirtual 80, 3) := by decide +kernel
theorem dX5_goOnWithNextRows_4 : decode cX5_goOnWithNextRows 4 = .ok (.aload_n 0, 1) := by decide +kernel
theorem dX5_goOnWithNextRows_5 : decode cX5_goOnWithNextRows 5 = .ok (.aload_n 0, 1) := by decide +kernel
theorem dX5_goOnWithNextRows_6 : decode cX5_goOnWithNextRows 6 = .ok (.getfield 54, 3) := by decide +kernel
theorem dX5_goOnWithNextRows_9 : decode cX5_goOnWithNextRows 9 = .ok (.invokevirtual 17, 3) := by decide +kernel
theorem dX5_goOnWithNextRows_12 : decode cX5_goOnWithNextRows 12 = .ok (.aload_n 0, 1) := by decide +kernel
theorem dX5_goOnWithNextRows_13 : decode cX5_goOnWithNextRows 13 = .ok (.getfield 38, 3) := by decide +kernel
theorem dX5_goOnWithNextRows_16 : decode cX5_goOnWithNextRows 16 = .ok (.aload_n 0, 1) := by decide +kernel
theorem dX5_goOnWithNextRows_17 : decode cX5_goOnWithNextRows 17 = .ok (.getfield 54, 3) := by decide +kernel
theorem dX5_goOnWithNextRows_20 : decode cX5_goOnWithNextRows 20 = .ok (.if_icmp .lt 11, 3) := by decide +kernel
theorem dX5_goOnWithNextRows_23 : decode cX5_goOnWithNextRows 23 = .ok (.aload_n 0, 1) := by decide +kernel
theorem dX5_goOnWithNextRows_24 : decode cX5_goOnWithNextRows 24 = .ok (.invokevirtual 80, 3) := by decide +kernel
theorem dX5_goOnWithNextRows_27 : decode cX5_goOnWithNextRows 27 = .ok (.aload_n 0, 1) := by decide +kernel
theorem dX5_goOnWithNextRows_28 : decode cX5_goOnWithNextRows 28 = .ok (.invokevirtual 83, 3) := by decide +kernel
theorem dX5_goOnWithNextRows_31 : decode cX5_goOnWithNextRows 31 = .ok (.return_, 1) := by decide +kernel
theorem dX5_copyRest_0 : decode cX5_copyRest 0 = .ok (.aload_n 0, 1) := by decide +kernel
theorem dX5_copyRest_1 : decode cX5_copyRest 1 = .ok (.getfield 29, 3) := by decide +kernel
theorem dX5_copyRest_4 : decode cX5_copyRest 4 = .ok (.aload_n 0, 1) := by decide +kernel
theorem dX5_copyRest_5 : decode cX5_copyRest 5 = .ok (.getfield 51, 3) := by decide +kernel
theorem dX5_copyRest_8 : decode cX5_copyRest 8 = .ok (.if_icmp .ge 10, 3) := by decide +kernel
theorem dX5_copyRest_11 : decode cX5_copyRest 11 = .ok (.aload_n 0, 1) := by decide +kernel
theorem dX5_copyRest_12 : decode cX5_copyRest 12 = .ok (.getfield 29, 3) := by decide +kernel
theorem dX5_copyRest_15 : decode cX5_copyRest 15 = .ok (.goto 7, 3) := by decide +kernel
theorem dX5_copyRest_18 : decode cX5_copyRest 18 = .ok (.aload_n 0, 1) := by decide +kernel
theorem dX5_copyRest_19 : decode cX5_copyRest 19 = .ok (.getfield 38, 3) := by decide +kernel
theorem dX5_copyRest_22 : decode cX5_copyRest 22 = .ok (.istore_n 1, 1) := by decide +kernel
theorem dX5_copyRest_23 : decode cX5_copyRest 23 = .ok (.aload_n 0, 1) := by decide +kernel
theorem dX5_copyRest_24 : decode cX5_copyRest 24 = .ok (.getfield 29, 3) := by decide +kernel
theorem dX5_copyRest_27 : decode cX5_copyRest 27 = .ok (.aload_n 0, 1) := by decide +kernel
theorem dX5_copyRest_28 : decode cX5_copyRest 28 = .ok (.getfield 51, 3) := by decide +kernel
theorem dX5_copyRest_31 : decode cX5_copyRest 31 = .ok (.if_icmp .ge 10, 3) := by decide +kernel
theorem dX5_copyRest_34 : decode cX5_copyRest 34 = .ok (.aload_n 0, 1) := by decide +kernel
theorem dX5_copyRest_35 : decode cX5_copyRest 35 = .ok (.getfield 51, 3) := by decide +kernel
theorem dX5_copyRest_38 : decode cX5_copyRest 38 = .ok (.goto 7, 3) := by decide +kernel
theorem dX5_copyRest_41 : decode cX5_copyRest 41 = .ok (.aload_n 0, 1) := by decide +kernel
theorem dX5_copyRest_42 : decode cX5_copyRest 42 = .ok (.getfield 54, 3) := by decide +kernel
theorem dX5_copyRest_45 : decode cX5_copyRest 45 = .ok (.istore_n 2, 1) := by decide +kernel
theorem dX5_copyRest_46 : decode cX5_copyRest 46 = .ok (.aload_n 0, 1) := by decide +kernel
theorem dX5_copyRest_47 : decode cX5_copyRest 47 = .ok (.getfield 21, 3) := by decide +kernel
theorem dX5_copyRest_50 : decode cX5_copyRest 50 = .ok (.aload_n 0, 1) := by decide +kernel
theorem dX5_copyRest_51 : decode cX5_copyRest 51 = .ok (.invokevirtual 25, 3) := by decide +kernel
theorem dX5_copyRest_54 : decode cX5_copyRest 54 = .ok (.iload_n 1, 1) := by decide +kernel
theorem dX5_copyRest_55 : decode cX5_copyRest 55 = .ok (.iadd, 1) := by decide +kernel
theorem dX5_copyRest_56 : decode cX5_copyRest 56 = .ok (.aload_n 0, 1) := by decide +kernel
theorem dX5_copyRest_57 : decode cX5_copyRest 57 = .ok (.invokevirtual 41, 3) := by decide +kernel
theorem dX5_copyRest_60 : decode cX5_copyRest 60 = .ok (.aload_n 0, 1) := by decide +kernel
theorem dX5_copyRest_61 : decode cX5_copyRest 61 = .ok (.getfield 44, 3) := by decide +kernel
theorem dX5_copyRest_64 : decode cX5_copyRest 64 = .ok (.iadd, 1) := by decide +kernel
theorem dX5_copyRest_65 : decode cX5_copyRest 65 = .ok (.iload_n 2, 1) := by decide +kernel
theorem dX5_copyRest_66 : decode cX5_copyRest 66 = .ok (.iload_n 1, 1) := by decide +kernel
theorem dX5_copyRest_67 : decode cX5_copyRest 67 = .ok (.isub, 1) := by decide +kernel
theorem dX5_copyRest_68 : decode cX5_copyRest 68 = .ok (.invokevirtual 86, 3) := by decide +kernel
theorem dX5_copyRest_71 : decode cX5_copyRest 71 = .ok (.return_, 1) := by decide +kernel
theorem dX5_endPass_0 : decode cX5_endPass 0 = .ok (.aload_n 0, 1) := by decide +kernel
theorem dX5_endPass_1 : decode cX5_endPass 1 = .ok (.aload_n 0, 1) := by decide +kernel
theorem dX5_endPass_2 : decode cX5_endPass 2 = .ok (.getfield 61, 3) := by decide +kernel
theorem dX5_endPass_5 : decode cX5_endPass 5 = .ok (.ifCond .ne 7, 3) := by decide +kernel
theorem dX5_endPass_8 : decode cX5_endPass 8 = .ok (.iconst 1, 1) := by decide +kernel
theorem dX5_endPass_9 : decode cX5_endPass 9 = .ok (.goto 4, 3) := by decide +kernel
theorem dX5_endPass_12 : decode cX5_endPass 12 = .ok (.iconst 0, 1) := by decide +kernel
theorem dX5_endPass_13 : decode cX5_endPass 13 = .ok (.putfield 61, 3) := by decide +kernel
theorem dX5_endPass_16 : decode cX5_endPass 16 = .ok (.aload_n 0, 1) := by decide +kernel
theorem dX5_endPass_17 : decode cX5_endPass 17 = .ok (.dup, 1) := by decide +kernel
theorem dX5_endPass_18 : decode cX5_endPass 18 = .ok (.getfield 13, 3) := by decide +kernel
theorem dX5_endPass_21 : decode cX5_endPass 21 = .ok (.iconst 2, 1) := by decide +kernel
theorem dX5_endPass_22 : decode cX5_endPass 22 = .ok (.imul, 1) := by decide +kernel
theorem dX5_endPass_23 : decode cX5_endPass 23 = .ok (.putfield 13, 3) := by decide +kernel
theorem dX5_endPass_26 : decode cX5_endPass 26 = .ok (.aload_n 0, 1) := by decide +kernel
theorem dX5_endPass_27 : decode cX5_endPass 27 = .ok (.getfield 13, 3) := by decide +kernel
theorem dX5_endPass_30 : decode cX5_endPass 30 = .ok (.aload_n 0, 1) := by decide +kernel
theorem dX5_endPass_31 : decode cX5_endPass 31 = .ok (.getfield 71, 3) := by decide +kernel
theorem dX5_endPass_34 : decode cX5_endPass 34 = .ok (.if_icmp .ge 9, 3) := by decide +kernel
theorem dX5_endPass_37 : decode cX5_endPass 37 = .ok (.aload_n 0, 1) := by decide +kernel
theorem dX5_endPass_38 : decode cX5_endPass 38 = .ok (.iconst 0, 1) := by decide +kernel
theorem dX5_endPass_39 : decode cX5_endPass 39 = .ok (.invokevirtual 17, 3) := by decide +kernel
theorem dX5_endPass_42 : decode cX5_endPass 42 = .ok (.return_, 1) := by decide +kernel
theorem dX5_endPass_43 : decode cX5_endPass 43 = .ok (.aload_n 0, 1) := by decide +kernel
theorem dX5_endPass_44 : decode cX5_endPass 44 = .ok (.getfield 61, 3) := by decide +kernel
theorem dX5_endPass_47 : decode cX5_endPass 47 = .ok (.ifCond .eq 28, 3) := by decide +kernel
theorem dX5_endPass_50 : decode cX5_endPass 50 = .ok (.aload_n 0, 1) := by decide +kernel
theorem dX5_endPass_51 : decode cX5_endPass 51 = .ok (.getfield 21, 3) := by decide +kernel
theorem dX5_endPass_54 : decode cX5_endPass 54 = .ok (.aload_n 0, 1) := by decide +kernel
theorem dX5_endPass_55 : decode cX5_endPass 55 = .ok (.getfield 7, 3) := by decide +kernel
theorem dX5_endPass_58 : decode cX5_endPass 58 = .ok (.getfield 65, 3) := by decide +kernel
theorem dX5_endPass_61 : decode cX5_endPass 61 = .ok (.aload_n 0, 1) := by decide +kernel
theorem dX5_endPass_62 : decode cX5_endPass 62 = .ok (.getfield 68, 3) := by decide +kernel
theorem dX5_endPass_65 : decode cX5_endPass 65 = .ok (.getfield 65, 3) := by decide +kernel
theorem dX5_endPass_68 : decode cX5_endPass 68 = .ok (.aload_n 0, 1) := by decide +kernel
theorem dX5_endPass_69 : decode cX5_endPass 69 = .ok (.getfield 71, 3) := by decide +kernel
theorem dX5_endPass_72 : decode cX5_endPass 72 = .ok (.invokevirtual 86, 3) := by decide +kernel
theorem dX5_endPass_75 : decode cX5_endPass 75 = .ok (.aload_n 0, 1) := by decide +kernel
theorem dX5_endPass_76 : decode cX5_endPass 76 = .ok (.iconst 1, 1) := by decide +kernel
theorem dX5_endPass_77 : decode cX5_endPass 77 = .ok (.putfield 90, 3) := by decide +kernel
theorem dX5_endPass_80 : decode cX5_endPass 80 = .ok (.return_, 1) := by decide +kernel
theorem dX6_init_0 : decode cX6_init 0 = .ok (.aload_n 0, 1) := by decide +kernel
theorem dX6_init_1 : decode cX6_init 1 = .ok (.aload_n 1, 1) := by decide +kernel
theorem dX6_init_2 : decode cX6_init 2 = .ok (.aload_n 2, 1) := by decide +kernel
theorem dX6_init_3 : decode cX6_init 3 = .ok (.invokespecial 1, 3) := by decide +kernel
theorem dX6_init_6 : decode cX6_init 6 = .ok (.aload_n 0, 1) := by decide +kernel
theorem dX6_init_7 : decode cX6_init 7 = .ok (.aload_n 3, 1) := by decide +kernel
theorem dX6_init_8 : decode cX6_init 8 = .ok (.putfield 7, 3) := by decide +kernel
theorem dX6_init_11 : decode cX6_init 11 = .ok (.return_, 1) := by decide +kernel
theorem dX6_begin_0 : decode cX6_begin 0 = .ok (.aload_n 0, 1) := by decide +kernel
theorem dX6_begin_1 : decode cX6_begin 1 = .ok (.iconst 0, 1) := by decide +kernel
theorem dX6_begin_2 : decode cX6_begin 2 = .ok (.putfield 13, 3) := by decide +kernel
theorem dX6_begin_5 : decode cX6_begin 5 = .ok (.aload_n 0, 1) := by decide +kernel
theorem dX6_begin_6 : decode cX6_begin 6 = .ok (.aload_n 0, 1) := by decide +kernel
theorem dX6_begin_7 : decode cX6_begin 7 = .ok (.getfield 17, 3) := by decide +kernel
theorem dX6_begin_10 : decode cX6_begin 10 = .ok (.iconst 1, 1) := by decide +kernel
theorem dX6_begin_11 : decode cX6_begin 11 = .ok (.isub, 1) := by decide +kernel
theorem dX6_begin_12 : decode cX6_begin 12 = .ok (.putfield 20, 3) := by decide +kernel
theorem dX6_begin_15 : decode cX6_begin 15 = .ok (.aload_n 0, 1) := by decide +kernel
theorem dX6_begin_16 : decode cX6_begin 16 = .ok (.getfield 23, 3) := by decide +kernel
theorem dX6_begin_19 : decode cX6_begin 19 = .ok (.ifCond .ne 7, 3) := by decide +kernel
theorem dX6_begin_22 : decode cX6_begin 22 = .ok (.aload_n 0, 1) := by decide +kernel
theorem dX6_begin_23 : decode cX6_begin 23 = .ok (.invokevirtual 27, 3) := by decide +kernel
theorem dX6_begin_26 : decode cX6_begin 26 = .ok (.return_, 1) := by decide +kernel
theorem dX6_compareNext_0 : decode cX6_compareNext 0 = .ok (.aload_n 0, 1) := by decide +kernel
theorem dX6_compareNext_1 : decode cX6_compareNext 1 = .ok (.aload_n 0, 1) := by decide +kernel
theorem dX6_compareNext_2 : decode cX6_compareNext 2 = .ok (.getfield 31, 3) := by decide +kernel
theorem dX6_compareNext_5 : decode cX6_compareNext 5 = .ok (.invokevirtual 34, 3) := by decide +kernel
theorem dX6_compareNext_8 : decode cX6_compareNext 8 = .ok (.aload_n 0, 1) := by decide +kernel
theorem dX6_compareNext_9 : decode cX6_compareNext 9 = .ok (.aload_n 0, 1) := by decide +kernel
theorem dX6_compareNext_10 : decode cX6_compareNext 10 = .ok (.getfield 20, 3) := by decide +kernel
theorem dX6_compareNext_13 : decode cX6_compareNext 13 = .ok (.invokevirtual 34, 3) := by decide +kernel
theorem dX6_compareNext_16 : decode cX6_compareNext 16 = .ok (.if_icmp .ge 25, 3) := by decide +kernel
theorem dX6_compareNext_19 : decode cX6_compareNext 19 = .ok (.aload_n 0, 1) := by decide +kernel
theorem dX6_compareNext_20 : decode cX6_compareNext 20 = .ok (.aload_n 0, 1) := by decide +kernel
theorem dX6_compareNext_21 : decode cX6_compareNext 21 = .ok (.getfield 31, 3) := by decide +kernel
theorem dX6_compareNext_24 : decode cX6_compareNext 24 = .ok (.aload_n 0, 1) := by decide +kernel
theorem dX6_compareNext_25 : decode cX6_compareNext 25 = .ok (.getfield 38, 3) := by decide +kernel
theorem dX6_compareNext_28 : decode cX6_compareNext 28 = .ok (.invokevirtual 41, 3) := by decide +kernel
theorem dX6_compareNext_31 : decode cX6_compareNext 31 = .ok (.aload_n 0, 1) := by decide +kernel
theorem dX6_compareNext_32 : decode cX6_compareNext 32 = .ok (.dup, 1) := by decide +kernel
theorem dX6_compareNext_33 : decode cX6_compareNext 33 = .ok (.getfield 38, 3) := by decide +kernel
theorem dX6_compareNext_36 : decode cX6_compareNext 36 = .ok (.iconst 1, 1) := by decide +kernel
theorem dX6_compareNext_37 : decode cX6_compareNext 37 = .ok (.iadd, 1) := by decide +kernel
theorem dX6_compareNext_38 : decode cX6_compareNext 38 = .ok (.putfield 38, 3) := by decide +kernel
theorem dX6_compareNext_41 : decode cX6_compareNext 41 = .ok (.aload_n 0, 1) := by decide +kernel
theorem dX6_compareNext_42 : decode cX6_compareNext 42 = .ok (.dup, 1) := by decide +kernel
theorem dX6_compareNext_43 : decode cX6_compareNext 43 = .ok (.getfield 31, 3) := by decide +kernel
theorem dX6_compareNext_46 : decode cX6_compareNext 46 = .ok (.iconst 1, 1) := by decide +kernel
theorem dX6_compareNext_47 : decode cX6_compareNext 47 = .ok (.iadd, 1) := by decide +kernel
theorem dX6_compareNext_48 : decode cX6_compareNext 48 = .ok (.putfield 31, 3) := by decide +kernel
theorem dX6_compareNext_51 : decode cX6_compareNext 51 = .ok (.aload_n 0, 1) := by decide +kernel
theorem dX6_compareNext_52 : decode cX6_compareNext 52 = .ok (.getfield 31, 3) := by decide +kernel
theorem dX6_compareNext_55 : decode cX6_compareNext 55 = .ok (.aload_n 0, 1) := by decide +kernel
theorem dX6_compareNext_56 : decode cX6_compareNext 56 = .ok (.getfield 20, 3) := by decide +kernel
theorem dX6_compareNext_59 : decode cX6_compareNext 59 = .ok (.if_icmp .lt 30, 3) := by decide +kernel
theorem dX6_compareNext_62 : decode cX6_compareNext 62 = .ok (.aload_n 0, 1) := by decide +kernel
theorem dX6_compareNext_63 : decode cX6_compareNext 63 = .ok (.aload_n 0, 1) := by decide +kernel
theorem dX6_compareNext_64 : decode cX6_compareNext 64 = .ok (.getfield 38, 3) := by decide +kernel
theorem dX6_compareNext_67 : decode cX6_compareNext 67 = .ok (.aload_n 0, 1) := by decide +kernel
theorem dX6_compareNext_68 : decode cX6_compareNext 68 = .ok (.getfield 20, 3) := by decide +kernel
theorem dX6_compareNext_71 : decode cX6_compareNext 71 = .ok (.invokevirtual 41, 3) := by decide +kernel
theorem dX6_compareNext_74 : decode cX6_compareNext 74 = .ok (.aload_n 0, 1) := by decide +kernel
theorem dX6_compareNext_75 : decode cX6_compareNext 75 = .ok (.invokevirtual 45, 3) := by decide +kernel
theorem dX6_compareNext_78 : decode cX6_compareNext 78 = .ok (.aload_n 0, 1) := by decide +kernel
theorem dX6_compareNext_79 : decode cX6_compareNext 79 = .ok (.getfield 23, 3) := by decide +kernel
theorem dX6_compareNext_82 : decode cX6_compareNext 82 = .ok (.ifCond .ne 7, 3) := by decide +kernel
theorem dX6_compareNext_85 : decode cX6_compareNext 85 = .ok (.aload_n 0, 1) := by decide +kernel
theorem dX6_compareNext_86 : decode cX6_compareNext 86 = .ok (.invokevirtual 27, 3) := by decide +kernel
theorem dX6_compareNext_89 : decode cX6_compareNext 89 = .ok (.return_, 1) := by decide +kernel
theorem dX6_startRange_0 : decode cX6_startRange 0 = .ok (.aload_n 0, 1) := by decide +kernel
theorem dX6_startRange_1 : decode cX6_startRange 1 = .ok (.aload_n 0, 1) := by decide +kernel
theorem dX6_startRange_2 : decode cX6_startRange 2 = .ok (.getfield 13, 3) := by decide +kernel
theorem dX6_startRange_5 : decode cX6_startRange 5 = .ok (.aload_n 0, 1) := by decide +kernel
theorem dX6_startRange_6 : decode cX6_startRange 6 = .ok (.getfield 20, 3) := by decide +kernel
theorem dX6_startRange_9 : decode cX6_startRange 9 = .ok (.iadd, 1) := by decide +kernel
theorem dX6_startRange_10 : decode cX6_startRange 10 = .ok (.iconst 2, 1) := by decide +kernel
theorem dX6_startRange_11 : decode cX6_startRange 11 = .ok (.idiv, 1) := by decide +kernel
theorem dX6_startRange_12 : decode cX6_startRange 12 = .ok (.aload_n 0, 1) := by decide +kernel
theorem dX6_startRange_13 : decode cX6_startRange 13 = .ok (.getfield 20, 3) := by decide +kernel
theorem dX6_startRange_16 : decode cX6_startRange 16 = .ok (.invokevirtual 41, 3) := by decide +kernel
theorem dX6_startRange_19 : decode cX6_startRange 19 = .ok (.aload_n 0, 1) := by decide +kernel
theorem dX6_startRange_20 : decode cX6_startRange 20 = .ok (.aload_n 0, 1) := by decide +kernel
theorem dX6_startRange_21 : decode cX6_startRange 21 = .ok (.getfield 13, 3) := by decide +kernel
theorem dX6_startRange_24 : decode cX6_startRange 24 = .ok (.putfield 38, 3) := by decide +kernel
theorem dX6_startRange_27 : decode cX6_startRange 27 = .ok (.aload_n 0, 1) := by decide +kernel
theorem dX6_startRange_28 : decode cX6_startRange 28 = .ok (.aload_n 0, 1) := by decide +kernel
theorem dX6_startRange_29 : decode cX6_startRange 29 = .ok (.getfield 13, 3) := by decide +kernel
theorem dX6_startRange_32 : decode cX6_startRange 32 = .ok (.putfield 31, 3) := by decide +kernel
theorem dX6_startRange_35 : decode cX6_startRange 35 = .ok (.return_, 1) := by decide +kernel
theorem dX6_chooseRange_0 : decode cX6_chooseRange 0 = .ok (.aload_n 0, 1) := by decide +kernel
theorem dX6_chooseRange_1 : decode cX6_chooseRange 1 = .ok (.getfield 38, 3) := by decide +kernel
theorem dX6_chooseRange_4 : decode cX6_chooseRange 4 = .ok (.aload_n 0, 1) := by decide +kernel
theorem dX6_chooseRange_5 : decode cX6_chooseRange 5 = .ok (.getfield 13, 3) := by decide +kernel
theorem dX6_chooseRange_8 : decode cX6_chooseRange 8 = .ok (.isub, 1) := by decide +kernel
theorem dX6_chooseRange_9 : decode cX6_chooseRange 9 = .ok (.aload_n 0, 1) := by decide +kernel
theorem dX6_chooseRange_10 : decode cX6_chooseRange 10 = .ok (.getfield 20, 3) := by decide +kernel
theorem dX6_chooseRange_13 : decode cX6_chooseRange 13 = .ok (.aload_n 0, 1) := by decide +kernel
theorem dX6_chooseRange_14 : decode cX6_chooseRange 14 = .ok (.getfield 38, 3) := by decide +kernel
theorem dX6_chooseRange_17 : decode cX6_chooseRange 17 = .ok (.isub, 1) := by decide +kernel
theorem dX6_chooseRange_18 : decode cX6_chooseRange 18 = .ok (.if_icmp .le 30, 3) := by decide +kernel
theorem dX6_chooseRange_21 : decode cX6_chooseRange 21 = .ok (.aload_n 0, 1) := by decide +kernel
theorem dX6_chooseRange_22 : decode cX6_chooseRange 22 = .ok (.aload_n 0, 1) := by decide +kernel
theorem dX6_chooseRange_23 : decode cX6_chooseRange 23 = .ok (.getfield 13, 3) := by decide +kernel
theorem dX6_chooseRange_26 : decode cX6_chooseRange 26 = .ok (.aload_n 0, 1) := by decide +kernel
theorem dX6_chooseRange_27 : decode cX6_chooseRange 27 = .ok (.getfield 38, 3) := by decide +kernel
theorem dX6_chooseRange_30 : decode cX6_chooseRange 30 = .ok (.iconst 1, 1) := by decide +kernel
theorem dX6_chooseRange_31 : decode cX6_chooseRange 31 = .ok (.isub, 1) := by decide +kernel
theorem dX6_chooseRange_32 : decode cX6_chooseRange 32 = .ok (.invokevirtual 48, 3) := by decide +kernel
theorem dX6_chooseRange_35 : decode cX6_chooseRange 35 = .ok (.aload_n 0, 1) := by decide +kernel
theorem dX6_chooseRange_36 : decode cX6_chooseRange 36 = .ok (.aload_n 0, 1) := by decide +kernel
theorem dX6_chooseRange_37 : decode cX6_chooseRange 37 = .ok (.getfield 38, 3) := by decide +kernel
theorem dX6_chooseRange_40 : decode cX6_chooseRange 40 = .ok (.iconst 1, 1) := by decide +kernel
theorem dX6_chooseRange_41 : decode cX6_chooseRange 41 = .ok (.iadd, 1) := by decide +kernel
theorem dX6_chooseRange_42 : decode cX6_chooseRange 42 = .ok (.putfield 13, 3) := by decide +kernel
theorem dX6_chooseRange_45 : decode cX6_chooseRange 45 = .ok (.goto 27, 3) := by decide +kernel
theorem dX6_chooseRange_48 : decode cX6_chooseRange 48 = .ok (.aload_n 0, 1) := by decide +kernel
theorem dX6_chooseRange_49 : decode cX6_chooseRange 49 = .ok (.aload_n 0, 1) := by decide +kernel
theorem dX6_chooseRange_50 : decode cX6_chooseRange 50 = .ok (.getfield 38, 3) := by decide +kernel
theorem dX6_chooseRange_53 : decode cX6_chooseRange 53 = .ok (.iconst 1, 1) := by decide +kernel
theorem dX6_chooseRange_54 : decode cX6_chooseRange 54 = .ok (.iadd, 1) := by decide +kernel
theorem dX6_chooseRange_55 : decode cX6_chooseRange 55 = .ok (.aload_n 0, 1) := by decide +kernel
theorem dX6_chooseRange_56 : decode cX6_chooseRange 56 = .ok (.getfield 20, 3) := by decide +kernel
theorem dX6_chooseRange_59 : decode cX6_chooseRange 59 = .ok (.invokevirtual 48, 3) := by decide +kernel
theorem dX6_chooseRange_62 : decode cX6_chooseRange 62 = .ok (.aload_n 0, 1) := by decide +kernel
theorem dX6_chooseRange_63 : decode cX6_chooseRange 63 = .ok (.aload_n 0, 1) := by decide +kernel
theorem dX6_chooseRange_64 : decode cX6_chooseRange 64 = .ok (.getfield 38, 3) := by decide +kernel
theorem dX6_chooseRange_67 : decode cX6_chooseRange 67 = .ok (.iconst 1, 1) := by decide +kernel
theorem dX6_chooseRange_68 : decode cX6_chooseRange 68 = .ok (.isub, 1) := by decide +kernel
theorem dX6_chooseRange_69 : decode cX6_chooseRange 69 = .ok (.putfield 20, 3) := by decide +kernel
theorem dX6_chooseRange_72 : decode cX6_chooseRange 72 = .ok (.aload_n 0, 1) := by decide +kernel
theorem dX6_chooseRange_73 : decode cX6_chooseRange 73 = .ok (.getfield 13, 3) := by decide +kernel
theorem dX6_chooseRange_76 : decode cX6_chooseRange 76 = .ok (.aload_n 0, 1) := by decide +kernel
theorem dX6_chooseRange_77 : decode cX6_chooseRange 77 = .ok (.getfield 20, 3) := by decide +kernel
theorem dX6_chooseRange_80 : decode cX6_chooseRange 80 = .ok (.if_icmp .lt 7, 3) := by decide +kernel
theorem dX6_chooseRange_83 : decode cX6_chooseRange 83 = .ok (.aload_n 0, 1) := by decide +kernel
theorem dX6_chooseRange_84 : decode cX6_chooseRange 84 = .ok (.invokevirtual 51, 3) := by decide +kernel
theorem dX6_chooseRange_87 : decode cX6_chooseRange 87 = .ok (.return_, 1) := by decide +kernel
theorem dX6_stack_0 : decode cX6_stack 0 = .ok (.iload_n 1, 1) := by decide +kernel
theorem dX6_stack_1 : decode cX6_stack 1 = .ok (.iload_n 2, 1) := by decide +kernel
theorem dX6_stack_2 : decode cX6_stack 2 = .ok (.if_icmp .ge 71, 3) := by decide +kernel
theorem dX6_stack_5 : decode cX6_stack 5 = .ok (.aload_n 0, 1) := by decide +kernel
theorem dX6_stack_6 : decode cX6_stack 6 = .ok (.getfield 54, 3) := by decide +kernel
theorem dX6_stack_9 : decode cX6_stack 9 = .ok (.iconst 2, 1) := by decide +kernel
theorem dX6_stack_10 : decode cX6_stack 10 = .ok (.iadd, 1) := by decide +kernel
theorem dX6_stack_11 : decode cX6_stack 11 = .ok (.aload_n 0, 1) := by decide +kernel
theorem dX6_stack_12 : decode cX6_stack 12 = .ok (.getfield 7, 3) := by decide +kernel
theorem dX6_stack_15 : decode cX6_stack 15 = .ok (.getfield 57, 3) := by decide +kernel
theorem dX6_stack_18 : decode cX6_stack 18 = .ok (.if_icmp .gt 55, 3) := by decide +kernel
theorem dX6_stack_21 : decode cX6_stack 21 = .ok (.aload_n 0, 1) := by decide +kernel
theorem dX6_stack_22 : decode cX6_stack 22 = .ok (.getfield 62, 3) := by decide +kernel
theorem dX6_stack_25 : decode cX6_stack 25 = .ok (.aload_n 0, 1) := by decide +kernel
theorem dX6_stack_26 : decode cX6_stack 26 = .ok (.getfield 7, 3) := by decide +kernel
theorem dX6_stack_29 : decode cX6_stack 29 = .ok (.getfield 66, 3) := by decide +kernel
theorem dX6_stack_32 : decode cX6_stack 32 = .ok (.aload_n 0, 1) := by decide +kernel
theorem dX6_stack_33 : decode cX6_stack 33 = .ok (.getfield 54, 3) := by decide +kernel
theorem dX6_stack_36 : decode cX6_stack 36 = .ok (.iadd, 1) := by decide +kernel
theorem dX6_stack_37 : decode cX6_stack 37 = .ok (.iload_n 1, 1) := by decide +kernel
theorem dX6_stack_38 : decode cX6_stack 38 = .ok (.invokevirtual 69, 3) := by decide +kernel
theorem dX6_stack_41 : decode cX6_stack 41 = .ok (.aload_n 0, 1) := by decide +kernel
theorem dX6_stack_42 : decode cX6_stack 42 = .ok (.getfield 62, 3) := by decide +kernel
theorem dX6_stack_45 : decode cX6_stack 45 = .ok (.aload_n 0, 1) := by decide +kernel
theorem dX6_stack_46 : decode cX6_stack 46 = .ok (.getfield 7, 3) := by decide +kernel
theorem dX6_stack_49 : decode cX6_stack 49 = .ok (.getfield 66, 3) := by decide +kernel
theorem dX6_stack_52 : decode cX6_stack 52 = .ok (.aload_n 0, 1) := by decide +kernel
theorem dX6_stack_53 : decode cX6_stack 53 = .ok (.getfield 54, 3) := by decide +kernel
theorem dX6_stack_56 : decode cX6_stack 56 = .ok (.iadd, 1) := by decide +kernel
theorem dX6_stack_57 : decode cX6_stack 57 = .ok (.iconst 1, 1) := by decide +kernel
theorem dX6_stack_58 : decode cX6_stack 58 = .ok (.iadd, 1) := by decide +kernel
theorem dX6_stack_59 : decode cX6_stack 59 = .ok (.iload_n 2, 1) := by decide +kernel
theorem dX6_stack_60 : decode cX6_stack 60 = .ok (.invokevirtual 69, 3) := by decide +kernel
theorem dX6_stack_63 : decode cX6_stack 63 = .ok (.aload_n 0, 1) := by decide +kernel
theorem dX6_stack_64 : decode cX6_stack 64 = .ok (.dup, 1) := by decide +kernel
theorem dX6_stack_65 : decode cX6_stack 65 = .ok (.getfield 54, 3) := by decide +kernel
theorem dX6_stack_68 : decode cX6_stack 68 = .ok (.iconst 2, 1) := by decide +kernel
theorem dX6_stack_69 : decode cX6_stack 69 = .ok (.iadd, 1) := by decide +kernel
theorem dX6_stack_70 : decode cX6_stack 70 = .ok (.putfield 54, 3) := by decide +kernel
theorem dX6_stack_73 : decode cX6_stack 73 = .ok (.return_, 1) := by decide +kernel
theorem dX6_takeLatestStacked_0 : decode cX6_takeLatestStacked 0 = .ok (.aload_n 0, 1) := by decide +kernel
theorem dX6_takeLatestStacked_1 : decode cX6_takeLatestStacked 1 = .ok (.getfield 54, 3) := by decide +kernel
theorem dX6_takeLatestStacked_4 : decode cX6_takeLatestStacked 4 = .ok (.iconst 2, 1) := by decide +kernel
theorem dX6_takeLatestStacked_5 : decode cX6_takeLatestStacked 5 = .ok (.if_icmp .ge 9, 3) := by decide +kernel
theorem dX6_takeLatestStacked_8 : decode cX6_takeLatestStacked 8 = .ok (.aload_n 0, 1) := by decide +kernel
theorem dX6_takeLatestStacked_9 : decode cX6_takeLatestStacked 9 = .ok (.iconst 1, 1) := by decide +kernel
theorem dX6_takeLatestStacked_10 : decode cX6_takeLatestStacked 10 = .ok (.putfield 23, 3) := by decide +kernel
theorem dX6_takeLatestStacked_13 : decode cX6_takeLatestStacked 13 = .ok (.return_, 1) := by decide +kernel
theorem dX6_takeLatestStacked_14 : decode cX6_takeLatestStacked 14 = .ok (.aload_n 0, 1) := by decide +kernel
theorem dX6_takeLatestStacked_15 : decode cX6_takeLatestStacked 15 = .ok (.dup, 1) := by decide +kernel
theorem dX6_takeLatestStacked_16 : decode cX6_takeLatestStacked 16 = .ok (.getfield 54, 3) := by decide +kernel
theorem dX6_takeLatestStacked_19 : decode cX6_takeLatestStacked 19 = .ok (.iconst 2, 1) := by decide +kernel
theorem dX6_takeLatestStacked_20 : decode cX6_takeLatestStacked 20 = .ok (.isub, 1) := by decide +kernel
theorem dX6_takeLatestStacked_21 : decode cX6_takeLatestStacked 21 = .ok (.putfield 54, 3) := by decide +kernel
theorem dX6_takeLatestStacked_24 : decode cX6_takeLatestStacked 24 = .ok (.aload_n 0, 1) := by decide +kernel
theorem dX6_takeLatestStacked_25 : decode cX6_takeLatestStacked 25 = .ok (.aload_n 0, 1) := by decide +kernel
theorem dX6_takeLatestStacked_26 : decode cX6_takeLatestStacked 26 = .ok (.getfield 62, 3) := by decide +kernel
theorem dX6_takeLatestStacked_29 : decode cX6_takeLatestStacked 29 = .ok (.aload_n 0, 1) := by decide +kernel
theorem dX6_takeLatestStacked_30 : decode cX6_takeLatestStacked 30 = .ok (.getfield 7, 3) := by decide +kernel
theorem dX6_takeLatestStacked_33 : decode cX6_takeLatestStacked 33 = .ok (.getfield 66, 3) := by decide +kernel
theorem dX6_takeLatestStacked_36 : decode cX6_takeLatestStacked 36 = .ok (.aload_n 0, 1) := by decide +kernel
theorem dX6_takeLatestStacked_37 : decode cX6_takeLatestStacked 37 = .ok (.getfield 54, 3) := by decide +kernel
theorem dX6_takeLatestStacked_40 : decode cX6_takeLatestStacked 40 = .ok (.iadd, 1) := by decide +kernel
theorem dX6_takeLatestStacked_41 : decode cX6_takeLatestStacked 41 = .ok (.invokevirtual 74, 3) := by decide +kernel
theorem dX6_takeLatestStacked_44 : decode cX6_takeLatestStacked 44 = .ok (.putfield 13, 3) := by decide +kernel
theorem dX6_takeLatestStacked_47 : decode cX6_takeLatestStacked 47 = .ok (.aload_n 0, 1) := by decide +kernel
theorem dX6_takeLatestStacked_48 : decode cX6_takeLatestStacked 48 = .ok (.aload_n 0, 1) := by decide +kernel
theorem dX6_takeLatestStacked_49 : decode cX6_takeLatestStacked 49 = .ok (.getfield 62, 3) := by decide +kernel
theorem dX6_takeLatestStacked_52 : decode cX6_takeLatestStacked 52 = .ok (.aload_n 0, 1) := by decide +kernel
theorem dX6_takeLatestStacked_53 : decode cX6_takeLatestStacked 53 = .ok (.getfield 7, 3) := by decide +kernel
theorem dX6_takeLatestStacked_56 : decode cX6_takeLatestStacked 56 = .ok (.getfield 66, 3) := by decide +kernel
theorem dX6_takeLatestStacked_59 : decode cX6_takeLatestStacked 59 = .ok (.aload_n 0, 1) := by decide +kernel
theorem dX6_takeLatestStacked_60 : decode cX6_takeLatestStacked 60 = .ok (.getfield 54, 3) := by decide +kernel
theorem dX6_takeLatestStacked_63 : decode cX6_takeLatestStacked 63 = .ok (.iadd, 1) := by decide +kernel
theorem dX6_takeLatestStacked_64 : decode cX6_takeLatestStacked 64 = .ok (.iconst 1, 1) := by decide +kernel
theorem dX6_takeLatestStacked_65 : decode cX6_takeLatestStacked 65 = .ok (.iadd, 1) := by decide +kernel
theorem dX6_takeLatestStacked_66 : decode cX6_takeLatestStacked 66 = .ok (.invokevirtual 74, 3) := by decide +kernel
theorem dX6_takeLatestStacked_69 : decode cX6_takeLatestStacked 69 = .ok (.putfield 20, 3) := by decide +kernel
theorem dX6_takeLatestStacked_72 : decode cX6_takeLatestStacked 72 = .ok (.return_, 1) := by decide +kernel
theorem dX7_init_0 : decode cX7_init 0 = .ok (.aload_n 0, 1) := by decide +kernel
theorem dX7_init_1 : decode cX7_init 1 = .ok (.invokespecial 3, 3) := by decide +kernel
theorem dX7_init_4 : decode cX7_init 4 = .ok (.return_, 1) := by decide +kernel
theorem dX7_enter_0 : decode cX7_enter 0 = .ok (.aconst_null, 1) := by decide +kernel
theorem dX7_enter_1 : decode cX7_enter 1 = .ok (.astore_n 2, 1) := by decide +kernel
theorem dX7_enter_2 : decode cX7_enter 2 = .ok (.aload_n 0, 1) := by decide +kernel
theorem dX7_enter_3 : decode cX7_enter 3 = .ok (.getfield 9, 3) := by decide +kernel
theorem dX7_enter_6 : decode cX7_enter 6 = .ok (.astore_n 3, 1) := by decide +kernel
theorem dX7_enter_7 : decode cX7_enter 7 = .ok (.aload_n 3, 1) := by decide +kernel
theorem dX7_enter_8 : decode cX7_enter 8 = .ok (.ifnull 24, 3) := by decide +kernel
theorem dX7_enter_11 : decode cX7_enter 11 = .ok (.aload_n 3, 1) := by decide +kernel
theorem dX7_enter_12 : decode cX7_enter 12 = .ok (.getfield 15, 3) := by decide +kernel
theorem dX7_enter_15 : decode cX7_enter 15 = .ok (.aload_n 1, 1) := by decide +kernel
theorem dX7_enter_16 : decode cX7_enter 16 = .ok (.getfield 15, 3) := by decide +kernel
theorem dX7_enter_19 : decode cX7_enter 19 = .ok (.if_icmp .lt 13, 3) := by decide +kernel
theorem dX7_enter_22 : decode cX7_enter 22 = .ok (.aload_n 3, 1) := by decide +kernel
theorem dX7_enter_23 : decode cX7_enter 23 = .ok (.astore_n 2, 1) := by decide +kernel
theorem dX7_enter_24 : decode cX7_enter 24 = .ok (.aload_n 3, 1) := by decide +kernel
theorem dX7_enter_25 : decode cX7_enter 25 = .ok (.getfield 21, 3) := by decide +kernel
theorem dX7_enter_28 : decode cX7_enter 28 = .ok (.astore_n 3, 1) := by decide +kernel
theorem dX7_enter_29 : decode cX7_enter 29 = .ok (.goto (-22), 3) := by decide +kernel
theorem dX7_enter_32 : decode cX7_enter 32 = .ok (.aload_n 2, 1) := by decide +kernel
theorem dX7_enter_33 : decode cX7_enter 33 = .ok (.ifnonnull 19, 3) := by decide +kernel
theorem dX7_enter_36 : decode cX7_enter 36 = .ok (.aload_n 1, 1) := by decide +kernel
theorem dX7_enter_37 : decode cX7_enter 37 = .ok (.aload_n 0, 1) := by decide +kernel
theorem dX7_enter_38 : decode cX7_enter 38 = .ok (.getfield 9, 3) := by decide +kernel
theorem dX7_enter_41 : decode cX7_enter 41 = .ok (.putfield 21, 3) := by decide +kernel
theorem dX7_enter_44 : decode cX7_enter 44 = .ok (.aload_n 0, 1) := by decide +kernel
theorem dX7_enter_45 : decode cX7_enter 45 = .ok (.aload_n 1, 1) := by decide +kernel
theorem dX7_enter_46 : decode cX7_enter 46 = .ok (.putfield 9, 3) := by decide +kernel
theorem dX7_enter_49 : decode cX7_enter 49 = .ok (.goto 16, 3) := by decide +kernel
theorem dX7_enter_52 : decode cX7_enter 52 = .ok (.aload_n 1, 1) := by decide +kernel
theorem dX7_enter_53 : decode cX7_enter 53 = .ok (.aload_n 2, 1) := by decide +kernel
theorem dX7_enter_54 : decode cX7_enter 54 = .ok (.getfield 21, 3) := by decide +kernel
theorem dX7_enter_57 : decode cX7_enter 57 = .ok (.putfield 21, 3) := by decide +kernel
theorem dX7_enter_60 : decode cX7_enter 60 = .ok (.aload_n 2, 1) := by decide +kernel
theorem dX7_enter_61 : decode cX7_enter 61 = .ok (.aload_n 1, 1) := by decide +kernel
theorem dX7_enter_62 : decode cX7_enter 62 = .ok (.putfield 21, 3) := by decide +kernel
theorem dX7_enter_65 : decode cX7_enter 65 = .ok (.return_, 1) := by decide +kernel
theorem dX7_leave_0 : decode cX7_leave 0 = .ok (.aconst_null, 1) := by decide +kernel
theorem dX7_leave_1 : decode cX7_leave 1 = .ok (.astore_n 2, 1) := by decide +kernel
theorem dX7_leave_2 : decode cX7_leave 2 = .ok (.aload_n 0, 1) := by decide +kernel
theorem dX7_leave_3 : decode cX7_leave 3 = .ok (.getfield 9, 3) := by decide +kernel
theorem dX7_leave_6 : decode cX7_leave 6 = .ok (.astore_n 3, 1) := by decide +kernel
theorem dX7_leave_7 : decode cX7_leave 7 = .ok (.aload_n 3, 1) := by decide +kernel
theorem dX7_leave_8 : decode cX7_leave 8 = .ok (.ifnull 25, 3) := by decide +kernel
theorem dX7_leave_11 : decode cX7_leave 11 = .ok (.aload_n 3, 1) := by decide +kernel
theorem dX7_leave_12 : decode cX7_leave 12 = .ok (.aload_n 1, 1) := by decide +kernel
theorem dX7_leave_13 : decode cX7_leave 13 = .ok (.if_acmp .ne 10, 3) := by decide +kernel
theorem dX7_leave_16 : decode cX7_leave 16 = .ok (.aload_n 0, 1) := by decide +kernel
theorem dX7_leave_17 : decode cX7_leave 17 = .ok (.aload_n 2, 1) := by decide +kernel
theorem dX7_leave_18 : decode cX7_leave 18 = .ok (.aload_n 1, 1) := by decide +kernel
theorem dX7_leave_19 : decode cX7_leave 19 = .ok (.invokevirtual 24, 3) := by decide +kernel
theorem dX7_leave_22 : decode cX7_leave 22 = .ok (.return_, 1) := by decide +kernel
theorem dX7_leave_23 : decode cX7_leave 23 = .ok (.aload_n 3, 1) := by decide +kernel
theorem dX7_leave_24 : decode cX7_leave 24 = .ok (.astore_n 2, 1) := by decide +kernel
theorem dX7_leave_25 : decode cX7_leave 25 = .ok (.aload_n 3, 1) := by decide +kernel
theorem dX7_leave_26 : decode cX7_leave 26 = .ok (.getfield 21, 3) := by decide +kernel
theorem dX7_leave_29 : decode cX7_leave 29 = .ok (.astore_n 3, 1) := by decide +kernel
theorem dX7_leave_30 : decode cX7_leave 30 = .ok (.goto (-23), 3) := by decide +kernel
theorem dX7_leave_33 : decode cX7_leave 33 = .ok (.return_, 1) := by decide +kernel
theorem dX7_unlink_0 : decode cX7_unlink 0 = .ok (.aload_n 1, 1) := by decide +kernel
theorem dX7_unlink_1 : decode cX7_unlink 1 = .ok (.ifnonnull 14, 3) := by decide +kernel
theorem dX7_unlink_4 : decode cX7_unlink 4 = .ok (.aload_n 0, 1) := by decide +kernel
theorem dX7_unlink_5 : decode cX7_unlink 5 = .ok (.aload_n 2, 1) := by decide +kernel
theorem dX7_unlink_6 : decode cX7_unlink 6 = .ok (.getfield 21, 3) := by decide +kernel
theorem dX7_unlink_9 : decode cX7_unlink 9 = .ok (.putfield 9, 3) := by decide +kernel
theorem dX7_unlink_12 : decode cX7_unlink 12 = .ok (.goto 11, 3) := by decide +kernel
theorem dX7_unlink_15 : decode cX7_unlink 15 = .ok (.aload_n 1, 1) := by decide +kernel
theorem dX7_unlink_16 : decode cX7_unlink 16 = .ok (.aload_n 2, 1) := by decide +kernel
theorem dX7_unlink_17 : decode cX7_unlink 17 = .ok (.getfield 21, 3) := by decide +kernel
theorem dX7_unlink_20 : decode cX7_unlink 20 = .ok (.putfield 21, 3) := by decide +kernel
theorem dX7_unlink_23 : decode cX7_unlink 23 = .ok (.aload_n 2, 1) := by decide +kernel
theorem dX7_unlink_24 : decode cX7_unlink 24 = .ok (.aconst_null, 1) := by decide +kernel
theorem dX7_unlink_25 : decode cX7_unlink 25 = .ok (.putfield 21, 3) := by decide +kernel
theorem dX7_unlink_28 : decode cX7_unlink 28 = .ok (.return_, 1) := by decide +kernel
theorem dX7_countAheadOf_0 : decode cX7_countAheadOf 0 = .ok (.iconst 0, 1) := by decide +kernel
theorem dX7_countAheadOf_1 : decode cX7_countAheadOf 1 = .ok (.istore_n 2, 1) := by decide +kernel
theorem dX7_countAheadOf_2 : decode cX7_countAheadOf 2 = .ok (.aload_n 0, 1) := by decide +kernel
theorem dX7_countAheadOf_3 : decode cX7_countAheadOf 3 = .ok (.getfield 9, 3) := by decide +kernel
theorem dX7_countAheadOf_6 : decode cX7_countAheadOf 6 = .ok (.astore_n 3, 1) := by decide +kernel
theorem dX7_countAheadOf_7 : decode cX7_countAheadOf 7 = .ok (.aload_n 3, 1) := by decide +kernel
theorem dX7_countAheadOf_8 : decode cX7_countAheadOf 8 = .ok (.ifnull 32, 3) := by decide +kernel
theorem dX7_countAheadOf_11 : decode cX7_countAheadOf 11 = .ok (.aload_n 3, 1) := by decide +kernel
theorem dX7_countAheadOf_12 : decode cX7_countAheadOf 12 = .ok (.aload_n 1, 1) := by decide +kernel
theorem dX7_countAheadOf_13 : decode cX7_countAheadOf 13 = .ok (.if_acmp .ne 5, 3) := by decide +kernel
theorem dX7_countAheadOf_16 : decode cX7_countAheadOf 16 = .ok (.iload_n 2, 1) := by decide +kernel
theorem dX7_countAheadOf_17 : decode cX7_countAheadOf 17 = .ok (.ireturn, 1) := by decide +kernel
theorem dX7_countAheadOf_18 : decode cX7_countAheadOf 18 = .ok (.aload_n 3, 1) := by decide +kernel
theorem dX7_countAheadOf_19 : decode cX7_countAheadOf 19 = .ok (.getfield 15, 3) := by decide +kernel
theorem dX7_countAheadOf_22 : decode cX7_countAheadOf 22 = .ok (.aload_n 1, 1) := by decide +kernel
theorem dX7_countAheadOf_23 : decode cX7_countAheadOf 23 = .ok (.getfield 15, 3) := by decide +kernel
