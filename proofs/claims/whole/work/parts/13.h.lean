theorem dH_init_0 : decode bH_init 0 = .ok (.aload_n 0, 1) := by decide +kernel
theorem dH_init_1 : decode bH_init 1 = .ok (.invokespecial 1, 3) := by decide +kernel
theorem dH_init_4 : decode bH_init 4 = .ok (.aload_n 0, 1) := by decide +kernel
theorem dH_init_5 : decode bH_init 5 = .ok (.bipush 120, 2) := by decide +kernel
theorem dH_init_7 : decode bH_init 7 = .ok (.newarray .char, 2) := by decide +kernel
theorem dH_init_9 : decode bH_init 9 = .ok (.putfield 9, 3) := by decide +kernel
theorem dH_init_12 : decode bH_init 12 = .ok (.aload_n 0, 1) := by decide +kernel
theorem dH_init_13 : decode bH_init 13 = .ok (.iconst 0, 1) := by decide +kernel
theorem dH_init_14 : decode bH_init 14 = .ok (.putfield 13, 3) := by decide +kernel
theorem dH_init_17 : decode bH_init 17 = .ok (.aload_n 0, 1) := by decide +kernel
theorem dH_init_18 : decode bH_init 18 = .ok (.new 17, 3) := by decide +kernel
theorem dH_init_21 : decode bH_init 21 = .ok (.dup, 1) := by decide +kernel
theorem dH_init_22 : decode bH_init 22 = .ok (.invokespecial 19, 3) := by decide +kernel
theorem dH_init_25 : decode bH_init 25 = .ok (.putfield 20, 3) := by decide +kernel
theorem dH_init_28 : decode bH_init 28 = .ok (.aload_n 0, 1) := by decide +kernel
theorem dH_init_29 : decode bH_init 29 = .ok (.new 24, 3) := by decide +kernel
theorem dH_init_32 : decode bH_init 32 = .ok (.dup, 1) := by decide +kernel
theorem dH_init_33 : decode bH_init 33 = .ok (.invokespecial 26, 3) := by decide +kernel
theorem dH_init_36 : decode bH_init 36 = .ok (.putfield 27, 3) := by decide +kernel
theorem dH_init_39 : decode bH_init 39 = .ok (.aload_n 0, 1) := by decide +kernel
theorem dH_init_40 : decode bH_init 40 = .ok (.aconst_null, 1) := by decide +kernel
theorem dH_init_41 : decode bH_init 41 = .ok (.putfield 31, 3) := by decide +kernel
theorem dH_init_44 : decode bH_init 44 = .ok (.aload_n 0, 1) := by decide +kernel
theorem dH_init_45 : decode bH_init 45 = .ok (.iconst 5, 1) := by decide +kernel
theorem dH_init_46 : decode bH_init 46 = .ok (.newarray .int, 2) := by decide +kernel
theorem dH_init_48 : decode bH_init 48 = .ok (.putfield 35, 3) := by decide +kernel
theorem dH_init_51 : decode bH_init 51 = .ok (.return_, 1) := by decide +kernel
theorem dH_write_0 : decode bH_write 0 = .ok (.iconst 0, 1) := by decide +kernel
theorem dH_write_1 : decode bH_write 1 = .ok (.istore_n 3, 1) := by decide +kernel
theorem dH_write_2 : decode bH_write 2 = .ok (.iconst 0, 1) := by decide +kernel
theorem dH_write_3 : decode bH_write 3 = .ok (.istore 4, 2) := by decide +kernel
theorem dH_write_5 : decode bH_write 5 = .ok (.iload 4, 2) := by decide +kernel
theorem dH_write_7 : decode bH_write 7 = .ok (.bipush 8, 2) := by decide +kernel
theorem dH_write_9 : decode bH_write 9 = .ok (.if_icmp .ge 41, 3) := by decide +kernel
theorem dH_write_12 : decode bH_write 12 = .ok (.lload_n 1, 1) := by decide +kernel
theorem dH_write_13 : decode bH_write 13 = .ok (.iload 4, 2) := by decide +kernel
theorem dH_write_15 : decode bH_write 15 = .ok (.invokestatic 39, 3) := by decide +kernel
theorem dH_write_18 : decode bH_write 18 = .ok (.istore 5, 2) := by decide +kernel
theorem dH_write_20 : decode bH_write 20 = .ok (.iload 5, 2) := by decide +kernel
theorem dH_write_22 : decode bH_write 22 = .ok (.ifCond .eq 22, 3) := by decide +kernel
theorem dH_write_25 : decode bH_write 25 = .ok (.iload 5, 2) := by decide +kernel
theorem dH_write_27 : decode bH_write 27 = .ok (.bipush 32, 2) := by decide +kernel
theorem dH_write_29 : decode bH_write 29 = .ok (.if_icmp .lt 10, 3) := by decide +kernel
theorem dH_write_32 : decode bH_write 32 = .ok (.iload 5, 2) := by decide +kernel
theorem dH_write_34 : decode bH_write 34 = .ok (.bipush 126, 2) := by decide +kernel
theorem dH_write_36 : decode bH_write 36 = .ok (.if_icmp .le 5, 3) := by decide +kernel
theorem dH_write_39 : decode bH_write 39 = .ok (.iconst 0, 1) := by decide +kernel
theorem dH_write_40 : decode bH_write 40 = .ok (.ireturn, 1) := by decide +kernel
theorem dH_write_41 : decode bH_write 41 = .ok (.iinc 3 1, 3) := by decide +kernel
theorem dH_write_44 : decode bH_write 44 = .ok (.iinc 4 1, 3) := by decide +kernel
theorem dH_write_47 : decode bH_write 47 = .ok (.goto (-42), 3) := by decide +kernel
theorem dH_write_50 : decode bH_write 50 = .ok (.aload_n 0, 1) := by decide +kernel
theorem dH_write_51 : decode bH_write 51 = .ok (.getfield 13, 3) := by decide +kernel
theorem dH_write_54 : decode bH_write 54 = .ok (.iload_n 3, 1) := by decide +kernel
theorem dH_write_55 : decode bH_write 55 = .ok (.iadd, 1) := by decide +kernel
theorem dH_write_56 : decode bH_write 56 = .ok (.bipush 120, 2) := by decide +kernel
theorem dH_write_58 : decode bH_write 58 = .ok (.if_icmp .le 5, 3) := by decide +kernel
theorem dH_write_61 : decode bH_write 61 = .ok (.iconst 0, 1) := by decide +kernel
theorem dH_write_62 : decode bH_write 62 = .ok (.ireturn, 1) := by decide +kernel
theorem dH_write_63 : decode bH_write 63 = .ok (.iconst 0, 1) := by decide +kernel
theorem dH_write_64 : decode bH_write 64 = .ok (.istore 4, 2) := by decide +kernel
theorem dH_write_66 : decode bH_write 66 = .ok (.iload 4, 2) := by decide +kernel
theorem dH_write_68 : decode bH_write 68 = .ok (.bipush 8, 2) := by decide +kernel
theorem dH_write_70 : decode bH_write 70 = .ok (.if_icmp .ge 19, 3) := by decide +kernel
theorem dH_write_73 : decode bH_write 73 = .ok (.aload_n 0, 1) := by decide +kernel
theorem dH_write_74 : decode bH_write 74 = .ok (.lload_n 1, 1) := by decide +kernel
theorem dH_write_75 : decode bH_write 75 = .ok (.iload 4, 2) := by decide +kernel
theorem dH_write_77 : decode bH_write 77 = .ok (.invokestatic 39, 3) := by decide +kernel
theorem dH_write_80 : decode bH_write 80 = .ok (.invokevirtual 43, 3) := by decide +kernel
theorem dH_write_83 : decode bH_write 83 = .ok (.iinc 4 1, 3) := by decide +kernel
theorem dH_write_86 : decode bH_write 86 = .ok (.goto (-20), 3) := by decide +kernel
theorem dH_write_89 : decode bH_write 89 = .ok (.iconst 1, 1) := by decide +kernel
theorem dH_write_90 : decode bH_write 90 = .ok (.ireturn, 1) := by decide +kernel
theorem dH_byteAt_0 : decode bH_byteAt 0 = .ok (.lload_n 0, 1) := by decide +kernel
theorem dH_byteAt_1 : decode bH_byteAt 1 = .ok (.bipush 8, 2) := by decide +kernel
theorem dH_byteAt_3 : decode bH_byteAt 3 = .ok (.iload_n 2, 1) := by decide +kernel
theorem dH_byteAt_4 : decode bH_byteAt 4 = .ok (.imul, 1) := by decide +kernel
theorem dH_byteAt_5 : decode bH_byteAt 5 = .ok (.lushr, 1) := by decide +kernel
theorem dH_byteAt_6 : decode bH_byteAt 6 = .ok (.l2i, 1) := by decide +kernel
theorem dH_byteAt_7 : decode bH_byteAt 7 = .ok (.sipush 255, 3) := by decide +kernel
theorem dH_byteAt_10 : decode bH_byteAt 10 = .ok (.iand, 1) := by decide +kernel
theorem dH_byteAt_11 : decode bH_byteAt 11 = .ok (.ireturn, 1) := by decide +kernel
theorem dH_append_0 : decode bH_append 0 = .ok (.iload_n 1, 1) := by decide +kernel
theorem dH_append_1 : decode bH_append 1 = .ok (.ifCond .eq 33, 3) := by decide +kernel
theorem dH_append_4 : decode bH_append 4 = .ok (.aload_n 0, 1) := by decide +kernel
theorem dH_append_5 : decode bH_append 5 = .ok (.getfield 13, 3) := by decide +kernel
theorem dH_append_8 : decode bH_append 8 = .ok (.bipush 120, 2) := by decide +kernel
theorem dH_append_10 : decode bH_append 10 = .ok (.if_icmp .ge 24, 3) := by decide +kernel
theorem dH_append_13 : decode bH_append 13 = .ok (.aload_n 0, 1) := by decide +kernel
theorem dH_append_14 : decode bH_append 14 = .ok (.getfield 9, 3) := by decide +kernel
theorem dH_append_17 : decode bH_append 17 = .ok (.aload_n 0, 1) := by decide +kernel
theorem dH_append_18 : decode bH_append 18 = .ok (.getfield 13, 3) := by decide +kernel
theorem dH_append_21 : decode bH_append 21 = .ok (.iload_n 1, 1) := by decide +kernel
theorem dH_append_22 : decode bH_append 22 = .ok (.i2c, 1) := by decide +kernel
theorem dH_append_23 : decode bH_append 23 = .ok (.castore, 1) := by decide +kernel
theorem dH_append_24 : decode bH_append 24 = .ok (.aload_n 0, 1) := by decide +kernel
theorem dH_append_25 : decode bH_append 25 = .ok (.dup, 1) := by decide +kernel
theorem dH_append_26 : decode bH_append 26 = .ok (.getfield 13, 3) := by decide +kernel
theorem dH_append_29 : decode bH_append 29 = .ok (.iconst 1, 1) := by decide +kernel
theorem dH_append_30 : decode bH_append 30 = .ok (.iadd, 1) := by decide +kernel
theorem dH_append_31 : decode bH_append 31 = .ok (.putfield 13, 3) := by decide +kernel
theorem dH_append_34 : decode bH_append 34 = .ok (.return_, 1) := by decide +kernel
theorem dH_wipe_0 : decode bH_wipe 0 = .ok (.aload_n 0, 1) := by decide +kernel
theorem dH_wipe_1 : decode bH_wipe 1 = .ok (.getfield 13, 3) := by decide +kernel
theorem dH_wipe_4 : decode bH_wipe 4 = .ok (.istore_n 1, 1) := by decide +kernel
theorem dH_wipe_5 : decode bH_wipe 5 = .ok (.aload_n 0, 1) := by decide +kernel
theorem dH_wipe_6 : decode bH_wipe 6 = .ok (.iconst 0, 1) := by decide +kernel
theorem dH_wipe_7 : decode bH_wipe 7 = .ok (.putfield 13, 3) := by decide +kernel
theorem dH_wipe_10 : decode bH_wipe 10 = .ok (.iload_n 1, 1) := by decide +kernel
theorem dH_wipe_11 : decode bH_wipe 11 = .ok (.ireturn, 1) := by decide +kernel
theorem dH_length_0 : decode bH_length 0 = .ok (.aload_n 0, 1) := by decide +kernel
theorem dH_length_1 : decode bH_length 1 = .ok (.getfield 13, 3) := by decide +kernel
theorem dH_length_4 : decode bH_length 4 = .ok (.ireturn, 1) := by decide +kernel
theorem dH_read_0 : decode bH_read 0 = .ok (.aload_n 0, 1) := by decide +kernel
theorem dH_read_1 : decode bH_read 1 = .ok (.aload_n 0, 1) := by decide +kernel
theorem dH_read_2 : decode bH_read 2 = .ok (.getfield 20, 3) := by decide +kernel
theorem dH_read_5 : decode bH_read 5 = .ok (.aload_n 0, 1) := by decide +kernel
theorem dH_read_6 : decode bH_read 6 = .ok (.getfield 9, 3) := by decide +kernel
theorem dH_read_9 : decode bH_read 9 = .ok (.aload_n 0, 1) := by decide +kernel
theorem dH_read_10 : decode bH_read 10 = .ok (.getfield 13, 3) := by decide +kernel
theorem dH_read_13 : decode bH_read 13 = .ok (.invokevirtual 47, 3) := by decide +kernel
theorem dH_read_16 : decode bH_read 16 = .ok (.putfield 31, 3) := by decide +kernel
theorem dH_read_19 : decode bH_read 19 = .ok (.aload_n 0, 1) := by decide +kernel
theorem dH_read_20 : decode bH_read 20 = .ok (.iconst 0, 1) := by decide +kernel
theorem dH_read_21 : decode bH_read 21 = .ok (.putfield 13, 3) := by decide +kernel
theorem dH_read_24 : decode bH_read 24 = .ok (.iconst 0, 1) := by decide +kernel
theorem dH_read_25 : decode bH_read 25 = .ok (.istore_n 1, 1) := by decide +kernel
theorem dH_read_26 : decode bH_read 26 = .ok (.iload_n 1, 1) := by decide +kernel
theorem dH_read_27 : decode bH_read 27 = .ok (.iconst 4, 1) := by decide +kernel
theorem dH_read_28 : decode bH_read 28 = .ok (.if_icmp .gt 16, 3) := by decide +kernel
theorem dH_read_31 : decode bH_read 31 = .ok (.aload_n 0, 1) := by decide +kernel
theorem dH_read_32 : decode bH_read 32 = .ok (.getfield 35, 3) := by decide +kernel
theorem dH_read_35 : decode bH_read 35 = .ok (.iload_n 1, 1) := by decide +kernel
theorem dH_read_36 : decode bH_read 36 = .ok (.iconst (-1), 1) := by decide +kernel
theorem dH_read_37 : decode bH_read 37 = .ok (.iastore, 1) := by decide +kernel
theorem dH_read_38 : decode bH_read 38 = .ok (.iinc 1 1, 3) := by decide +kernel
theorem dH_read_41 : decode bH_read 41 = .ok (.goto (-15), 3) := by decide +kernel
theorem dH_read_44 : decode bH_read 44 = .ok (.aload_n 0, 1) := by decide +kernel
theorem dH_read_45 : decode bH_read 45 = .ok (.getfield 20, 3) := by decide +kernel
theorem dH_read_48 : decode bH_read 48 = .ok (.getfield 51, 3) := by decide +kernel
theorem dH_read_51 : decode bH_read 51 = .ok (.ireturn, 1) := by decide +kernel
theorem dH_holds_0 : decode bH_holds 0 = .ok (.aload_n 0, 1) := by decide +kernel
theorem dH_holds_1 : decode bH_holds 1 = .ok (.invokevirtual 54, 3) := by decide +kernel
theorem dH_holds_4 : decode bH_holds 4 = .ok (.iload_n 1, 1) := by decide +kernel
theorem dH_holds_5 : decode bH_holds 5 = .ok (.invokestatic 57, 3) := by decide +kernel
theorem dH_holds_8 : decode bH_holds 8 = .ok (.aload_n 0, 1) := by decide +kernel
theorem dH_holds_9 : decode bH_holds 9 = .ok (.iload_n 1, 1) := by decide +kernel
theorem dH_holds_10 : decode bH_holds 10 = .ok (.invokevirtual 60, 3) := by decide +kernel
theorem dH_holds_13 : decode bH_holds 13 = .ok (.ireturn, 1) := by decide +kernel
theorem dH_isTrueIn_0 : decode bH_isTrueIn 0 = .ok (.aload_n 0, 1) := by decide +kernel
theorem dH_isTrueIn_1 : decode bH_isTrueIn 1 = .ok (.iload_n 1, 1) := by decide +kernel
theorem dH_isTrueIn_2 : decode bH_isTrueIn 2 = .ok (.invokevirtual 64, 3) := by decide +kernel
theorem dH_isTrueIn_5 : decode bH_isTrueIn 5 = .ok (.istore_n 2, 1) := by decide +kernel
theorem dH_isTrueIn_6 : decode bH_isTrueIn 6 = .ok (.aload_n 0, 1) := by decide +kernel
theorem dH_isTrueIn_7 : decode bH_isTrueIn 7 = .ok (.getfield 31, 3) := by decide +kernel
theorem dH_isTrueIn_10 : decode bH_isTrueIn 10 = .ok (.getfield 84, 3) := by decide +kernel
theorem dH_isTrueIn_13 : decode bH_isTrueIn 13 = .ok (.bipush 65, 2) := by decide +kernel
theorem dH_isTrueIn_15 : decode bH_isTrueIn 15 = .ok (.if_icmp .ne 26, 3) := by decide +kernel
theorem dH_isTrueIn_18 : decode bH_isTrueIn 18 = .ok (.iload_n 2, 1) := by decide +kernel
theorem dH_isTrueIn_19 : decode bH_isTrueIn 19 = .ok (.aload_n 0, 1) := by decide +kernel
theorem dH_isTrueIn_20 : decode bH_isTrueIn 20 = .ok (.getfield 31, 3) := by decide +kernel
theorem dH_isTrueIn_23 : decode bH_isTrueIn 23 = .ok (.getfield 90, 3) := by decide +kernel
theorem dH_isTrueIn_26 : decode bH_isTrueIn 26 = .ok (.iload_n 1, 1) := by decide +kernel
theorem dH_isTrueIn_27 : decode bH_isTrueIn 27 = .ok (.invokestatic 93, 3) := by decide +kernel
theorem dH_isTrueIn_30 : decode bH_isTrueIn 30 = .ok (.if_icmp .ne 7, 3) := by decide +kernel
theorem dH_isTrueIn_33 : decode bH_isTrueIn 33 = .ok (.iconst 1, 1) := by decide +kernel
theorem dH_isTrueIn_34 : decode bH_isTrueIn 34 = .ok (.goto 16, 3) := by decide +kernel
theorem dH_isTrueIn_37 : decode bH_isTrueIn 37 = .ok (.iconst 0, 1) := by decide +kernel
theorem dH_isTrueIn_38 : decode bH_isTrueIn 38 = .ok (.goto 12, 3) := by decide +kernel
theorem dH_isTrueIn_41 : decode bH_isTrueIn 41 = .ok (.iload_n 2, 1) := by decide +kernel
theorem dH_isTrueIn_42 : decode bH_isTrueIn 42 = .ok (.ifCond .le 7, 3) := by decide +kernel
theorem dH_isTrueIn_45 : decode bH_isTrueIn 45 = .ok (.iconst 1, 1) := by decide +kernel
theorem dH_isTrueIn_46 : decode bH_isTrueIn 46 = .ok (.goto 4, 3) := by decide +kernel
theorem dH_isTrueIn_49 : decode bH_isTrueIn 49 = .ok (.iconst 0, 1) := by decide +kernel
theorem dH_isTrueIn_50 : decode bH_isTrueIn 50 = .ok (.ireturn, 1) := by decide +kernel
theorem dH_waysIn_0 : decode bH_waysIn 0 = .ok (.aload_n 0, 1) := by decide +kernel
theorem dH_waysIn_1 : decode bH_waysIn 1 = .ok (.getfield 35, 3) := by decide +kernel
theorem dH_waysIn_4 : decode bH_waysIn 4 = .ok (.iload_n 1, 1) := by decide +kernel
theorem dH_waysIn_5 : decode bH_waysIn 5 = .ok (.iaload, 1) := by decide +kernel
theorem dH_waysIn_6 : decode bH_waysIn 6 = .ok (.iconst (-1), 1) := by decide +kernel
theorem dH_waysIn_7 : decode bH_waysIn 7 = .ok (.if_icmp .ne 21, 3) := by decide +kernel
theorem dH_waysIn_10 : decode bH_waysIn 10 = .ok (.aload_n 0, 1) := by decide +kernel
theorem dH_waysIn_11 : decode bH_waysIn 11 = .ok (.getfield 35, 3) := by decide +kernel
theorem dH_waysIn_14 : decode bH_waysIn 14 = .ok (.iload_n 1, 1) := by decide +kernel
theorem dH_waysIn_15 : decode bH_waysIn 15 = .ok (.aload_n 0, 1) := by decide +kernel
theorem dH_waysIn_16 : decode bH_waysIn 16 = .ok (.getfield 27, 3) := by decide +kernel
theorem dH_waysIn_19 : decode bH_waysIn 19 = .ok (.aload_n 0, 1) := by decide +kernel
theorem dH_waysIn_20 : decode bH_waysIn 20 = .ok (.getfield 31, 3) := by decide +kernel
theorem dH_waysIn_23 : decode bH_waysIn 23 = .ok (.iload_n 1, 1) := by decide +kernel
theorem dH_waysIn_24 : decode bH_waysIn 24 = .ok (.invokevirtual 80, 3) := by decide +kernel
theorem dH_waysIn_27 : decode bH_waysIn 27 = .ok (.iastore, 1) := by decide +kernel
theorem dH_waysIn_28 : decode bH_waysIn 28 = .ok (.aload_n 0, 1) := by decide +kernel
theorem dH_waysIn_29 : decode bH_waysIn 29 = .ok (.getfield 35, 3) := by decide +kernel
theorem dH_waysIn_32 : decode bH_waysIn 32 = .ok (.iload_n 1, 1) := by decide +kernel
theorem dH_waysIn_33 : decode bH_waysIn 33 = .ok (.iaload, 1) := by decide +kernel
theorem dH_waysIn_34 : decode bH_waysIn 34 = .ok (.ireturn, 1) := by decide +kernel
theorem dH_fails_0 : decode bH_fails 0 = .ok (.aload_n 0, 1) := by decide +kernel
theorem dH_fails_1 : decode bH_fails 1 = .ok (.invokevirtual 54, 3) := by decide +kernel
theorem dH_fails_4 : decode bH_fails 4 = .ok (.iconst 0, 1) := by decide +kernel
theorem dH_fails_5 : decode bH_fails 5 = .ok (.istore_n 1, 1) := by decide +kernel
theorem dH_fails_6 : decode bH_fails 6 = .ok (.iload_n 1, 1) := by decide +kernel
theorem dH_fails_7 : decode bH_fails 7 = .ok (.iconst 4, 1) := by decide +kernel
theorem dH_fails_8 : decode bH_fails 8 = .ok (.if_icmp .gt 19, 3) := by decide +kernel
theorem dH_fails_11 : decode bH_fails 11 = .ok (.aload_n 0, 1) := by decide +kernel
theorem dH_fails_12 : decode bH_fails 12 = .ok (.iload_n 1, 1) := by decide +kernel
theorem dH_fails_13 : decode bH_fails 13 = .ok (.invokevirtual 60, 3) := by decide +kernel
theorem dH_fails_16 : decode bH_fails 16 = .ok (.ifCond .ne 5, 3) := by decide +kernel
theorem dH_fails_19 : decode bH_fails 19 = .ok (.iload_n 1, 1) := by decide +kernel
theorem dH_fails_20 : decode bH_fails 20 = .ok (.ireturn, 1) := by decide +kernel
theorem dH_fails_21 : decode bH_fails 21 = .ok (.iinc 1 1, 3) := by decide +kernel
theorem dH_fails_24 : decode bH_fails 24 = .ok (.goto (-18), 3) := by decide +kernel
theorem dH_fails_27 : decode bH_fails 27 = .ok (.iconst (-1), 1) := by decide +kernel
theorem dH_fails_28 : decode bH_fails 28 = .ok (.ireturn, 1) := by decide +kernel
theorem dH_ways_0 : decode bH_ways 0 = .ok (.aload_n 0, 1) := by decide +kernel
theorem dH_ways_1 : decode bH_ways 1 = .ok (.invokevirtual 54, 3) := by decide +kernel
theorem dH_ways_4 : decode bH_ways 4 = .ok (.iload_n 1, 1) := by decide +kernel
theorem dH_ways_5 : decode bH_ways 5 = .ok (.invokestatic 57, 3) := by decide +kernel
theorem dH_ways_8 : decode bH_ways 8 = .ok (.aload_n 0, 1) := by decide +kernel
theorem dH_ways_9 : decode bH_ways 9 = .ok (.iload_n 1, 1) := by decide +kernel
theorem dH_ways_10 : decode bH_ways 10 = .ok (.invokevirtual 64, 3) := by decide +kernel
theorem dH_ways_13 : decode bH_ways 13 = .ok (.ireturn, 1) := by decide +kernel
section
variable {p : Program} {l : Launch} {e : Env} {R : Room} {s : State} {m : MethodId} {args : Array Value} {below : List Frame} {meth : Method} {c : Code} {G : Gx} {M0 M' : Mem} {r : Option Value ⊕ Nat} {d : Nat} {C : Cx}

def fH_init_0 (n d : Nat) (C : Cx) (a0 : Nat) (M : Mem) : Rz := if ¬ (120 : Int32) < 0 then (if (120 : Int32).toNatClampNeg ≤ 1000 then (if mS M + 1 ≤ mC M 0 then (if mU M + (120 : Int32).toNatClampNeg ≤ SLm then (rzM (newC M 22 ((120 : Int32).toNatClampNeg) ((120 : Int32).toNatClampNeg)) fun M_5 => (if mK M_5 a0 = 1 then (rzM (setP M_5 a0 0 (some (mS M))) fun M_9 => (rzM (setI M_9 a0 1 0) fun M_13 => (if mS M_13 + 1 ≤ mC M_13 0 then (if mU M_13 + 8 ≤ SLm then (rzM (newC M_13 2 0 8) fun M_21 => (rzC (C 1 [.ref (mS M_13)] M_21) fun v_26 M_27 => (rzV v_26 (if mK M_27 a0 = 1 then (rzM (setP M_27 a0 2 (some (mS M_13))) fun M_31 => (if mS M_31 + 1 ≤ mC M_31 0 then (if mU M_31 + 3 ≤ SLm then (rzM (newC M_31 3 0 3) fun M_38 => (rzC (C 4 [.ref (mS M_31)] M_38) fun v_42 M_43 => (rzV v_42 (if mK M_43 a0 = 1 then (rzM (setP M_43 a0 3 (some (mS M_31))) fun M_47 => (rzM (setP M_47 a0 4 none) fun M_50 => (if ¬ (5 : Int32) < 0 then (if (5 : Int32).toNatClampNeg ≤ 1000 then (if mS M_50 + 1 ≤ mC M_50 0 then (if mU M_50 + (5 : Int32).toNatClampNeg ≤ SLm then (rzM (newC M_50 21 ((5 : Int32).toNatClampNeg) ((5 : Int32).toNatClampNeg)) fun M_57 => (rzM (setP M_57 a0 5 (some (mS M_50))) fun M_61 => (some (.inl none, M_61)))) else none) else none) else none) else none))) else none)))) else none) else none)) else none)))) else none) else none))) else none)) else none) else none) else none) else none
set_option maxRecDepth 100000 in
set_option maxHeartbeats 4000000 in
theorem tH_init_0 {n : Nat} (F : FX p s m meth c G R M0 d "HeadCount" bH_init 1 none) (hin : meth.name = "<init>") (hC : CBs l G d C) : ∀ (a0 : Nat) (M : Mem) (H : Heap) (locs : List Loc) (cells slots : Nat) (ls : Array Slot), fH_init_0 n d C a0 M = some (r, M') → RL G M0 M H locs cells slots → lv_has ls 1 [(0, .ref a0)] → W p l e R s m args below meth c H locs cells slots (CQ G below s M0 r M') (F0 m 0 ls []) := by
  obtain ⟨hx, hb, hml, hown, hrt, hlk, hex, hK, hRm⟩ := id F
  intro a0 M H locs cells slots ls h hR hl
  unfold fH_init_0 at h
  refine lv_aload_n hx hb dH_init_0 rfl (lv_at hl 0 rfl) ?_
  refine W.objInit hx hb hown (hK.w kl_H_1 rfl args) (hK.w oi1 rfl args) (hK.w oi2 rfl args) rfl (hl.1.trans hml.symm) rfl dH_init_1 (Nat.le_trans (Nat.le_add_left 1 d) hRm.1) (by have := hRm.2.1; simp [cat_rf, cat_i, cat_a, cat_l, cat_n]; omega) ?_
  refine lv_aload_n hx hb dH_init_4 rfl (lv_at hl 0 rfl) ?_
  refine lv_bipush (v := 120) hx hb dH_init_5 (by decide) ?_
  obtain ⟨c_1, h⟩ := rz_chk h
  obtain ⟨c_2, h⟩ := rz_chk h
  obtain ⟨c_3, h⟩ := rz_chk h
  obtain ⟨c_4, h⟩ := rz_chk h
  obtain ⟨M_5, q_6, h⟩ := rz_m h
  have hR0 := hR
  refine rg_newa (kd := 22) (atype := .char) (ty := .char) hx hb hK hR hRm rfl (by decide) ka_char c_1 c_2 c_3 c_4 dH_init_7 (fun H hR => ?_)
  rw [← q_6] at hR
  have c_7 : mK M_5 (mS M) = 22 := by rw [q_6, mK_newC, va_up_self]
  obtain ⟨c_8, h⟩ := rz_chk h
  obtain ⟨M_9, q_10, h⟩ := rz_m h
  refine rg_putF (r := some (mS M)) hx hb hown hK hR hk_H 0 (by decide) kf_H_9 rfl hin rfl rfl (ty := .array .char) (by decide +kernel) (Or.inr ⟨_, rfl⟩) c_8 dH_init_9 (fun H locs hR => ?_)
  rw [← q_10] at hR
  have c_11 : mK M_9 (mS M) = 22 := by rw [q_10]; exact c_7
  have c_12 : mK M_9 a0 = 1 := by rw [q_10]; exact c_8
  refine lv_aload_n hx hb dH_init_12 rfl (lv_at hl 0 rfl) ?_
  refine lv_iconst (v := 0) hx hb dH_init_13 (by decide) ?_
  obtain ⟨M_13, q_14, h⟩ := rz_m h
  refine rg_putI hx hb hown hK hR hk_H 1 (by decide) kf_H_13 rfl rfl (ty := .int) (by decide +kernel) (Or.inl rfl) rfl c_12 dH_init_14 (fun H locs hR => ?_)
  rw [← q_14] at hR
  have c_15 : mK M_13 (mS M) = 22 := by rw [q_14]; exact c_11
  have c_16 : mK M_13 a0 = 1 := by rw [q_14]; exact c_12
  refine lv_aload_n hx hb dH_init_17 rfl (lv_at hl 0 rfl) ?_
  obtain ⟨c_17, h⟩ := rz_chk h
  obtain ⟨c_18, h⟩ := rz_chk h
  obtain ⟨M_21, q_22, h⟩ := rz_m h
  have hR0 := hR
  refine rg_new hx hb hown hK hR hRm hk_P kc_H_17 kn_P ki_P c_17 c_18 dH_init_18 (fun H hR => ?_)
  rw [← q_22] at hR
  have c_23 : mK M_21 (mS M) = 22 := by rw [q_22]; exact kn_keep hR0 c_15 (by decide)
  have c_24 : mK M_21 a0 = 1 := by rw [q_22]; exact kn_keep hR0 c_16 (by decide)
  have c_25 : mK M_21 (mS M_13) = 2 := by rw [q_22, mK_newC, va_up_self]
  refine lv_dup hx hb dH_init_21 rfl ?_
  obtain ⟨q_29, M_27, h_28, h⟩ := rz_c h
  refine rc_I (rest := [.ref (mS M_13), .ref a0]) (As := []) hx hb (hl.1.trans hml.symm) hown hK hR hRm mfP_init kl_H_19 rfl (by simp [cat_rf, cat_i, cat_a, cat_l, cat_n]) (hC 1 _ _ _ _ h_28) dH_init_22 (fun v1 H locs cells slots ev hR => ?_) (fun x1 q1 ce1 H locs cells slots ex hR g1 g2 g3 => ?_)
  · rcases h with ⟨v_26, ev2, h⟩ | ⟨e2, ee2, -⟩
    · cases ev.symm.trans ev2
      replace h := rz_v h
      obtain ⟨rfl, h⟩ := h
      dsimp only [Option.toList, List.cons_append, List.nil_append]
      obtain ⟨c_30, h⟩ := rz_chk h
      obtain ⟨M_31, q_32, h⟩ := rz_m h
      refine rg_putF (r := some (mS M_13)) hx hb hown hK hR hk_H 2 (by decide) kf_H_20 rfl hin rfl rfl (ty := .object "HeadCount$Parser") (by decide +kernel) (Or.inl ⟨_, rfl⟩) c_30 dH_init_25 (fun H locs hR => ?_)
      rw [← q_32] at hR
      have c_33 : mK M_31 a0 = 1 := by rw [q_32]; exact c_30
      refine lv_aload_n hx hb dH_init_28 rfl (lv_at hl 0 rfl) ?_
      obtain ⟨c_34, h⟩ := rz_chk h
      obtain ⟨c_35, h⟩ := rz_chk h
      obtain ⟨M_38, q_39, h⟩ := rz_m h
      have hR0 := hR
      refine rg_new hx hb hown hK hR hRm hk_O kc_H_24 kn_O ki_O c_34 c_35 dH_init_29 (fun H hR => ?_)
      rw [← q_39] at hR
      have c_40 : mK M_38 a0 = 1 := by rw [q_39]; exact kn_keep hR0 c_33 (by decide)
      have c_41 : mK M_38 (mS M_31) = 3 := by rw [q_39, mK_newC, va_up_self]
      refine lv_dup hx hb dH_init_32 rfl ?_
      obtain ⟨q_45, M_43, h_44, h⟩ := rz_c h
      refine rc_I (rest := [.ref (mS M_31), .ref a0]) (As := []) hx hb (hl.1.trans hml.symm) hown hK hR hRm mfO_init kl_H_26 rfl (by simp [cat_rf, cat_i, cat_a, cat_l, cat_n]) (hC 4 _ _ _ _ h_44) dH_init_33 (fun v1 H locs cells slots ev hR => ?_) (fun x1 q1 ce1 H locs cells slots ex hR g1 g2 g3 => ?_)
      · rcases h with ⟨v_42, ev2, h⟩ | ⟨e2, ee2, -⟩
        · cases ev.symm.trans ev2
          replace h := rz_v h
          obtain ⟨rfl, h⟩ := h
          dsimp only [Option.toList, List.cons_append, List.nil_append]
          obtain ⟨c_46, h⟩ := rz_chk h
          obtain ⟨M_47, q_48, h⟩ := rz_m h
          refine rg_putF (r := some (mS M_31)) hx hb hown hK hR hk_H 3 (by decide) kf_H_27 rfl hin rfl rfl (ty := .object "HeadCount$World") (by decide +kernel) (Or.inl ⟨_, rfl⟩) c_46 dH_init_36 (fun H locs hR => ?_)
          rw [← q_48] at hR
          have c_49 : mK M_47 a0 = 1 := by rw [q_48]; exact c_46
          refine lv_aload_n hx hb dH_init_39 rfl (lv_at hl 0 rfl) ?_
          refine lv_null hx hb dH_init_40 ?_
          obtain ⟨M_50, q_51, h⟩ := rz_m h
          refine rg_putP (r := none) hx hb hown hK hR hk_H 4 (by decide) kf_H_31 rfl rfl (ty := .object "HeadCount$Node") (by decide +kernel) (Or.inl ⟨_, rfl⟩) c_49 dH_init_41 (fun H locs hR => ?_)
          rw [← q_51] at hR
          have c_52 : mK M_50 a0 = 1 := by rw [q_51]; exact c_49
          refine lv_aload_n hx hb dH_init_44 rfl (lv_at hl 0 rfl) ?_
          refine lv_iconst (v := 5) hx hb dH_init_45 (by decide) ?_
          obtain ⟨c_53, h⟩ := rz_chk h
          obtain ⟨c_54, h⟩ := rz_chk h
          obtain ⟨c_55, h⟩ := rz_chk h
          obtain ⟨c_56, h⟩ := rz_chk h
          obtain ⟨M_57, q_58, h⟩ := rz_m h
          have hR0 := hR
          refine rg_newa (kd := 21) (atype := .int) (ty := .int) hx hb hK hR hRm rfl (by decide) ka_int c_53 c_54 c_55 c_56 dH_init_46 (fun H hR => ?_)
          rw [← q_58] at hR
          have c_59 : mK M_57 a0 = 1 := by rw [q_58]; exact kn_keep hR0 c_52 (by decide)
          have c_60 : mK M_57 (mS M_50) = 21 := by rw [q_58, mK_newC, va_up_self]
          obtain ⟨M_61, q_62, h⟩ := rz_m h
          refine rg_putF (r := some (mS M_50)) hx hb hown hK hR hk_H 5 (by decide) kf_H_35 rfl hin rfl rfl (ty := .array .int) (by decide +kernel) (Or.inr ⟨_, rfl⟩) c_59 dH_init_48 (fun H locs hR => ?_)
          rw [← q_62] at hR
          have c_63 : mK M_61 a0 = 1 := by rw [q_62]; exact c_59
          have c_64 : mK M_61 (mS M_50) = 21 := by rw [q_62]; exact c_60
          cases h
          exact rt_v hx hb hlk hrt hR dH_init_51
        · cases ev.symm.trans ee2
      · rcases h with ⟨v2, ev2, -⟩ | ⟨e2, ee2, h⟩
        · cases ex.symm.trans ev2
        · cases ex.symm.trans ee2
          cases h
          exact rt_x hlk hex hR g1 g2 g3
    · cases ev.symm.trans ee2
  · rcases h with ⟨v2, ev2, -⟩ | ⟨e2, ee2, h⟩
    · cases ex.symm.trans ev2
    · cases ex.symm.trans ee2
      cases h
      exact rt_x hlk hex hR g1 g2 g3
set_option maxRecDepth 100000 in
set_option maxHeartbeats 4000000 in
theorem sH_init {l : Launch} {G : Gx} {n d : Nat} {C : Cx} (hC : CBs l G d C) (a0 : Nat) {M M' : Mem} {r : Option Value ⊕ Nat} (h : fH_init_0 n d C a0 M = some (r, M')) : CB l G (d + 1) yH_init [.ref a0] M r M' := by
  intro p e R s m below meth c hx hn hm hc hlk hK hR hcap hS hU hfr hlo hrc hrs
  obtain ⟨hb, hml, hrt, hex, hown⟩ := fx_of hn hm hc (hK.w mfH_init.2.2.1 rfl #[])
  have F : FX p s m meth c G R M d "HeadCount" bH_init 1 none := ⟨hx, hb, hml, hown, hrt, hlk, hex, hK, hfr, hlo, by rw [← hcap]; exact hrc, hrs⟩
  rw [hml]
  have hl := lv_entry ([.ref a0]) (n := 1) (by simp [lg_sl, cat_rf, cat_i, cat_a, cat_l, cat_n])
  rw [lg_entry_eq]
  generalize (lg_sl ([.ref a0]) ++ List.replicate (1 - (lg_sl ([.ref a0])).length) Slot.unset).toArray = ls at hl ⊢
  have hl : lv_has ls 1 [(0, .ref a0)] := by simpa [lv_args, cat_rf, cat_i, cat_a, cat_l, cat_n] using hl
  exact tH_init_0 F (name_of_methodNamed hn hm).1 hC a0 _ _ _ _ _ _ h (RL.start hR hcap hS hU) (lv_sub hl [0] rfl)
def fH_write_39 (n d : Nat) (C : Cx) (M : Mem) : Rz := if fits .boolean (.int 0) = true then (some (.inl (some (.int 0)), M)) else none
set_option maxRecDepth 100000 in
set_option maxHeartbeats 4000000 in
theorem tH_write_39 {n : Nat} (F : FX p s m meth c G R M0 d "HeadCount" bH_write 6 (some .boolean)) (hC : CBs l G d C) : ∀ (M : Mem) (H : Heap) (locs : List Loc) (cells slots : Nat) (ls : Array Slot), fH_write_39 n d C M = some (r, M') → RL G M0 M H locs cells slots → lv_has ls 6 [] → W p l e R s m args below meth c H locs cells slots (CQ G below s M0 r M') (F0 m 39 ls []) := by
  obtain ⟨hx, hb, hml, hown, hrt, hlk, hex, hK, hRm⟩ := id F
  intro M H locs cells slots ls h hR hl
  unfold fH_write_39 at h
  refine lv_iconst (v := 0) hx hb dH_write_39 (by decide) ?_
  obtain ⟨c_1, h⟩ := rz_chk h
  cases h
  exact rt_i hx hb hlk hrt (Or.inr (Or.inr rfl)) c_1 hR dH_write_40
def fH_write_44 (n d : Nat) (C : Cx) (k5 : Nat → Int64 → Int32 → Int32 → Mem → Rz) (a0 : Nat) (l1 : Int64) (x3 : Int32) (x4 : Int32) (M : Mem) : Rz := k5 a0 l1 x3 (x4 + 1) M
set_option maxRecDepth 100000 in
set_option maxHeartbeats 4000000 in
theorem tH_write_44 {n : Nat} {k5 : Nat → Int64 → Int32 → Int32 → Mem → Rz} (F : FX p s m meth c G R M0 d "HeadCount" bH_write 6 (some .boolean)) (hC : CBs l G d C) (hk5 : ∀ (a0 : Nat) (l1 : Int64) (x3 : Int32) (x4 : Int32) (M : Mem) (H : Heap) (locs : List Loc) (cells slots : Nat) (ls : Array Slot), k5 a0 l1 x3 x4 M = some (r, M') → RL G M0 M H locs cells slots → lv_has ls 6 [(0, .ref a0), (1, .long l1), (3, .int x3), (4, .int x4)] → W p l e R s m args below meth c H locs cells slots (CQ G below s M0 r M') (F0 m 5 ls [])) : ∀ (a0 : Nat) (l1 : Int64) (x3 : Int32) (x4 : Int32) (M : Mem) (H : Heap) (locs : List Loc) (cells slots : Nat) (ls : Array Slot), fH_write_44 n d C k5 a0 l1 x3 x4 M = some (r, M') → RL G M0 M H locs cells slots → lv_has ls 6 [(0, .ref a0), (1, .long l1), (3, .int x3), (4, .int x4)] → W p l e R s m args below meth c H locs cells slots (CQ G below s M0 r M') (F0 m 44 ls []) := by
  obtain ⟨hx, hb, hml, hown, hrt, hlk, hex, hK, hRm⟩ := id F
  intro a0 l1 x3 x4 M H locs cells slots ls h hR hl
  unfold fH_write_44 at h
  refine lv_iinc (k := 3) (v := x4 + 1) (lv' := [(4, .int (x4 + 1)), (0, .ref a0), (1, .long l1), (3, .int x3)]) hx hb dH_write_44 hl rfl (by rw [show Int32.ofInt 1 = 1 from by decide]) (by decide) rfl (fun ls hl => ?_)
  refine lv_goto (tgt := 5) hx hb dH_write_47 (by decide) ?_
  exact hk5 a0 l1 x3 (x4 + 1) _ _ _ _ _ _ h hR (lv_sub hl [1, 2, 3, 0] rfl)
def fH_write_66 (n d : Nat) (C : Cx) : Nat → Nat → Int64 → Int32 → Mem → Rz
  | 0, _, _, _, _ => none
  | w + 1, a0, l1, x4, M => if 8 ≤ x4 then (if fits .boolean (.int 1) = true then (some (.inl (some (.int 1)), M)) else none) else (rzC (C 6 [.long l1, .int x4] M) fun v_3 M_4 => (rzI v_3 fun x_7 => (if mK M_4 a0 = 1 then (rzC (C 7 [.ref a0, .int x_7] M_4) fun v_9 M_10 => (rzV v_9 (fH_write_66 n d C w a0 l1 (x4 + 1) M_10))) else none)))
set_option maxRecDepth 100000 in
set_option maxHeartbeats 4000000 in
theorem tH_write_66 {n : Nat} (F : FX p s m meth c G R M0 d "HeadCount" bH_write 6 (some .boolean)) (hC : CBs l G d C) : ∀ (w : Nat) (a0 : Nat) (l1 : Int64) (x4 : Int32) (M : Mem) (H : Heap) (locs : List Loc) (cells slots : Nat) (ls : Array Slot), fH_write_66 n d C w a0 l1 x4 M = some (r, M') → RL G M0 M H locs cells slots → lv_has ls 6 [(0, .ref a0), (1, .long l1), (4, .int x4)] → W p l e R s m args below meth c H locs cells slots (CQ G below s M0 r M') (F0 m 66 ls []) := by
  obtain ⟨hx, hb, hml, hown, hrt, hlk, hex, hK, hRm⟩ := id F
  intro w
  induction w with
  | zero => intro a0 l1 x4 M H locs cells slots ls h; cases h
  | succ w ih =>
    intro a0 l1 x4 M H locs cells slots ls h hR hl
    rw [fH_write_66] at h
    refine lv_iload hx hb dH_write_66 (lv_at hl 2 rfl) ?_
    refine lv_bipush (v := 8) hx hb dH_write_68 (by decide) ?_
    refine lv_icmp_ge (tgt := 89) hx hb dH_write_70 (by decide) (fun c_1 => ?_) (fun c_1 => ?_)
    · replace h := rz_t c_1 h
      refine lv_iconst (v := 1) hx hb dH_write_89 (by decide) ?_
      obtain ⟨c_2, h⟩ := rz_chk h
      cases h
      exact rt_i hx hb hlk hrt (Or.inr (Or.inr rfl)) c_2 hR dH_write_90
    · replace h := rz_f c_1 h
      refine lv_aload_n hx hb dH_write_73 rfl (lv_at hl 0 rfl) ?_
      refine lv_lload_n hx hb dH_write_74 rfl (lv_at hl 1 rfl) ?_
      refine lv_iload hx hb dH_write_75 (lv_at hl 2 rfl) ?_
      obtain ⟨q_6, M_4, h_5, h⟩ := rz_c h
      refine rc_S (rest := [.ref a0]) (As := [.long l1, .int x4]) hx hb (hl.1.trans hml.symm) hown hK hR hRm mfH_byteAt kl_H_39 rfl (by simp [cat_rf, cat_i, cat_a, cat_l, cat_n]) (hC 6 _ _ _ _ h_5) dH_write_77 (fun v1 H locs cells slots ev hR => ?_) (fun x1 q1 ce1 H locs cells slots ex hR g1 g2 g3 => ?_)
      · rcases h with ⟨v_3, ev2, h⟩ | ⟨e2, ee2, -⟩
        · cases ev.symm.trans ev2
          replace h := rz_i h
          obtain ⟨x_7, rfl, h⟩ := h
          dsimp only [Option.toList, List.cons_append, List.nil_append]
          obtain ⟨c_8, h⟩ := rz_chk h
          obtain ⟨q_12, M_10, h_11, h⟩ := rz_c h
          refine rc_V (rest := []) (As := [.int x_7]) hx hb (hl.1.trans hml.symm) hown hK hR hRm mfH_append kl_H_43 hk_H rfl rfl c_8 (by simp [cat_rf, cat_i, cat_a, cat_l, cat_n]) (hC 7 _ _ _ _ h_11) dH_write_80 (fun v1 H locs cells slots ev hR => ?_) (fun x1 q1 ce1 H locs cells slots ex hR g1 g2 g3 => ?_)
          · rcases h with ⟨v_9, ev2, h⟩ | ⟨e2, ee2, -⟩
            · cases ev.symm.trans ev2
              replace h := rz_v h
              obtain ⟨rfl, h⟩ := h
              dsimp only [Option.toList, List.cons_append, List.nil_append]
              refine lv_iinc (k := 2) (v := x4 + 1) (lv' := [(4, .int (x4 + 1)), (0, .ref a0), (1, .long l1)]) hx hb dH_write_83 hl rfl (by rw [show Int32.ofInt 1 = 1 from by decide]) (by decide) rfl (fun ls hl => ?_)
              refine lv_goto (tgt := 66) hx hb dH_write_86 (by decide) ?_
              exact ih a0 l1 (x4 + 1) _ _ _ _ _ _ h hR (lv_sub hl [1, 2, 0] rfl)
            · cases ev.symm.trans ee2
          · rcases h with ⟨v2, ev2, -⟩ | ⟨e2, ee2, h⟩
            · cases ex.symm.trans ev2
            · cases ex.symm.trans ee2
              cases h
              exact rt_x hlk hex hR g1 g2 g3
        · cases ev.symm.trans ee2
      · rcases h with ⟨v2, ev2, -⟩ | ⟨e2, ee2, h⟩
        · cases ex.symm.trans ev2
        · cases ex.symm.trans ee2
          cases h
          exact rt_x hlk hex hR g1 g2 g3
def fH_write_5 (n d : Nat) (C : Cx) : Nat → Nat → Int64 → Int32 → Int32 → Mem → Rz
  | 0, _, _, _, _, _ => none
  | w + 1, a0, l1, x3, x4, M => if 8 ≤ x4 then (if mK M a0 = 1 then (if ((mI M a0 1) + x3) ≤ 120 then (fH_write_66 n d C n a0 l1 0 M) else (if fits .boolean (.int 0) = true then (some (.inl (some (.int 0)), M)) else none)) else none) else (rzC (C 6 [.long l1, .int x4] M) fun v_5 M_6 => (rzI v_5 fun x_9 => (if x_9 = 0 then (fH_write_44 n d C (fH_write_5 n d C w) a0 l1 x3 x4 M_6) else (if x_9 < 32 then (fH_write_39 n d C M_6) else (if x_9 ≤ 126 then (fH_write_44 n d C (fH_write_5 n d C w) a0 l1 (x3 + 1) x4 M_6) else (fH_write_39 n d C M_6))))))
set_option maxRecDepth 100000 in
set_option maxHeartbeats 4000000 in
theorem tH_write_5 {n : Nat} (F : FX p s m meth c G R M0 d "HeadCount" bH_write 6 (some .boolean)) (hC : CBs l G d C) : ∀ (w : Nat) (a0 : Nat) (l1 : Int64) (x3 : Int32) (x4 : Int32) (M : Mem) (H : Heap) (locs : List Loc) (cells slots : Nat) (ls : Array Slot), fH_write_5 n d C w a0 l1 x3 x4 M = some (r, M') → RL G M0 M H locs cells slots → lv_has ls 6 [(0, .ref a0), (1, .long l1), (3, .int x3), (4, .int x4)] → W p l e R s m args below meth c H locs cells slots (CQ G below s M0 r M') (F0 m 5 ls []) := by
  obtain ⟨hx, hb, hml, hown, hrt, hlk, hex, hK, hRm⟩ := id F
  intro w
  induction w with
  | zero => intro a0 l1 x3 x4 M H locs cells slots ls h; cases h
  | succ w ih =>
    intro a0 l1 x3 x4 M H locs cells slots ls h hR hl
    rw [fH_write_5] at h
    refine lv_iload hx hb dH_write_5 (lv_at hl 3 rfl) ?_
    refine lv_bipush (v := 8) hx hb dH_write_7 (by decide) ?_
    refine lv_icmp_ge (tgt := 50) hx hb dH_write_9 (by decide) (fun c_1 => ?_) (fun c_1 => ?_)
    · replace h := rz_t c_1 h
      refine lv_aload_n hx hb dH_write_50 rfl (lv_at hl 0 rfl) ?_
      obtain ⟨c_2, h⟩ := rz_chk h
      refine rg_getI hx hb hown hK hR hk_H 1 (by decide) kf_H_13 rfl c_2 dH_write_51 ?_
      refine lv_iload_n hx hb dH_write_54 rfl (lv_at hl 2 rfl) ?_
      refine lv_iadd hx hb dH_write_55 ?_
      refine lv_bipush (v := 120) hx hb dH_write_56 (by decide) ?_
      refine lv_icmp_le (tgt := 63) hx hb dH_write_58 (by decide) (fun c_3 => ?_) (fun c_3 => ?_)
      · replace h := rz_t c_3 h
        refine lv_iconst (v := 0) hx hb dH_write_63 (by decide) ?_
        refine lv_istore (lv' := [(4, .int 0), (0, .ref a0), (1, .long l1), (3, .int x3)]) hx hb dH_write_64 hl (by decide) rfl (fun ls hl => ?_)
        exact tH_write_66 F hC n a0 l1 0 _ _ _ _ _ _ h hR (lv_sub hl [1, 2, 0] rfl)
      · replace h := rz_f c_3 h
        refine lv_iconst (v := 0) hx hb dH_write_61 (by decide) ?_
        obtain ⟨c_4, h⟩ := rz_chk h
        cases h
        exact rt_i hx hb hlk hrt (Or.inr (Or.inr rfl)) c_4 hR dH_write_62
    · replace h := rz_f c_1 h
      refine lv_lload_n hx hb dH_write_12 rfl (lv_at hl 1 rfl) ?_
      refine lv_iload hx hb dH_write_13 (lv_at hl 3 rfl) ?_
      obtain ⟨q_8, M_6, h_7, h⟩ := rz_c h
      refine rc_S (rest := []) (As := [.long l1, .int x4]) hx hb (hl.1.trans hml.symm) hown hK hR hRm mfH_byteAt kl_H_39 rfl (by simp [cat_rf, cat_i, cat_a, cat_l, cat_n]) (hC 6 _ _ _ _ h_7) dH_write_15 (fun v1 H locs cells slots ev hR => ?_) (fun x1 q1 ce1 H locs cells slots ex hR g1 g2 g3 => ?_)
      · rcases h with ⟨v_5, ev2, h⟩ | ⟨e2, ee2, -⟩
        · cases ev.symm.trans ev2
          replace h := rz_i h
          obtain ⟨x_9, rfl, h⟩ := h
          dsimp only [Option.toList, List.cons_append, List.nil_append]
          refine lv_istore (lv' := [(5, .int x_9), (0, .ref a0), (1, .long l1), (3, .int x3), (4, .int x4)]) hx hb dH_write_18 hl (by decide) rfl (fun ls hl => ?_)
          refine lv_iload hx hb dH_write_20 (lv_at hl 0 rfl) ?_
          refine lv_if_eq (tgt := 44) hx hb dH_write_22 (by decide) (fun c_10 => ?_) (fun c_10 => ?_)
          · replace h := rz_t c_10 h
            exact tH_write_44 F hC ih a0 l1 x3 x4 _ _ _ _ _ _ h hR (lv_sub hl [1, 2, 3, 4] rfl)
          · replace h := rz_f c_10 h
            refine lv_iload hx hb dH_write_25 (lv_at hl 0 rfl) ?_
            refine lv_bipush (v := 32) hx hb dH_write_27 (by decide) ?_
            refine lv_icmp_lt (tgt := 39) hx hb dH_write_29 (by decide) (fun c_11 => ?_) (fun c_11 => ?_)
            · replace h := rz_t c_11 h
              exact tH_write_39 F hC _ _ _ _ _ _ h hR (lv_sub hl [] rfl)
            · replace h := rz_f c_11 h
              refine lv_iload hx hb dH_write_32 (lv_at hl 0 rfl) ?_
              refine lv_bipush (v := 126) hx hb dH_write_34 (by decide) ?_
              refine lv_icmp_le (tgt := 41) hx hb dH_write_36 (by decide) (fun c_12 => ?_) (fun c_12 => ?_)
              · replace h := rz_t c_12 h
                refine lv_iinc (k := 3) (v := x3 + 1) (lv' := [(3, .int (x3 + 1)), (5, .int x_9), (0, .ref a0), (1, .long l1), (4, .int x4)]) hx hb dH_write_41 hl rfl (by rw [show Int32.ofInt 1 = 1 from by decide]) (by decide) rfl (fun ls hl => ?_)
                exact tH_write_44 F hC ih a0 l1 (x3 + 1) x4 _ _ _ _ _ _ h hR (lv_sub hl [2, 3, 0, 4] rfl)
              · replace h := rz_f c_12 h
                exact tH_write_39 F hC _ _ _ _ _ _ h hR (lv_sub hl [] rfl)
        · cases ev.symm.trans ee2
      · rcases h with ⟨v2, ev2, -⟩ | ⟨e2, ee2, h⟩
        · cases ex.symm.trans ev2
        · cases ex.symm.trans ee2
          cases h
          exact rt_x hlk hex hR g1 g2 g3
def fH_write_0 (n d : Nat) (C : Cx) (a0 : Nat) (l1 : Int64) (M : Mem) : Rz := fH_write_5 n d C n a0 l1 0 0 M
set_option maxRecDepth 100000 in
set_option maxHeartbeats 4000000 in
theorem tH_write_0 {n : Nat} (F : FX p s m meth c G R M0 d "HeadCount" bH_write 6 (some .boolean)) (hC : CBs l G d C) : ∀ (a0 : Nat) (l1 : Int64) (M : Mem) (H : Heap) (locs : List Loc) (cells slots : Nat) (ls : Array Slot), fH_write_0 n d C a0 l1 M = some (r, M') → RL G M0 M H locs cells slots → lv_has ls 6 [(0, .ref a0), (1, .long l1)] → W p l e R s m args below meth c H locs cells slots (CQ G below s M0 r M') (F0 m 0 ls []) := by
  obtain ⟨hx, hb, hml, hown, hrt, hlk, hex, hK, hRm⟩ := id F
  intro a0 l1 M H locs cells slots ls h hR hl
  unfold fH_write_0 at h
  refine lv_iconst (v := 0) hx hb dH_write_0 (by decide) ?_
  refine lv_istore_n (lv' := [(3, .int 0), (0, .ref a0), (1, .long l1)]) hx hb dH_write_1 rfl hl (by decide) rfl (fun ls hl => ?_)
  refine lv_iconst (v := 0) hx hb dH_write_2 (by decide) ?_
  refine lv_istore (lv' := [(4, .int 0), (3, .int 0), (0, .ref a0), (1, .long l1)]) hx hb dH_write_3 hl (by decide) rfl (fun ls hl => ?_)
  exact tH_write_5 F hC n a0 l1 0 0 _ _ _ _ _ _ h hR (lv_sub hl [2, 3, 1, 0] rfl)
set_option maxRecDepth 100000 in
set_option maxHeartbeats 4000000 in
theorem sH_write {l : Launch} {G : Gx} {n d : Nat} {C : Cx} (hC : CBs l G d C) (a0 : Nat) (l1 : Int64) {M M' : Mem} {r : Option Value ⊕ Nat} (h : fH_write_0 n d C a0 l1 M = some (r, M')) : CB l G (d + 1) yH_write [.ref a0, .long l1] M r M' := by
  intro p e R s m below meth c hx hn hm hc hlk hK hR hcap hS hU hfr hlo hrc hrs
  obtain ⟨hb, hml, hrt, hex, hown⟩ := fx_of hn hm hc (hK.w mfH_write.2.2.1 rfl #[])
  have F : FX p s m meth c G R M d "HeadCount" bH_write 6 (some .boolean) := ⟨hx, hb, hml, hown, hrt, hlk, hex, hK, hfr, hlo, by rw [← hcap]; exact hrc, hrs⟩
  rw [hml]
  have hl := lv_entry ([.ref a0, .long l1]) (n := 6) (by simp [lg_sl, cat_rf, cat_i, cat_a, cat_l, cat_n])
  rw [lg_entry_eq]
  generalize (lg_sl ([.ref a0, .long l1]) ++ List.replicate (6 - (lg_sl ([.ref a0, .long l1])).length) Slot.unset).toArray = ls at hl ⊢
  have hl : lv_has ls 6 [(0, .ref a0), (1, .long l1)] := by simpa [lv_args, cat_rf, cat_i, cat_a, cat_l, cat_n] using hl
  exact tH_write_0 F hC a0 l1 _ _ _ _ _ _ h (RL.start hR hcap hS hU) (lv_sub hl [0, 1] rfl)
def fH_byteAt_0 (n d : Nat) (C : Cx) (l0 : Int64) (x2 : Int32) (M : Mem) : Rz := some (.inl (some (.int ((((l0.toUInt64 >>> ((8 * x2).toInt64.toUInt64 &&& Int64.toUInt64 63)).toInt64).toInt32) &&& 255))), M)
set_option maxRecDepth 100000 in
set_option maxHeartbeats 4000000 in
theorem tH_byteAt_0 {n : Nat} (F : FX p s m meth c G R M0 d "HeadCount" bH_byteAt 3 (some .int)) (hC : CBs l G d C) : ∀ (l0 : Int64) (x2 : Int32) (M : Mem) (H : Heap) (locs : List Loc) (cells slots : Nat) (ls : Array Slot), fH_byteAt_0 n d C l0 x2 M = some (r, M') → RL G M0 M H locs cells slots → lv_has ls 3 [(0, .long l0), (2, .int x2)] → W p l e R s m args below meth c H locs cells slots (CQ G below s M0 r M') (F0 m 0 ls []) := by
  obtain ⟨hx, hb, hml, hown, hrt, hlk, hex, hK, hRm⟩ := id F
  intro l0 x2 M H locs cells slots ls h hR hl
  unfold fH_byteAt_0 at h
  refine lv_lload_n hx hb dH_byteAt_0 rfl (lv_at hl 0 rfl) ?_
  refine lv_bipush (v := 8) hx hb dH_byteAt_1 (by decide) ?_
  refine lv_iload_n hx hb dH_byteAt_3 rfl (lv_at hl 1 rfl) ?_
  refine lv_imul hx hb dH_byteAt_4 ?_
  refine lv_lushr hx hb dH_byteAt_5 rfl ?_
  refine lv_l2i hx hb dH_byteAt_6 rfl ?_
  refine lv_sipush (v := 255) hx hb dH_byteAt_7 (by decide) ?_
  refine lv_iand hx hb dH_byteAt_10 ?_
  cases h
  exact rt_i hx hb hlk hrt (Or.inl rfl) rfl hR dH_byteAt_11
set_option maxRecDepth 100000 in
set_option maxHeartbeats 4000000 in
theorem sH_byteAt {l : Launch} {G : Gx} {n d : Nat} {C : Cx} (hC : CBs l G d C) (l0 : Int64) (x2 : Int32) {M M' : Mem} {r : Option Value ⊕ Nat} (h : fH_byteAt_0 n d C l0 x2 M = some (r, M')) : CB l G (d + 1) yH_byteAt [.long l0, .int x2] M r M' := by
  intro p e R s m below meth c hx hn hm hc hlk hK hR hcap hS hU hfr hlo hrc hrs
  obtain ⟨hb, hml, hrt, hex, hown⟩ := fx_of hn hm hc (hK.w mfH_byteAt.2.2.1 rfl #[])
  have F : FX p s m meth c G R M d "HeadCount" bH_byteAt 3 (some .int) := ⟨hx, hb, hml, hown, hrt, hlk, hex, hK, hfr, hlo, by rw [← hcap]; exact hrc, hrs⟩
  rw [hml]
  have hl := lv_entry ([.long l0, .int x2]) (n := 3) (by simp [lg_sl, cat_rf, cat_i, cat_a, cat_l, cat_n])
  rw [lg_entry_eq]
  generalize (lg_sl ([.long l0, .int x2]) ++ List.replicate (3 - (lg_sl ([.long l0, .int x2])).length) Slot.unset).toArray = ls at hl ⊢
  have hl : lv_has ls 3 [(0, .long l0), (2, .int x2)] := by simpa [lv_args, cat_rf, cat_i, cat_a, cat_l, cat_n] using hl
  exact tH_byteAt_0 F hC l0 x2 _ _ _ _ _ _ h (RL.start hR hcap hS hU) (lv_sub hl [0, 1] rfl)
def fH_append_34 (n d : Nat) (C : Cx) (M : Mem) : Rz := some (.inl none, M)
set_option maxRecDepth 100000 in
set_option maxHeartbeats 4000000 in
theorem tH_append_34 {n : Nat} (F : FX p s m meth c G R M0 d "HeadCount" bH_append 2 none) (hC : CBs l G d C) : ∀ (M : Mem) (H : Heap) (locs : List Loc) (cells slots : Nat) (ls : Array Slot), fH_append_34 n d C M = some (r, M') → RL G M0 M H locs cells slots → lv_has ls 2 [] → W p l e R s m args below meth c H locs cells slots (CQ G below s M0 r M') (F0 m 34 ls []) := by
  obtain ⟨hx, hb, hml, hown, hrt, hlk, hex, hK, hRm⟩ := id F
  intro M H locs cells slots ls h hR hl
  unfold fH_append_34 at h
  cases h
  exact rt_v hx hb hlk hrt hR dH_append_34
def fH_append_0 (n d : Nat) (C : Cx) (a0 : Nat) (x1 : Int32) (M : Mem) : Rz := if x1 = 0 then (fH_append_34 n d C M) else (if mK M a0 = 1 then (if 120 ≤ (mI M a0 1) then (fH_append_34 n d C M) else (rzD (mP M a0 0) fun a_4 => (if mK M a_4 = 22 then (if inA (mI M a0 1) (mL M a_4) then (if fits .char (.int ((x1.toUInt32 % 65536).toInt32)) = true then (rzM (setI M a_4 (mI M a0 1).toNatClampNeg ((x1.toUInt32 % 65536).toInt32)) fun M_9 => (rzM (setI M_9 a0 1 ((mI M_9 a0 1) + 1)) fun M_13 => (fH_append_34 n d C M_13))) else none) else none) else none))) else none)
set_option maxRecDepth 100000 in
set_option maxHeartbeats 4000000 in
theorem tH_append_0 {n : Nat} (F : FX p s m meth c G R M0 d "HeadCount" bH_append 2 none) (hC : CBs l G d C) : ∀ (a0 : Nat) (x1 : Int32) (M : Mem) (H : Heap) (locs : List Loc) (cells slots : Nat) (ls : Array Slot), fH_append_0 n d C a0 x1 M = some (r, M') → RL G M0 M H locs cells slots → lv_has ls 2 [(0, .ref a0), (1, .int x1)] → W p l e R s m args below meth c H locs cells slots (CQ G below s M0 r M') (F0 m 0 ls []) := by
  obtain ⟨hx, hb, hml, hown, hrt, hlk, hex, hK, hRm⟩ := id F
  intro a0 x1 M H locs cells slots ls h hR hl
  unfold fH_append_0 at h
  refine lv_iload_n hx hb dH_append_0 rfl (lv_at hl 1 rfl) ?_
  refine lv_if_eq (tgt := 34) hx hb dH_append_1 (by decide) (fun c_1 => ?_) (fun c_1 => ?_)
  · replace h := rz_t c_1 h
    exact tH_append_34 F hC _ _ _ _ _ _ h hR (lv_sub hl [] rfl)
  · replace h := rz_f c_1 h
    refine lv_aload_n hx hb dH_append_4 rfl (lv_at hl 0 rfl) ?_
    obtain ⟨c_2, h⟩ := rz_chk h
    refine rg_getI hx hb hown hK hR hk_H 1 (by decide) kf_H_13 rfl c_2 dH_append_5 ?_
    refine lv_bipush (v := 120) hx hb dH_append_8 (by decide) ?_
    refine lv_icmp_ge (tgt := 34) hx hb dH_append_10 (by decide) (fun c_3 => ?_) (fun c_3 => ?_)
    · replace h := rz_t c_3 h
      exact tH_append_34 F hC _ _ _ _ _ _ h hR (lv_sub hl [] rfl)
    · replace h := rz_f c_3 h
      refine lv_aload_n hx hb dH_append_13 rfl (lv_at hl 0 rfl) ?_
      refine rg_getP hx hb hown hK hR hk_H 0 (by decide) kf_H_9 rfl c_2 dH_append_14 ?_
      refine lv_aload_n hx hb dH_append_17 rfl (lv_at hl 0 rfl) ?_
      refine rg_getI hx hb hown hK hR hk_H 1 (by decide) kf_H_13 rfl c_2 dH_append_18 ?_
      refine lv_iload_n hx hb dH_append_21 rfl (lv_at hl 1 rfl) ?_
      refine lv_i2c hx hb dH_append_22 rfl ?_
      obtain ⟨a_4, e_5, h⟩ := rz_d h
      rw [e_5]
      obtain ⟨c_6, h⟩ := rz_chk h
      obtain ⟨c_7, h⟩ := rz_chk h
      obtain ⟨c_8, h⟩ := rz_chk h
      obtain ⟨M_9, q_10, h⟩ := rz_m h
      refine rg_cast hx hb hK hR c_6 c_7 c_8 dH_append_23 (fun H locs hR => ?_)
      rw [← q_10] at hR
      have c_11 : mK M_9 a0 = 1 := by rw [q_10]; exact c_2
      have c_12 : mK M_9 a_4 = 22 := by rw [q_10]; exact c_6
      refine lv_aload_n hx hb dH_append_24 rfl (lv_at hl 0 rfl) ?_
      refine lv_dup hx hb dH_append_25 rfl ?_
      refine rg_getI hx hb hown hK hR hk_H 1 (by decide) kf_H_13 rfl c_11 dH_append_26 ?_
      refine lv_iconst (v := 1) hx hb dH_append_29 (by decide) ?_
      refine lv_iadd hx hb dH_append_30 ?_
      obtain ⟨M_13, q_14, h⟩ := rz_m h
      refine rg_putI hx hb hown hK hR hk_H 1 (by decide) kf_H_13 rfl rfl (ty := .int) (by decide +kernel) (Or.inl rfl) rfl c_11 dH_append_31 (fun H locs hR => ?_)
      rw [← q_14] at hR
      have c_15 : mK M_13 a0 = 1 := by rw [q_14]; exact c_11
      have c_16 : mK M_13 a_4 = 22 := by rw [q_14]; exact c_12
      exact tH_append_34 F hC _ _ _ _ _ _ h hR (lv_sub hl [] rfl)
set_option maxRecDepth 100000 in
set_option maxHeartbeats 4000000 in
theorem sH_append {l : Launch} {G : Gx} {n d : Nat} {C : Cx} (hC : CBs l G d C) (a0 : Nat) (x1 : Int32) {M M' : Mem} {r : Option Value ⊕ Nat} (h : fH_append_0 n d C a0 x1 M = some (r, M')) : CB l G (d + 1) yH_append [.ref a0, .int x1] M r M' := by
  intro p e R s m below meth c hx hn hm hc hlk hK hR hcap hS hU hfr hlo hrc hrs
  obtain ⟨hb, hml, hrt, hex, hown⟩ := fx_of hn hm hc (hK.w mfH_append.2.2.1 rfl #[])
  have F : FX p s m meth c G R M d "HeadCount" bH_append 2 none := ⟨hx, hb, hml, hown, hrt, hlk, hex, hK, hfr, hlo, by rw [← hcap]; exact hrc, hrs⟩
  rw [hml]
  have hl := lv_entry ([.ref a0, .int x1]) (n := 2) (by simp [lg_sl, cat_rf, cat_i, cat_a, cat_l, cat_n])
  rw [lg_entry_eq]
  generalize (lg_sl ([.ref a0, .int x1]) ++ List.replicate (2 - (lg_sl ([.ref a0, .int x1])).length) Slot.unset).toArray = ls at hl ⊢
  have hl : lv_has ls 2 [(0, .ref a0), (1, .int x1)] := by simpa [lv_args, cat_rf, cat_i, cat_a, cat_l, cat_n] using hl
  exact tH_append_0 F hC a0 x1 _ _ _ _ _ _ h (RL.start hR hcap hS hU) (lv_sub hl [0, 1] rfl)
def fH_wipe_0 (n d : Nat) (C : Cx) (a0 : Nat) (M : Mem) : Rz := if mK M a0 = 1 then (rzM (setI M a0 1 0) fun M_2 => (some (.inl (some (.int (mI M a0 1))), M_2))) else none
set_option maxRecDepth 100000 in
set_option maxHeartbeats 4000000 in
theorem tH_wipe_0 {n : Nat} (F : FX p s m meth c G R M0 d "HeadCount" bH_wipe 2 (some .int)) (hC : CBs l G d C) : ∀ (a0 : Nat) (M : Mem) (H : Heap) (locs : List Loc) (cells slots : Nat) (ls : Array Slot), fH_wipe_0 n d C a0 M = some (r, M') → RL G M0 M H locs cells slots → lv_has ls 2 [(0, .ref a0)] → W p l e R s m args below meth c H locs cells slots (CQ G below s M0 r M') (F0 m 0 ls []) := by
  obtain ⟨hx, hb, hml, hown, hrt, hlk, hex, hK, hRm⟩ := id F
  intro a0 M H locs cells slots ls h hR hl
  unfold fH_wipe_0 at h
  refine lv_aload_n hx hb dH_wipe_0 rfl (lv_at hl 0 rfl) ?_
  obtain ⟨c_1, h⟩ := rz_chk h
  refine rg_getI hx hb hown hK hR hk_H 1 (by decide) kf_H_13 rfl c_1 dH_wipe_1 ?_
  refine lv_istore_n (lv' := [(1, .int (mI M a0 1)), (0, .ref a0)]) hx hb dH_wipe_4 rfl hl (by decide) rfl (fun ls hl => ?_)
  refine lv_aload_n hx hb dH_wipe_5 rfl (lv_at hl 1 rfl) ?_
  refine lv_iconst (v := 0) hx hb dH_wipe_6 (by decide) ?_
  obtain ⟨M_2, q_3, h⟩ := rz_m h
  refine rg_putI hx hb hown hK hR hk_H 1 (by decide) kf_H_13 rfl rfl (ty := .int) (by decide +kernel) (Or.inl rfl) rfl c_1 dH_wipe_7 (fun H locs hR => ?_)
  rw [← q_3] at hR
  have c_4 : mK M_2 a0 = 1 := by rw [q_3]; exact c_1
  refine lv_iload_n hx hb dH_wipe_10 rfl (lv_at hl 0 rfl) ?_
  cases h
  exact rt_i hx hb hlk hrt (Or.inl rfl) rfl hR dH_wipe_11
set_option maxRecDepth 100000 in
set_option maxHeartbeats 4000000 in
theorem sH_wipe {l : Launch} {G : Gx} {n d : Nat} {C : Cx} (hC : CBs l G d C) (a0 : Nat) {M M' : Mem} {r : Option Value ⊕ Nat} (h : fH_wipe_0 n d C a0 M = some (r, M')) : CB l G (d + 1) yH_wipe [.ref a0] M r M' := by
  intro p e R s m below meth c hx hn hm hc hlk hK hR hcap hS hU hfr hlo hrc hrs
  obtain ⟨hb, hml, hrt, hex, hown⟩ := fx_of hn hm hc (hK.w mfH_wipe.2.2.1 rfl #[])
  have F : FX p s m meth c G R M d "HeadCount" bH_wipe 2 (some .int) := ⟨hx, hb, hml, hown, hrt, hlk, hex, hK, hfr, hlo, by rw [← hcap]; exact hrc, hrs⟩
  rw [hml]
  have hl := lv_entry ([.ref a0]) (n := 2) (by simp [lg_sl, cat_rf, cat_i, cat_a, cat_l, cat_n])
  rw [lg_entry_eq]
  generalize (lg_sl ([.ref a0]) ++ List.replicate (2 - (lg_sl ([.ref a0])).length) Slot.unset).toArray = ls at hl ⊢
  have hl : lv_has ls 2 [(0, .ref a0)] := by simpa [lv_args, cat_rf, cat_i, cat_a, cat_l, cat_n] using hl
  exact tH_wipe_0 F hC a0 _ _ _ _ _ _ h (RL.start hR hcap hS hU) (lv_sub hl [0] rfl)
def fH_length_0 (n d : Nat) (C : Cx) (a0 : Nat) (M : Mem) : Rz := if mK M a0 = 1 then (some (.inl (some (.int (mI M a0 1))), M)) else none
set_option maxRecDepth 100000 in
set_option maxHeartbeats 4000000 in
theorem tH_length_0 {n : Nat} (F : FX p s m meth c G R M0 d "HeadCount" bH_length 1 (some .int)) (hC : CBs l G d C) : ∀ (a0 : Nat) (M : Mem) (H : Heap) (locs : List Loc) (cells slots : Nat) (ls : Array Slot), fH_length_0 n d C a0 M = some (r, M') → RL G M0 M H locs cells slots → lv_has ls 1 [(0, .ref a0)] → W p l e R s m args below meth c H locs cells slots (CQ G below s M0 r M') (F0 m 0 ls []) := by
  obtain ⟨hx, hb, hml, hown, hrt, hlk, hex, hK, hRm⟩ := id F
  intro a0 M H locs cells slots ls h hR hl
  unfold fH_length_0 at h
  refine lv_aload_n hx hb dH_length_0 rfl (lv_at hl 0 rfl) ?_
  obtain ⟨c_1, h⟩ := rz_chk h
  refine rg_getI hx hb hown hK hR hk_H 1 (by decide) kf_H_13 rfl c_1 dH_length_1 ?_
  cases h
  exact rt_i hx hb hlk hrt (Or.inl rfl) rfl hR dH_length_4
set_option maxRecDepth 100000 in
set_option maxHeartbeats 4000000 in
theorem sH_length {l : Launch} {G : Gx} {n d : Nat} {C : Cx} (hC : CBs l G d C) (a0 : Nat) {M M' : Mem} {r : Option Value ⊕ Nat} (h : fH_length_0 n d C a0 M = some (r, M')) : CB l G (d + 1) yH_length [.ref a0] M r M' := by
  intro p e R s m below meth c hx hn hm hc hlk hK hR hcap hS hU hfr hlo hrc hrs
  obtain ⟨hb, hml, hrt, hex, hown⟩ := fx_of hn hm hc (hK.w mfH_length.2.2.1 rfl #[])
  have F : FX p s m meth c G R M d "HeadCount" bH_length 1 (some .int) := ⟨hx, hb, hml, hown, hrt, hlk, hex, hK, hfr, hlo, by rw [← hcap]; exact hrc, hrs⟩
  rw [hml]
  have hl := lv_entry ([.ref a0]) (n := 1) (by simp [lg_sl, cat_rf, cat_i, cat_a, cat_l, cat_n])
  rw [lg_entry_eq]
  generalize (lg_sl ([.ref a0]) ++ List.replicate (1 - (lg_sl ([.ref a0])).length) Slot.unset).toArray = ls at hl ⊢
  have hl : lv_has ls 1 [(0, .ref a0)] := by simpa [lv_args, cat_rf, cat_i, cat_a, cat_l, cat_n] using hl
  exact tH_length_0 F hC a0 _ _ _ _ _ _ h (RL.start hR hcap hS hU) (lv_sub hl [0] rfl)
def fH_read_26 (n d : Nat) (C : Cx) : Nat → Nat → Int32 → Mem → Rz
  | 0, _, _, _ => none
  | w + 1, a0, x1, M => if 4 < x1 then (if mK M a0 = 1 then (rzD (mP M a0 2) fun a_3 => (if mK M a_3 = 2 then (some (.inl (some (.int (mI M a_3 3))), M)) else none)) else none) else (if mK M a0 = 1 then (rzD (mP M a0 5) fun a_7 => (if mK M a_7 = 21 then (if inA x1 (mL M a_7) then (rzM (setI M a_7 x1.toNatClampNeg ((-1))) fun M_11 => (fH_read_26 n d C w a0 (x1 + 1) M_11)) else none) else none)) else none)
set_option maxRecDepth 100000 in
set_option maxHeartbeats 4000000 in
theorem tH_read_26 {n : Nat} (F : FX p s m meth c G R M0 d "HeadCount" bH_read 2 (some .int)) (hC : CBs l G d C) : ∀ (w : Nat) (a0 : Nat) (x1 : Int32) (M : Mem) (H : Heap) (locs : List Loc) (cells slots : Nat) (ls : Array Slot), fH_read_26 n d C w a0 x1 M = some (r, M') → RL G M0 M H locs cells slots → lv_has ls 2 [(0, .ref a0), (1, .int x1)] → W p l e R s m args below meth c H locs cells slots (CQ G below s M0 r M') (F0 m 26 ls []) := by
  obtain ⟨hx, hb, hml, hown, hrt, hlk, hex, hK, hRm⟩ := id F
  intro w
  induction w with
  | zero => intro a0 x1 M H locs cells slots ls h; cases h
  | succ w ih =>
    intro a0 x1 M H locs cells slots ls h hR hl
    rw [fH_read_26] at h
    refine lv_iload_n hx hb dH_read_26 rfl (lv_at hl 1 rfl) ?_
    refine lv_iconst (v := 4) hx hb dH_read_27 (by decide) ?_
    refine lv_icmp_gt (tgt := 44) hx hb dH_read_28 (by decide) (fun c_1 => ?_) (fun c_1 => ?_)
    · replace h := rz_t c_1 h
      refine lv_aload_n hx hb dH_read_44 rfl (lv_at hl 0 rfl) ?_
      obtain ⟨c_2, h⟩ := rz_chk h
      refine rg_getP hx hb hown hK hR hk_H 2 (by decide) kf_H_20 rfl c_2 dH_read_45 ?_
      obtain ⟨a_3, e_4, h⟩ := rz_d h
      rw [e_4]
      obtain ⟨c_5, h⟩ := rz_chk h
      refine rg_getI hx hb hown hK hR hk_P 3 (by decide) kf_H_51 rfl c_5 dH_read_48 ?_
      cases h
      exact rt_i hx hb hlk hrt (Or.inl rfl) rfl hR dH_read_51
    · replace h := rz_f c_1 h
      refine lv_aload_n hx hb dH_read_31 rfl (lv_at hl 0 rfl) ?_
      obtain ⟨c_6, h⟩ := rz_chk h
      refine rg_getP hx hb hown hK hR hk_H 5 (by decide) kf_H_35 rfl c_6 dH_read_32 ?_
      refine lv_iload_n hx hb dH_read_35 rfl (lv_at hl 1 rfl) ?_
      refine lv_iconst (v := (-1)) hx hb dH_read_36 (by decide) ?_
      obtain ⟨a_7, e_8, h⟩ := rz_d h
      rw [e_8]
      obtain ⟨c_9, h⟩ := rz_chk h
      obtain ⟨c_10, h⟩ := rz_chk h
      obtain ⟨M_11, q_12, h⟩ := rz_m h
      refine rg_iast hx hb hK hR c_9 c_10 dH_read_37 (fun H locs hR => ?_)
      rw [← q_12] at hR
      have c_13 : mK M_11 a0 = 1 := by rw [q_12]; exact c_6
      have c_14 : mK M_11 a_7 = 21 := by rw [q_12]; exact c_9
      refine lv_iinc (k := 1) (v := x1 + 1) (lv' := [(1, .int (x1 + 1)), (0, .ref a0)]) hx hb dH_read_38 hl rfl (by rw [show Int32.ofInt 1 = 1 from by decide]) (by decide) rfl (fun ls hl => ?_)
      refine lv_goto (tgt := 26) hx hb dH_read_41 (by decide) ?_
      exact ih a0 (x1 + 1) _ _ _ _ _ _ h hR (lv_sub hl [1, 0] rfl)
def fH_read_0 (n d : Nat) (C : Cx) (a0 : Nat) (M : Mem) : Rz := if mK M a0 = 1 then (rzD (mP M a0 2) fun a_2 => (if mK M a_2 = 2 then (rzC (C 11 [.ref a_2, va_rf (mP M a0 0), .int (mI M a0 1)] M) fun v_5 M_6 => (rzP v_5 fun r_9 => (if mK M_6 a0 = 1 then (rzM (setP M_6 a0 4 r_9) fun M_11 => (rzM (setI M_11 a0 1 0) fun M_14 => (fH_read_26 n d C n a0 0 M_14))) else none))) else none)) else none
set_option maxRecDepth 100000 in
set_option maxHeartbeats 4000000 in
theorem tH_read_0 {n : Nat} (F : FX p s m meth c G R M0 d "HeadCount" bH_read 2 (some .int)) (hC : CBs l G d C) : ∀ (a0 : Nat) (M : Mem) (H : Heap) (locs : List Loc) (cells slots : Nat) (ls : Array Slot), fH_read_0 n d C a0 M = some (r, M') → RL G M0 M H locs cells slots → lv_has ls 2 [(0, .ref a0)] → W p l e R s m args below meth c H locs cells slots (CQ G below s M0 r M') (F0 m 0 ls []) := by
  obtain ⟨hx, hb, hml, hown, hrt, hlk, hex, hK, hRm⟩ := id F
  intro a0 M H locs cells slots ls h hR hl
  unfold fH_read_0 at h
  refine lv_aload_n hx hb dH_read_0 rfl (lv_at hl 0 rfl) ?_
  refine lv_aload_n hx hb dH_read_1 rfl (lv_at hl 0 rfl) ?_
  obtain ⟨c_1, h⟩ := rz_chk h
  refine rg_getP hx hb hown hK hR hk_H 2 (by decide) kf_H_20 rfl c_1 dH_read_2 ?_
  refine lv_aload_n hx hb dH_read_5 rfl (lv_at hl 0 rfl) ?_
  refine rg_getP hx hb hown hK hR hk_H 0 (by decide) kf_H_9 rfl c_1 dH_read_6 ?_
  refine lv_aload_n hx hb dH_read_9 rfl (lv_at hl 0 rfl) ?_
  refine rg_getI hx hb hown hK hR hk_H 1 (by decide) kf_H_13 rfl c_1 dH_read_10 ?_
  obtain ⟨a_2, e_3, h⟩ := rz_d h
  rw [e_3]
  obtain ⟨c_4, h⟩ := rz_chk h
  obtain ⟨q_8, M_6, h_7, h⟩ := rz_c h
  refine rc_V (rest := [.ref a0]) (As := [va_rf (mP M a0 0), .int (mI M a0 1)]) hx hb (hl.1.trans hml.symm) hown hK hR hRm mfP_parse kl_H_47 hk_P rfl rfl c_4 (by simp [cat_rf, cat_i, cat_a, cat_l, cat_n]) (hC 11 _ _ _ _ h_7) dH_read_13 (fun v1 H locs cells slots ev hR => ?_) (fun x1 q1 ce1 H locs cells slots ex hR g1 g2 g3 => ?_)
  · rcases h with ⟨v_5, ev2, h⟩ | ⟨e2, ee2, -⟩
    · cases ev.symm.trans ev2
      replace h := rz_p h
      obtain ⟨r_9, rfl, h⟩ := h
      dsimp only [Option.toList, List.cons_append, List.nil_append]
      obtain ⟨c_10, h⟩ := rz_chk h
      obtain ⟨M_11, q_12, h⟩ := rz_m h
      refine rg_putP (r := r_9) hx hb hown hK hR hk_H 4 (by decide) kf_H_31 rfl rfl (ty := .object "HeadCount$Node") (by decide +kernel) (Or.inl ⟨_, rfl⟩) c_10 dH_read_16 (fun H locs hR => ?_)
      rw [← q_12] at hR
      have c_13 : mK M_11 a0 = 1 := by rw [q_12]; exact c_10
      refine lv_aload_n hx hb dH_read_19 rfl (lv_at hl 0 rfl) ?_
      refine lv_iconst (v := 0) hx hb dH_read_20 (by decide) ?_
      obtain ⟨M_14, q_15, h⟩ := rz_m h
      refine rg_putI hx hb hown hK hR hk_H 1 (by decide) kf_H_13 rfl rfl (ty := .int) (by decide +kernel) (Or.inl rfl) rfl c_13 dH_read_21 (fun H locs hR => ?_)
      rw [← q_15] at hR
      have c_16 : mK M_14 a0 = 1 := by rw [q_15]; exact c_13
      refine lv_iconst (v := 0) hx hb dH_read_24 (by decide) ?_
      refine lv_istore_n (lv' := [(1, .int 0), (0, .ref a0)]) hx hb dH_read_25 rfl hl (by decide) rfl (fun ls hl => ?_)
      exact tH_read_26 F hC n a0 0 _ _ _ _ _ _ h hR (lv_sub hl [1, 0] rfl)
    · cases ev.symm.trans ee2
  · rcases h with ⟨v2, ev2, -⟩ | ⟨e2, ee2, h⟩
    · cases ex.symm.trans ev2
    · cases ex.symm.trans ee2
      cases h
      exact rt_x hlk hex hR g1 g2 g3
set_option maxRecDepth 100000 in
set_option maxHeartbeats 4000000 in
theorem sH_read {l : Launch} {G : Gx} {n d : Nat} {C : Cx} (hC : CBs l G d C) (a0 : Nat) {M M' : Mem} {r : Option Value ⊕ Nat} (h : fH_read_0 n d C a0 M = some (r, M')) : CB l G (d + 1) yH_read [.ref a0] M r M' := by
  intro p e R s m below meth c hx hn hm hc hlk hK hR hcap hS hU hfr hlo hrc hrs
  obtain ⟨hb, hml, hrt, hex, hown⟩ := fx_of hn hm hc (hK.w mfH_read.2.2.1 rfl #[])
  have F : FX p s m meth c G R M d "HeadCount" bH_read 2 (some .int) := ⟨hx, hb, hml, hown, hrt, hlk, hex, hK, hfr, hlo, by rw [← hcap]; exact hrc, hrs⟩
  rw [hml]
  have hl := lv_entry ([.ref a0]) (n := 2) (by simp [lg_sl, cat_rf, cat_i, cat_a, cat_l, cat_n])
  rw [lg_entry_eq]
  generalize (lg_sl ([.ref a0]) ++ List.replicate (2 - (lg_sl ([.ref a0])).length) Slot.unset).toArray = ls at hl ⊢
  have hl : lv_has ls 2 [(0, .ref a0)] := by simpa [lv_args, cat_rf, cat_i, cat_a, cat_l, cat_n] using hl
  exact tH_read_0 F hC a0 _ _ _ _ _ _ h (RL.start hR hcap hS hU) (lv_sub hl [0] rfl)
def fH_holds_0 (n d : Nat) (C : Cx) (a0 : Nat) (x1 : Int32) (M : Mem) : Rz := if mK M a0 = 1 then (rzC (C 44 [.ref a0] M) fun v_2 M_3 => (rzV v_2 (rzC (C 45 [.int x1] M_3) fun v_6 M_7 => (rzV v_6 (if mK M_7 a0 = 1 then (rzC (C 46 [.ref a0, .int x1] M_7) fun v_11 M_12 => (rzI v_11 fun x_15 => (if fits .boolean (.int x_15) = true then (some (.inl (some (.int x_15)), M_12)) else none))) else none))))) else none
set_option maxRecDepth 100000 in
set_option maxHeartbeats 4000000 in
theorem tH_holds_0 {n : Nat} (F : FX p s m meth c G R M0 d "HeadCount" bH_holds 2 (some .boolean)) (hC : CBs l G d C) : ∀ (a0 : Nat) (x1 : Int32) (M : Mem) (H : Heap) (locs : List Loc) (cells slots : Nat) (ls : Array Slot), fH_holds_0 n d C a0 x1 M = some (r, M') → RL G M0 M H locs cells slots → lv_has ls 2 [(0, .ref a0), (1, .int x1)] → W p l e R s m args below meth c H locs cells slots (CQ G below s M0 r M') (F0 m 0 ls []) := by
  obtain ⟨hx, hb, hml, hown, hrt, hlk, hex, hK, hRm⟩ := id F
  intro a0 x1 M H locs cells slots ls h hR hl
  unfold fH_holds_0 at h
  refine lv_aload_n hx hb dH_holds_0 rfl (lv_at hl 0 rfl) ?_
  obtain ⟨c_1, h⟩ := rz_chk h
  obtain ⟨q_5, M_3, h_4, h⟩ := rz_c h
  refine rc_V (rest := []) (As := []) hx hb (hl.1.trans hml.symm) hown hK hR hRm mfH_needSentence kl_H_54 hk_H rfl rfl c_1 (by simp [cat_rf, cat_i, cat_a, cat_l, cat_n]) (hC 44 _ _ _ _ h_4) dH_holds_1 (fun v1 H locs cells slots ev hR => ?_) (fun x1 q1 ce1 H locs cells slots ex hR g1 g2 g3 => ?_)
  · rcases h with ⟨v_2, ev2, h⟩ | ⟨e2, ee2, -⟩
    · cases ev.symm.trans ev2
      replace h := rz_v h
      obtain ⟨rfl, h⟩ := h
      dsimp only [Option.toList, List.cons_append, List.nil_append]
      refine lv_iload_n hx hb dH_holds_4 rfl (lv_at hl 1 rfl) ?_
      obtain ⟨q_9, M_7, h_8, h⟩ := rz_c h
      refine rc_S (rest := []) (As := [.int x1]) hx hb (hl.1.trans hml.symm) hown hK hR hRm mfH_needWorld kl_H_57 rfl (by simp [cat_rf, cat_i, cat_a, cat_l, cat_n]) (hC 45 _ _ _ _ h_8) dH_holds_5 (fun v1 H locs cells slots ev hR => ?_) (fun x1 q1 ce1 H locs cells slots ex hR g1 g2 g3 => ?_)
      · rcases h with ⟨v_6, ev2, h⟩ | ⟨e2, ee2, -⟩
        · cases ev.symm.trans ev2
          replace h := rz_v h
          obtain ⟨rfl, h⟩ := h
          dsimp only [Option.toList, List.cons_append, List.nil_append]
          refine lv_aload_n hx hb dH_holds_8 rfl (lv_at hl 0 rfl) ?_
          refine lv_iload_n hx hb dH_holds_9 rfl (lv_at hl 1 rfl) ?_
          obtain ⟨c_10, h⟩ := rz_chk h
          obtain ⟨q_14, M_12, h_13, h⟩ := rz_c h
          refine rc_V (rest := []) (As := [.int x1]) hx hb (hl.1.trans hml.symm) hown hK hR hRm mfH_isTrueIn kl_H_60 hk_H rfl rfl c_10 (by simp [cat_rf, cat_i, cat_a, cat_l, cat_n]) (hC 46 _ _ _ _ h_13) dH_holds_10 (fun v1 H locs cells slots ev hR => ?_) (fun x1 q1 ce1 H locs cells slots ex hR g1 g2 g3 => ?_)
          · rcases h with ⟨v_11, ev2, h⟩ | ⟨e2, ee2, -⟩
            · cases ev.symm.trans ev2
              replace h := rz_i h
              obtain ⟨x_15, rfl, h⟩ := h
              dsimp only [Option.toList, List.cons_append, List.nil_append]
              obtain ⟨c_16, h⟩ := rz_chk h
              cases h
              exact rt_i hx hb hlk hrt (Or.inr (Or.inr rfl)) c_16 hR dH_holds_13
            · cases ev.symm.trans ee2
          · rcases h with ⟨v2, ev2, -⟩ | ⟨e2, ee2, h⟩
            · cases ex.symm.trans ev2
            · cases ex.symm.trans ee2
              cases h
              exact rt_x hlk hex hR g1 g2 g3
        · cases ev.symm.trans ee2
      · rcases h with ⟨v2, ev2, -⟩ | ⟨e2, ee2, h⟩
        · cases ex.symm.trans ev2
        · cases ex.symm.trans ee2
          cases h
          exact rt_x hlk hex hR g1 g2 g3
    · cases ev.symm.trans ee2
  · rcases h with ⟨v2, ev2, -⟩ | ⟨e2, ee2, h⟩
    · cases ex.symm.trans ev2
    · cases ex.symm.trans ee2
      cases h
      exact rt_x hlk hex hR g1 g2 g3
set_option maxRecDepth 100000 in
set_option maxHeartbeats 4000000 in
theorem sH_holds {l : Launch} {G : Gx} {n d : Nat} {C : Cx} (hC : CBs l G d C) (a0 : Nat) (x1 : Int32) {M M' : Mem} {r : Option Value ⊕ Nat} (h : fH_holds_0 n d C a0 x1 M = some (r, M')) : CB l G (d + 1) yH_holds [.ref a0, .int x1] M r M' := by
  intro p e R s m below meth c hx hn hm hc hlk hK hR hcap hS hU hfr hlo hrc hrs
  obtain ⟨hb, hml, hrt, hex, hown⟩ := fx_of hn hm hc (hK.w mfH_holds.2.2.1 rfl #[])
  have F : FX p s m meth c G R M d "HeadCount" bH_holds 2 (some .boolean) := ⟨hx, hb, hml, hown, hrt, hlk, hex, hK, hfr, hlo, by rw [← hcap]; exact hrc, hrs⟩
  rw [hml]
  have hl := lv_entry ([.ref a0, .int x1]) (n := 2) (by simp [lg_sl, cat_rf, cat_i, cat_a, cat_l, cat_n])
  rw [lg_entry_eq]
  generalize (lg_sl ([.ref a0, .int x1]) ++ List.replicate (2 - (lg_sl ([.ref a0, .int x1])).length) Slot.unset).toArray = ls at hl ⊢
  have hl : lv_has ls 2 [(0, .ref a0), (1, .int x1)] := by simpa [lv_args, cat_rf, cat_i, cat_a, cat_l, cat_n] using hl
  exact tH_holds_0 F hC a0 x1 _ _ _ _ _ _ h (RL.start hR hcap hS hU) (lv_sub hl [0, 1] rfl)
def fH_isTrueIn_50 (n d : Nat) (C : Cx) (xs0 : Int32) (M : Mem) : Rz := if fits .boolean (.int xs0) = true then (some (.inl (some (.int xs0)), M)) else none
set_option maxRecDepth 100000 in
set_option maxHeartbeats 4000000 in
theorem tH_isTrueIn_50 {n : Nat} (F : FX p s m meth c G R M0 d "HeadCount" bH_isTrueIn 3 (some .boolean)) (hC : CBs l G d C) : ∀ (xs0 : Int32) (M : Mem) (H : Heap) (locs : List Loc) (cells slots : Nat) (ls : Array Slot), fH_isTrueIn_50 n d C xs0 M = some (r, M') → RL G M0 M H locs cells slots → lv_has ls 3 [] → W p l e R s m args below meth c H locs cells slots (CQ G below s M0 r M') (F0 m 50 ls [.int xs0]) := by
  obtain ⟨hx, hb, hml, hown, hrt, hlk, hex, hK, hRm⟩ := id F
  intro xs0 M H locs cells slots ls h hR hl
  unfold fH_isTrueIn_50 at h
  obtain ⟨c_1, h⟩ := rz_chk h
  cases h
  exact rt_i hx hb hlk hrt (Or.inr (Or.inr rfl)) c_1 hR dH_isTrueIn_50
def fH_isTrueIn_0 (n d : Nat) (C : Cx) (a0 : Nat) (x1 : Int32) (M : Mem) : Rz := if mK M a0 = 1 then (rzC (C 47 [.ref a0, .int x1] M) fun v_2 M_3 => (rzI v_2 fun x_6 => (if mK M_3 a0 = 1 then (rzD (mP M_3 a0 4) fun a_8 => (if mK M_3 a_8 = 4 then (if (mI M_3 a_8 0) = 65 then (rzC (C 54 [.int (mI M_3 a_8 2), .int x1] M_3) fun v_13 M_14 => (rzI v_13 fun x_17 => (if x_6 = x_17 then (fH_isTrueIn_50 n d C 1 M_14) else (fH_isTrueIn_50 n d C 0 M_14)))) else (if x_6 ≤ 0 then (fH_isTrueIn_50 n d C 0 M_3) else (fH_isTrueIn_50 n d C 1 M_3))) else none)) else none))) else none
set_option maxRecDepth 100000 in
set_option maxHeartbeats 4000000 in
theorem tH_isTrueIn_0 {n : Nat} (F : FX p s m meth c G R M0 d "HeadCount" bH_isTrueIn 3 (some .boolean)) (hC : CBs l G d C) : ∀ (a0 : Nat) (x1 : Int32) (M : Mem) (H : Heap) (locs : List Loc) (cells slots : Nat) (ls : Array Slot), fH_isTrueIn_0 n d C a0 x1 M = some (r, M') → RL G M0 M H locs cells slots → lv_has ls 3 [(0, .ref a0), (1, .int x1)] → W p l e R s m args below meth c H locs cells slots (CQ G below s M0 r M') (F0 m 0 ls []) := by
  obtain ⟨hx, hb, hml, hown, hrt, hlk, hex, hK, hRm⟩ := id F
  intro a0 x1 M H locs cells slots ls h hR hl
  unfold fH_isTrueIn_0 at h
  refine lv_aload_n hx hb dH_isTrueIn_0 rfl (lv_at hl 0 rfl) ?_
  refine lv_iload_n hx hb dH_isTrueIn_1 rfl (lv_at hl 1 rfl) ?_
  obtain ⟨c_1, h⟩ := rz_chk h
  obtain ⟨q_5, M_3, h_4, h⟩ := rz_c h
  refine rc_V (rest := []) (As := [.int x1]) hx hb (hl.1.trans hml.symm) hown hK hR hRm mfH_waysIn kl_H_64 hk_H rfl rfl c_1 (by simp [cat_rf, cat_i, cat_a, cat_l, cat_n]) (hC 47 _ _ _ _ h_4) dH_isTrueIn_2 (fun v1 H locs cells slots ev hR => ?_) (fun x1 q1 ce1 H locs cells slots ex hR g1 g2 g3 => ?_)
  · rcases h with ⟨v_2, ev2, h⟩ | ⟨e2, ee2, -⟩
    · cases ev.symm.trans ev2
      replace h := rz_i h
      obtain ⟨x_6, rfl, h⟩ := h
      dsimp only [Option.toList, List.cons_append, List.nil_append]
      refine lv_istore_n (lv' := [(2, .int x_6), (0, .ref a0), (1, .int x1)]) hx hb dH_isTrueIn_5 rfl hl (by decide) rfl (fun ls hl => ?_)
      refine lv_aload_n hx hb dH_isTrueIn_6 rfl (lv_at hl 1 rfl) ?_
      obtain ⟨c_7, h⟩ := rz_chk h
      refine rg_getP hx hb hown hK hR hk_H 4 (by decide) kf_H_31 rfl c_7 dH_isTrueIn_7 ?_
      obtain ⟨a_8, e_9, h⟩ := rz_d h
      rw [e_9]
      obtain ⟨c_10, h⟩ := rz_chk h
      refine rg_getI hx hb hown hK hR hk_N 0 (by decide) kf_H_84 rfl c_10 dH_isTrueIn_10 ?_
      refine lv_bipush (v := 65) hx hb dH_isTrueIn_13 (by decide) ?_
      refine lv_icmp_ne (tgt := 41) hx hb dH_isTrueIn_15 (by decide) (fun c_11 => ?_) (fun c_11 => ?_)
      · replace h := rz_f c_11 h
        refine lv_iload_n hx hb dH_isTrueIn_41 rfl (lv_at hl 0 rfl) ?_
        refine lv_if_le (tgt := 49) hx hb dH_isTrueIn_42 (by decide) (fun c_12 => ?_) (fun c_12 => ?_)
        · replace h := rz_t c_12 h
          refine lv_iconst (v := 0) hx hb dH_isTrueIn_49 (by decide) ?_
          exact tH_isTrueIn_50 F hC 0 _ _ _ _ _ _ h hR (lv_sub hl [] rfl)
        · replace h := rz_f c_12 h
          refine lv_iconst (v := 1) hx hb dH_isTrueIn_45 (by decide) ?_
          refine lv_goto (tgt := 50) hx hb dH_isTrueIn_46 (by decide) ?_
          exact tH_isTrueIn_50 F hC 1 _ _ _ _ _ _ h hR (lv_sub hl [] rfl)
      · replace h := rz_t c_11 h
        refine lv_iload_n hx hb dH_isTrueIn_18 rfl (lv_at hl 0 rfl) ?_
        refine lv_aload_n hx hb dH_isTrueIn_19 rfl (lv_at hl 1 rfl) ?_
        refine rg_getP hx hb hown hK hR hk_H 4 (by decide) kf_H_31 rfl c_7 dH_isTrueIn_20 ?_
        rw [e_9]
        refine rg_getI hx hb hown hK hR hk_N 2 (by decide) kf_H_90 rfl c_10 dH_isTrueIn_23 ?_
        refine lv_iload_n hx hb dH_isTrueIn_26 rfl (lv_at hl 2 rfl) ?_
        obtain ⟨q_16, M_14, h_15, h⟩ := rz_c h
        refine rc_S (rest := [.int x_6]) (As := [.int (mI M_3 a_8 2), .int x1]) hx hb (hl.1.trans hml.symm) hown hK hR hRm mfO_choices kl_H_93 rfl (by simp [cat_rf, cat_i, cat_a, cat_l, cat_n]) (hC 54 _ _ _ _ h_15) dH_isTrueIn_27 (fun v1 H locs cells slots ev hR => ?_) (fun x1 q1 ce1 H locs cells slots ex hR g1 g2 g3 => ?_)
        · rcases h with ⟨v_13, ev2, h⟩ | ⟨e2, ee2, -⟩
          · cases ev.symm.trans ev2
            replace h := rz_i h
            obtain ⟨x_17, rfl, h⟩ := h
            dsimp only [Option.toList, List.cons_append, List.nil_append]
            refine lv_icmp_ne (tgt := 37) hx hb dH_isTrueIn_30 (by decide) (fun c_18 => ?_) (fun c_18 => ?_)
            · replace h := rz_f c_18 h
              refine lv_iconst (v := 0) hx hb dH_isTrueIn_37 (by decide) ?_
              refine lv_goto (tgt := 50) hx hb dH_isTrueIn_38 (by decide) ?_
              exact tH_isTrueIn_50 F hC 0 _ _ _ _ _ _ h hR (lv_sub hl [] rfl)
            · replace h := rz_t c_18 h
              refine lv_iconst (v := 1) hx hb dH_isTrueIn_33 (by decide) ?_
              refine lv_goto (tgt := 50) hx hb dH_isTrueIn_34 (by decide) ?_
              exact tH_isTrueIn_50 F hC 1 _ _ _ _ _ _ h hR (lv_sub hl [] rfl)
          · cases ev.symm.trans ee2
        · rcases h with ⟨v2, ev2, -⟩ | ⟨e2, ee2, h⟩
          · cases ex.symm.trans ev2
          · cases ex.symm.trans ee2
            cases h
            exact rt_x hlk hex hR g1 g2 g3
    · cases ev.symm.trans ee2
  · rcases h with ⟨v2, ev2, -⟩ | ⟨e2, ee2, h⟩
    · cases ex.symm.trans ev2
    · cases ex.symm.trans ee2
      cases h
      exact rt_x hlk hex hR g1 g2 g3
set_option maxRecDepth 100000 in
set_option maxHeartbeats 4000000 in
theorem sH_isTrueIn {l : Launch} {G : Gx} {n d : Nat} {C : Cx} (hC : CBs l G d C) (a0 : Nat) (x1 : Int32) {M M' : Mem} {r : Option Value ⊕ Nat} (h : fH_isTrueIn_0 n d C a0 x1 M = some (r, M')) : CB l G (d + 1) yH_isTrueIn [.ref a0, .int x1] M r M' := by
  intro p e R s m below meth c hx hn hm hc hlk hK hR hcap hS hU hfr hlo hrc hrs
  obtain ⟨hb, hml, hrt, hex, hown⟩ := fx_of hn hm hc (hK.w mfH_isTrueIn.2.2.1 rfl #[])
  have F : FX p s m meth c G R M d "HeadCount" bH_isTrueIn 3 (some .boolean) := ⟨hx, hb, hml, hown, hrt, hlk, hex, hK, hfr, hlo, by rw [← hcap]; exact hrc, hrs⟩
  rw [hml]
  have hl := lv_entry ([.ref a0, .int x1]) (n := 3) (by simp [lg_sl, cat_rf, cat_i, cat_a, cat_l, cat_n])
  rw [lg_entry_eq]
  generalize (lg_sl ([.ref a0, .int x1]) ++ List.replicate (3 - (lg_sl ([.ref a0, .int x1])).length) Slot.unset).toArray = ls at hl ⊢
  have hl : lv_has ls 3 [(0, .ref a0), (1, .int x1)] := by simpa [lv_args, cat_rf, cat_i, cat_a, cat_l, cat_n] using hl
  exact tH_isTrueIn_0 F hC a0 x1 _ _ _ _ _ _ h (RL.start hR hcap hS hU) (lv_sub hl [0, 1] rfl)
def fH_waysIn_28 (n d : Nat) (C : Cx) (a0 : Nat) (x1 : Int32) (M : Mem) : Rz := if mK M a0 = 1 then (rzD (mP M a0 5) fun a_2 => (if mK M a_2 = 21 then (if inA x1 (mL M a_2) then (some (.inl (some (.int (mI M a_2 x1.toNatClampNeg))), M)) else none) else none)) else none
set_option maxRecDepth 100000 in
set_option maxHeartbeats 4000000 in
theorem tH_waysIn_28 {n : Nat} (F : FX p s m meth c G R M0 d "HeadCount" bH_waysIn 2 (some .int)) (hC : CBs l G d C) : ∀ (a0 : Nat) (x1 : Int32) (M : Mem) (H : Heap) (locs : List Loc) (cells slots : Nat) (ls : Array Slot), fH_waysIn_28 n d C a0 x1 M = some (r, M') → RL G M0 M H locs cells slots → lv_has ls 2 [(0, .ref a0), (1, .int x1)] → W p l e R s m args below meth c H locs cells slots (CQ G below s M0 r M') (F0 m 28 ls []) := by
  obtain ⟨hx, hb, hml, hown, hrt, hlk, hex, hK, hRm⟩ := id F
  intro a0 x1 M H locs cells slots ls h hR hl
  unfold fH_waysIn_28 at h
  refine lv_aload_n hx hb dH_waysIn_28 rfl (lv_at hl 0 rfl) ?_
  obtain ⟨c_1, h⟩ := rz_chk h
  refine rg_getP hx hb hown hK hR hk_H 5 (by decide) kf_H_35 rfl c_1 dH_waysIn_29 ?_
  refine lv_iload_n hx hb dH_waysIn_32 rfl (lv_at hl 1 rfl) ?_
  obtain ⟨a_2, e_3, h⟩ := rz_d h
  rw [e_3]
  obtain ⟨c_4, h⟩ := rz_chk h
  obtain ⟨c_5, h⟩ := rz_chk h
  refine rg_iald hx hb hK hR c_4 c_5 dH_waysIn_33 ?_
  cases h
  exact rt_i hx hb hlk hrt (Or.inl rfl) rfl hR dH_waysIn_34
def fH_waysIn_0 (n d : Nat) (C : Cx) (a0 : Nat) (x1 : Int32) (M : Mem) : Rz := if mK M a0 = 1 then (rzD (mP M a0 5) fun a_2 => (if mK M a_2 = 21 then (if inA x1 (mL M a_2) then (if (mI M a_2 x1.toNatClampNeg) = ((-1)) then (rzD (mP M a0 3) fun a_7 => (if mK M a_7 = 3 then (rzC (C 48 [.ref a_7, va_rf (mP M a0 4), .int x1] M) fun v_10 M_11 => (rzI v_10 fun x_14 => (rzD (mP M a0 5) fun a_15 => (if mK M_11 a_15 = 21 then (if inA x1 (mL M_11 a_15) then (rzM (setI M_11 a_15 x1.toNatClampNeg x_14) fun M_19 => (fH_waysIn_28 n d C a0 x1 M_19)) else none) else none)))) else none)) else (fH_waysIn_28 n d C a0 x1 M)) else none) else none)) else none
set_option maxRecDepth 100000 in
set_option maxHeartbeats 4000000 in
theorem tH_waysIn_0 {n : Nat} (F : FX p s m meth c G R M0 d "HeadCount" bH_waysIn 2 (some .int)) (hC : CBs l G d C) : ∀ (a0 : Nat) (x1 : Int32) (M : Mem) (H : Heap) (locs : List Loc) (cells slots : Nat) (ls : Array Slot), fH_waysIn_0 n d C a0 x1 M = some (r, M') → RL G M0 M H locs cells slots → lv_has ls 2 [(0, .ref a0), (1, .int x1)] → W p l e R s m args below meth c H locs cells slots (CQ G below s M0 r M') (F0 m 0 ls []) := by
  obtain ⟨hx, hb, hml, hown, hrt, hlk, hex, hK, hRm⟩ := id F
  intro a0 x1 M H locs cells slots ls h hR hl
  unfold fH_waysIn_0 at h
  refine lv_aload_n hx hb dH_waysIn_0 rfl (lv_at hl 0 rfl) ?_
  obtain ⟨c_1, h⟩ := rz_chk h
  refine rg_getP hx hb hown hK hR hk_H 5 (by decide) kf_H_35 rfl c_1 dH_waysIn_1 ?_
  refine lv_iload_n hx hb dH_waysIn_4 rfl (lv_at hl 1 rfl) ?_
  obtain ⟨a_2, e_3, h⟩ := rz_d h
  rw [e_3]
  obtain ⟨c_4, h⟩ := rz_chk h
  obtain ⟨c_5, h⟩ := rz_chk h
  refine rg_iald hx hb hK hR c_4 c_5 dH_waysIn_5 ?_
  refine lv_iconst (v := (-1)) hx hb dH_waysIn_6 (by decide) ?_
  refine lv_icmp_ne (tgt := 28) hx hb dH_waysIn_7 (by decide) (fun c_6 => ?_) (fun c_6 => ?_)
  · replace h := rz_f c_6 h
    exact tH_waysIn_28 F hC a0 x1 _ _ _ _ _ _ h hR (lv_sub hl [0, 1] rfl)
  · replace h := rz_t c_6 h
    refine lv_aload_n hx hb dH_waysIn_10 rfl (lv_at hl 0 rfl) ?_
    refine rg_getP hx hb hown hK hR hk_H 5 (by decide) kf_H_35 rfl c_1 dH_waysIn_11 ?_
    refine lv_iload_n hx hb dH_waysIn_14 rfl (lv_at hl 1 rfl) ?_
    refine lv_aload_n hx hb dH_waysIn_15 rfl (lv_at hl 0 rfl) ?_
    refine rg_getP hx hb hown hK hR hk_H 3 (by decide) kf_H_27 rfl c_1 dH_waysIn_16 ?_
    refine lv_aload_n hx hb dH_waysIn_19 rfl (lv_at hl 0 rfl) ?_
    refine rg_getP hx hb hown hK hR hk_H 4 (by decide) kf_H_31 rfl c_1 dH_waysIn_20 ?_
    refine lv_iload_n hx hb dH_waysIn_23 rfl (lv_at hl 1 rfl) ?_
    obtain ⟨a_7, e_8, h⟩ := rz_d h
    rw [e_8]
    obtain ⟨c_9, h⟩ := rz_chk h
    obtain ⟨q_13, M_11, h_12, h⟩ := rz_c h
    refine rc_V (rest := [.int x1, va_rf (mP M a0 5)]) (As := [va_rf (mP M a0 4), .int x1]) hx hb (hl.1.trans hml.symm) hown hK hR hRm mfO_count kl_H_80 hk_O rfl rfl c_9 (by simp [cat_rf, cat_i, cat_a, cat_l, cat_n]) (hC 48 _ _ _ _ h_12) dH_waysIn_24 (fun v1 H locs cells slots ev hR => ?_) (fun x1 q1 ce1 H locs cells slots ex hR g1 g2 g3 => ?_)
    · rcases h with ⟨v_10, ev2, h⟩ | ⟨e2, ee2, -⟩
      · cases ev.symm.trans ev2
        replace h := rz_i h
        obtain ⟨x_14, rfl, h⟩ := h
        dsimp only [Option.toList, List.cons_append, List.nil_append]
        obtain ⟨a_15, e_16, h⟩ := rz_d h
        rw [e_16]
        obtain ⟨c_17, h⟩ := rz_chk h
        obtain ⟨c_18, h⟩ := rz_chk h
        obtain ⟨M_19, q_20, h⟩ := rz_m h
        refine rg_iast hx hb hK hR c_17 c_18 dH_waysIn_27 (fun H locs hR => ?_)
        rw [← q_20] at hR
        have c_21 : mK M_19 a_15 = 21 := by rw [q_20]; exact c_17
        exact tH_waysIn_28 F hC a0 x1 _ _ _ _ _ _ h hR (lv_sub hl [0, 1] rfl)
      · cases ev.symm.trans ee2
    · rcases h with ⟨v2, ev2, -⟩ | ⟨e2, ee2, h⟩
      · cases ex.symm.trans ev2
      · cases ex.symm.trans ee2
        cases h
        exact rt_x hlk hex hR g1 g2 g3
set_option maxRecDepth 100000 in
set_option maxHeartbeats 4000000 in
theorem sH_waysIn {l : Launch} {G : Gx} {n d : Nat} {C : Cx} (hC : CBs l G d C) (a0 : Nat) (x1 : Int32) {M M' : Mem} {r : Option Value ⊕ Nat} (h : fH_waysIn_0 n d C a0 x1 M = some (r, M')) : CB l G (d + 1) yH_waysIn [.ref a0, .int x1] M r M' := by
  intro p e R s m below meth c hx hn hm hc hlk hK hR hcap hS hU hfr hlo hrc hrs
  obtain ⟨hb, hml, hrt, hex, hown⟩ := fx_of hn hm hc (hK.w mfH_waysIn.2.2.1 rfl #[])
  have F : FX p s m meth c G R M d "HeadCount" bH_waysIn 2 (some .int) := ⟨hx, hb, hml, hown, hrt, hlk, hex, hK, hfr, hlo, by rw [← hcap]; exact hrc, hrs⟩
  rw [hml]
  have hl := lv_entry ([.ref a0, .int x1]) (n := 2) (by simp [lg_sl, cat_rf, cat_i, cat_a, cat_l, cat_n])
  rw [lg_entry_eq]
  generalize (lg_sl ([.ref a0, .int x1]) ++ List.replicate (2 - (lg_sl ([.ref a0, .int x1])).length) Slot.unset).toArray = ls at hl ⊢
  have hl : lv_has ls 2 [(0, .ref a0), (1, .int x1)] := by simpa [lv_args, cat_rf, cat_i, cat_a, cat_l, cat_n] using hl
  exact tH_waysIn_0 F hC a0 x1 _ _ _ _ _ _ h (RL.start hR hcap hS hU) (lv_sub hl [0, 1] rfl)
def fH_fails_6 (n d : Nat) (C : Cx) : Nat → Nat → Int32 → Mem → Rz
  | 0, _, _, _ => none
  | w + 1, a0, x1, M => if 4 < x1 then (some (.inl (some (.int ((-1)))), M)) else (if mK M a0 = 1 then (rzC (C 46 [.ref a0, .int x1] M) fun v_3 M_4 => (rzI v_3 fun x_7 => (if x_7 = 0 then (some (.inl (some (.int x1)), M_4)) else (fH_fails_6 n d C w a0 (x1 + 1) M_4)))) else none)
set_option maxRecDepth 100000 in
set_option maxHeartbeats 4000000 in
theorem tH_fails_6 {n : Nat} (F : FX p s m meth c G R M0 d "HeadCount" bH_fails 2 (some .int)) (hC : CBs l G d C) : ∀ (w : Nat) (a0 : Nat) (x1 : Int32) (M : Mem) (H : Heap) (locs : List Loc) (cells slots : Nat) (ls : Array Slot), fH_fails_6 n d C w a0 x1 M = some (r, M') → RL G M0 M H locs cells slots → lv_has ls 2 [(0, .ref a0), (1, .int x1)] → W p l e R s m args below meth c H locs cells slots (CQ G below s M0 r M') (F0 m 6 ls []) := by
  obtain ⟨hx, hb, hml, hown, hrt, hlk, hex, hK, hRm⟩ := id F
  intro w
  induction w with
  | zero => intro a0 x1 M H locs cells slots ls h; cases h
  | succ w ih =>
    intro a0 x1 M H locs cells slots ls h hR hl
    rw [fH_fails_6] at h
    refine lv_iload_n hx hb dH_fails_6 rfl (lv_at hl 1 rfl) ?_
    refine lv_iconst (v := 4) hx hb dH_fails_7 (by decide) ?_
    refine lv_icmp_gt (tgt := 27) hx hb dH_fails_8 (by decide) (fun c_1 => ?_) (fun c_1 => ?_)
    · replace h := rz_t c_1 h
      refine lv_iconst (v := (-1)) hx hb dH_fails_27 (by decide) ?_
      cases h
      exact rt_i hx hb hlk hrt (Or.inl rfl) rfl hR dH_fails_28
    · replace h := rz_f c_1 h
      refine lv_aload_n hx hb dH_fails_11 rfl (lv_at hl 0 rfl) ?_
      refine lv_iload_n hx hb dH_fails_12 rfl (lv_at hl 1 rfl) ?_
      obtain ⟨c_2, h⟩ := rz_chk h
      obtain ⟨q_6, M_4, h_5, h⟩ := rz_c h
      refine rc_V (rest := []) (As := [.int x1]) hx hb (hl.1.trans hml.symm) hown hK hR hRm mfH_isTrueIn kl_H_60 hk_H rfl rfl c_2 (by simp [cat_rf, cat_i, cat_a, cat_l, cat_n]) (hC 46 _ _ _ _ h_5) dH_fails_13 (fun v1 H locs cells slots ev hR => ?_) (fun x1 q1 ce1 H locs cells slots ex hR g1 g2 g3 => ?_)
      · rcases h with ⟨v_3, ev2, h⟩ | ⟨e2, ee2, -⟩
        · cases ev.symm.trans ev2
          replace h := rz_i h
          obtain ⟨x_7, rfl, h⟩ := h
          dsimp only [Option.toList, List.cons_append, List.nil_append]
          refine lv_if_ne (tgt := 21) hx hb dH_fails_16 (by decide) (fun c_8 => ?_) (fun c_8 => ?_)
          · replace h := rz_f c_8 h
            refine lv_iinc (k := 1) (v := x1 + 1) (lv' := [(1, .int (x1 + 1)), (0, .ref a0)]) hx hb dH_fails_21 hl rfl (by rw [show Int32.ofInt 1 = 1 from by decide]) (by decide) rfl (fun ls hl => ?_)
            refine lv_goto (tgt := 6) hx hb dH_fails_24 (by decide) ?_
            exact ih a0 (x1 + 1) _ _ _ _ _ _ h hR (lv_sub hl [1, 0] rfl)
          · replace h := rz_t c_8 h
            refine lv_iload_n hx hb dH_fails_19 rfl (lv_at hl 1 rfl) ?_
            cases h
            exact rt_i hx hb hlk hrt (Or.inl rfl) rfl hR dH_fails_20
        · cases ev.symm.trans ee2
      · rcases h with ⟨v2, ev2, -⟩ | ⟨e2, ee2, h⟩
        · cases ex.symm.trans ev2
        · cases ex.symm.trans ee2
          cases h
          exact rt_x hlk hex hR g1 g2 g3
def fH_fails_0 (n d : Nat) (C : Cx) (a0 : Nat) (M : Mem) : Rz := if mK M a0 = 1 then (rzC (C 44 [.ref a0] M) fun v_2 M_3 => (rzV v_2 (fH_fails_6 n d C n a0 0 M_3))) else none
set_option maxRecDepth 100000 in
set_option maxHeartbeats 4000000 in
theorem tH_fails_0 {n : Nat} (F : FX p s m meth c G R M0 d "HeadCount" bH_fails 2 (some .int)) (hC : CBs l G d C) : ∀ (a0 : Nat) (M : Mem) (H : Heap) (locs : List Loc) (cells slots : Nat) (ls : Array Slot), fH_fails_0 n d C a0 M = some (r, M') → RL G M0 M H locs cells slots → lv_has ls 2 [(0, .ref a0)] → W p l e R s m args below meth c H locs cells slots (CQ G below s M0 r M') (F0 m 0 ls []) := by
  obtain ⟨hx, hb, hml, hown, hrt, hlk, hex, hK, hRm⟩ := id F
  intro a0 M H locs cells slots ls h hR hl
  unfold fH_fails_0 at h
  refine lv_aload_n hx hb dH_fails_0 rfl (lv_at hl 0 rfl) ?_
  obtain ⟨c_1, h⟩ := rz_chk h
  obtain ⟨q_5, M_3, h_4, h⟩ := rz_c h
  refine rc_V (rest := []) (As := []) hx hb (hl.1.trans hml.symm) hown hK hR hRm mfH_needSentence kl_H_54 hk_H rfl rfl c_1 (by simp [cat_rf, cat_i, cat_a, cat_l, cat_n]) (hC 44 _ _ _ _ h_4) dH_fails_1 (fun v1 H locs cells slots ev hR => ?_) (fun x1 q1 ce1 H locs cells slots ex hR g1 g2 g3 => ?_)
  · rcases h with ⟨v_2, ev2, h⟩ | ⟨e2, ee2, -⟩
    · cases ev.symm.trans ev2
      replace h := rz_v h
      obtain ⟨rfl, h⟩ := h
      dsimp only [Option.toList, List.cons_append, List.nil_append]
      refine lv_iconst (v := 0) hx hb dH_fails_4 (by decide) ?_
      refine lv_istore_n (lv' := [(1, .int 0), (0, .ref a0)]) hx hb dH_fails_5 rfl hl (by decide) rfl (fun ls hl => ?_)
      exact tH_fails_6 F hC n a0 0 _ _ _ _ _ _ h hR (lv_sub hl [1, 0] rfl)
    · cases ev.symm.trans ee2
  · rcases h with ⟨v2, ev2, -⟩ | ⟨e2, ee2, h⟩
    · cases ex.symm.trans ev2
    · cases ex.symm.trans ee2
      cases h
      exact rt_x hlk hex hR g1 g2 g3
set_option maxRecDepth 100000 in
set_option maxHeartbeats 4000000 in
theorem sH_fails {l : Launch} {G : Gx} {n d : Nat} {C : Cx} (hC : CBs l G d C) (a0 : Nat) {M M' : Mem} {r : Option Value ⊕ Nat} (h : fH_fails_0 n d C a0 M = some (r, M')) : CB l G (d + 1) yH_fails [.ref a0] M r M' := by
  intro p e R s m below meth c hx hn hm hc hlk hK hR hcap hS hU hfr hlo hrc hrs
  obtain ⟨hb, hml, hrt, hex, hown⟩ := fx_of hn hm hc (hK.w mfH_fails.2.2.1 rfl #[])
  have F : FX p s m meth c G R M d "HeadCount" bH_fails 2 (some .int) := ⟨hx, hb, hml, hown, hrt, hlk, hex, hK, hfr, hlo, by rw [← hcap]; exact hrc, hrs⟩
  rw [hml]
  have hl := lv_entry ([.ref a0]) (n := 2) (by simp [lg_sl, cat_rf, cat_i, cat_a, cat_l, cat_n])
  rw [lg_entry_eq]
  generalize (lg_sl ([.ref a0]) ++ List.replicate (2 - (lg_sl ([.ref a0])).length) Slot.unset).toArray = ls at hl ⊢
  have hl : lv_has ls 2 [(0, .ref a0)] := by simpa [lv_args, cat_rf, cat_i, cat_a, cat_l, cat_n] using hl
  exact tH_fails_0 F hC a0 _ _ _ _ _ _ h (RL.start hR hcap hS hU) (lv_sub hl [0] rfl)
def fH_ways_0 (n d : Nat) (C : Cx) (a0 : Nat) (x1 : Int32) (M : Mem) : Rz := if mK M a0 = 1 then (rzC (C 44 [.ref a0] M) fun v_2 M_3 => (rzV v_2 (rzC (C 45 [.int x1] M_3) fun v_6 M_7 => (rzV v_6 (if mK M_7 a0 = 1 then (rzC (C 47 [.ref a0, .int x1] M_7) fun v_11 M_12 => (rzI v_11 fun x_15 => (some (.inl (some (.int x_15)), M_12)))) else none))))) else none
set_option maxRecDepth 100000 in
set_option maxHeartbeats 4000000 in
theorem tH_ways_0 {n : Nat} (F : FX p s m meth c G R M0 d "HeadCount" bH_ways 2 (some .int)) (hC : CBs l G d C) : ∀ (a0 : Nat) (x1 : Int32) (M : Mem) (H : Heap) (locs : List Loc) (cells slots : Nat) (ls : Array Slot), fH_ways_0 n d C a0 x1 M = some (r, M') → RL G M0 M H locs cells slots → lv_has ls 2 [(0, .ref a0), (1, .int x1)] → W p l e R s m args below meth c H locs cells slots (CQ G below s M0 r M') (F0 m 0 ls []) := by
  obtain ⟨hx, hb, hml, hown, hrt, hlk, hex, hK, hRm⟩ := id F
  intro a0 x1 M H locs cells slots ls h hR hl
  unfold fH_ways_0 at h
  refine lv_aload_n hx hb dH_ways_0 rfl (lv_at hl 0 rfl) ?_
  obtain ⟨c_1, h⟩ := rz_chk h
  obtain ⟨q_5, M_3, h_4, h⟩ := rz_c h
  refine rc_V (rest := []) (As := []) hx hb (hl.1.trans hml.symm) hown hK hR hRm mfH_needSentence kl_H_54 hk_H rfl rfl c_1 (by simp [cat_rf, cat_i, cat_a, cat_l, cat_n]) (hC 44 _ _ _ _ h_4) dH_ways_1 (fun v1 H locs cells slots ev hR => ?_) (fun x1 q1 ce1 H locs cells slots ex hR g1 g2 g3 => ?_)
  · rcases h with ⟨v_2, ev2, h⟩ | ⟨e2, ee2, -⟩
    · cases ev.symm.trans ev2
      replace h := rz_v h
      obtain ⟨rfl, h⟩ := h
      dsimp only [Option.toList, List.cons_append, List.nil_append]
      refine lv_iload_n hx hb dH_ways_4 rfl (lv_at hl 1 rfl) ?_
      obtain ⟨q_9, M_7, h_8, h⟩ := rz_c h
      refine rc_S (rest := []) (As := [.int x1]) hx hb (hl.1.trans hml.symm) hown hK hR hRm mfH_needWorld kl_H_57 rfl (by simp [cat_rf, cat_i, cat_a, cat_l, cat_n]) (hC 45 _ _ _ _ h_8) dH_ways_5 (fun v1 H locs cells slots ev hR => ?_) (fun x1 q1 ce1 H locs cells slots ex hR g1 g2 g3 => ?_)
      · rcases h with ⟨v_6, ev2, h⟩ | ⟨e2, ee2, -⟩
        · cases ev.symm.trans ev2
          replace h := rz_v h
          obtain ⟨rfl, h⟩ := h
          dsimp only [Option.toList, List.cons_append, List.nil_append]
          refine lv_aload_n hx hb dH_ways_8 rfl (lv_at hl 0 rfl) ?_
          refine lv_iload_n hx hb dH_ways_9 rfl (lv_at hl 1 rfl) ?_
          obtain ⟨c_10, h⟩ := rz_chk h
          obtain ⟨q_14, M_12, h_13, h⟩ := rz_c h
          refine rc_V (rest := []) (As := [.int x1]) hx hb (hl.1.trans hml.symm) hown hK hR hRm mfH_waysIn kl_H_64 hk_H rfl rfl c_10 (by simp [cat_rf, cat_i, cat_a, cat_l, cat_n]) (hC 47 _ _ _ _ h_13) dH_ways_10 (fun v1 H locs cells slots ev hR => ?_) (fun x1 q1 ce1 H locs cells slots ex hR g1 g2 g3 => ?_)
          · rcases h with ⟨v_11, ev2, h⟩ | ⟨e2, ee2, -⟩
            · cases ev.symm.trans ev2
              replace h := rz_i h
              obtain ⟨x_15, rfl, h⟩ := h
              dsimp only [Option.toList, List.cons_append, List.nil_append]
              cases h
              exact rt_i hx hb hlk hrt (Or.inl rfl) rfl hR dH_ways_13
            · cases ev.symm.trans ee2
          · rcases h with ⟨v2, ev2, -⟩ | ⟨e2, ee2, h⟩
            · cases ex.symm.trans ev2
            · cases ex.symm.trans ee2
              cases h
              exact rt_x hlk hex hR g1 g2 g3
        · cases ev.symm.trans ee2
      · rcases h with ⟨v2, ev2, -⟩ | ⟨e2, ee2, h⟩
        · cases ex.symm.trans ev2
        · cases ex.symm.trans ee2
          cases h
          exact rt_x hlk hex hR g1 g2 g3
    · cases ev.symm.trans ee2
  · rcases h with ⟨v2, ev2, -⟩ | ⟨e2, ee2, h⟩
    · cases ex.symm.trans ev2
    · cases ex.symm.trans ee2
      cases h
      exact rt_x hlk hex hR g1 g2 g3
set_option maxRecDepth 100000 in
set_option maxHeartbeats 4000000 in
theorem sH_ways {l : Launch} {G : Gx} {n d : Nat} {C : Cx} (hC : CBs l G d C) (a0 : Nat) (x1 : Int32) {M M' : Mem} {r : Option Value ⊕ Nat} (h : fH_ways_0 n d C a0 x1 M = some (r, M')) : CB l G (d + 1) yH_ways [.ref a0, .int x1] M r M' := by
  intro p e R s m below meth c hx hn hm hc hlk hK hR hcap hS hU hfr hlo hrc hrs
  obtain ⟨hb, hml, hrt, hex, hown⟩ := fx_of hn hm hc (hK.w mfH_ways.2.2.1 rfl #[])
  have F : FX p s m meth c G R M d "HeadCount" bH_ways 2 (some .int) := ⟨hx, hb, hml, hown, hrt, hlk, hex, hK, hfr, hlo, by rw [← hcap]; exact hrc, hrs⟩
  rw [hml]
  have hl := lv_entry ([.ref a0, .int x1]) (n := 2) (by simp [lg_sl, cat_rf, cat_i, cat_a, cat_l, cat_n])
  rw [lg_entry_eq]
  generalize (lg_sl ([.ref a0, .int x1]) ++ List.replicate (2 - (lg_sl ([.ref a0, .int x1])).length) Slot.unset).toArray = ls at hl ⊢
  have hl : lv_has ls 2 [(0, .ref a0), (1, .int x1)] := by simpa [lv_args, cat_rf, cat_i, cat_a, cat_l, cat_n] using hl
  exact tH_ways_0 F hC a0 x1 _ _ _ _ _ _ h (RL.start hR hcap hS hU) (lv_sub hl [0, 1] rfl)
end
