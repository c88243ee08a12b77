theorem dX0_init_0 : dcd cX0_init 0 = some (.aload_n 0, 1) := by decide +kernel
theorem dX0_init_1 : dcd cX0_init 1 = some (.invokespecial 3, 4) := by decide +kernel
theorem dX0_init_4 : dcd cX0_init 4 = some (.aload_n 0, 5) := by decide +kernel
theorem dX0_init_5 : dcd cX0_init 5 = some (.iload_n 1, 6) := by decide +kernel
theorem dX0_init_6 : dcd cX0_init 6 = some (.putfield 9, 9) := by decide +kernel
theorem dX0_init_9 : dcd cX0_init 9 = some (.return_, 10) := by decide +kernel
theorem dX0_forget_0 : dcd cX0_forget 0 = some (.aload_n 0, 1) := by decide +kernel
theorem dX0_forget_1 : dcd cX0_forget 1 = some (.iconst 0, 2) := by decide +kernel
theorem dX0_forget_2 : dcd cX0_forget 2 = some (.putfield 15, 5) := by decide +kernel
theorem dX0_forget_5 : dcd cX0_forget 5 = some (.aload_n 0, 6) := by decide +kernel
theorem dX0_forget_6 : dcd cX0_forget 6 = some (.iconst 0, 7) := by decide +kernel
theorem dX0_forget_7 : dcd cX0_forget 7 = some (.putfield 18, 10) := by decide +kernel
theorem dX0_forget_10 : dcd cX0_forget 10 = some (.aload_n 0, 11) := by decide +kernel
theorem dX0_forget_11 : dcd cX0_forget 11 = some (.iconst 0, 12) := by decide +kernel
theorem dX0_forget_12 : dcd cX0_forget 12 = some (.putfield 21, 15) := by decide +kernel
theorem dX0_forget_15 : dcd cX0_forget 15 = some (.aload_n 0, 16) := by decide +kernel
theorem dX0_forget_16 : dcd cX0_forget 16 = some (.iconst 0, 17) := by decide +kernel
theorem dX0_forget_17 : dcd cX0_forget 17 = some (.putfield 24, 20) := by decide +kernel
theorem dX0_forget_20 : dcd cX0_forget 20 = some (.aload_n 0, 21) := by decide +kernel
theorem dX0_forget_21 : dcd cX0_forget 21 = some (.iconst 0, 22) := by decide +kernel
theorem dX0_forget_22 : dcd cX0_forget 22 = some (.putfield 28, 25) := by decide +kernel
theorem dX0_forget_25 : dcd cX0_forget 25 = some (.aload_n 0, 26) := by decide +kernel
theorem dX0_forget_26 : dcd cX0_forget 26 = some (.iconst 0, 27) := by decide +kernel
theorem dX0_forget_27 : dcd cX0_forget 27 = some (.putfield 31, 30) := by decide +kernel
theorem dX0_forget_30 : dcd cX0_forget 30 = some (.aload_n 0, 31) := by decide +kernel
theorem dX0_forget_31 : dcd cX0_forget 31 = some (.iconst 0, 32) := by decide +kernel
theorem dX0_forget_32 : dcd cX0_forget 32 = some (.putfield 34, 35) := by decide +kernel
theorem dX0_forget_35 : dcd cX0_forget 35 = some (.aload_n 0, 36) := by decide +kernel
theorem dX0_forget_36 : dcd cX0_forget 36 = some (.iconst 0, 37) := by decide +kernel
theorem dX0_forget_37 : dcd cX0_forget 37 = some (.putfield 37, 40) := by decide +kernel
theorem dX0_forget_40 : dcd cX0_forget 40 = some (.aload_n 0, 41) := by decide +kernel
theorem dX0_forget_41 : dcd cX0_forget 41 = some (.iconst 0, 42) := by decide +kernel
theorem dX0_forget_42 : dcd cX0_forget 42 = some (.putfield 40, 45) := by decide +kernel
theorem dX0_forget_45 : dcd cX0_forget 45 = some (.aload_n 0, 46) := by decide +kernel
theorem dX0_forget_46 : dcd cX0_forget 46 = some (.iconst 0, 47) := by decide +kernel
theorem dX0_forget_47 : dcd cX0_forget 47 = some (.putfield 43, 50) := by decide +kernel
theorem dX0_forget_50 : dcd cX0_forget 50 = some (.return_, 51) := by decide +kernel
theorem dX0_hates_0 : dcd cX0_hates 0 = some (.aload_n 0, 1) := by decide +kernel
theorem dX0_hates_1 : dcd cX0_hates 1 = some (.getfield 43, 4) := by decide +kernel
theorem dX0_hates_4 : dcd cX0_hates 4 = some (.iload_n 1, 5) := by decide +kernel
theorem dX0_hates_5 : dcd cX0_hates 5 = some (.ishr, 6) := by decide +kernel
theorem dX0_hates_6 : dcd cX0_hates 6 = some (.iconst 1, 7) := by decide +kernel
theorem dX0_hates_7 : dcd cX0_hates 7 = some (.iand, 8) := by decide +kernel
theorem dX0_hates_8 : dcd cX0_hates 8 = some (.iconst 1, 9) := by decide +kernel
theorem dX0_hates_9 : dcd cX0_hates 9 = some (.if_icmp .ne 7, 12) := by decide +kernel
theorem dX0_hates_12 : dcd cX0_hates 12 = some (.iconst 1, 13) := by decide +kernel
theorem dX0_hates_13 : dcd cX0_hates 13 = some (.goto 4, 16) := by decide +kernel
theorem dX0_hates_16 : dcd cX0_hates 16 = some (.iconst 0, 17) := by decide +kernel
theorem dX0_hates_17 : dcd cX0_hates 17 = some (.ireturn, 18) := by decide +kernel
theorem dX1_init_0 : dcd cX1_init 0 = some (.aload_n 0, 1) := by decide +kernel
theorem dX1_init_1 : dcd cX1_init 1 = some (.invokespecial 3, 4) := by decide +kernel
theorem dX1_init_4 : dcd cX1_init 4 = some (.aload_n 0, 5) := by decide +kernel
theorem dX1_init_5 : dcd cX1_init 5 = some (.bipush 9, 7) := by decide +kernel
theorem dX1_init_7 : dcd cX1_init 7 = some (.newarray .int, 9) := by decide +kernel
theorem dX1_init_9 : dcd cX1_init 9 = some (.putfield 9, 12) := by decide +kernel
theorem dX1_init_12 : dcd cX1_init 12 = some (.return_, 13) := by decide +kernel
theorem dX1_hasPlace_0 : dcd cX1_hasPlace 0 = some (.iload_n 1, 1) := by decide +kernel
theorem dX1_hasPlace_1 : dcd cX1_hasPlace 1 = some (.ifCond .lt 15, 4) := by decide +kernel
theorem dX1_hasPlace_4 : dcd cX1_hasPlace 4 = some (.iload_n 1, 5) := by decide +kernel
theorem dX1_hasPlace_5 : dcd cX1_hasPlace 5 = some (.aload_n 0, 6) := by decide +kernel
theorem dX1_hasPlace_6 : dcd cX1_hasPlace 6 = some (.getfield 15, 9) := by decide +kernel
theorem dX1_hasPlace_9 : dcd cX1_hasPlace 9 = some (.if_icmp .ge 7, 12) := by decide +kernel
theorem dX1_hasPlace_12 : dcd cX1_hasPlace 12 = some (.iconst 1, 13) := by decide +kernel
theorem dX1_hasPlace_13 : dcd cX1_hasPlace 13 = some (.goto 4, 16) := by decide +kernel
theorem dX1_hasPlace_16 : dcd cX1_hasPlace 16 = some (.iconst 0, 17) := by decide +kernel
theorem dX1_hasPlace_17 : dcd cX1_hasPlace 17 = some (.ireturn, 18) := by decide +kernel
theorem dX1_placeOf_0 : dcd cX1_placeOf 0 = some (.iconst 0, 1) := by decide +kernel
theorem dX1_placeOf_1 : dcd cX1_placeOf 1 = some (.istore_n 2, 2) := by decide +kernel
theorem dX1_placeOf_2 : dcd cX1_placeOf 2 = some (.iload_n 2, 3) := by decide +kernel
theorem dX1_placeOf_3 : dcd cX1_placeOf 3 = some (.aload_n 0, 4) := by decide +kernel
theorem dX1_placeOf_4 : dcd cX1_placeOf 4 = some (.getfield 15, 7) := by decide +kernel
theorem dX1_placeOf_7 : dcd cX1_placeOf 7 = some (.if_icmp .ge 21, 10) := by decide +kernel
theorem dX1_placeOf_10 : dcd cX1_placeOf 10 = some (.aload_n 0, 11) := by decide +kernel
theorem dX1_placeOf_11 : dcd cX1_placeOf 11 = some (.getfield 9, 14) := by decide +kernel
theorem dX1_placeOf_14 : dcd cX1_placeOf 14 = some (.iload_n 2, 15) := by decide +kernel
theorem dX1_placeOf_15 : dcd cX1_placeOf 15 = some (.iaload, 16) := by decide +kernel
theorem dX1_placeOf_16 : dcd cX1_placeOf 16 = some (.iload_n 1, 17) := by decide +kernel
theorem dX1_placeOf_17 : dcd cX1_placeOf 17 = some (.if_icmp .ne 5, 20) := by decide +kernel
theorem dX1_placeOf_20 : dcd cX1_placeOf 20 = some (.iload_n 2, 21) := by decide +kernel
theorem dX1_placeOf_21 : dcd cX1_placeOf 21 = some (.ireturn, 22) := by decide +kernel
theorem dX1_placeOf_22 : dcd cX1_placeOf 22 = some (.iinc 2 1, 25) := by decide +kernel
theorem dX1_placeOf_25 : dcd cX1_placeOf 25 = some (.goto (-23), 28) := by decide +kernel
theorem dX1_placeOf_28 : dcd cX1_placeOf 28 = some (.bipush (-9), 30) := by decide +kernel
theorem dX1_placeOf_30 : dcd cX1_placeOf 30 = some (.ireturn, 31) := by decide +kernel
theorem dX1_append_0 : dcd cX1_append 0 = some (.aload_n 0, 1) := by decide +kernel
theorem dX1_append_1 : dcd cX1_append 1 = some (.getfield 15, 4) := by decide +kernel
theorem dX1_append_4 : dcd cX1_append 4 = some (.bipush 9, 6) := by decide +kernel
theorem dX1_append_6 : dcd cX1_append 6 = some (.if_icmp .ge 23, 9) := by decide +kernel
theorem dX1_append_9 : dcd cX1_append 9 = some (.aload_n 0, 10) := by decide +kernel
theorem dX1_append_10 : dcd cX1_append 10 = some (.getfield 9, 13) := by decide +kernel
theorem dX1_append_13 : dcd cX1_append 13 = some (.aload_n 0, 14) := by decide +kernel
theorem dX1_append_14 : dcd cX1_append 14 = some (.getfield 15, 17) := by decide +kernel
theorem dX1_append_17 : dcd cX1_append 17 = some (.iload_n 1, 18) := by decide +kernel
theorem dX1_append_18 : dcd cX1_append 18 = some (.iastore, 19) := by decide +kernel
theorem dX1_append_19 : dcd cX1_append 19 = some (.aload_n 0, 20) := by decide +kernel
theorem dX1_append_20 : dcd cX1_append 20 = some (.dup, 21) := by decide +kernel
theorem dX1_append_21 : dcd cX1_append 21 = some (.getfield 15, 24) := by decide +kernel
theorem dX1_append_24 : dcd cX1_append 24 = some (.iconst 1, 25) := by decide +kernel
theorem dX1_append_25 : dcd cX1_append 25 = some (.iadd, 26) := by decide +kernel
theorem dX1_append_26 : dcd cX1_append 26 = some (.putfield 15, 29) := by decide +kernel
theorem dX1_append_29 : dcd cX1_append 29 = some (.return_, 30) := by decide +kernel
theorem dX1_strip_0 : dcd cX1_strip 0 = some (.aload_n 0, 1) := by decide +kernel
theorem dX1_strip_1 : dcd cX1_strip 1 = some (.iconst 0, 2) := by decide +kernel
theorem dX1_strip_2 : dcd cX1_strip 2 = some (.putfield 15, 5) := by decide +kernel
theorem dX1_strip_5 : dcd cX1_strip 5 = some (.aload_n 0, 6) := by decide +kernel
theorem dX1_strip_6 : dcd cX1_strip 6 = some (.iconst 0, 7) := by decide +kernel
theorem dX1_strip_7 : dcd cX1_strip 7 = some (.putfield 19, 10) := by decide +kernel
theorem dX1_strip_10 : dcd cX1_strip 10 = some (.return_, 11) := by decide +kernel
theorem dX1_bits_0 : dcd cX1_bits 0 = some (.iconst 0, 1) := by decide +kernel
theorem dX1_bits_1 : dcd cX1_bits 1 = some (.istore_n 1, 2) := by decide +kernel
theorem dX1_bits_2 : dcd cX1_bits 2 = some (.iconst 0, 3) := by decide +kernel
theorem dX1_bits_3 : dcd cX1_bits 3 = some (.istore_n 2, 4) := by decide +kernel
theorem dX1_bits_4 : dcd cX1_bits 4 = some (.iload_n 2, 5) := by decide +kernel
theorem dX1_bits_5 : dcd cX1_bits 5 = some (.aload_n 0, 6) := by decide +kernel
theorem dX1_bits_6 : dcd cX1_bits 6 = some (.getfield 15, 9) := by decide +kernel
theorem dX1_bits_9 : dcd cX1_bits 9 = some (.if_icmp .ge 20, 12) := by decide +kernel
theorem dX1_bits_12 : dcd cX1_bits 12 = some (.iload_n 1, 13) := by decide +kernel
theorem dX1_bits_13 : dcd cX1_bits 13 = some (.iconst 1, 14) := by decide +kernel
theorem dX1_bits_14 : dcd cX1_bits 14 = some (.aload_n 0, 15) := by decide +kernel
theorem dX1_bits_15 : dcd cX1_bits 15 = some (.getfield 9, 18) := by decide +kernel
theorem dX1_bits_18 : dcd cX1_bits 18 = some (.iload_n 2, 19) := by decide +kernel
theorem dX1_bits_19 : dcd cX1_bits 19 = some (.iaload, 20) := by decide +kernel
theorem dX1_bits_20 : dcd cX1_bits 20 = some (.ishl, 21) := by decide +kernel
theorem dX1_bits_21 : dcd cX1_bits 21 = some (.ior, 22) := by decide +kernel
theorem dX1_bits_22 : dcd cX1_bits 22 = some (.istore_n 1, 23) := by decide +kernel
theorem dX1_bits_23 : dcd cX1_bits 23 = some (.iinc 2 1, 26) := by decide +kernel
theorem dX1_bits_26 : dcd cX1_bits 26 = some (.goto (-22), 29) := by decide +kernel
theorem dX1_bits_29 : dcd cX1_bits 29 = some (.iload_n 1, 30) := by decide +kernel
theorem dX1_bits_30 : dcd cX1_bits 30 = some (.ireturn, 31) := by decide +kernel
theorem dX1_draw_0 : dcd cX1_draw 0 = some (.aload_n 0, 1) := by decide +kernel
theorem dX1_draw_1 : dcd cX1_draw 1 = some (.aload_n 0, 2) := by decide +kernel
theorem dX1_draw_2 : dcd cX1_draw 2 = some (.getfield 22, 5) := by decide +kernel
theorem dX1_draw_5 : dcd cX1_draw 5 = some (.ldc 25, 7) := by decide +kernel
theorem dX1_draw_7 : dcd cX1_draw 7 = some (.imul, 8) := by decide +kernel
theorem dX1_draw_8 : dcd cX1_draw 8 = some (.sipush 12345, 11) := by decide +kernel
theorem dX1_draw_11 : dcd cX1_draw 11 = some (.iadd, 12) := by decide +kernel
theorem dX1_draw_12 : dcd cX1_draw 12 = some (.putfield 22, 15) := by decide +kernel
theorem dX1_draw_15 : dcd cX1_draw 15 = some (.aload_n 0, 16) := by decide +kernel
theorem dX1_draw_16 : dcd cX1_draw 16 = some (.getfield 22, 19) := by decide +kernel
theorem dX1_draw_19 : dcd cX1_draw 19 = some (.bipush 16, 21) := by decide +kernel
theorem dX1_draw_21 : dcd cX1_draw 21 = some (.iushr, 22) := by decide +kernel
theorem dX1_draw_22 : dcd cX1_draw 22 = some (.iconst 5, 23) := by decide +kernel
theorem dX1_draw_23 : dcd cX1_draw 23 = some (.irem, 24) := by decide +kernel
theorem dX1_draw_24 : dcd cX1_draw 24 = some (.ireturn, 25) := by decide +kernel
theorem dX1_copy_0 : dcd cX1_copy 0 = some (.iconst 0, 1) := by decide +kernel
theorem dX1_copy_1 : dcd cX1_copy 1 = some (.istore_n 2, 2) := by decide +kernel
theorem dX1_copy_2 : dcd cX1_copy 2 = some (.iload_n 2, 3) := by decide +kernel
theorem dX1_copy_3 : dcd cX1_copy 3 = some (.aload_n 1, 4) := by decide +kernel
theorem dX1_copy_4 : dcd cX1_copy 4 = some (.getfield 15, 7) := by decide +kernel
theorem dX1_copy_7 : dcd cX1_copy 7 = some (.if_icmp .ge 21, 10) := by decide +kernel
theorem dX1_copy_10 : dcd cX1_copy 10 = some (.aload_n 0, 11) := by decide +kernel
theorem dX1_copy_11 : dcd cX1_copy 11 = some (.getfield 9, 14) := by decide +kernel
theorem dX1_copy_14 : dcd cX1_copy 14 = some (.iload_n 2, 15) := by decide +kernel
theorem dX1_copy_15 : dcd cX1_copy 15 = some (.aload_n 1, 16) := by decide +kernel
theorem dX1_copy_16 : dcd cX1_copy 16 = some (.getfield 9, 19) := by decide +kernel
theorem dX1_copy_19 : dcd cX1_copy 19 = some (.iload_n 2, 20) := by decide +kernel
theorem dX1_copy_20 : dcd cX1_copy 20 = some (.iaload, 21) := by decide +kernel
theorem dX1_copy_21 : dcd cX1_copy 21 = some (.iastore, 22) := by decide +kernel
theorem dX1_copy_22 : dcd cX1_copy 22 = some (.iinc 2 1, 25) := by decide +kernel
theorem dX1_copy_25 : dcd cX1_copy 25 = some (.goto (-23), 28) := by decide +kernel
theorem dX1_copy_28 : dcd cX1_copy 28 = some (.aload_n 0, 29) := by decide +kernel
theorem dX1_copy_29 : dcd cX1_copy 29 = some (.aload_n 1, 30) := by decide +kernel
theorem dX1_copy_30 : dcd cX1_copy 30 = some (.getfield 15, 33) := by decide +kernel
theorem dX1_copy_33 : dcd cX1_copy 33 = some (.putfield 15, 36) := by decide +kernel
theorem dX1_copy_36 : dcd cX1_copy 36 = some (.aload_n 0, 37) := by decide +kernel
theorem dX1_copy_37 : dcd cX1_copy 37 = some (.aload_n 1, 38) := by decide +kernel
theorem dX1_copy_38 : dcd cX1_copy 38 = some (.getfield 19, 41) := by decide +kernel
theorem dX1_copy_41 : dcd cX1_copy 41 = some (.putfield 19, 44) := by decide +kernel
theorem dX1_copy_44 : dcd cX1_copy 44 = some (.aload_n 0, 45) := by decide +kernel
theorem dX1_copy_45 : dcd cX1_copy 45 = some (.aload_n 1, 46) := by decide +kernel
theorem dX1_copy_46 : dcd cX1_copy 46 = some (.getfield 22, 49) := by decide +kernel
theorem dX1_copy_49 : dcd cX1_copy 49 = some (.putfield 22, 52) := by decide +kernel
theorem dX1_copy_52 : dcd cX1_copy 52 = some (.return_, 53) := by decide +kernel
theorem dX2_init_0 : dcd cX2_init 0 = some (.aload_n 0, 1) := by decide +kernel
theorem dX2_init_1 : dcd cX2_init 1 = some (.invokespecial 3, 4) := by decide +kernel
theorem dX2_init_4 : dcd cX2_init 4 = some (.aload_n 0, 5) := by decide +kernel
theorem dX2_init_5 : dcd cX2_init 5 = some (.bipush 9, 7) := by decide +kernel
theorem dX2_init_7 : dcd cX2_init 7 = some (.anewarray 9, 10) := by decide +kernel
theorem dX2_init_10 : dcd cX2_init 10 = some (.putfield 11, 13) := by decide +kernel
theorem dX2_init_13 : dcd cX2_init 13 = some (.iconst 0, 14) := by decide +kernel
theorem dX2_init_14 : dcd cX2_init 14 = some (.istore_n 1, 15) := by decide +kernel
theorem dX2_init_15 : dcd cX2_init 15 = some (.iload_n 1, 16) := by decide +kernel
theorem dX2_init_16 : dcd cX2_init 16 = some (.bipush 9, 18) := by decide +kernel
theorem dX2_init_18 : dcd cX2_init 18 = some (.if_icmp .ge 23, 21) := by decide +kernel
theorem dX2_init_21 : dcd cX2_init 21 = some (.aload_n 0, 22) := by decide +kernel
theorem dX2_init_22 : dcd cX2_init 22 = some (.getfield 11, 25) := by decide +kernel
theorem dX2_init_25 : dcd cX2_init 25 = some (.iload_n 1, 26) := by decide +kernel
theorem dX2_init_26 : dcd cX2_init 26 = some (.new 9, 29) := by decide +kernel
theorem dX2_init_29 : dcd cX2_init 29 = some (.dup, 30) := by decide +kernel
theorem dX2_init_30 : dcd cX2_init 30 = some (.iload_n 1, 31) := by decide +kernel
theorem dX2_init_31 : dcd cX2_init 31 = some (.invokespecial 17, 34) := by decide +kernel
theorem dX2_init_34 : dcd cX2_init 34 = some (.aastore, 35) := by decide +kernel
theorem dX2_init_35 : dcd cX2_init 35 = some (.iinc 1 1, 38) := by decide +kernel
theorem dX2_init_38 : dcd cX2_init 38 = some (.goto (-23), 41) := by decide +kernel
theorem dX2_init_41 : dcd cX2_init 41 = some (.aload_n 0, 42) := by decide +kernel
theorem dX2_init_42 : dcd cX2_init 42 = some (.iconst 0, 43) := by decide +kernel
theorem dX2_init_43 : dcd cX2_init 43 = some (.putfield 20, 46) := by decide +kernel
theorem dX2_init_46 : dcd cX2_init 46 = some (.return_, 47) := by decide +kernel
theorem dX2_fallOut_0 : dcd cX2_fallOut 0 = some (.aload_n 0, 1) := by decide +kernel
theorem dX2_fallOut_1 : dcd cX2_fallOut 1 = some (.getfield 11, 4) := by decide +kernel
theorem dX2_fallOut_4 : dcd cX2_fallOut 4 = some (.iload_n 1, 5) := by decide +kernel
theorem dX2_fallOut_5 : dcd cX2_fallOut 5 = some (.aaload, 6) := by decide +kernel
theorem dX2_fallOut_6 : dcd cX2_fallOut 6 = some (.dup, 7) := by decide +kernel
theorem dX2_fallOut_7 : dcd cX2_fallOut 7 = some (.getfield 24, 10) := by decide +kernel
theorem dX2_fallOut_10 : dcd cX2_fallOut 10 = some (.iconst 1, 11) := by decide +kernel
theorem dX2_fallOut_11 : dcd cX2_fallOut 11 = some (.iload_n 2, 12) := by decide +kernel
theorem dX2_fallOut_12 : dcd cX2_fallOut 12 = some (.ishl, 13) := by decide +kernel
theorem dX2_fallOut_13 : dcd cX2_fallOut 13 = some (.ior, 14) := by decide +kernel
theorem dX2_fallOut_14 : dcd cX2_fallOut 14 = some (.putfield 24, 17) := by decide +kernel
theorem dX2_fallOut_17 : dcd cX2_fallOut 17 = some (.aload_n 0, 18) := by decide +kernel
theorem dX2_fallOut_18 : dcd cX2_fallOut 18 = some (.getfield 11, 21) := by decide +kernel
theorem dX2_fallOut_21 : dcd cX2_fallOut 21 = some (.iload_n 2, 22) := by decide +kernel
theorem dX2_fallOut_22 : dcd cX2_fallOut 22 = some (.aaload, 23) := by decide +kernel
theorem dX2_fallOut_23 : dcd cX2_fallOut 23 = some (.dup, 24) := by decide +kernel
theorem dX2_fallOut_24 : dcd cX2_fallOut 24 = some (.getfield 24, 27) := by decide +kernel
theorem dX2_fallOut_27 : dcd cX2_fallOut 27 = some (.iconst 1, 28) := by decide +kernel
theorem dX2_fallOut_28 : dcd cX2_fallOut 28 = some (.iload_n 1, 29) := by decide +kernel
theorem dX2_fallOut_29 : dcd cX2_fallOut 29 = some (.ishl, 30) := by decide +kernel
theorem dX2_fallOut_30 : dcd cX2_fallOut 30 = some (.ior, 31) := by decide +kernel
theorem dX2_fallOut_31 : dcd cX2_fallOut 31 = some (.putfield 24, 34) := by decide +kernel
theorem dX2_fallOut_34 : dcd cX2_fallOut 34 = some (.return_, 35) := by decide +kernel
theorem dX3_init_0 : dcd cX3_init 0 = some (.aload_n 0, 1) := by decide +kernel
theorem dX3_init_1 : dcd cX3_init 1 = some (.invokespecial 3, 4) := by decide +kernel
theorem dX3_init_4 : dcd cX3_init 4 = some (.aload_n 0, 5) := by decide +kernel
theorem dX3_init_5 : dcd cX3_init 5 = some (.bipush 81, 7) := by decide +kernel
theorem dX3_init_7 : dcd cX3_init 7 = some (.newarray .int, 9) := by decide +kernel
theorem dX3_init_9 : dcd cX3_init 9 = some (.putfield 9, 12) := by decide +kernel
theorem dX3_init_12 : dcd cX3_init 12 = some (.aload_n 0, 13) := by decide +kernel
theorem dX3_init_13 : dcd cX3_init 13 = some (.bipush 81, 15) := by decide +kernel
theorem dX3_init_15 : dcd cX3_init 15 = some (.newarray .int, 17) := by decide +kernel
theorem dX3_init_17 : dcd cX3_init 17 = some (.putfield 15, 20) := by decide +kernel
theorem dX3_init_20 : dcd cX3_init 20 = some (.aload_n 0, 21) := by decide +kernel
theorem dX3_init_21 : dcd cX3_init 21 = some (.lconst 1, 22) := by decide +kernel
theorem dX3_init_22 : dcd cX3_init 22 = some (.putfield 18, 25) := by decide +kernel
theorem dX3_init_25 : dcd cX3_init 25 = some (.return_, 26) := by decide +kernel
theorem dX3_forget_0 : dcd cX3_forget 0 = some (.iconst 0, 1) := by decide +kernel
theorem dX3_forget_1 : dcd cX3_forget 1 = some (.istore_n 1, 2) := by decide +kernel
theorem dX3_forget_2 : dcd cX3_forget 2 = some (.iload_n 1, 3) := by decide +kernel
theorem dX3_forget_3 : dcd cX3_forget 3 = some (.bipush 81, 5) := by decide +kernel
theorem dX3_forget_5 : dcd cX3_forget 5 = some (.if_icmp .ge 23, 8) := by decide +kernel
theorem dX3_forget_8 : dcd cX3_forget 8 = some (.aload_n 0, 9) := by decide +kernel
theorem dX3_forget_9 : dcd cX3_forget 9 = some (.getfield 9, 12) := by decide +kernel
theorem dX3_forget_12 : dcd cX3_forget 12 = some (.iload_n 1, 13) := by decide +kernel
theorem dX3_forget_13 : dcd cX3_forget 13 = some (.iconst 0, 14) := by decide +kernel
theorem dX3_forget_14 : dcd cX3_forget 14 = some (.iastore, 15) := by decide +kernel
theorem dX3_forget_15 : dcd cX3_forget 15 = some (.aload_n 0, 16) := by decide +kernel
theorem dX3_forget_16 : dcd cX3_forget 16 = some (.getfield 15, 19) := by decide +kernel
theorem dX3_forget_19 : dcd cX3_forget 19 = some (.iload_n 1, 20) := by decide +kernel
theorem dX3_forget_20 : dcd cX3_forget 20 = some (.iconst 0, 21) := by decide +kernel
theorem dX3_forget_21 : dcd cX3_forget 21 = some (.iastore, 22) := by decide +kernel
theorem dX3_forget_22 : dcd cX3_forget 22 = some (.iinc 1 1, 25) := by decide +kernel
theorem dX3_forget_25 : dcd cX3_forget 25 = some (.goto (-23), 28) := by decide +kernel
theorem dX3_forget_28 : dcd cX3_forget 28 = some (.aload_n 0, 29) := by decide +kernel
theorem dX3_forget_29 : dcd cX3_forget 29 = some (.iconst 0, 30) := by decide +kernel
theorem dX3_forget_30 : dcd cX3_forget 30 = some (.putfield 22, 33) := by decide +kernel
theorem dX3_forget_33 : dcd cX3_forget 33 = some (.return_, 34) := by decide +kernel
theorem dX3_append_0 : dcd cX3_append 0 = some (.aload_n 0, 1) := by decide +kernel
theorem dX3_append_1 : dcd cX3_append 1 = some (.getfield 9, 4) := by decide +kernel
theorem dX3_append_4 : dcd cX3_append 4 = some (.iload_n 1, 5) := by decide +kernel
theorem dX3_append_5 : dcd cX3_append 5 = some (.bipush 9, 7) := by decide +kernel
theorem dX3_append_7 : dcd cX3_append 7 = some (.imul, 8) := by decide +kernel
theorem dX3_append_8 : dcd cX3_append 8 = some (.iload_n 2, 9) := by decide +kernel
theorem dX3_append_9 : dcd cX3_append 9 = some (.iadd, 10) := by decide +kernel
theorem dX3_append_10 : dcd cX3_append 10 = some (.dup2, 11) := by decide +kernel
theorem dX3_append_11 : dcd cX3_append 11 = some (.iaload, 12) := by decide +kernel
theorem dX3_append_12 : dcd cX3_append 12 = some (.iconst 1, 13) := by decide +kernel
theorem dX3_append_13 : dcd cX3_append 13 = some (.iadd, 14) := by decide +kernel
theorem dX3_append_14 : dcd cX3_append 14 = some (.iastore, 15) := by decide +kernel
theorem dX3_append_15 : dcd cX3_append 15 = some (.aload_n 0, 16) := by decide +kernel
theorem dX3_append_16 : dcd cX3_append 16 = some (.getfield 15, 19) := by decide +kernel
theorem dX3_append_19 : dcd cX3_append 19 = some (.iload_n 1, 20) := by decide +kernel
theorem dX3_append_20 : dcd cX3_append 20 = some (.bipush 9, 22) := by decide +kernel
theorem dX3_append_22 : dcd cX3_append 22 = some (.imul, 23) := by decide +kernel
theorem dX3_append_23 : dcd cX3_append 23 = some (.iload_n 2, 24) := by decide +kernel
theorem dX3_append_24 : dcd cX3_append 24 = some (.iadd, 25) := by decide +kernel
theorem dX3_append_25 : dcd cX3_append 25 = some (.dup2, 26) := by decide +kernel
theorem dX3_append_26 : dcd cX3_append 26 = some (.iaload, 27) := by decide +kernel
theorem dX3_append_27 : dcd cX3_append 27 = some (.iload_n 3, 28) := by decide +kernel
theorem dX3_append_28 : dcd cX3_append 28 = some (.iadd, 29) := by decide +kernel
theorem dX3_append_29 : dcd cX3_append 29 = some (.iastore, 30) := by decide +kernel
theorem dX3_append_30 : dcd cX3_append 30 = some (.aload_n 0, 31) := by decide +kernel
theorem dX3_append_31 : dcd cX3_append 31 = some (.dup, 32) := by decide +kernel
theorem dX3_append_32 : dcd cX3_append 32 = some (.getfield 22, 35) := by decide +kernel
theorem dX3_append_35 : dcd cX3_append 35 = some (.iconst 1, 36) := by decide +kernel
theorem dX3_append_36 : dcd cX3_append 36 = some (.iadd, 37) := by decide +kernel
theorem dX3_append_37 : dcd cX3_append 37 = some (.putfield 22, 40) := by decide +kernel
theorem dX3_append_40 : dcd cX3_append 40 = some (.return_, 41) := by decide +kernel
theorem dX3_timesOf_0 : dcd cX3_timesOf 0 = some (.iconst 0, 1) := by decide +kernel
theorem dX3_timesOf_1 : dcd cX3_timesOf 1 = some (.istore_n 2, 2) := by decide +kernel
theorem dX3_timesOf_2 : dcd cX3_timesOf 2 = some (.iconst 0, 3) := by decide +kernel
theorem dX3_timesOf_3 : dcd cX3_timesOf 3 = some (.istore_n 3, 4) := by decide +kernel
theorem dX3_timesOf_4 : dcd cX3_timesOf 4 = some (.iload_n 3, 5) := by decide +kernel
theorem dX3_timesOf_5 : dcd cX3_timesOf 5 = some (.bipush 9, 7) := by decide +kernel
theorem dX3_timesOf_7 : dcd cX3_timesOf 7 = some (.if_icmp .ge 23, 10) := by decide +kernel
theorem dX3_timesOf_10 : dcd cX3_timesOf 10 = some (.iload_n 2, 11) := by decide +kernel
theorem dX3_timesOf_11 : dcd cX3_timesOf 11 = some (.aload_n 0, 12) := by decide +kernel
theorem dX3_timesOf_12 : dcd cX3_timesOf 12 = some (.getfield 9, 15) := by decide +kernel
theorem dX3_timesOf_15 : dcd cX3_timesOf 15 = some (.iload_n 1, 16) := by decide +kernel
theorem dX3_timesOf_16 : dcd cX3_timesOf 16 = some (.bipush 9, 18) := by decide +kernel
theorem dX3_timesOf_18 : dcd cX3_timesOf 18 = some (.imul, 19) := by decide +kernel
theorem dX3_timesOf_19 : dcd cX3_timesOf 19 = some (.iload_n 3, 20) := by decide +kernel
theorem dX3_timesOf_20 : dcd cX3_timesOf 20 = some (.iadd, 21) := by decide +kernel
theorem dX3_timesOf_21 : dcd cX3_timesOf 21 = some (.iaload, 22) := by decide +kernel
theorem dX3_timesOf_22 : dcd cX3_timesOf 22 = some (.iadd, 23) := by decide +kernel
theorem dX3_timesOf_23 : dcd cX3_timesOf 23 = some (.istore_n 2, 24) := by decide +kernel
theorem dX3_timesOf_24 : dcd cX3_timesOf 24 = some (.iinc 3 1, 27) := by decide +kernel
theorem dX3_timesOf_27 : dcd cX3_timesOf 27 = some (.goto (-23), 30) := by decide +kernel
theorem dX3_timesOf_30 : dcd cX3_timesOf 30 = some (.iload_n 2, 31) := by decide +kernel
theorem dX3_timesOf_31 : dcd cX3_timesOf 31 = some (.ireturn, 32) := by decide +kernel
theorem dX3_part_0 : dcd cX3_part 0 = some (.aload_n 0, 1) := by decide +kernel
theorem dX3_part_1 : dcd cX3_part 1 = some (.lconst 0, 2) := by decide +kernel
theorem dX3_part_2 : dcd cX3_part 2 = some (.putfield 26, 5) := by decide +kernel
theorem dX3_part_5 : dcd cX3_part 5 = some (.aload_n 0, 6) := by decide +kernel
theorem dX3_part_6 : dcd cX3_part 6 = some (.lconst 1, 7) := by decide +kernel
theorem dX3_part_7 : dcd cX3_part 7 = some (.putfield 18, 10) := by decide +kernel
theorem dX3_part_10 : dcd cX3_part 10 = some (.iconst 0, 11) := by decide +kernel
theorem dX3_part_11 : dcd cX3_part 11 = some (.istore_n 2, 12) := by decide +kernel
theorem dX3_part_12 : dcd cX3_part 12 = some (.iload_n 2, 13) := by decide +kernel
theorem dX3_part_13 : dcd cX3_part 13 = some (.bipush 9, 15) := by decide +kernel
theorem dX3_part_15 : dcd cX3_part 15 = some (.if_icmp .ge 29, 18) := by decide +kernel
theorem dX3_part_18 : dcd cX3_part 18 = some (.aload_n 0, 19) := by decide +kernel
theorem dX3_part_19 : dcd cX3_part 19 = some (.getfield 9, 22) := by decide +kernel
theorem dX3_part_22 : dcd cX3_part 22 = some (.iload_n 1, 23) := by decide +kernel
theorem dX3_part_23 : dcd cX3_part 23 = some (.bipush 9, 25) := by decide +kernel
theorem dX3_part_25 : dcd cX3_part 25 = some (.imul, 26) := by decide +kernel
theorem dX3_part_26 : dcd cX3_part 26 = some (.iload_n 2, 27) := by decide +kernel
theorem dX3_part_27 : dcd cX3_part 27 = some (.iadd, 28) := by decide +kernel
theorem dX3_part_28 : dcd cX3_part 28 = some (.iaload, 29) := by decide +kernel
theorem dX3_part_29 : dcd cX3_part 29 = some (.ifCond .le 9, 32) := by decide +kernel
theorem dX3_part_32 : dcd cX3_part 32 = some (.aload_n 0, 33) := by decide +kernel
theorem dX3_part_33 : dcd cX3_part 33 = some (.iload_n 1, 34) := by decide +kernel
theorem dX3_part_34 : dcd cX3_part 34 = some (.iload_n 2, 35) := by decide +kernel
theorem dX3_part_35 : dcd cX3_part 35 = some (.invokevirtual 29, 38) := by decide +kernel
theorem dX3_part_38 : dcd cX3_part 38 = some (.iinc 2 1, 41) := by decide +kernel
theorem dX3_part_41 : dcd cX3_part 41 = some (.goto (-29), 44) := by decide +kernel
theorem dX3_part_44 : dcd cX3_part 44 = some (.aload_n 0, 45) := by decide +kernel
theorem dX3_part_45 : dcd cX3_part 45 = some (.dup, 46) := by decide +kernel
theorem dX3_part_46 : dcd cX3_part 46 = some (.getfield 18, 49) := by decide +kernel
theorem dX3_part_49 : dcd cX3_part 49 = some (.iconst 1, 50) := by decide +kernel
theorem dX3_part_50 : dcd cX3_part 50 = some (.aload_n 0, 51) := by decide +kernel
theorem dX3_part_51 : dcd cX3_part 51 = some (.iload_n 1, 52) := by decide +kernel
theorem dX3_part_52 : dcd cX3_part 52 = some (.invokevirtual 33, 55) := by decide +kernel
theorem dX3_part_55 : dcd cX3_part 55 = some (.invokestatic 37, 58) := by decide +kernel
theorem dX3_part_58 : dcd cX3_part 58 = some (.i2l, 59) := by decide +kernel
theorem dX3_part_59 : dcd cX3_part 59 = some (.lmul, 60) := by decide +kernel
theorem dX3_part_60 : dcd cX3_part 60 = some (.putfield 18, 63) := by decide +kernel
theorem dX3_part_63 : dcd cX3_part 63 = some (.aload_n 0, 64) := by decide +kernel
theorem dX3_part_64 : dcd cX3_part 64 = some (.invokevirtual 43, 67) := by decide +kernel
theorem dX3_part_67 : dcd cX3_part 67 = some (.return_, 68) := by decide +kernel
theorem dX3_addPlace_0 : dcd cX3_addPlace 0 = some (.iconst 0, 1) := by decide +kernel
theorem dX3_addPlace_1 : dcd cX3_addPlace 1 = some (.istore_n 3, 2) := by decide +kernel
theorem dX3_addPlace_2 : dcd cX3_addPlace 2 = some (.iconst 0, 3) := by decide +kernel
theorem dX3_addPlace_3 : dcd cX3_addPlace 3 = some (.istore 4, 5) := by decide +kernel
theorem dX3_addPlace_5 : dcd cX3_addPlace 5 = some (.iconst 0, 6) := by decide +kernel
theorem dX3_addPlace_6 : dcd cX3_addPlace 6 = some (.istore 5, 8) := by decide +kernel
theorem dX3_addPlace_8 : dcd cX3_addPlace 8 = some (.iload 5, 10) := by decide +kernel
theorem dX3_addPlace_10 : dcd cX3_addPlace 10 = some (.bipush 9, 12) := by decide +kernel
theorem dX3_addPlace_12 : dcd cX3_addPlace 12 = some (.if_icmp .ge 41, 15) := by decide +kernel
theorem dX3_addPlace_15 : dcd cX3_addPlace 15 = some (.iload_n 3, 16) := by decide +kernel
theorem dX3_addPlace_16 : dcd cX3_addPlace 16 = some (.aload_n 0, 17) := by decide +kernel
theorem dX3_addPlace_17 : dcd cX3_addPlace 17 = some (.getfield 9, 20) := by decide +kernel
theorem dX3_addPlace_20 : dcd cX3_addPlace 20 = some (.iload 5, 22) := by decide +kernel
theorem dX3_addPlace_22 : dcd cX3_addPlace 22 = some (.bipush 9, 24) := by decide +kernel
theorem dX3_addPlace_24 : dcd cX3_addPlace 24 = some (.imul, 25) := by decide +kernel
theorem dX3_addPlace_25 : dcd cX3_addPlace 25 = some (.iload_n 2, 26) := by decide +kernel
theorem dX3_addPlace_26 : dcd cX3_addPlace 26 = some (.iadd, 27) := by decide +kernel
theorem dX3_addPlace_27 : dcd cX3_addPlace 27 = some (.iaload, 28) := by decide +kernel
theorem dX3_addPlace_28 : dcd cX3_addPlace 28 = some (.iadd, 29) := by decide +kernel
theorem dX3_addPlace_29 : dcd cX3_addPlace 29 = some (.istore_n 3, 30) := by decide +kernel
theorem dX3_addPlace_30 : dcd cX3_addPlace 30 = some (.iload 4, 32) := by decide +kernel
theorem dX3_addPlace_32 : dcd cX3_addPlace 32 = some (.aload_n 0, 33) := by decide +kernel
theorem dX3_addPlace_33 : dcd cX3_addPlace 33 = some (.getfield 15, 36) := by decide +kernel
theorem dX3_addPlace_36 : dcd cX3_addPlace 36 = some (.iload 5, 38) := by decide +kernel
theorem dX3_addPlace_38 : dcd cX3_addPlace 38 = some (.bipush 9, 40) := by decide +kernel
theorem dX3_addPlace_40 : dcd cX3_addPlace 40 = some (.imul, 41) := by decide +kernel
theorem dX3_addPlace_41 : dcd cX3_addPlace 41 = some (.iload_n 2, 42) := by decide +kernel
theorem dX3_addPlace_42 : dcd cX3_addPlace 42 = some (.iadd, 43) := by decide +kernel
theorem dX3_addPlace_43 : dcd cX3_addPlace 43 = some (.iaload, 44) := by decide +kernel
theorem dX3_addPlace_44 : dcd cX3_addPlace 44 = some (.iadd, 45) := by decide +kernel
theorem dX3_addPlace_45 : dcd cX3_addPlace 45 = some (.istore 4, 47) := by decide +kernel
theorem dX3_addPlace_47 : dcd cX3_addPlace 47 = some (.iinc 5 1, 50) := by decide +kernel
theorem dX3_addPlace_50 : dcd cX3_addPlace 50 = some (.goto (-42), 53) := by decide +kernel
theorem dX3_addPlace_53 : dcd cX3_addPlace 53 = some (.iload_n 1, 54) := by decide +kernel
theorem dX3_addPlace_54 : dcd cX3_addPlace 54 = some (.bipush 9, 56) := by decide +kernel
theorem dX3_addPlace_56 : dcd cX3_addPlace 56 = some (.imul, 57) := by decide +kernel
theorem dX3_addPlace_57 : dcd cX3_addPlace 57 = some (.iload_n 2, 58) := by decide +kernel
theorem dX3_addPlace_58 : dcd cX3_addPlace 58 = some (.iadd, 59) := by decide +kernel
theorem dX3_addPlace_59 : dcd cX3_addPlace 59 = some (.istore 5, 61) := by decide +kernel
theorem dX3_addPlace_61 : dcd cX3_addPlace 61 = some (.aload_n 0, 62) := by decide +kernel
theorem dX3_addPlace_62 : dcd cX3_addPlace 62 = some (.getfield 15, 65) := by decide +kernel
theorem dX3_addPlace_65 : dcd cX3_addPlace 65 = some (.iload 5, 67) := by decide +kernel
theorem dX3_addPlace_67 : dcd cX3_addPlace 67 = some (.iaload, 68) := by decide +kernel
theorem dX3_addPlace_68 : dcd cX3_addPlace 68 = some (.i2l, 69) := by decide +kernel
theorem dX3_addPlace_69 : dcd cX3_addPlace 69 = some (.iload_n 3, 70) := by decide +kernel
theorem dX3_addPlace_70 : dcd cX3_addPlace 70 = some (.i2l, 71) := by decide +kernel
theorem dX3_addPlace_71 : dcd cX3_addPlace 71 = some (.lmul, 72) := by decide +kernel
theorem dX3_addPlace_72 : dcd cX3_addPlace 72 = some (.aload_n 0, 73) := by decide +kernel
theorem dX3_addPlace_73 : dcd cX3_addPlace 73 = some (.getfield 9, 76) := by decide +kernel
theorem dX3_addPlace_76 : dcd cX3_addPlace 76 = some (.iload 5, 78) := by decide +kernel
theorem dX3_addPlace_78 : dcd cX3_addPlace 78 = some (.iaload, 79) := by decide +kernel
theorem dX3_addPlace_79 : dcd cX3_addPlace 79 = some (.i2l, 80) := by decide +kernel
theorem dX3_addPlace_80 : dcd cX3_addPlace 80 = some (.iload 4, 82) := by decide +kernel
theorem dX3_addPlace_82 : dcd cX3_addPlace 82 = some (.i2l, 83) := by decide +kernel
theorem dX3_addPlace_83 : dcd cX3_addPlace 83 = some (.lmul, 84) := by decide +kernel
theorem dX3_addPlace_84 : dcd cX3_addPlace 84 = some (.lsub, 85) := by decide +kernel
theorem dX3_addPlace_85 : dcd cX3_addPlace 85 = some (.lstore 6, 87) := by decide +kernel
theorem dX3_addPlace_87 : dcd cX3_addPlace 87 = some (.aload_n 0, 88) := by decide +kernel
theorem dX3_addPlace_88 : dcd cX3_addPlace 88 = some (.aload_n 0, 89) := by decide +kernel
theorem dX3_addPlace_89 : dcd cX3_addPlace 89 = some (.getfield 26, 92) := by decide +kernel
theorem dX3_addPlace_92 : dcd cX3_addPlace 92 = some (.iload_n 3, 93) := by decide +kernel
theorem dX3_addPlace_93 : dcd cX3_addPlace 93 = some (.i2l, 94) := by decide +kernel
theorem dX3_addPlace_94 : dcd cX3_addPlace 94 = some (.lmul, 95) := by decide +kernel
theorem dX3_addPlace_95 : dcd cX3_addPlace 95 = some (.lload 6, 97) := by decide +kernel
theorem dX3_addPlace_97 : dcd cX3_addPlace 97 = some (.aload_n 0, 98) := by decide +kernel
theorem dX3_addPlace_98 : dcd cX3_addPlace 98 = some (.getfield 18, 101) := by decide +kernel
theorem dX3_addPlace_101 : dcd cX3_addPlace 101 = some (.lmul, 102) := by decide +kernel
theorem dX3_addPlace_102 : dcd cX3_addPlace 102 = some (.ladd, 103) := by decide +kernel
theorem dX3_addPlace_103 : dcd cX3_addPlace 103 = some (.putfield 26, 106) := by decide +kernel
theorem dX3_addPlace_106 : dcd cX3_addPlace 106 = some (.aload_n 0, 107) := by decide +kernel
theorem dX3_addPlace_107 : dcd cX3_addPlace 107 = some (.aload_n 0, 108) := by decide +kernel
theorem dX3_addPlace_108 : dcd cX3_addPlace 108 = some (.getfield 18, 111) := by decide +kernel
theorem dX3_addPlace_111 : dcd cX3_addPlace 111 = some (.iload_n 3, 112) := by decide +kernel
theorem dX3_addPlace_112 : dcd cX3_addPlace 112 = some (.i2l, 113) := by decide +kernel
theorem dX3_addPlace_113 : dcd cX3_addPlace 113 = some (.lmul, 114) := by decide +kernel
theorem dX3_addPlace_114 : dcd cX3_addPlace 114 = some (.putfield 18, 117) := by decide +kernel
theorem dX3_addPlace_117 : dcd cX3_addPlace 117 = some (.aload_n 0, 118) := by decide +kernel
theorem dX3_addPlace_118 : dcd cX3_addPlace 118 = some (.invokevirtual 43, 121) := by decide +kernel
theorem dX3_addPlace_121 : dcd cX3_addPlace 121 = some (.return_, 122) := by decide +kernel
theorem dX3_reduce_0 : dcd cX3_reduce 0 = some (.aload_n 0, 1) := by decide +kernel
theorem dX3_reduce_1 : dcd cX3_reduce 1 = some (.getfield 26, 4) := by decide +kernel
theorem dX3_reduce_4 : dcd cX3_reduce 4 = some (.invokestatic 46, 7) := by decide +kernel
theorem dX3_reduce_7 : dcd cX3_reduce 7 = some (.lstore_n 1, 8) := by decide +kernel
theorem dX3_reduce_8 : dcd cX3_reduce 8 = some (.aload_n 0, 9) := by decide +kernel
theorem dX3_reduce_9 : dcd cX3_reduce 9 = some (.getfield 18, 12) := by decide +kernel
theorem dX3_reduce_12 : dcd cX3_reduce 12 = some (.lstore_n 3, 13) := by decide +kernel
theorem dX3_reduce_13 : dcd cX3_reduce 13 = some (.iconst 0, 14) := by decide +kernel
theorem dX3_reduce_14 : dcd cX3_reduce 14 = some (.istore 5, 16) := by decide +kernel
theorem dX3_reduce_16 : dcd cX3_reduce 16 = some (.iload 5, 18) := by decide +kernel
theorem dX3_reduce_18 : dcd cX3_reduce 18 = some (.bipush 100, 20) := by decide +kernel
theorem dX3_reduce_20 : dcd cX3_reduce 20 = some (.if_icmp .ge 25, 23) := by decide +kernel
theorem dX3_reduce_23 : dcd cX3_reduce 23 = some (.lload_n 3, 24) := by decide +kernel
theorem dX3_reduce_24 : dcd cX3_reduce 24 = some (.lconst 0, 25) := by decide +kernel
theorem dX3_reduce_25 : dcd cX3_reduce 25 = some (.lcmp, 26) := by decide +kernel
theorem dX3_reduce_26 : dcd cX3_reduce 26 = some (.ifCond .eq 19, 29) := by decide +kernel
theorem dX3_reduce_29 : dcd cX3_reduce 29 = some (.lload_n 1, 30) := by decide +kernel
theorem dX3_reduce_30 : dcd cX3_reduce 30 = some (.lload_n 3, 31) := by decide +kernel
theorem dX3_reduce_31 : dcd cX3_reduce 31 = some (.lrem, 32) := by decide +kernel
theorem dX3_reduce_32 : dcd cX3_reduce 32 = some (.lstore 6, 34) := by decide +kernel
theorem dX3_reduce_34 : dcd cX3_reduce 34 = some (.lload_n 3, 35) := by decide +kernel
theorem dX3_reduce_35 : dcd cX3_reduce 35 = some (.lstore_n 1, 36) := by decide +kernel
theorem dX3_reduce_36 : dcd cX3_reduce 36 = some (.lload 6, 38) := by decide +kernel
theorem dX3_reduce_38 : dcd cX3_reduce 38 = some (.lstore_n 3, 39) := by decide +kernel
theorem dX3_reduce_39 : dcd cX3_reduce 39 = some (.iinc 5 1, 42) := by decide +kernel
theorem dX3_reduce_42 : dcd cX3_reduce 42 = some (.goto (-26), 45) := by decide +kernel
theorem dX3_reduce_45 : dcd cX3_reduce 45 = some (.lload_n 1, 46) := by decide +kernel
theorem dX3_reduce_46 : dcd cX3_reduce 46 = some (.lconst 1, 47) := by decide +kernel
theorem dX3_reduce_47 : dcd cX3_reduce 47 = some (.lcmp, 48) := by decide +kernel
theorem dX3_reduce_48 : dcd cX3_reduce 48 = some (.ifCond .le 23, 51) := by decide +kernel
theorem dX3_reduce_51 : dcd cX3_reduce 51 = some (.aload_n 0, 52) := by decide +kernel
theorem dX3_reduce_52 : dcd cX3_reduce 52 = some (.dup, 53) := by decide +kernel
theorem dX3_reduce_53 : dcd cX3_reduce 53 = some (.getfield 26, 56) := by decide +kernel
theorem dX3_reduce_56 : dcd cX3_reduce 56 = some (.lload_n 1, 57) := by decide +kernel
theorem dX3_reduce_57 : dcd cX3_reduce 57 = some (.ldiv, 58) := by decide +kernel
theorem dX3_reduce_58 : dcd cX3_reduce 58 = some (.putfield 26, 61) := by decide +kernel
theorem dX3_reduce_61 : dcd cX3_reduce 61 = some (.aload_n 0, 62) := by decide +kernel
theorem dX3_reduce_62 : dcd cX3_reduce 62 = some (.dup, 63) := by decide +kernel
theorem dX3_reduce_63 : dcd cX3_reduce 63 = some (.getfield 18, 66) := by decide +kernel
theorem dX3_reduce_66 : dcd cX3_reduce 66 = some (.lload_n 1, 67) := by decide +kernel
theorem dX3_reduce_67 : dcd cX3_reduce 67 = some (.ldiv, 68) := by decide +kernel
theorem dX3_reduce_68 : dcd cX3_reduce 68 = some (.putfield 18, 71) := by decide +kernel
theorem dX3_reduce_71 : dcd cX3_reduce 71 = some (.return_, 72) := by decide +kernel
theorem dX4_init_0 : dcd cX4_init 0 = some (.aload_n 0, 1) := by decide +kernel
theorem dX4_init_1 : dcd cX4_init 1 = some (.invokespecial 3, 4) := by decide +kernel
theorem dX4_init_4 : dcd cX4_init 4 = some (.aload_n 0, 5) := by decide +kernel
theorem dX4_init_5 : dcd cX4_init 5 = some (.sipush 400, 8) := by decide +kernel
theorem dX4_init_8 : dcd cX4_init 8 = some (.newarray .char, 10) := by decide +kernel
theorem dX4_init_10 : dcd cX4_init 10 = some (.putfield 9, 13) := by decide +kernel
theorem dX4_init_13 : dcd cX4_init 13 = some (.return_, 14) := by decide +kernel
theorem dX4_append_0 : dcd cX4_append 0 = some (.iload_n 3, 1) := by decide +kernel
theorem dX4_append_1 : dcd cX4_append 1 = some (.iconst 1, 2) := by decide +kernel
theorem dX4_append_2 : dcd cX4_append 2 = some (.isub, 3) := by decide +kernel
theorem dX4_append_3 : dcd cX4_append 3 = some (.istore 4, 5) := by decide +kernel
theorem dX4_append_5 : dcd cX4_append 5 = some (.iload 4, 7) := by decide +kernel
theorem dX4_append_7 : dcd cX4_append 7 = some (.ifCond .lt 51, 10) := by decide +kernel
theorem dX4_append_10 : dcd cX4_append 10 = some (.aload_n 0, 11) := by decide +kernel
theorem dX4_append_11 : dcd cX4_append 11 = some (.getfield 15, 14) := by decide +kernel
theorem dX4_append_14 : dcd cX4_append 14 = some (.sipush 400, 17) := by decide +kernel
theorem dX4_append_17 : dcd cX4_append 17 = some (.if_icmp .ge 41, 20) := by decide +kernel
theorem dX4_append_20 : dcd cX4_append 20 = some (.aload_n 0, 21) := by decide +kernel
theorem dX4_append_21 : dcd cX4_append 21 = some (.getfield 9, 24) := by decide +kernel
theorem dX4_append_24 : dcd cX4_append 24 = some (.aload_n 0, 25) := by decide +kernel
theorem dX4_append_25 : dcd cX4_append 25 = some (.getfield 15, 28) := by decide +kernel
theorem dX4_append_28 : dcd cX4_append 28 = some (.lload_n 1, 29) := by decide +kernel
theorem dX4_append_29 : dcd cX4_append 29 = some (.bipush 8, 31) := by decide +kernel
theorem dX4_append_31 : dcd cX4_append 31 = some (.iload 4, 33) := by decide +kernel
theorem dX4_append_33 : dcd cX4_append 33 = some (.imul, 34) := by decide +kernel
theorem dX4_append_34 : dcd cX4_append 34 = some (.lushr, 35) := by decide +kernel
theorem dX4_append_35 : dcd cX4_append 35 = some (.ldc2_w 19, 38) := by decide +kernel
theorem dX4_append_38 : dcd cX4_append 38 = some (.land, 39) := by decide +kernel
theorem dX4_append_39 : dcd cX4_append 39 = some (.l2i, 40) := by decide +kernel
theorem dX4_append_40 : dcd cX4_append 40 = some (.i2c, 41) := by decide +kernel
theorem dX4_append_41 : dcd cX4_append 41 = some (.castore, 42) := by decide +kernel
theorem dX4_append_42 : dcd cX4_append 42 = some (.aload_n 0, 43) := by decide +kernel
theorem dX4_append_43 : dcd cX4_append 43 = some (.dup, 44) := by decide +kernel
theorem dX4_append_44 : dcd cX4_append 44 = some (.getfield 15, 47) := by decide +kernel
theorem dX4_append_47 : dcd cX4_append 47 = some (.iconst 1, 48) := by decide +kernel
theorem dX4_append_48 : dcd cX4_append 48 = some (.iadd, 49) := by decide +kernel
theorem dX4_append_49 : dcd cX4_append 49 = some (.putfield 15, 52) := by decide +kernel
theorem dX4_append_52 : dcd cX4_append 52 = some (.iinc 4 (-1), 55) := by decide +kernel
theorem dX4_append_55 : dcd cX4_append 55 = some (.goto (-50), 58) := by decide +kernel
theorem dX4_append_58 : dcd cX4_append 58 = some (.return_, 59) := by decide +kernel
theorem dX4_tell_0 : dcd cX4_tell 0 = some (.aload_n 1, 1) := by decide +kernel
theorem dX4_tell_1 : dcd cX4_tell 1 = some (.iconst 0, 2) := by decide +kernel
theorem dX4_tell_2 : dcd cX4_tell 2 = some (.putfield 21, 5) := by decide +kernel
theorem dX4_tell_5 : dcd cX4_tell 5 = some (.aload_n 0, 6) := by decide +kernel
theorem dX4_tell_6 : dcd cX4_tell 6 = some (.iconst 0, 7) := by decide +kernel
theorem dX4_tell_7 : dcd cX4_tell 7 = some (.putfield 26, 10) := by decide +kernel
theorem dX4_tell_10 : dcd cX4_tell 10 = some (.aload_n 0, 11) := by decide +kernel
theorem dX4_tell_11 : dcd cX4_tell 11 = some (.invokevirtual 29, 14) := by decide +kernel
theorem dX4_tell_14 : dcd cX4_tell 14 = some (.iconst 0, 15) := by decide +kernel
theorem dX4_tell_15 : dcd cX4_tell 15 = some (.istore_n 2, 16) := by decide +kernel
theorem dX4_tell_16 : dcd cX4_tell 16 = some (.aload_n 0, 17) := by decide +kernel
theorem dX4_tell_17 : dcd cX4_tell 17 = some (.getfield 32, 20) := by decide +kernel
theorem dX4_tell_20 : dcd cX4_tell 20 = some (.ifCond .eq 71, 23) := by decide +kernel
theorem dX4_tell_23 : dcd cX4_tell 23 = some (.iload_n 2, 24) := by decide +kernel
theorem dX4_tell_24 : dcd cX4_tell 24 = some (.sipush 400, 27) := by decide +kernel
theorem dX4_tell_27 : dcd cX4_tell 27 = some (.if_icmp .ge 64, 30) := by decide +kernel
theorem dX4_tell_30 : dcd cX4_tell 30 = some (.aload_n 0, 31) := by decide +kernel
theorem dX4_tell_31 : dcd cX4_tell 31 = some (.getfield 32, 34) := by decide +kernel
theorem dX4_tell_34 : dcd cX4_tell 34 = some (.iconst 4, 35) := by decide +kernel
theorem dX4_tell_35 : dcd cX4_tell 35 = some (.if_icmp .ne 16, 38) := by decide +kernel
theorem dX4_tell_38 : dcd cX4_tell 38 = some (.aload_n 1, 39) := by decide +kernel
theorem dX4_tell_39 : dcd cX4_tell 39 = some (.getfield 21, 42) := by decide +kernel
theorem dX4_tell_42 : dcd cX4_tell 42 = some (.bipush 9, 44) := by decide +kernel
theorem dX4_tell_44 : dcd cX4_tell 44 = some (.if_icmp .ge 7, 47) := by decide +kernel
theorem dX4_tell_47 : dcd cX4_tell 47 = some (.iconst 1, 48) := by decide +kernel
theorem dX4_tell_48 : dcd cX4_tell 48 = some (.goto 4, 51) := by decide +kernel
theorem dX4_tell_51 : dcd cX4_tell 51 = some (.iconst 0, 52) := by decide +kernel
theorem dX4_tell_52 : dcd cX4_tell 52 = some (.istore_n 3, 53) := by decide +kernel
theorem dX4_tell_53 : dcd cX4_tell 53 = some (.iload_n 3, 54) := by decide +kernel
theorem dX4_tell_54 : dcd cX4_tell 54 = some (.ifCond .eq 11, 57) := by decide +kernel
theorem dX4_tell_57 : dcd cX4_tell 57 = some (.aload_n 0, 58) := by decide +kernel
theorem dX4_tell_58 : dcd cX4_tell 58 = some (.aload_n 1, 59) := by decide +kernel
theorem dX4_tell_59 : dcd cX4_tell 59 = some (.invokevirtual 35, 62) := by decide +kernel
theorem dX4_tell_62 : dcd cX4_tell 62 = some (.goto 8, 65) := by decide +kernel
theorem dX4_tell_65 : dcd cX4_tell 65 = some (.aload_n 0, 66) := by decide +kernel
theorem dX4_tell_66 : dcd cX4_tell 66 = some (.aload_n 1, 67) := by decide +kernel
theorem dX4_tell_67 : dcd cX4_tell 67 = some (.invokevirtual 39, 70) := by decide +kernel
theorem dX4_tell_70 : dcd cX4_tell 70 = some (.istore 4, 72) := by decide +kernel
theorem dX4_tell_72 : dcd cX4_tell 72 = some (.iload 4, 74) := by decide +kernel
theorem dX4_tell_74 : dcd cX4_tell 74 = some (.ifCond .ne 11, 77) := by decide +kernel
theorem dX4_tell_77 : dcd cX4_tell 77 = some (.bipush (-10), 79) := by decide +kernel
theorem dX4_tell_79 : dcd cX4_tell 79 = some (.aload_n 0, 80) := by decide +kernel
theorem dX4_tell_80 : dcd cX4_tell 80 = some (.getfield 42, 83) := by decide +kernel
theorem dX4_tell_83 : dcd cX4_tell 83 = some (.isub, 84) := by decide +kernel
theorem dX4_tell_84 : dcd cX4_tell 84 = some (.ireturn, 85) := by decide +kernel
theorem dX4_tell_85 : dcd cX4_tell 85 = some (.iinc 2 1, 88) := by decide +kernel
theorem dX4_tell_88 : dcd cX4_tell 88 = some (.goto (-72), 91) := by decide +kernel
theorem dX4_tell_91 : dcd cX4_tell 91 = some (.iload_n 2, 92) := by decide +kernel
theorem dX4_tell_92 : dcd cX4_tell 92 = some (.ireturn, 93) := by decide +kernel
theorem dX4_tellAct_0 : dcd cX4_tellAct 0 = some (.aload_n 1, 1) := by decide +kernel
theorem dX4_tellAct_1 : dcd cX4_tellAct 1 = some (.getfield 45, 4) := by decide +kernel
theorem dX4_tellAct_4 : dcd cX4_tellAct 4 = some (.aload_n 1, 5) := by decide +kernel
theorem dX4_tellAct_5 : dcd cX4_tellAct 5 = some (.getfield 21, 8) := by decide +kernel
theorem dX4_tellAct_8 : dcd cX4_tellAct 8 = some (.aaload, 9) := by decide +kernel
theorem dX4_tellAct_9 : dcd cX4_tellAct 9 = some (.astore_n 2, 10) := by decide +kernel
theorem dX4_tellAct_10 : dcd cX4_tellAct 10 = some (.aload_n 2, 11) := by decide +kernel
theorem dX4_tellAct_11 : dcd cX4_tellAct 11 = some (.invokevirtual 49, 14) := by decide +kernel
theorem dX4_tellAct_14 : dcd cX4_tellAct 14 = some (.aload_n 0, 15) := by decide +kernel
theorem dX4_tellAct_15 : dcd cX4_tellAct 15 = some (.invokevirtual 29, 18) := by decide +kernel
theorem dX4_tellAct_18 : dcd cX4_tellAct 18 = some (.aload_n 0, 19) := by decide +kernel
theorem dX4_tellAct_19 : dcd cX4_tellAct 19 = some (.aload_n 2, 20) := by decide +kernel
theorem dX4_tellAct_20 : dcd cX4_tellAct 20 = some (.invokevirtual 54, 23) := by decide +kernel
theorem dX4_tellAct_23 : dcd cX4_tellAct 23 = some (.ifCond .eq 11, 26) := by decide +kernel
theorem dX4_tellAct_26 : dcd cX4_tellAct 26 = some (.aload_n 0, 27) := by decide +kernel
theorem dX4_tellAct_27 : dcd cX4_tellAct 27 = some (.aload_n 2, 28) := by decide +kernel
theorem dX4_tellAct_28 : dcd cX4_tellAct 28 = some (.invokevirtual 58, 31) := by decide +kernel
theorem dX4_tellAct_31 : dcd cX4_tellAct 31 = some (.ifCond .ne 5, 34) := by decide +kernel
theorem dX4_tellAct_34 : dcd cX4_tellAct 34 = some (.iconst 0, 35) := by decide +kernel
theorem dX4_tellAct_35 : dcd cX4_tellAct 35 = some (.ireturn, 36) := by decide +kernel
theorem dX4_tellAct_36 : dcd cX4_tellAct 36 = some (.aload_n 0, 37) := by decide +kernel
theorem dX4_tellAct_37 : dcd cX4_tellAct 37 = some (.aload_n 2, 38) := by decide +kernel
theorem dX4_tellAct_38 : dcd cX4_tellAct 38 = some (.invokevirtual 61, 41) := by decide +kernel
theorem dX4_tellAct_41 : dcd cX4_tellAct 41 = some (.aload_n 0, 42) := by decide +kernel
theorem dX4_tellAct_42 : dcd cX4_tellAct 42 = some (.aload_n 2, 43) := by decide +kernel
theorem dX4_tellAct_43 : dcd cX4_tellAct 43 = some (.invokevirtual 65, 46) := by decide +kernel
theorem dX4_tellAct_46 : dcd cX4_tellAct 46 = some (.ifCond .eq 11, 49) := by decide +kernel
theorem dX4_tellAct_49 : dcd cX4_tellAct 49 = some (.aload_n 0, 50) := by decide +kernel
theorem dX4_tellAct_50 : dcd cX4_tellAct 50 = some (.getfield 32, 53) := by decide +kernel
theorem dX4_tellAct_53 : dcd cX4_tellAct 53 = some (.iconst 3, 54) := by decide +kernel
theorem dX4_tellAct_54 : dcd cX4_tellAct 54 = some (.if_icmp .eq 5, 57) := by decide +kernel
theorem dX4_tellAct_57 : dcd cX4_tellAct 57 = some (.iconst 0, 58) := by decide +kernel
theorem dX4_tellAct_58 : dcd cX4_tellAct 58 = some (.ireturn, 59) := by decide +kernel
theorem dX4_tellAct_59 : dcd cX4_tellAct 59 = some (.aload_n 1, 60) := by decide +kernel
theorem dX4_tellAct_60 : dcd cX4_tellAct 60 = some (.dup, 61) := by decide +kernel
theorem dX4_tellAct_61 : dcd cX4_tellAct 61 = some (.getfield 21, 64) := by decide +kernel
theorem dX4_tellAct_64 : dcd cX4_tellAct 64 = some (.iconst 1, 65) := by decide +kernel
theorem dX4_tellAct_65 : dcd cX4_tellAct 65 = some (.iadd, 66) := by decide +kernel
theorem dX4_tellAct_66 : dcd cX4_tellAct 66 = some (.putfield 21, 69) := by decide +kernel
theorem dX4_tellAct_69 : dcd cX4_tellAct 69 = some (.aload_n 0, 70) := by decide +kernel
theorem dX4_tellAct_70 : dcd cX4_tellAct 70 = some (.invokevirtual 29, 73) := by decide +kernel
theorem dX4_tellAct_73 : dcd cX4_tellAct 73 = some (.iconst 1, 74) := by decide +kernel
theorem dX4_tellAct_74 : dcd cX4_tellAct 74 = some (.ireturn, 75) := by decide +kernel
theorem dX4_tellFigures_0 : dcd cX4_tellFigures 0 = some (.aload_n 0, 1) := by decide +kernel
theorem dX4_tellFigures_1 : dcd cX4_tellFigures 1 = some (.iconst 0, 2) := by decide +kernel
theorem dX4_tellFigures_2 : dcd cX4_tellFigures 2 = some (.iconst 5, 3) := by decide +kernel
theorem dX4_tellFigures_3 : dcd cX4_tellFigures 3 = some (.invokevirtual 68, 6) := by decide +kernel
theorem dX4_tellFigures_6 : dcd cX4_tellFigures 6 = some (.ifCond .ne 5, 9) := by decide +kernel
theorem dX4_tellFigures_9 : dcd cX4_tellFigures 9 = some (.iconst 0, 10) := by decide +kernel
theorem dX4_tellFigures_10 : dcd cX4_tellFigures 10 = some (.ireturn, 11) := by decide +kernel
theorem dX4_tellFigures_11 : dcd cX4_tellFigures 11 = some (.aload_n 1, 12) := by decide +kernel
theorem dX4_tellFigures_12 : dcd cX4_tellFigures 12 = some (.aload_n 0, 13) := by decide +kernel
theorem dX4_tellFigures_13 : dcd cX4_tellFigures 13 = some (.getfield 72, 16) := by decide +kernel
theorem dX4_tellFigures_16 : dcd cX4_tellFigures 16 = some (.putfield 75, 19) := by decide +kernel
theorem dX4_tellFigures_19 : dcd cX4_tellFigures 19 = some (.aload_n 0, 20) := by decide +kernel
theorem dX4_tellFigures_20 : dcd cX4_tellFigures 20 = some (.invokevirtual 29, 23) := by decide +kernel
theorem dX4_tellFigures_23 : dcd cX4_tellFigures 23 = some (.aload_n 0, 24) := by decide +kernel
theorem dX4_tellFigures_24 : dcd cX4_tellFigures 24 = some (.iconst 1, 25) := by decide +kernel
theorem dX4_tellFigures_25 : dcd cX4_tellFigures 25 = some (.bipush 30, 27) := by decide +kernel
theorem dX4_tellFigures_27 : dcd cX4_tellFigures 27 = some (.invokevirtual 68, 30) := by decide +kernel
theorem dX4_tellFigures_30 : dcd cX4_tellFigures 30 = some (.ifCond .ne 5, 33) := by decide +kernel
theorem dX4_tellFigures_33 : dcd cX4_tellFigures 33 = some (.iconst 0, 34) := by decide +kernel
theorem dX4_tellFigures_34 : dcd cX4_tellFigures 34 = some (.ireturn, 35) := by decide +kernel
theorem dX4_tellFigures_35 : dcd cX4_tellFigures 35 = some (.aload_n 1, 36) := by decide +kernel
theorem dX4_tellFigures_36 : dcd cX4_tellFigures 36 = some (.aload_n 0, 37) := by decide +kernel
theorem dX4_tellFigures_37 : dcd cX4_tellFigures 37 = some (.getfield 72, 40) := by decide +kernel
theorem dX4_tellFigures_40 : dcd cX4_tellFigures 40 = some (.putfield 78, 43) := by decide +kernel
theorem dX4_tellFigures_43 : dcd cX4_tellFigures 43 = some (.aload_n 0, 44) := by decide +kernel
theorem dX4_tellFigures_44 : dcd cX4_tellFigures 44 = some (.invokevirtual 29, 47) := by decide +kernel
theorem dX4_tellFigures_47 : dcd cX4_tellFigures 47 = some (.aload_n 0, 48) := by decide +kernel
theorem dX4_tellFigures_48 : dcd cX4_tellFigures 48 = some (.iconst 0, 49) := by decide +kernel
theorem dX4_tellFigures_49 : dcd cX4_tellFigures 49 = some (.bipush 30, 51) := by decide +kernel
theorem dX4_tellFigures_51 : dcd cX4_tellFigures 51 = some (.invokevirtual 68, 54) := by decide +kernel
theorem dX4_tellFigures_54 : dcd cX4_tellFigures 54 = some (.ifCond .ne 5, 57) := by decide +kernel
theorem dX4_tellFigures_57 : dcd cX4_tellFigures 57 = some (.iconst 0, 58) := by decide +kernel
theorem dX4_tellFigures_58 : dcd cX4_tellFigures 58 = some (.ireturn, 59) := by decide +kernel
theorem dX4_tellFigures_59 : dcd cX4_tellFigures 59 = some (.aload_n 1, 60) := by decide +kernel
theorem dX4_tellFigures_60 : dcd cX4_tellFigures 60 = some (.aload_n 0, 61) := by decide +kernel
theorem dX4_tellFigures_61 : dcd cX4_tellFigures 61 = some (.getfield 72, 64) := by decide +kernel
theorem dX4_tellFigures_64 : dcd cX4_tellFigures 64 = some (.putfield 81, 67) := by decide +kernel
theorem dX4_tellFigures_67 : dcd cX4_tellFigures 67 = some (.aload_n 0, 68) := by decide +kernel
theorem dX4_tellFigures_68 : dcd cX4_tellFigures 68 = some (.invokevirtual 29, 71) := by decide +kernel
theorem dX4_tellFigures_71 : dcd cX4_tellFigures 71 = some (.iconst 1, 72) := by decide +kernel
theorem dX4_tellFigures_72 : dcd cX4_tellFigures 72 = some (.ireturn, 73) := by decide +kernel
theorem dX4_tellStage_0 : dcd cX4_tellStage 0 = some (.aload_n 0, 1) := by decide +kernel
theorem dX4_tellStage_1 : dcd cX4_tellStage 1 = some (.getfield 32, 4) := by decide +kernel
theorem dX4_tellStage_4 : dcd cX4_tellStage 4 = some (.iconst 5, 5) := by decide +kernel
theorem dX4_tellStage_5 : dcd cX4_tellStage 5 = some (.if_icmp .ne 14, 8) := by decide +kernel
theorem dX4_tellStage_8 : dcd cX4_tellStage 8 = some (.aload_n 1, 9) := by decide +kernel
theorem dX4_tellStage_9 : dcd cX4_tellStage 9 = some (.iconst 1, 10) := by decide +kernel
theorem dX4_tellStage_10 : dcd cX4_tellStage 10 = some (.putfield 84, 13) := by decide +kernel
theorem dX4_tellStage_13 : dcd cX4_tellStage 13 = some (.aload_n 0, 14) := by decide +kernel
theorem dX4_tellStage_14 : dcd cX4_tellStage 14 = some (.invokevirtual 29, 17) := by decide +kernel
theorem dX4_tellStage_17 : dcd cX4_tellStage 17 = some (.iconst 1, 18) := by decide +kernel
theorem dX4_tellStage_18 : dcd cX4_tellStage 18 = some (.ireturn, 19) := by decide +kernel
theorem dX4_tellStage_19 : dcd cX4_tellStage 19 = some (.aload_n 0, 20) := by decide +kernel
theorem dX4_tellStage_20 : dcd cX4_tellStage 20 = some (.getfield 32, 23) := by decide +kernel
theorem dX4_tellStage_23 : dcd cX4_tellStage 23 = some (.bipush 6, 25) := by decide +kernel
theorem dX4_tellStage_25 : dcd cX4_tellStage 25 = some (.if_icmp .eq 5, 28) := by decide +kernel
theorem dX4_tellStage_28 : dcd cX4_tellStage 28 = some (.iconst 1, 29) := by decide +kernel
theorem dX4_tellStage_29 : dcd cX4_tellStage 29 = some (.ireturn, 30) := by decide +kernel
theorem dX4_tellStage_30 : dcd cX4_tellStage 30 = some (.aload_n 0, 31) := by decide +kernel
theorem dX4_tellStage_31 : dcd cX4_tellStage 31 = some (.invokevirtual 29, 34) := by decide +kernel
theorem dX4_tellStage_34 : dcd cX4_tellStage 34 = some (.aload_n 0, 35) := by decide +kernel
theorem dX4_tellStage_35 : dcd cX4_tellStage 35 = some (.iconst 0, 36) := by decide +kernel
theorem dX4_tellStage_36 : dcd cX4_tellStage 36 = some (.bipush 9, 38) := by decide +kernel
theorem dX4_tellStage_38 : dcd cX4_tellStage 38 = some (.invokevirtual 68, 41) := by decide +kernel
theorem dX4_tellStage_41 : dcd cX4_tellStage 41 = some (.ifCond .ne 5, 44) := by decide +kernel
theorem dX4_tellStage_44 : dcd cX4_tellStage 44 = some (.iconst 0, 45) := by decide +kernel
theorem dX4_tellStage_45 : dcd cX4_tellStage 45 = some (.ireturn, 46) := by decide +kernel
theorem dX4_tellStage_46 : dcd cX4_tellStage 46 = some (.aload_n 1, 47) := by decide +kernel
theorem dX4_tellStage_47 : dcd cX4_tellStage 47 = some (.aload_n 0, 48) := by decide +kernel
theorem dX4_tellStage_48 : dcd cX4_tellStage 48 = some (.getfield 72, 51) := by decide +kernel
theorem dX4_tellStage_51 : dcd cX4_tellStage 51 = some (.putfield 88, 54) := by decide +kernel
theorem dX4_tellStage_54 : dcd cX4_tellStage 54 = some (.aload_n 0, 55) := by decide +kernel
theorem dX4_tellStage_55 : dcd cX4_tellStage 55 = some (.invokevirtual 29, 58) := by decide +kernel
theorem dX4_tellStage_58 : dcd cX4_tellStage 58 = some (.aload_n 0, 59) := by decide +kernel
theorem dX4_tellStage_59 : dcd cX4_tellStage 59 = some (.iconst 0, 60) := by decide +kernel
theorem dX4_tellStage_60 : dcd cX4_tellStage 60 = some (.bipush 9, 62) := by decide +kernel
theorem dX4_tellStage_62 : dcd cX4_tellStage 62 = some (.invokevirtual 68, 65) := by decide +kernel
theorem dX4_tellStage_65 : dcd cX4_tellStage 65 = some (.ifCond .ne 5, 68) := by decide +kernel
theorem dX4_tellStage_68 : dcd cX4_tellStage 68 = some (.iconst 0, 69) := by decide +kernel
theorem dX4_tellStage_69 : dcd cX4_tellStage 69 = some (.ireturn, 70) := by decide +kernel
theorem dX4_tellStage_70 : dcd cX4_tellStage 70 = some (.aload_n 1, 71) := by decide +kernel
theorem dX4_tellStage_71 : dcd cX4_tellStage 71 = some (.aload_n 0, 72) := by decide +kernel
theorem dX4_tellStage_72 : dcd cX4_tellStage 72 = some (.getfield 72, 75) := by decide +kernel
theorem dX4_tellStage_75 : dcd cX4_tellStage 75 = some (.putfield 91, 78) := by decide +kernel
theorem dX4_tellStage_78 : dcd cX4_tellStage 78 = some (.aload_n 0, 79) := by decide +kernel
theorem dX4_tellStage_79 : dcd cX4_tellStage 79 = some (.invokevirtual 29, 82) := by decide +kernel
theorem dX4_tellStage_82 : dcd cX4_tellStage 82 = some (.iconst 1, 83) := by decide +kernel
theorem dX4_tellStage_83 : dcd cX4_tellStage 83 = some (.ireturn, 84) := by decide +kernel
theorem dX4_tellTone_0 : dcd cX4_tellTone 0 = some (.aload_n 0, 1) := by decide +kernel
theorem dX4_tellTone_1 : dcd cX4_tellTone 1 = some (.getfield 32, 4) := by decide +kernel
theorem dX4_tellTone_4 : dcd cX4_tellTone 4 = some (.bipush 7, 6) := by decide +kernel
theorem dX4_tellTone_6 : dcd cX4_tellTone 6 = some (.if_icmp .eq 12, 9) := by decide +kernel
theorem dX4_tellTone_9 : dcd cX4_tellTone 9 = some (.aload_n 0, 10) := by decide +kernel
theorem dX4_tellTone_10 : dcd cX4_tellTone 10 = some (.getfield 32, 13) := by decide +kernel
theorem dX4_tellTone_13 : dcd cX4_tellTone 13 = some (.bipush 8, 15) := by decide +kernel
theorem dX4_tellTone_15 : dcd cX4_tellTone 15 = some (.if_icmp .ne 25, 18) := by decide +kernel
theorem dX4_tellTone_18 : dcd cX4_tellTone 18 = some (.aload_n 1, 19) := by decide +kernel
theorem dX4_tellTone_19 : dcd cX4_tellTone 19 = some (.aload_n 0, 20) := by decide +kernel
theorem dX4_tellTone_20 : dcd cX4_tellTone 20 = some (.getfield 32, 23) := by decide +kernel
theorem dX4_tellTone_23 : dcd cX4_tellTone 23 = some (.bipush 7, 25) := by decide +kernel
theorem dX4_tellTone_25 : dcd cX4_tellTone 25 = some (.if_icmp .ne 7, 28) := by decide +kernel
theorem dX4_tellTone_28 : dcd cX4_tellTone 28 = some (.iconst 1, 29) := by decide +kernel
theorem dX4_tellTone_29 : dcd cX4_tellTone 29 = some (.goto 4, 32) := by decide +kernel
theorem dX4_tellTone_32 : dcd cX4_tellTone 32 = some (.iconst 2, 33) := by decide +kernel
theorem dX4_tellTone_33 : dcd cX4_tellTone 33 = some (.putfield 94, 36) := by decide +kernel
theorem dX4_tellTone_36 : dcd cX4_tellTone 36 = some (.aload_n 0, 37) := by decide +kernel
theorem dX4_tellTone_37 : dcd cX4_tellTone 37 = some (.invokevirtual 29, 40) := by decide +kernel
theorem dX4_tellTone_40 : dcd cX4_tellTone 40 = some (.return_, 41) := by decide +kernel
theorem dX4_tellTrain_0 : dcd cX4_tellTrain 0 = some (.aload_n 0, 1) := by decide +kernel
theorem dX4_tellTrain_1 : dcd cX4_tellTrain 1 = some (.getfield 32, 4) := by decide +kernel
theorem dX4_tellTrain_4 : dcd cX4_tellTrain 4 = some (.bipush 9, 6) := by decide +kernel
theorem dX4_tellTrain_6 : dcd cX4_tellTrain 6 = some (.if_icmp .eq 5, 9) := by decide +kernel
theorem dX4_tellTrain_9 : dcd cX4_tellTrain 9 = some (.iconst 1, 10) := by decide +kernel
theorem dX4_tellTrain_10 : dcd cX4_tellTrain 10 = some (.ireturn, 11) := by decide +kernel
theorem dX4_tellTrain_11 : dcd cX4_tellTrain 11 = some (.aload_n 0, 12) := by decide +kernel
theorem dX4_tellTrain_12 : dcd cX4_tellTrain 12 = some (.invokevirtual 29, 15) := by decide +kernel
theorem dX4_tellTrain_15 : dcd cX4_tellTrain 15 = some (.aload_n 0, 16) := by decide +kernel
theorem dX4_tellTrain_16 : dcd cX4_tellTrain 16 = some (.iconst 1, 17) := by decide +kernel
theorem dX4_tellTrain_17 : dcd cX4_tellTrain 17 = some (.sipush 250, 20) := by decide +kernel
theorem dX4_tellTrain_20 : dcd cX4_tellTrain 20 = some (.invokevirtual 68, 23) := by decide +kernel
theorem dX4_tellTrain_23 : dcd cX4_tellTrain 23 = some (.ifCond .ne 5, 26) := by decide +kernel
theorem dX4_tellTrain_26 : dcd cX4_tellTrain 26 = some (.iconst 0, 27) := by decide +kernel
theorem dX4_tellTrain_27 : dcd cX4_tellTrain 27 = some (.ireturn, 28) := by decide +kernel
theorem dX4_tellTrain_28 : dcd cX4_tellTrain 28 = some (.aload_n 1, 29) := by decide +kernel
theorem dX4_tellTrain_29 : dcd cX4_tellTrain 29 = some (.aload_n 0, 30) := by decide +kernel
theorem dX4_tellTrain_30 : dcd cX4_tellTrain 30 = some (.getfield 72, 33) := by decide +kernel
theorem dX4_tellTrain_33 : dcd cX4_tellTrain 33 = some (.putfield 97, 36) := by decide +kernel
theorem dX4_tellTrain_36 : dcd cX4_tellTrain 36 = some (.aload_n 0, 37) := by decide +kernel
theorem dX4_tellTrain_37 : dcd cX4_tellTrain 37 = some (.invokevirtual 29, 40) := by decide +kernel
theorem dX4_tellTrain_40 : dcd cX4_tellTrain 40 = some (.iconst 1, 41) := by decide +kernel
theorem dX4_tellTrain_41 : dcd cX4_tellTrain 41 = some (.ireturn, 42) := by decide +kernel
theorem dX4_tellFeud_0 : dcd cX4_tellFeud 0 = some (.aload_n 0, 1) := by decide +kernel
theorem dX4_tellFeud_1 : dcd cX4_tellFeud 1 = some (.getfield 32, 4) := by decide +kernel
theorem dX4_tellFeud_4 : dcd cX4_tellFeud 4 = some (.bipush 10, 6) := by decide +kernel
theorem dX4_tellFeud_6 : dcd cX4_tellFeud 6 = some (.if_icmp .eq 5, 9) := by decide +kernel
theorem dX4_tellFeud_9 : dcd cX4_tellFeud 9 = some (.iconst 0, 10) := by decide +kernel
theorem dX4_tellFeud_10 : dcd cX4_tellFeud 10 = some (.ireturn, 11) := by decide +kernel
theorem dX4_tellFeud_11 : dcd cX4_tellFeud 11 = some (.aload_n 0, 12) := by decide +kernel
theorem dX4_tellFeud_12 : dcd cX4_tellFeud 12 = some (.invokevirtual 29, 15) := by decide +kernel
theorem dX4_tellFeud_15 : dcd cX4_tellFeud 15 = some (.aload_n 0, 16) := by decide +kernel
theorem dX4_tellFeud_16 : dcd cX4_tellFeud 16 = some (.iconst 0, 17) := by decide +kernel
theorem dX4_tellFeud_17 : dcd cX4_tellFeud 17 = some (.aload_n 1, 18) := by decide +kernel
theorem dX4_tellFeud_18 : dcd cX4_tellFeud 18 = some (.getfield 21, 21) := by decide +kernel
theorem dX4_tellFeud_21 : dcd cX4_tellFeud 21 = some (.iconst 1, 22) := by decide +kernel
theorem dX4_tellFeud_22 : dcd cX4_tellFeud 22 = some (.isub, 23) := by decide +kernel
theorem dX4_tellFeud_23 : dcd cX4_tellFeud 23 = some (.invokevirtual 68, 26) := by decide +kernel
theorem dX4_tellFeud_26 : dcd cX4_tellFeud 26 = some (.ifCond .ne 5, 29) := by decide +kernel
theorem dX4_tellFeud_29 : dcd cX4_tellFeud 29 = some (.iconst 0, 30) := by decide +kernel
theorem dX4_tellFeud_30 : dcd cX4_tellFeud 30 = some (.ireturn, 31) := by decide +kernel
theorem dX4_tellFeud_31 : dcd cX4_tellFeud 31 = some (.aload_n 0, 32) := by decide +kernel
theorem dX4_tellFeud_32 : dcd cX4_tellFeud 32 = some (.getfield 72, 35) := by decide +kernel
theorem dX4_tellFeud_35 : dcd cX4_tellFeud 35 = some (.istore_n 2, 36) := by decide +kernel
theorem dX4_tellFeud_36 : dcd cX4_tellFeud 36 = some (.aload_n 0, 37) := by decide +kernel
theorem dX4_tellFeud_37 : dcd cX4_tellFeud 37 = some (.invokevirtual 29, 40) := by decide +kernel
theorem dX4_tellFeud_40 : dcd cX4_tellFeud 40 = some (.aload_n 0, 41) := by decide +kernel
theorem dX4_tellFeud_41 : dcd cX4_tellFeud 41 = some (.iconst 0, 42) := by decide +kernel
theorem dX4_tellFeud_42 : dcd cX4_tellFeud 42 = some (.aload_n 1, 43) := by decide +kernel
theorem dX4_tellFeud_43 : dcd cX4_tellFeud 43 = some (.getfield 21, 46) := by decide +kernel
theorem dX4_tellFeud_46 : dcd cX4_tellFeud 46 = some (.iconst 1, 47) := by decide +kernel
theorem dX4_tellFeud_47 : dcd cX4_tellFeud 47 = some (.isub, 48) := by decide +kernel
theorem dX4_tellFeud_48 : dcd cX4_tellFeud 48 = some (.invokevirtual 68, 51) := by decide +kernel
theorem dX4_tellFeud_51 : dcd cX4_tellFeud 51 = some (.ifCond .eq 11, 54) := by decide +kernel
theorem dX4_tellFeud_54 : dcd cX4_tellFeud 54 = some (.aload_n 0, 55) := by decide +kernel
theorem dX4_tellFeud_55 : dcd cX4_tellFeud 55 = some (.getfield 72, 58) := by decide +kernel
theorem dX4_tellFeud_58 : dcd cX4_tellFeud 58 = some (.iload_n 2, 59) := by decide +kernel
theorem dX4_tellFeud_59 : dcd cX4_tellFeud 59 = some (.if_icmp .ne 5, 62) := by decide +kernel
theorem dX4_tellFeud_62 : dcd cX4_tellFeud 62 = some (.iconst 0, 63) := by decide +kernel
theorem dX4_tellFeud_63 : dcd cX4_tellFeud 63 = some (.ireturn, 64) := by decide +kernel
theorem dX4_tellFeud_64 : dcd cX4_tellFeud 64 = some (.aload_n 0, 65) := by decide +kernel
theorem dX4_tellFeud_65 : dcd cX4_tellFeud 65 = some (.getfield 72, 68) := by decide +kernel
theorem dX4_tellFeud_68 : dcd cX4_tellFeud 68 = some (.istore_n 3, 69) := by decide +kernel
theorem dX4_tellFeud_69 : dcd cX4_tellFeud 69 = some (.aload_n 0, 70) := by decide +kernel
theorem dX4_tellFeud_70 : dcd cX4_tellFeud 70 = some (.invokevirtual 29, 73) := by decide +kernel
theorem dX4_tellFeud_73 : dcd cX4_tellFeud 73 = some (.aload_n 0, 74) := by decide +kernel
theorem dX4_tellFeud_74 : dcd cX4_tellFeud 74 = some (.getfield 32, 77) := by decide +kernel
theorem dX4_tellFeud_77 : dcd cX4_tellFeud 77 = some (.iconst 3, 78) := by decide +kernel
theorem dX4_tellFeud_78 : dcd cX4_tellFeud 78 = some (.if_icmp .eq 5, 81) := by decide +kernel
theorem dX4_tellFeud_81 : dcd cX4_tellFeud 81 = some (.iconst 0, 82) := by decide +kernel
theorem dX4_tellFeud_82 : dcd cX4_tellFeud 82 = some (.ireturn, 83) := by decide +kernel
theorem dX4_tellFeud_83 : dcd cX4_tellFeud 83 = some (.aload_n 1, 84) := by decide +kernel
theorem dX4_tellFeud_84 : dcd cX4_tellFeud 84 = some (.iload_n 2, 85) := by decide +kernel
theorem dX4_tellFeud_85 : dcd cX4_tellFeud 85 = some (.iload_n 3, 86) := by decide +kernel
theorem dX4_tellFeud_86 : dcd cX4_tellFeud 86 = some (.invokevirtual 100, 89) := by decide +kernel
theorem dX4_tellFeud_89 : dcd cX4_tellFeud 89 = some (.aload_n 0, 90) := by decide +kernel
theorem dX4_tellFeud_90 : dcd cX4_tellFeud 90 = some (.invokevirtual 29, 93) := by decide +kernel
theorem dX4_tellFeud_93 : dcd cX4_tellFeud 93 = some (.iconst 1, 94) := by decide +kernel
theorem dX4_tellFeud_94 : dcd cX4_tellFeud 94 = some (.ireturn, 95) := by decide +kernel
theorem dX4_isNumber_0 : dcd cX4_isNumber 0 = some (.aload_n 0, 1) := by decide +kernel
theorem dX4_isNumber_1 : dcd cX4_isNumber 1 = some (.getfield 32, 4) := by decide +kernel
theorem dX4_isNumber_4 : dcd cX4_isNumber 4 = some (.iconst 2, 5) := by decide +kernel
theorem dX4_isNumber_5 : dcd cX4_isNumber 5 = some (.if_icmp .ne 23, 8) := by decide +kernel
theorem dX4_isNumber_8 : dcd cX4_isNumber 8 = some (.aload_n 0, 9) := by decide +kernel
theorem dX4_isNumber_9 : dcd cX4_isNumber 9 = some (.getfield 72, 12) := by decide +kernel
theorem dX4_isNumber_12 : dcd cX4_isNumber 12 = some (.iload_n 1, 13) := by decide +kernel
theorem dX4_isNumber_13 : dcd cX4_isNumber 13 = some (.if_icmp .lt 15, 16) := by decide +kernel
theorem dX4_isNumber_16 : dcd cX4_isNumber 16 = some (.aload_n 0, 17) := by decide +kernel
theorem dX4_isNumber_17 : dcd cX4_isNumber 17 = some (.getfield 72, 20) := by decide +kernel
theorem dX4_isNumber_20 : dcd cX4_isNumber 20 = some (.iload_n 2, 21) := by decide +kernel
theorem dX4_isNumber_21 : dcd cX4_isNumber 21 = some (.if_icmp .gt 7, 24) := by decide +kernel
theorem dX4_isNumber_24 : dcd cX4_isNumber 24 = some (.iconst 1, 25) := by decide +kernel
theorem dX4_isNumber_25 : dcd cX4_isNumber 25 = some (.goto 4, 28) := by decide +kernel
theorem dX4_isNumber_28 : dcd cX4_isNumber 28 = some (.iconst 0, 29) := by decide +kernel
theorem dX4_isNumber_29 : dcd cX4_isNumber 29 = some (.ireturn, 30) := by decide +kernel
theorem dX4_advance_0 : dcd cX4_advance 0 = some (.aload_n 0, 1) := by decide +kernel
theorem dX4_advance_1 : dcd cX4_advance 1 = some (.getfield 26, 4) := by decide +kernel
theorem dX4_advance_4 : dcd cX4_advance 4 = some (.aload_n 0, 5) := by decide +kernel
theorem dX4_advance_5 : dcd cX4_advance 5 = some (.getfield 15, 8) := by decide +kernel
theorem dX4_advance_8 : dcd cX4_advance 8 = some (.if_icmp .ge 30, 11) := by decide +kernel
theorem dX4_advance_11 : dcd cX4_advance 11 = some (.aload_n 0, 12) := by decide +kernel
theorem dX4_advance_12 : dcd cX4_advance 12 = some (.getfield 9, 15) := by decide +kernel
theorem dX4_advance_15 : dcd cX4_advance 15 = some (.aload_n 0, 16) := by decide +kernel
theorem dX4_advance_16 : dcd cX4_advance 16 = some (.getfield 26, 19) := by decide +kernel
theorem dX4_advance_19 : dcd cX4_advance 19 = some (.caload, 20) := by decide +kernel
theorem dX4_advance_20 : dcd cX4_advance 20 = some (.bipush 32, 22) := by decide +kernel
theorem dX4_advance_22 : dcd cX4_advance 22 = some (.if_icmp .ne 16, 25) := by decide +kernel
theorem dX4_advance_25 : dcd cX4_advance 25 = some (.aload_n 0, 26) := by decide +kernel
theorem dX4_advance_26 : dcd cX4_advance 26 = some (.dup, 27) := by decide +kernel
theorem dX4_advance_27 : dcd cX4_advance 27 = some (.getfield 26, 30) := by decide +kernel
theorem dX4_advance_30 : dcd cX4_advance 30 = some (.iconst 1, 31) := by decide +kernel
theorem dX4_advance_31 : dcd cX4_advance 31 = some (.iadd, 32) := by decide +kernel
theorem dX4_advance_32 : dcd cX4_advance 32 = some (.putfield 26, 35) := by decide +kernel
theorem dX4_advance_35 : dcd cX4_advance 35 = some (.goto (-35), 38) := by decide +kernel
theorem dX4_advance_38 : dcd cX4_advance 38 = some (.aload_n 0, 39) := by decide +kernel
theorem dX4_advance_39 : dcd cX4_advance 39 = some (.aload_n 0, 40) := by decide +kernel
theorem dX4_advance_40 : dcd cX4_advance 40 = some (.getfield 26, 43) := by decide +kernel
theorem dX4_advance_43 : dcd cX4_advance 43 = some (.putfield 42, 46) := by decide +kernel
theorem dX4_advance_46 : dcd cX4_advance 46 = some (.aload_n 0, 47) := by decide +kernel
theorem dX4_advance_47 : dcd cX4_advance 47 = some (.getfield 26, 50) := by decide +kernel
theorem dX4_advance_50 : dcd cX4_advance 50 = some (.aload_n 0, 51) := by decide +kernel
theorem dX4_advance_51 : dcd cX4_advance 51 = some (.getfield 15, 54) := by decide +kernel
theorem dX4_advance_54 : dcd cX4_advance 54 = some (.if_icmp .lt 11, 57) := by decide +kernel
theorem dX4_advance_57 : dcd cX4_advance 57 = some (.aload_n 0, 58) := by decide +kernel
theorem dX4_advance_58 : dcd cX4_advance 58 = some (.iconst 0, 59) := by decide +kernel
theorem dX4_advance_59 : dcd cX4_advance 59 = some (.putfield 32, 62) := by decide +kernel
theorem dX4_advance_62 : dcd cX4_advance 62 = some (.goto 80, 65) := by decide +kernel
theorem dX4_advance_65 : dcd cX4_advance 65 = some (.aload_n 0, 66) := by decide +kernel
theorem dX4_advance_66 : dcd cX4_advance 66 = some (.getfield 9, 69) := by decide +kernel
theorem dX4_advance_69 : dcd cX4_advance 69 = some (.aload_n 0, 70) := by decide +kernel
theorem dX4_advance_70 : dcd cX4_advance 70 = some (.getfield 26, 73) := by decide +kernel
theorem dX4_advance_73 : dcd cX4_advance 73 = some (.caload, 74) := by decide +kernel
theorem dX4_advance_74 : dcd cX4_advance 74 = some (.invokestatic 104, 77) := by decide +kernel
theorem dX4_advance_77 : dcd cX4_advance 77 = some (.ifCond .eq 10, 80) := by decide +kernel
theorem dX4_advance_80 : dcd cX4_advance 80 = some (.aload_n 0, 81) := by decide +kernel
theorem dX4_advance_81 : dcd cX4_advance 81 = some (.invokevirtual 108, 84) := by decide +kernel
theorem dX4_advance_84 : dcd cX4_advance 84 = some (.goto 58, 87) := by decide +kernel
theorem dX4_advance_87 : dcd cX4_advance 87 = some (.aload_n 0, 88) := by decide +kernel
theorem dX4_advance_88 : dcd cX4_advance 88 = some (.getfield 9, 91) := by decide +kernel
theorem dX4_advance_91 : dcd cX4_advance 91 = some (.aload_n 0, 92) := by decide +kernel
theorem dX4_advance_92 : dcd cX4_advance 92 = some (.getfield 26, 95) := by decide +kernel
theorem dX4_advance_95 : dcd cX4_advance 95 = some (.caload, 96) := by decide +kernel
theorem dX4_advance_96 : dcd cX4_advance 96 = some (.invokestatic 111, 99) := by decide +kernel
theorem dX4_advance_99 : dcd cX4_advance 99 = some (.ifCond .eq 10, 102) := by decide +kernel
theorem dX4_advance_102 : dcd cX4_advance 102 = some (.aload_n 0, 103) := by decide +kernel
theorem dX4_advance_103 : dcd cX4_advance 103 = some (.invokevirtual 114, 106) := by decide +kernel
theorem dX4_advance_106 : dcd cX4_advance 106 = some (.goto 36, 109) := by decide +kernel
theorem dX4_advance_109 : dcd cX4_advance 109 = some (.aload_n 0, 110) := by decide +kernel
theorem dX4_advance_110 : dcd cX4_advance 110 = some (.aload_n 0, 111) := by decide +kernel
theorem dX4_advance_111 : dcd cX4_advance 111 = some (.getfield 9, 114) := by decide +kernel
theorem dX4_advance_114 : dcd cX4_advance 114 = some (.aload_n 0, 115) := by decide +kernel
theorem dX4_advance_115 : dcd cX4_advance 115 = some (.getfield 26, 118) := by decide +kernel
theorem dX4_advance_118 : dcd cX4_advance 118 = some (.caload, 119) := by decide +kernel
theorem dX4_advance_119 : dcd cX4_advance 119 = some (.bipush 59, 121) := by decide +kernel
theorem dX4_advance_121 : dcd cX4_advance 121 = some (.if_icmp .ne 7, 124) := by decide +kernel
theorem dX4_advance_124 : dcd cX4_advance 124 = some (.iconst 3, 125) := by decide +kernel
theorem dX4_advance_125 : dcd cX4_advance 125 = some (.goto 4, 128) := by decide +kernel
theorem dX4_advance_128 : dcd cX4_advance 128 = some (.iconst 1, 129) := by decide +kernel
theorem dX4_advance_129 : dcd cX4_advance 129 = some (.putfield 32, 132) := by decide +kernel
theorem dX4_advance_132 : dcd cX4_advance 132 = some (.aload_n 0, 133) := by decide +kernel
theorem dX4_advance_133 : dcd cX4_advance 133 = some (.dup, 134) := by decide +kernel
theorem dX4_advance_134 : dcd cX4_advance 134 = some (.getfield 26, 137) := by decide +kernel
theorem dX4_advance_137 : dcd cX4_advance 137 = some (.iconst 1, 138) := by decide +kernel
theorem dX4_advance_138 : dcd cX4_advance 138 = some (.iadd, 139) := by decide +kernel
theorem dX4_advance_139 : dcd cX4_advance 139 = some (.putfield 26, 142) := by decide +kernel
theorem dX4_advance_142 : dcd cX4_advance 142 = some (.return_, 143) := by decide +kernel
theorem dX4_readWord_0 : dcd cX4_readWord 0 = some (.aload_n 0, 1) := by decide +kernel
theorem dX4_readWord_1 : dcd cX4_readWord 1 = some (.getfield 26, 4) := by decide +kernel
theorem dX4_readWord_4 : dcd cX4_readWord 4 = some (.aload_n 0, 5) := by decide +kernel
theorem dX4_readWord_5 : dcd cX4_readWord 5 = some (.getfield 15, 8) := by decide +kernel
theorem dX4_readWord_8 : dcd cX4_readWord 8 = some (.if_icmp .ge 31, 11) := by decide +kernel
theorem dX4_readWord_11 : dcd cX4_readWord 11 = some (.aload_n 0, 12) := by decide +kernel
theorem dX4_readWord_12 : dcd cX4_readWord 12 = some (.getfield 9, 15) := by decide +kernel
theorem dX4_readWord_15 : dcd cX4_readWord 15 = some (.aload_n 0, 16) := by decide +kernel
theorem dX4_readWord_16 : dcd cX4_readWord 16 = some (.getfield 26, 19) := by decide +kernel
theorem dX4_readWord_19 : dcd cX4_readWord 19 = some (.caload, 20) := by decide +kernel
theorem dX4_readWord_20 : dcd cX4_readWord 20 = some (.invokestatic 104, 23) := by decide +kernel
theorem dX4_readWord_23 : dcd cX4_readWord 23 = some (.ifCond .eq 16, 26) := by decide +kernel
theorem dX4_readWord_26 : dcd cX4_readWord 26 = some (.aload_n 0, 27) := by decide +kernel
theorem dX4_readWord_27 : dcd cX4_readWord 27 = some (.dup, 28) := by decide +kernel
theorem dX4_readWord_28 : dcd cX4_readWord 28 = some (.getfield 26, 31) := by decide +kernel
theorem dX4_readWord_31 : dcd cX4_readWord 31 = some (.iconst 1, 32) := by decide +kernel
theorem dX4_readWord_32 : dcd cX4_readWord 32 = some (.iadd, 33) := by decide +kernel
theorem dX4_readWord_33 : dcd cX4_readWord 33 = some (.putfield 26, 36) := by decide +kernel
theorem dX4_readWord_36 : dcd cX4_readWord 36 = some (.goto (-36), 39) := by decide +kernel
theorem dX4_readWord_39 : dcd cX4_readWord 39 = some (.aload_n 0, 40) := by decide +kernel
theorem dX4_readWord_40 : dcd cX4_readWord 40 = some (.ldc 117, 42) := by decide +kernel
theorem dX4_readWord_42 : dcd cX4_readWord 42 = some (.invokevirtual 119, 45) := by decide +kernel
theorem dX4_readWord_45 : dcd cX4_readWord 45 = some (.ifCond .eq 11, 48) := by decide +kernel
theorem dX4_readWord_48 : dcd cX4_readWord 48 = some (.aload_n 0, 49) := by decide +kernel
theorem dX4_readWord_49 : dcd cX4_readWord 49 = some (.iconst 4, 50) := by decide +kernel
theorem dX4_readWord_50 : dcd cX4_readWord 50 = some (.putfield 32, 53) := by decide +kernel
theorem dX4_readWord_53 : dcd cX4_readWord 53 = some (.goto 111, 56) := by decide +kernel
theorem dX4_readWord_56 : dcd cX4_readWord 56 = some (.aload_n 0, 57) := by decide +kernel
theorem dX4_readWord_57 : dcd cX4_readWord 57 = some (.ldc 123, 59) := by decide +kernel
theorem dX4_readWord_59 : dcd cX4_readWord 59 = some (.invokevirtual 119, 62) := by decide +kernel
theorem dX4_readWord_62 : dcd cX4_readWord 62 = some (.ifCond .eq 11, 65) := by decide +kernel
theorem dX4_readWord_65 : dcd cX4_readWord 65 = some (.aload_n 0, 66) := by decide +kernel
theorem dX4_readWord_66 : dcd cX4_readWord 66 = some (.iconst 5, 67) := by decide +kernel
theorem dX4_readWord_67 : dcd cX4_readWord 67 = some (.putfield 32, 70) := by decide +kernel
theorem dX4_readWord_70 : dcd cX4_readWord 70 = some (.goto 94, 73) := by decide +kernel
theorem dX4_readWord_73 : dcd cX4_readWord 73 = some (.aload_n 0, 74) := by decide +kernel
theorem dX4_readWord_74 : dcd cX4_readWord 74 = some (.ldc 124, 76) := by decide +kernel
theorem dX4_readWord_76 : dcd cX4_readWord 76 = some (.invokevirtual 119, 79) := by decide +kernel
theorem dX4_readWord_79 : dcd cX4_readWord 79 = some (.ifCond .eq 12, 82) := by decide +kernel
theorem dX4_readWord_82 : dcd cX4_readWord 82 = some (.aload_n 0, 83) := by decide +kernel
theorem dX4_readWord_83 : dcd cX4_readWord 83 = some (.bipush 6, 85) := by decide +kernel
theorem dX4_readWord_85 : dcd cX4_readWord 85 = some (.putfield 32, 88) := by decide +kernel
theorem dX4_readWord_88 : dcd cX4_readWord 88 = some (.goto 76, 91) := by decide +kernel
theorem dX4_readWord_91 : dcd cX4_readWord 91 = some (.aload_n 0, 92) := by decide +kernel
theorem dX4_readWord_92 : dcd cX4_readWord 92 = some (.ldc 125, 94) := by decide +kernel
theorem dX4_readWord_94 : dcd cX4_readWord 94 = some (.invokevirtual 119, 97) := by decide +kernel
theorem dX4_readWord_97 : dcd cX4_readWord 97 = some (.ifCond .eq 12, 100) := by decide +kernel
theorem dX4_readWord_100 : dcd cX4_readWord 100 = some (.aload_n 0, 101) := by decide +kernel
theorem dX4_readWord_101 : dcd cX4_readWord 101 = some (.bipush 7, 103) := by decide +kernel
theorem dX4_readWord_103 : dcd cX4_readWord 103 = some (.putfield 32, 106) := by decide +kernel
theorem dX4_readWord_106 : dcd cX4_readWord 106 = some (.goto 58, 109) := by decide +kernel
theorem dX4_readWord_109 : dcd cX4_readWord 109 = some (.aload_n 0, 110) := by decide +kernel
theorem dX4_readWord_110 : dcd cX4_readWord 110 = some (.ldc 127, 112) := by decide +kernel
theorem dX4_readWord_112 : dcd cX4_readWord 112 = some (.invokevirtual 119, 115) := by decide +kernel
theorem dX4_readWord_115 : dcd cX4_readWord 115 = some (.ifCond .eq 12, 118) := by decide +kernel
theorem dX4_readWord_118 : dcd cX4_readWord 118 = some (.aload_n 0, 119) := by decide +kernel
theorem dX4_readWord_119 : dcd cX4_readWord 119 = some (.bipush 8, 121) := by decide +kernel
theorem dX4_readWord_121 : dcd cX4_readWord 121 = some (.putfield 32, 124) := by decide +kernel
theorem dX4_readWord_124 : dcd cX4_readWord 124 = some (.goto 40, 127) := by decide +kernel
theorem dX4_readWord_127 : dcd cX4_readWord 127 = some (.aload_n 0, 128) := by decide +kernel
theorem dX4_readWord_128 : dcd cX4_readWord 128 = some (.ldc 129, 130) := by decide +kernel
theorem dX4_readWord_130 : dcd cX4_readWord 130 = some (.invokevirtual 119, 133) := by decide +kernel
theorem dX4_readWord_133 : dcd cX4_readWord 133 = some (.ifCond .eq 12, 136) := by decide +kernel
theorem dX4_readWord_136 : dcd cX4_readWord 136 = some (.aload_n 0, 137) := by decide +kernel
theorem dX4_readWord_137 : dcd cX4_readWord 137 = some (.bipush 9, 139) := by decide +kernel
theorem dX4_readWord_139 : dcd cX4_readWord 139 = some (.putfield 32, 142) := by decide +kernel
theorem dX4_readWord_142 : dcd cX4_readWord 142 = some (.goto 22, 145) := by decide +kernel
theorem dX4_readWord_145 : dcd cX4_readWord 145 = some (.aload_n 0, 146) := by decide +kernel
theorem dX4_readWord_146 : dcd cX4_readWord 146 = some (.aload_n 0, 147) := by decide +kernel
theorem dX4_readWord_147 : dcd cX4_readWord 147 = some (.ldc 130, 149) := by decide +kernel
theorem dX4_readWord_149 : dcd cX4_readWord 149 = some (.invokevirtual 119, 152) := by decide +kernel
theorem dX4_readWord_152 : dcd cX4_readWord 152 = some (.ifCond .eq 8, 155) := by decide +kernel
theorem dX4_readWord_155 : dcd cX4_readWord 155 = some (.bipush 10, 157) := by decide +kernel
theorem dX4_readWord_157 : dcd cX4_readWord 157 = some (.goto 4, 160) := by decide +kernel
theorem dX4_readWord_160 : dcd cX4_readWord 160 = some (.iconst 1, 161) := by decide +kernel
theorem dX4_readWord_161 : dcd cX4_readWord 161 = some (.putfield 32, 164) := by decide +kernel
theorem dX4_readWord_164 : dcd cX4_readWord 164 = some (.return_, 165) := by decide +kernel
theorem dX4_spells_0 : dcd cX4_spells 0 = some (.aload_n 0, 1) := by decide +kernel
theorem dX4_spells_1 : dcd cX4_spells 1 = some (.getfield 26, 4) := by decide +kernel
theorem dX4_spells_4 : dcd cX4_spells 4 = some (.aload_n 0, 5) := by decide +kernel
theorem dX4_spells_5 : dcd cX4_spells 5 = some (.getfield 42, 8) := by decide +kernel
theorem dX4_spells_8 : dcd cX4_spells 8 = some (.isub, 9) := by decide +kernel
theorem dX4_spells_9 : dcd cX4_spells 9 = some (.aload_n 1, 10) := by decide +kernel
theorem dX4_spells_10 : dcd cX4_spells 10 = some (.invokevirtual 132, 13) := by decide +kernel
theorem dX4_spells_13 : dcd cX4_spells 13 = some (.if_icmp .eq 5, 16) := by decide +kernel
theorem dX4_spells_16 : dcd cX4_spells 16 = some (.iconst 0, 17) := by decide +kernel
theorem dX4_spells_17 : dcd cX4_spells 17 = some (.ireturn, 18) := by decide +kernel
theorem dX4_spells_18 : dcd cX4_spells 18 = some (.iconst 0, 19) := by decide +kernel
theorem dX4_spells_19 : dcd cX4_spells 19 = some (.istore_n 2, 20) := by decide +kernel
theorem dX4_spells_20 : dcd cX4_spells 20 = some (.iload_n 2, 21) := by decide +kernel
theorem dX4_spells_21 : dcd cX4_spells 21 = some (.aload_n 1, 22) := by decide +kernel
theorem dX4_spells_22 : dcd cX4_spells 22 = some (.invokevirtual 132, 25) := by decide +kernel
theorem dX4_spells_25 : dcd cX4_spells 25 = some (.if_icmp .ge 30, 28) := by decide +kernel
theorem dX4_spells_28 : dcd cX4_spells 28 = some (.aload_n 0, 29) := by decide +kernel
theorem dX4_spells_29 : dcd cX4_spells 29 = some (.getfield 9, 32) := by decide +kernel
theorem dX4_spells_32 : dcd cX4_spells 32 = some (.aload_n 0, 33) := by decide +kernel
theorem dX4_spells_33 : dcd cX4_spells 33 = some (.getfield 42, 36) := by decide +kernel
theorem dX4_spells_36 : dcd cX4_spells 36 = some (.iload_n 2, 37) := by decide +kernel
theorem dX4_spells_37 : dcd cX4_spells 37 = some (.iadd, 38) := by decide +kernel
theorem dX4_spells_38 : dcd cX4_spells 38 = some (.caload, 39) := by decide +kernel
theorem dX4_spells_39 : dcd cX4_spells 39 = some (.aload_n 1, 40) := by decide +kernel
theorem dX4_spells_40 : dcd cX4_spells 40 = some (.iload_n 2, 41) := by decide +kernel
theorem dX4_spells_41 : dcd cX4_spells 41 = some (.invokevirtual 137, 44) := by decide +kernel
theorem dX4_spells_44 : dcd cX4_spells 44 = some (.if_icmp .eq 5, 47) := by decide +kernel
theorem dX4_spells_47 : dcd cX4_spells 47 = some (.iconst 0, 48) := by decide +kernel
theorem dX4_spells_48 : dcd cX4_spells 48 = some (.ireturn, 49) := by decide +kernel
theorem dX4_spells_49 : dcd cX4_spells 49 = some (.iinc 2 1, 52) := by decide +kernel
theorem dX4_spells_52 : dcd cX4_spells 52 = some (.goto (-32), 55) := by decide +kernel
theorem dX4_spells_55 : dcd cX4_spells 55 = some (.iconst 1, 56) := by decide +kernel
theorem dX4_spells_56 : dcd cX4_spells 56 = some (.ireturn, 57) := by decide +kernel
theorem dX4_readNumber_0 : dcd cX4_readNumber 0 = some (.aload_n 0, 1) := by decide +kernel
theorem dX4_readNumber_1 : dcd cX4_readNumber 1 = some (.iconst 0, 2) := by decide +kernel
theorem dX4_readNumber_2 : dcd cX4_readNumber 2 = some (.putfield 72, 5) := by decide +kernel
theorem dX4_readNumber_5 : dcd cX4_readNumber 5 = some (.aload_n 0, 6) := by decide +kernel
theorem dX4_readNumber_6 : dcd cX4_readNumber 6 = some (.getfield 26, 9) := by decide +kernel
theorem dX4_readNumber_9 : dcd cX4_readNumber 9 = some (.aload_n 0, 10) := by decide +kernel
theorem dX4_readNumber_10 : dcd cX4_readNumber 10 = some (.getfield 15, 13) := by decide +kernel
theorem dX4_readNumber_13 : dcd cX4_readNumber 13 = some (.if_icmp .ge 61, 16) := by decide +kernel
theorem dX4_readNumber_16 : dcd cX4_readNumber 16 = some (.aload_n 0, 17) := by decide +kernel
theorem dX4_readNumber_17 : dcd cX4_readNumber 17 = some (.getfield 9, 20) := by decide +kernel
theorem dX4_readNumber_20 : dcd cX4_readNumber 20 = some (.aload_n 0, 21) := by decide +kernel
theorem dX4_readNumber_21 : dcd cX4_readNumber 21 = some (.getfield 26, 24) := by decide +kernel
theorem dX4_readNumber_24 : dcd cX4_readNumber 24 = some (.caload, 25) := by decide +kernel
theorem dX4_readNumber_25 : dcd cX4_readNumber 25 = some (.invokestatic 111, 28) := by decide +kernel
theorem dX4_readNumber_28 : dcd cX4_readNumber 28 = some (.ifCond .eq 46, 31) := by decide +kernel
theorem dX4_readNumber_31 : dcd cX4_readNumber 31 = some (.aload_n 0, 32) := by decide +kernel
theorem dX4_readNumber_32 : dcd cX4_readNumber 32 = some (.aload_n 0, 33) := by decide +kernel
theorem dX4_readNumber_33 : dcd cX4_readNumber 33 = some (.getfield 72, 36) := by decide +kernel
theorem dX4_readNumber_36 : dcd cX4_readNumber 36 = some (.bipush 10, 38) := by decide +kernel
theorem dX4_readNumber_38 : dcd cX4_readNumber 38 = some (.imul, 39) := by decide +kernel
theorem dX4_readNumber_39 : dcd cX4_readNumber 39 = some (.aload_n 0, 40) := by decide +kernel
theorem dX4_readNumber_40 : dcd cX4_readNumber 40 = some (.getfield 9, 43) := by decide +kernel
theorem dX4_readNumber_43 : dcd cX4_readNumber 43 = some (.aload_n 0, 44) := by decide +kernel
theorem dX4_readNumber_44 : dcd cX4_readNumber 44 = some (.getfield 26, 47) := by decide +kernel
theorem dX4_readNumber_47 : dcd cX4_readNumber 47 = some (.caload, 48) := by decide +kernel
theorem dX4_readNumber_48 : dcd cX4_readNumber 48 = some (.bipush 48, 50) := by decide +kernel
theorem dX4_readNumber_50 : dcd cX4_readNumber 50 = some (.isub, 51) := by decide +kernel
theorem dX4_readNumber_51 : dcd cX4_readNumber 51 = some (.iadd, 52) := by decide +kernel
theorem dX4_readNumber_52 : dcd cX4_readNumber 52 = some (.sipush 1000, 55) := by decide +kernel
theorem dX4_readNumber_55 : dcd cX4_readNumber 55 = some (.invokestatic 141, 58) := by decide +kernel
theorem dX4_readNumber_58 : dcd cX4_readNumber 58 = some (.putfield 72, 61) := by decide +kernel
theorem dX4_readNumber_61 : dcd cX4_readNumber 61 = some (.aload_n 0, 62) := by decide +kernel
theorem dX4_readNumber_62 : dcd cX4_readNumber 62 = some (.dup, 63) := by decide +kernel
theorem dX4_readNumber_63 : dcd cX4_readNumber 63 = some (.getfield 26, 66) := by decide +kernel
theorem dX4_readNumber_66 : dcd cX4_readNumber 66 = some (.iconst 1, 67) := by decide +kernel
theorem dX4_readNumber_67 : dcd cX4_readNumber 67 = some (.iadd, 68) := by decide +kernel
theorem dX4_readNumber_68 : dcd cX4_readNumber 68 = some (.putfield 26, 71) := by decide +kernel
theorem dX4_readNumber_71 : dcd cX4_readNumber 71 = some (.goto (-66), 74) := by decide +kernel
theorem dX4_readNumber_74 : dcd cX4_readNumber 74 = some (.aload_n 0, 75) := by decide +kernel
theorem dX4_readNumber_75 : dcd cX4_readNumber 75 = some (.getfield 9, 78) := by decide +kernel
theorem dX4_readNumber_78 : dcd cX4_readNumber 78 = some (.aload_n 0, 79) := by decide +kernel
theorem dX4_readNumber_79 : dcd cX4_readNumber 79 = some (.getfield 42, 82) := by decide +kernel
theorem dX4_readNumber_82 : dcd cX4_readNumber 82 = some (.caload, 83) := by decide +kernel
theorem dX4_readNumber_83 : dcd cX4_readNumber 83 = some (.bipush 48, 85) := by decide +kernel
theorem dX4_readNumber_85 : dcd cX4_readNumber 85 = some (.if_icmp .ne 20, 88) := by decide +kernel
theorem dX4_readNumber_88 : dcd cX4_readNumber 88 = some (.aload_n 0, 89) := by decide +kernel
theorem dX4_readNumber_89 : dcd cX4_readNumber 89 = some (.getfield 26, 92) := by decide +kernel
theorem dX4_readNumber_92 : dcd cX4_readNumber 92 = some (.aload_n 0, 93) := by decide +kernel
theorem dX4_readNumber_93 : dcd cX4_readNumber 93 = some (.getfield 42, 96) := by decide +kernel
theorem dX4_readNumber_96 : dcd cX4_readNumber 96 = some (.isub, 97) := by decide +kernel
theorem dX4_readNumber_97 : dcd cX4_readNumber 97 = some (.iconst 1, 98) := by decide +kernel
theorem dX4_readNumber_98 : dcd cX4_readNumber 98 = some (.if_icmp .le 7, 101) := by decide +kernel
theorem dX4_readNumber_101 : dcd cX4_readNumber 101 = some (.iconst 1, 102) := by decide +kernel
theorem dX4_readNumber_102 : dcd cX4_readNumber 102 = some (.goto 4, 105) := by decide +kernel
theorem dX4_readNumber_105 : dcd cX4_readNumber 105 = some (.iconst 0, 106) := by decide +kernel
theorem dX4_readNumber_106 : dcd cX4_readNumber 106 = some (.istore_n 1, 107) := by decide +kernel
theorem dX4_readNumber_107 : dcd cX4_readNumber 107 = some (.aload_n 0, 108) := by decide +kernel
theorem dX4_readNumber_108 : dcd cX4_readNumber 108 = some (.iload_n 1, 109) := by decide +kernel
theorem dX4_readNumber_109 : dcd cX4_readNumber 109 = some (.ifCond .ne 13, 112) := by decide +kernel
theorem dX4_readNumber_112 : dcd cX4_readNumber 112 = some (.aload_n 0, 113) := by decide +kernel
theorem dX4_readNumber_113 : dcd cX4_readNumber 113 = some (.getfield 72, 116) := by decide +kernel
theorem dX4_readNumber_116 : dcd cX4_readNumber 116 = some (.sipush 250, 119) := by decide +kernel
theorem dX4_readNumber_119 : dcd cX4_readNumber 119 = some (.if_icmp .le 7, 122) := by decide +kernel
theorem dX4_readNumber_122 : dcd cX4_readNumber 122 = some (.iconst 1, 123) := by decide +kernel
theorem dX4_readNumber_123 : dcd cX4_readNumber 123 = some (.goto 4, 126) := by decide +kernel
theorem dX4_readNumber_126 : dcd cX4_readNumber 126 = some (.iconst 2, 127) := by decide +kernel
theorem dX4_readNumber_127 : dcd cX4_readNumber 127 = some (.putfield 32, 130) := by decide +kernel
theorem dX4_readNumber_130 : dcd cX4_readNumber 130 = some (.return_, 131) := by decide +kernel
theorem dX4_isLetter_0 : dcd cX4_isLetter 0 = some (.iload_n 0, 1) := by decide +kernel
theorem dX4_isLetter_1 : dcd cX4_isLetter 1 = some (.bipush 97, 3) := by decide +kernel
theorem dX4_isLetter_3 : dcd cX4_isLetter 3 = some (.if_icmp .lt 13, 6) := by decide +kernel
theorem dX4_isLetter_6 : dcd cX4_isLetter 6 = some (.iload_n 0, 7) := by decide +kernel
theorem dX4_isLetter_7 : dcd cX4_isLetter 7 = some (.bipush 122, 9) := by decide +kernel
theorem dX4_isLetter_9 : dcd cX4_isLetter 9 = some (.if_icmp .gt 7, 12) := by decide +kernel
theorem dX4_isLetter_12 : dcd cX4_isLetter 12 = some (.iconst 1, 13) := by decide +kernel
theorem dX4_isLetter_13 : dcd cX4_isLetter 13 = some (.goto 4, 16) := by decide +kernel
theorem dX4_isLetter_16 : dcd cX4_isLetter 16 = some (.iconst 0, 17) := by decide +kernel
theorem dX4_isLetter_17 : dcd cX4_isLetter 17 = some (.ireturn, 18) := by decide +kernel
theorem dX4_isDigit_0 : dcd cX4_isDigit 0 = some (.iload_n 0, 1) := by decide +kernel
theorem dX4_isDigit_1 : dcd cX4_isDigit 1 = some (.bipush 48, 3) := by decide +kernel
theorem dX4_isDigit_3 : dcd cX4_isDigit 3 = some (.if_icmp .lt 13, 6) := by decide +kernel
theorem dX4_isDigit_6 : dcd cX4_isDigit 6 = some (.iload_n 0, 7) := by decide +kernel
theorem dX4_isDigit_7 : dcd cX4_isDigit 7 = some (.bipush 57, 9) := by decide +kernel
theorem dX4_isDigit_9 : dcd cX4_isDigit 9 = some (.if_icmp .gt 7, 12) := by decide +kernel
theorem dX4_isDigit_12 : dcd cX4_isDigit 12 = some (.iconst 1, 13) := by decide +kernel
theorem dX4_isDigit_13 : dcd cX4_isDigit 13 = some (.goto 4, 16) := by decide +kernel
theorem dX4_isDigit_16 : dcd cX4_isDigit 16 = some (.iconst 0, 17) := by decide +kernel
theorem dX4_isDigit_17 : dcd cX4_isDigit 17 = some (.ireturn, 18) := by decide +kernel
theorem dX5_init_0 : dcd cX5_init 0 = some (.aload_n 0, 1) := by decide +kernel
theorem dX5_init_1 : dcd cX5_init 1 = some (.invokespecial 3, 4) := by decide +kernel
theorem dX5_init_4 : dcd cX5_init 4 = some (.aload_n 0, 5) := by decide +kernel
theorem dX5_init_5 : dcd cX5_init 5 = some (.bipush 7, 7) := by decide +kernel
theorem dX5_init_7 : dcd cX5_init 7 = some (.anewarray 9, 10) := by decide +kernel
theorem dX5_init_10 : dcd cX5_init 10 = some (.putfield 11, 13) := by decide +kernel
theorem dX5_init_13 : dcd cX5_init 13 = some (.new 9, 16) := by decide +kernel
theorem dX5_init_16 : dcd cX5_init 16 = some (.dup, 17) := by decide +kernel
theorem dX5_init_17 : dcd cX5_init 17 = some (.bipush 9, 19) := by decide +kernel
theorem dX5_init_19 : dcd cX5_init 19 = some (.invokespecial 17, 22) := by decide +kernel
theorem dX5_init_22 : dcd cX5_init 22 = some (.astore_n 1, 23) := by decide +kernel
theorem dX5_init_23 : dcd cX5_init 23 = some (.iconst 0, 24) := by decide +kernel
theorem dX5_init_24 : dcd cX5_init 24 = some (.istore_n 2, 25) := by decide +kernel
theorem dX5_init_25 : dcd cX5_init 25 = some (.iload_n 2, 26) := by decide +kernel
theorem dX5_init_26 : dcd cX5_init 26 = some (.bipush 7, 28) := by decide +kernel
theorem dX5_init_28 : dcd cX5_init 28 = some (.if_icmp .ge 16, 31) := by decide +kernel
theorem dX5_init_31 : dcd cX5_init 31 = some (.aload_n 0, 32) := by decide +kernel
theorem dX5_init_32 : dcd cX5_init 32 = some (.getfield 11, 35) := by decide +kernel
theorem dX5_init_35 : dcd cX5_init 35 = some (.iload_n 2, 36) := by decide +kernel
theorem dX5_init_36 : dcd cX5_init 36 = some (.aload_n 1, 37) := by decide +kernel
theorem dX5_init_37 : dcd cX5_init 37 = some (.aastore, 38) := by decide +kernel
theorem dX5_init_38 : dcd cX5_init 38 = some (.iinc 2 1, 41) := by decide +kernel
theorem dX5_init_41 : dcd cX5_init 41 = some (.goto (-16), 44) := by decide +kernel
theorem dX5_init_44 : dcd cX5_init 44 = some (.aload_n 0, 45) := by decide +kernel
theorem dX5_init_45 : dcd cX5_init 45 = some (.bipush 7, 47) := by decide +kernel
theorem dX5_init_47 : dcd cX5_init 47 = some (.newarray .int, 49) := by decide +kernel
theorem dX5_init_49 : dcd cX5_init 49 = some (.putfield 20, 52) := by decide +kernel
theorem dX5_init_52 : dcd cX5_init 52 = some (.return_, 53) := by decide +kernel
theorem dX5_begin_0 : dcd cX5_begin 0 = some (.aload_n 0, 1) := by decide +kernel
theorem dX5_begin_1 : dcd cX5_begin 1 = some (.iload_n 1, 2) := by decide +kernel
theorem dX5_begin_2 : dcd cX5_begin 2 = some (.bipush 7, 4) := by decide +kernel
theorem dX5_begin_4 : dcd cX5_begin 4 = some (.invokestatic 24, 7) := by decide +kernel
theorem dX5_begin_7 : dcd cX5_begin 7 = some (.putfield 30, 10) := by decide +kernel
theorem dX5_begin_10 : dcd cX5_begin 10 = some (.aload_n 0, 11) := by decide +kernel
theorem dX5_begin_11 : dcd cX5_begin 11 = some (.iconst 0, 12) := by decide +kernel
theorem dX5_begin_12 : dcd cX5_begin 12 = some (.putfield 34, 15) := by decide +kernel
theorem dX5_begin_15 : dcd cX5_begin 15 = some (.return_, 16) := by decide +kernel
theorem dX5_run_0 : dcd cX5_run 0 = some (.aload_n 0, 1) := by decide +kernel
theorem dX5_run_1 : dcd cX5_run 1 = some (.aload_n 1, 2) := by decide +kernel
theorem dX5_run_2 : dcd cX5_run 2 = some (.iconst 0, 3) := by decide +kernel
theorem dX5_run_3 : dcd cX5_run 3 = some (.iconst 0, 4) := by decide +kernel
theorem dX5_run_4 : dcd cX5_run 4 = some (.iconst 0, 5) := by decide +kernel
theorem dX5_run_5 : dcd cX5_run 5 = some (.iconst 0, 6) := by decide +kernel
theorem dX5_run_6 : dcd cX5_run 6 = some (.invokevirtual 37, 9) := by decide +kernel
theorem dX5_run_9 : dcd cX5_run 9 = some (.return_, 10) := by decide +kernel
theorem dX5_extend_0 : dcd cX5_extend 0 = some (.iload_n 2, 1) := by decide +kernel
theorem dX5_extend_1 : dcd cX5_extend 1 = some (.aload_n 0, 2) := by decide +kernel
theorem dX5_extend_2 : dcd cX5_extend 2 = some (.getfield 30, 5) := by decide +kernel
theorem dX5_extend_5 : dcd cX5_extend 5 = some (.if_icmp .lt 13, 8) := by decide +kernel
theorem dX5_extend_8 : dcd cX5_extend 8 = some (.aload_n 0, 9) := by decide +kernel
theorem dX5_extend_9 : dcd cX5_extend 9 = some (.aload_n 1, 10) := by decide +kernel
theorem dX5_extend_10 : dcd cX5_extend 10 = some (.iload 4, 12) := by decide +kernel
theorem dX5_extend_12 : dcd cX5_extend 12 = some (.iload 5, 14) := by decide +kernel
theorem dX5_extend_14 : dcd cX5_extend 14 = some (.invokevirtual 41, 17) := by decide +kernel
theorem dX5_extend_17 : dcd cX5_extend 17 = some (.return_, 18) := by decide +kernel
theorem dX5_extend_18 : dcd cX5_extend 18 = some (.iconst 0, 19) := by decide +kernel
theorem dX5_extend_19 : dcd cX5_extend 19 = some (.istore 6, 21) := by decide +kernel
theorem dX5_extend_21 : dcd cX5_extend 21 = some (.iload 6, 23) := by decide +kernel
theorem dX5_extend_23 : dcd cX5_extend 23 = some (.aload_n 0, 24) := by decide +kernel
theorem dX5_extend_24 : dcd cX5_extend 24 = some (.getfield 30, 27) := by decide +kernel
theorem dX5_extend_27 : dcd cX5_extend 27 = some (.if_icmp .ge 31, 30) := by decide +kernel
theorem dX5_extend_30 : dcd cX5_extend 30 = some (.iload_n 3, 31) := by decide +kernel
theorem dX5_extend_31 : dcd cX5_extend 31 = some (.iload 6, 33) := by decide +kernel
theorem dX5_extend_33 : dcd cX5_extend 33 = some (.ishr, 34) := by decide +kernel
theorem dX5_extend_34 : dcd cX5_extend 34 = some (.iconst 1, 35) := by decide +kernel
theorem dX5_extend_35 : dcd cX5_extend 35 = some (.iand, 36) := by decide +kernel
theorem dX5_extend_36 : dcd cX5_extend 36 = some (.ifCond .ne 16, 39) := by decide +kernel
theorem dX5_extend_39 : dcd cX5_extend 39 = some (.aload_n 0, 40) := by decide +kernel
theorem dX5_extend_40 : dcd cX5_extend 40 = some (.aload_n 1, 41) := by decide +kernel
theorem dX5_extend_41 : dcd cX5_extend 41 = some (.iload_n 2, 42) := by decide +kernel
theorem dX5_extend_42 : dcd cX5_extend 42 = some (.iload 6, 44) := by decide +kernel
theorem dX5_extend_44 : dcd cX5_extend 44 = some (.iload_n 3, 45) := by decide +kernel
theorem dX5_extend_45 : dcd cX5_extend 45 = some (.iload 4, 47) := by decide +kernel
theorem dX5_extend_47 : dcd cX5_extend 47 = some (.iload 5, 49) := by decide +kernel
theorem dX5_extend_49 : dcd cX5_extend 49 = some (.invokevirtual 45, 52) := by decide +kernel
theorem dX5_extend_52 : dcd cX5_extend 52 = some (.iinc 6 1, 55) := by decide +kernel
theorem dX5_extend_55 : dcd cX5_extend 55 = some (.goto (-34), 58) := by decide +kernel
theorem dX5_extend_58 : dcd cX5_extend 58 = some (.return_, 59) := by decide +kernel
theorem dX5_attempt_0 : dcd cX5_attempt 0 = some (.aload_n 0, 1) := by decide +kernel
theorem dX5_attempt_1 : dcd cX5_attempt 1 = some (.getfield 11, 4) := by decide +kernel
theorem dX5_attempt_4 : dcd cX5_attempt 4 = some (.iload_n 3, 5) := by decide +kernel
theorem dX5_attempt_5 : dcd cX5_attempt 5 = some (.aaload, 6) := by decide +kernel
theorem dX5_attempt_6 : dcd cX5_attempt 6 = some (.astore 7, 8) := by decide +kernel
theorem dX5_attempt_8 : dcd cX5_attempt 8 = some (.aload_n 1, 9) := by decide +kernel
theorem dX5_attempt_9 : dcd cX5_attempt 9 = some (.iload_n 2, 10) := by decide +kernel
theorem dX5_attempt_10 : dcd cX5_attempt 10 = some (.aload 7, 12) := by decide +kernel
theorem dX5_attempt_12 : dcd cX5_attempt 12 = some (.invokevirtual 49, 15) := by decide +kernel
theorem dX5_attempt_15 : dcd cX5_attempt 15 = some (.aload_n 1, 16) := by decide +kernel
theorem dX5_attempt_16 : dcd cX5_attempt 16 = some (.iload_n 2, 17) := by decide +kernel
theorem dX5_attempt_17 : dcd cX5_attempt 17 = some (.invokevirtual 55, 20) := by decide +kernel
theorem dX5_attempt_20 : dcd cX5_attempt 20 = some (.ifCond .ne 4, 23) := by decide +kernel
theorem dX5_attempt_23 : dcd cX5_attempt 23 = some (.return_, 24) := by decide +kernel
theorem dX5_attempt_24 : dcd cX5_attempt 24 = some (.aload_n 1, 25) := by decide +kernel
theorem dX5_attempt_25 : dcd cX5_attempt 25 = some (.iload_n 2, 26) := by decide +kernel
theorem dX5_attempt_26 : dcd cX5_attempt 26 = some (.iconst 0, 27) := by decide +kernel
theorem dX5_attempt_27 : dcd cX5_attempt 27 = some (.invokevirtual 59, 30) := by decide +kernel
theorem dX5_attempt_30 : dcd cX5_attempt 30 = some (.aload_n 0, 31) := by decide +kernel
theorem dX5_attempt_31 : dcd cX5_attempt 31 = some (.getfield 20, 34) := by decide +kernel
theorem dX5_attempt_34 : dcd cX5_attempt 34 = some (.iload_n 2, 35) := by decide +kernel
theorem dX5_attempt_35 : dcd cX5_attempt 35 = some (.iaload, 36) := by decide +kernel
theorem dX5_attempt_36 : dcd cX5_attempt 36 = some (.bipush (-9), 38) := by decide +kernel
theorem dX5_attempt_38 : dcd cX5_attempt 38 = some (.if_icmp .eq 17, 41) := by decide +kernel
theorem dX5_attempt_41 : dcd cX5_attempt 41 = some (.aload_n 0, 42) := by decide +kernel
theorem dX5_attempt_42 : dcd cX5_attempt 42 = some (.getfield 20, 45) := by decide +kernel
theorem dX5_attempt_45 : dcd cX5_attempt 45 = some (.iload_n 2, 46) := by decide +kernel
theorem dX5_attempt_46 : dcd cX5_attempt 46 = some (.iaload, 47) := by decide +kernel
theorem dX5_attempt_47 : dcd cX5_attempt 47 = some (.aload 7, 49) := by decide +kernel
theorem dX5_attempt_49 : dcd cX5_attempt 49 = some (.getfield 63, 52) := by decide +kernel
theorem dX5_attempt_52 : dcd cX5_attempt 52 = some (.if_icmp .ne 7, 55) := by decide +kernel
theorem dX5_attempt_55 : dcd cX5_attempt 55 = some (.iconst 0, 56) := by decide +kernel
theorem dX5_attempt_56 : dcd cX5_attempt 56 = some (.goto 4, 59) := by decide +kernel
theorem dX5_attempt_59 : dcd cX5_attempt 59 = some (.iconst 1, 60) := by decide +kernel
theorem dX5_attempt_60 : dcd cX5_attempt 60 = some (.istore 8, 62) := by decide +kernel
theorem dX5_attempt_62 : dcd cX5_attempt 62 = some (.aload_n 0, 63) := by decide +kernel
theorem dX5_attempt_63 : dcd cX5_attempt 63 = some (.aload_n 1, 64) := by decide +kernel
theorem dX5_attempt_64 : dcd cX5_attempt 64 = some (.iload_n 2, 65) := by decide +kernel
theorem dX5_attempt_65 : dcd cX5_attempt 65 = some (.iconst 1, 66) := by decide +kernel
theorem dX5_attempt_66 : dcd cX5_attempt 66 = some (.iadd, 67) := by decide +kernel
theorem dX5_attempt_67 : dcd cX5_attempt 67 = some (.iload 4, 69) := by decide +kernel
theorem dX5_attempt_69 : dcd cX5_attempt 69 = some (.iconst 1, 70) := by decide +kernel
theorem dX5_attempt_70 : dcd cX5_attempt 70 = some (.iload_n 3, 71) := by decide +kernel
theorem dX5_attempt_71 : dcd cX5_attempt 71 = some (.ishl, 72) := by decide +kernel
theorem dX5_attempt_72 : dcd cX5_attempt 72 = some (.ior, 73) := by decide +kernel
theorem dX5_attempt_73 : dcd cX5_attempt 73 = some (.iload 5, 75) := by decide +kernel
theorem dX5_attempt_75 : dcd cX5_attempt 75 = some (.iload 8, 77) := by decide +kernel
theorem dX5_attempt_77 : dcd cX5_attempt 77 = some (.iadd, 78) := by decide +kernel
theorem dX5_attempt_78 : dcd cX5_attempt 78 = some (.iload 6, 80) := by decide +kernel
theorem dX5_attempt_80 : dcd cX5_attempt 80 = some (.bipush 10, 82) := by decide +kernel
theorem dX5_attempt_82 : dcd cX5_attempt 82 = some (.imul, 83) := by decide +kernel
theorem dX5_attempt_83 : dcd cX5_attempt 83 = some (.aload 7, 85) := by decide +kernel
theorem dX5_attempt_85 : dcd cX5_attempt 85 = some (.getfield 63, 88) := by decide +kernel
theorem dX5_attempt_88 : dcd cX5_attempt 88 = some (.iadd, 89) := by decide +kernel
theorem dX5_attempt_89 : dcd cX5_attempt 89 = some (.invokevirtual 37, 92) := by decide +kernel
theorem dX5_attempt_92 : dcd cX5_attempt 92 = some (.return_, 93) := by decide +kernel
theorem dX5_weigh_0 : dcd cX5_weigh 0 = some (.aload_n 1, 1) := by decide +kernel
theorem dX5_weigh_1 : dcd cX5_weigh 1 = some (.invokevirtual 66, 4) := by decide +kernel
theorem dX5_weigh_4 : dcd cX5_weigh 4 = some (.istore 4, 6) := by decide +kernel
theorem dX5_weigh_6 : dcd cX5_weigh 6 = some (.aload_n 0, 7) := by decide +kernel
theorem dX5_weigh_7 : dcd cX5_weigh 7 = some (.getfield 34, 10) := by decide +kernel
theorem dX5_weigh_10 : dcd cX5_weigh 10 = some (.ifCond .eq 14, 13) := by decide +kernel
theorem dX5_weigh_13 : dcd cX5_weigh 13 = some (.aload_n 0, 14) := by decide +kernel
theorem dX5_weigh_14 : dcd cX5_weigh 14 = some (.iload_n 2, 15) := by decide +kernel
theorem dX5_weigh_15 : dcd cX5_weigh 15 = some (.iload 4, 17) := by decide +kernel
theorem dX5_weigh_17 : dcd cX5_weigh 17 = some (.iload_n 3, 18) := by decide +kernel
theorem dX5_weigh_18 : dcd cX5_weigh 18 = some (.invokevirtual 70, 21) := by decide +kernel
theorem dX5_weigh_21 : dcd cX5_weigh 21 = some (.ifCond .eq 27, 24) := by decide +kernel
theorem dX5_weigh_24 : dcd cX5_weigh 24 = some (.aload_n 0, 25) := by decide +kernel
theorem dX5_weigh_25 : dcd cX5_weigh 25 = some (.iload_n 2, 26) := by decide +kernel
theorem dX5_weigh_26 : dcd cX5_weigh 26 = some (.putfield 74, 29) := by decide +kernel
theorem dX5_weigh_29 : dcd cX5_weigh 29 = some (.aload_n 0, 30) := by decide +kernel
theorem dX5_weigh_30 : dcd cX5_weigh 30 = some (.iload 4, 32) := by decide +kernel
theorem dX5_weigh_32 : dcd cX5_weigh 32 = some (.putfield 77, 35) := by decide +kernel
theorem dX5_weigh_35 : dcd cX5_weigh 35 = some (.aload_n 0, 36) := by decide +kernel
theorem dX5_weigh_36 : dcd cX5_weigh 36 = some (.iload_n 3, 37) := by decide +kernel
theorem dX5_weigh_37 : dcd cX5_weigh 37 = some (.putfield 79, 40) := by decide +kernel
theorem dX5_weigh_40 : dcd cX5_weigh 40 = some (.aload_n 0, 41) := by decide +kernel
theorem dX5_weigh_41 : dcd cX5_weigh 41 = some (.aload_n 1, 42) := by decide +kernel
theorem dX5_weigh_42 : dcd cX5_weigh 42 = some (.getfield 82, 45) := by decide +kernel
theorem dX5_weigh_45 : dcd cX5_weigh 45 = some (.putfield 85, 48) := by decide +kernel
theorem dX5_weigh_48 : dcd cX5_weigh 48 = some (.aload_n 0, 49) := by decide +kernel
theorem dX5_weigh_49 : dcd cX5_weigh 49 = some (.dup, 50) := by decide +kernel
theorem dX5_weigh_50 : dcd cX5_weigh 50 = some (.getfield 34, 53) := by decide +kernel
theorem dX5_weigh_53 : dcd cX5_weigh 53 = some (.iconst 1, 54) := by decide +kernel
theorem dX5_weigh_54 : dcd cX5_weigh 54 = some (.iadd, 55) := by decide +kernel
theorem dX5_weigh_55 : dcd cX5_weigh 55 = some (.putfield 34, 58) := by decide +kernel
theorem dX5_weigh_58 : dcd cX5_weigh 58 = some (.return_, 59) := by decide +kernel
theorem dX5_isBetter_0 : dcd cX5_isBetter 0 = some (.iload_n 1, 1) := by decide +kernel
theorem dX5_isBetter_1 : dcd cX5_isBetter 1 = some (.aload_n 0, 2) := by decide +kernel
theorem dX5_isBetter_2 : dcd cX5_isBetter 2 = some (.getfield 74, 5) := by decide +kernel
theorem dX5_isBetter_5 : dcd cX5_isBetter 5 = some (.if_icmp .eq 17, 8) := by decide +kernel
theorem dX5_isBetter_8 : dcd cX5_isBetter 8 = some (.iload_n 1, 9) := by decide +kernel
theorem dX5_isBetter_9 : dcd cX5_isBetter 9 = some (.aload_n 0, 10) := by decide +kernel
theorem dX5_isBetter_10 : dcd cX5_isBetter 10 = some (.getfield 74, 13) := by decide +kernel
theorem dX5_isBetter_13 : dcd cX5_isBetter 13 = some (.if_icmp .ge 7, 16) := by decide +kernel
theorem dX5_isBetter_16 : dcd cX5_isBetter 16 = some (.iconst 1, 17) := by decide +kernel
theorem dX5_isBetter_17 : dcd cX5_isBetter 17 = some (.goto 4, 20) := by decide +kernel
theorem dX5_isBetter_20 : dcd cX5_isBetter 20 = some (.iconst 0, 21) := by decide +kernel
theorem dX5_isBetter_21 : dcd cX5_isBetter 21 = some (.ireturn, 22) := by decide +kernel
theorem dX5_isBetter_22 : dcd cX5_isBetter 22 = some (.iload_n 2, 23) := by decide +kernel
theorem dX5_isBetter_23 : dcd cX5_isBetter 23 = some (.aload_n 0, 24) := by decide +kernel
theorem dX5_isBetter_24 : dcd cX5_isBetter 24 = some (.getfield 77, 27) := by decide +kernel
theorem dX5_isBetter_27 : dcd cX5_isBetter 27 = some (.if_icmp .eq 17, 30) := by decide +kernel
theorem dX5_isBetter_30 : dcd cX5_isBetter 30 = some (.iload_n 2, 31) := by decide +kernel
theorem dX5_isBetter_31 : dcd cX5_isBetter 31 = some (.aload_n 0, 32) := by decide +kernel
theorem dX5_isBetter_32 : dcd cX5_isBetter 32 = some (.getfield 77, 35) := by decide +kernel
theorem dX5_isBetter_35 : dcd cX5_isBetter 35 = some (.if_icmp .le 7, 38) := by decide +kernel
theorem dX5_isBetter_38 : dcd cX5_isBetter 38 = some (.iconst 1, 39) := by decide +kernel
theorem dX5_isBetter_39 : dcd cX5_isBetter 39 = some (.goto 4, 42) := by decide +kernel
theorem dX5_isBetter_42 : dcd cX5_isBetter 42 = some (.iconst 0, 43) := by decide +kernel
theorem dX5_isBetter_43 : dcd cX5_isBetter 43 = some (.ireturn, 44) := by decide +kernel
theorem dX5_isBetter_44 : dcd cX5_isBetter 44 = some (.iload_n 3, 45) := by decide +kernel
theorem dX5_isBetter_45 : dcd cX5_isBetter 45 = some (.aload_n 0, 46) := by decide +kernel
theorem dX5_isBetter_46 : dcd cX5_isBetter 46 = some (.getfield 79, 49) := by decide +kernel
theorem dX5_isBetter_49 : dcd cX5_isBetter 49 = some (.if_icmp .ge 7, 52) := by decide +kernel
theorem dX5_isBetter_52 : dcd cX5_isBetter 52 = some (.iconst 1, 53) := by decide +kernel
theorem dX5_isBetter_53 : dcd cX5_isBetter 53 = some (.goto 4, 56) := by decide +kernel
theorem dX5_isBetter_56 : dcd cX5_isBetter 56 = some (.iconst 0, 57) := by decide +kernel
theorem dX5_isBetter_57 : dcd cX5_isBetter 57 = some (.ireturn, 58) := by decide +kernel
theorem dX6_init_0 : dcd cX6_init 0 = some (.aload_n 0, 1) := by decide +kernel
theorem dX6_init_1 : dcd cX6_init 1 = some (.invokespecial 3, 4) := by decide +kernel
theorem dX6_init_4 : dcd cX6_init 4 = some (.aload_n 0, 5) := by decide +kernel
theorem dX6_init_5 : dcd cX6_init 5 = some (.getstatic 9, 8) := by decide +kernel
theorem dX6_init_8 : dcd cX6_init 8 = some (.invokevirtual 13, 11) := by decide +kernel
theorem dX6_init_11 : dcd cX6_init 11 = some (.checkcast 14, 14) := by decide +kernel
theorem dX6_init_14 : dcd cX6_init 14 = some (.putfield 18, 17) := by decide +kernel
theorem dX6_init_17 : dcd cX6_init 17 = some (.aload_n 0, 18) := by decide +kernel
theorem dX6_init_18 : dcd cX6_init 18 = some (.bipush 10, 20) := by decide +kernel
theorem dX6_init_20 : dcd cX6_init 20 = some (.anewarray 23, 23) := by decide +kernel
theorem dX6_init_23 : dcd cX6_init 23 = some (.putfield 25, 26) := by decide +kernel
theorem dX6_init_26 : dcd cX6_init 26 = some (.new 23, 29) := by decide +kernel
theorem dX6_init_29 : dcd cX6_init 29 = some (.dup, 30) := by decide +kernel
theorem dX6_init_30 : dcd cX6_init 30 = some (.bipush 9, 32) := by decide +kernel
theorem dX6_init_32 : dcd cX6_init 32 = some (.invokespecial 29, 35) := by decide +kernel
theorem dX6_init_35 : dcd cX6_init 35 = some (.astore_n 1, 36) := by decide +kernel
theorem dX6_init_36 : dcd cX6_init 36 = some (.iconst 0, 37) := by decide +kernel
theorem dX6_init_37 : dcd cX6_init 37 = some (.istore_n 2, 38) := by decide +kernel
theorem dX6_init_38 : dcd cX6_init 38 = some (.iload_n 2, 39) := by decide +kernel
theorem dX6_init_39 : dcd cX6_init 39 = some (.bipush 10, 41) := by decide +kernel
theorem dX6_init_41 : dcd cX6_init 41 = some (.if_icmp .ge 16, 44) := by decide +kernel
theorem dX6_init_44 : dcd cX6_init 44 = some (.aload_n 0, 45) := by decide +kernel
theorem dX6_init_45 : dcd cX6_init 45 = some (.getfield 25, 48) := by decide +kernel
theorem dX6_init_48 : dcd cX6_init 48 = some (.iload_n 2, 49) := by decide +kernel
theorem dX6_init_49 : dcd cX6_init 49 = some (.aload_n 1, 50) := by decide +kernel
theorem dX6_init_50 : dcd cX6_init 50 = some (.aastore, 51) := by decide +kernel
theorem dX6_init_51 : dcd cX6_init 51 = some (.iinc 2 1, 54) := by decide +kernel
theorem dX6_init_54 : dcd cX6_init 54 = some (.goto (-16), 57) := by decide +kernel
theorem dX6_init_57 : dcd cX6_init 57 = some (.aload_n 0, 58) := by decide +kernel
theorem dX6_init_58 : dcd cX6_init 58 = some (.bipush 10, 60) := by decide +kernel
theorem dX6_init_60 : dcd cX6_init 60 = some (.newarray .int, 62) := by decide +kernel
theorem dX6_init_62 : dcd cX6_init 62 = some (.putfield 32, 65) := by decide +kernel
theorem dX6_init_65 : dcd cX6_init 65 = some (.aload_n 0, 66) := by decide +kernel
theorem dX6_init_66 : dcd cX6_init 66 = some (.bipush 10, 68) := by decide +kernel
theorem dX6_init_68 : dcd cX6_init 68 = some (.newarray .int, 70) := by decide +kernel
theorem dX6_init_70 : dcd cX6_init 70 = some (.putfield 35, 73) := by decide +kernel
theorem dX6_init_73 : dcd cX6_init 73 = some (.aload_n 0, 74) := by decide +kernel
theorem dX6_init_74 : dcd cX6_init 74 = some (.bipush 10, 76) := by decide +kernel
theorem dX6_init_76 : dcd cX6_init 76 = some (.newarray .int, 78) := by decide +kernel
theorem dX6_init_78 : dcd cX6_init 78 = some (.putfield 38, 81) := by decide +kernel
theorem dX6_init_81 : dcd cX6_init 81 = some (.aload_n 0, 82) := by decide +kernel
theorem dX6_init_82 : dcd cX6_init 82 = some (.bipush 10, 84) := by decide +kernel
theorem dX6_init_84 : dcd cX6_init 84 = some (.newarray .int, 86) := by decide +kernel
theorem dX6_init_86 : dcd cX6_init 86 = some (.putfield 41, 89) := by decide +kernel
theorem dX6_init_89 : dcd cX6_init 89 = some (.aload_n 0, 90) := by decide +kernel
theorem dX6_init_90 : dcd cX6_init 90 = some (.bipush 10, 92) := by decide +kernel
theorem dX6_init_92 : dcd cX6_init 92 = some (.newarray .int, 94) := by decide +kernel
theorem dX6_init_94 : dcd cX6_init 94 = some (.putfield 44, 97) := by decide +kernel
theorem dX6_init_97 : dcd cX6_init 97 = some (.aload_n 0, 98) := by decide +kernel
theorem dX6_init_98 : dcd cX6_init 98 = some (.bipush 10, 100) := by decide +kernel
theorem dX6_init_100 : dcd cX6_init 100 = some (.newarray .int, 102) := by decide +kernel
theorem dX6_init_102 : dcd cX6_init 102 = some (.putfield 47, 105) := by decide +kernel
theorem dX6_init_105 : dcd cX6_init 105 = some (.aload_n 0, 106) := by decide +kernel
theorem dX6_init_106 : dcd cX6_init 106 = some (.bipush 10, 108) := by decide +kernel
theorem dX6_init_108 : dcd cX6_init 108 = some (.newarray .int, 110) := by decide +kernel
theorem dX6_init_110 : dcd cX6_init 110 = some (.putfield 50, 113) := by decide +kernel
theorem dX6_init_113 : dcd cX6_init 113 = some (.aload_n 0, 114) := by decide +kernel
theorem dX6_init_114 : dcd cX6_init 114 = some (.bipush 10, 116) := by decide +kernel
theorem dX6_init_116 : dcd cX6_init 116 = some (.newarray .int, 118) := by decide +kernel
theorem dX6_init_118 : dcd cX6_init 118 = some (.putfield 53, 121) := by decide +kernel
theorem dX6_init_121 : dcd cX6_init 121 = some (.aload_n 0, 122) := by decide +kernel
theorem dX6_init_122 : dcd cX6_init 122 = some (.bipush 10, 124) := by decide +kernel
theorem dX6_init_124 : dcd cX6_init 124 = some (.newarray .int, 126) := by decide +kernel
theorem dX6_init_126 : dcd cX6_init 126 = some (.putfield 56, 129) := by decide +kernel
theorem dX6_init_129 : dcd cX6_init 129 = some (.return_, 130) := by decide +kernel
theorem dX6_open_0 : dcd cX6_open 0 = some (.aload_n 0, 1) := by decide +kernel
theorem dX6_open_1 : dcd cX6_open 1 = some (.iload_n 1, 2) := by decide +kernel
theorem dX6_open_2 : dcd cX6_open 2 = some (.putfield 59, 5) := by decide +kernel
theorem dX6_open_5 : dcd cX6_open 5 = some (.aload_n 0, 6) := by decide +kernel
theorem dX6_open_6 : dcd cX6_open 6 = some (.iload_n 2, 7) := by decide +kernel
theorem dX6_open_7 : dcd cX6_open 7 = some (.putfield 63, 10) := by decide +kernel
theorem dX6_open_10 : dcd cX6_open 10 = some (.aload_n 0, 11) := by decide +kernel
theorem dX6_open_11 : dcd cX6_open 11 = some (.iconst 0, 12) := by decide +kernel
theorem dX6_open_12 : dcd cX6_open 12 = some (.putfield 66, 15) := by decide +kernel
theorem dX6_open_15 : dcd cX6_open 15 = some (.return_, 16) := by decide +kernel
theorem dX6_seat_0 : dcd cX6_seat 0 = some (.aload_n 0, 1) := by decide +kernel
theorem dX6_seat_1 : dcd cX6_seat 1 = some (.getfield 25, 4) := by decide +kernel
theorem dX6_seat_4 : dcd cX6_seat 4 = some (.iload_n 1, 5) := by decide +kernel
theorem dX6_seat_5 : dcd cX6_seat 5 = some (.aload_n 2, 6) := by decide +kernel
theorem dX6_seat_6 : dcd cX6_seat 6 = some (.aastore, 7) := by decide +kernel
theorem dX6_seat_7 : dcd cX6_seat 7 = some (.iload_n 1, 8) := by decide +kernel
theorem dX6_seat_8 : dcd cX6_seat 8 = some (.ifCond .le 14, 11) := by decide +kernel
theorem dX6_seat_11 : dcd cX6_seat 11 = some (.aload_n 0, 12) := by decide +kernel
theorem dX6_seat_12 : dcd cX6_seat 12 = some (.getfield 38, 15) := by decide +kernel
theorem dX6_seat_15 : dcd cX6_seat 15 = some (.iload_n 1, 16) := by decide +kernel
theorem dX6_seat_16 : dcd cX6_seat 16 = some (.iconst 1, 17) := by decide +kernel
theorem dX6_seat_17 : dcd cX6_seat 17 = some (.isub, 18) := by decide +kernel
theorem dX6_seat_18 : dcd cX6_seat 18 = some (.iaload, 19) := by decide +kernel
theorem dX6_seat_19 : dcd cX6_seat 19 = some (.goto 4, 22) := by decide +kernel
theorem dX6_seat_22 : dcd cX6_seat 22 = some (.iconst 0, 23) := by decide +kernel
theorem dX6_seat_23 : dcd cX6_seat 23 = some (.istore_n 3, 24) := by decide +kernel
theorem dX6_seat_24 : dcd cX6_seat 24 = some (.iload_n 1, 25) := by decide +kernel
theorem dX6_seat_25 : dcd cX6_seat 25 = some (.ifCond .le 14, 28) := by decide +kernel
theorem dX6_seat_28 : dcd cX6_seat 28 = some (.aload_n 0, 29) := by decide +kernel
theorem dX6_seat_29 : dcd cX6_seat 29 = some (.getfield 41, 32) := by decide +kernel
theorem dX6_seat_32 : dcd cX6_seat 32 = some (.iload_n 1, 33) := by decide +kernel
theorem dX6_seat_33 : dcd cX6_seat 33 = some (.iconst 1, 34) := by decide +kernel
theorem dX6_seat_34 : dcd cX6_seat 34 = some (.isub, 35) := by decide +kernel
theorem dX6_seat_35 : dcd cX6_seat 35 = some (.iaload, 36) := by decide +kernel
theorem dX6_seat_36 : dcd cX6_seat 36 = some (.goto 4, 39) := by decide +kernel
theorem dX6_seat_39 : dcd cX6_seat 39 = some (.iconst 0, 40) := by decide +kernel
theorem dX6_seat_40 : dcd cX6_seat 40 = some (.istore 4, 42) := by decide +kernel
theorem dX6_seat_42 : dcd cX6_seat 42 = some (.aload_n 0, 43) := by decide +kernel
theorem dX6_seat_43 : dcd cX6_seat 43 = some (.iload_n 1, 44) := by decide +kernel
theorem dX6_seat_44 : dcd cX6_seat 44 = some (.invokevirtual 69, 47) := by decide +kernel
theorem dX6_seat_47 : dcd cX6_seat 47 = some (.ifCond .eq 23, 50) := by decide +kernel
theorem dX6_seat_50 : dcd cX6_seat 50 = some (.iload_n 3, 51) := by decide +kernel
theorem dX6_seat_51 : dcd cX6_seat 51 = some (.aload_n 0, 52) := by decide +kernel
theorem dX6_seat_52 : dcd cX6_seat 52 = some (.getfield 18, 55) := by decide +kernel
theorem dX6_seat_55 : dcd cX6_seat 55 = some (.iconst 2, 56) := by decide +kernel
theorem dX6_seat_56 : dcd cX6_seat 56 = some (.iaload, 57) := by decide +kernel
theorem dX6_seat_57 : dcd cX6_seat 57 = some (.iadd, 58) := by decide +kernel
theorem dX6_seat_58 : dcd cX6_seat 58 = some (.istore_n 3, 59) := by decide +kernel
theorem dX6_seat_59 : dcd cX6_seat 59 = some (.iload 4, 61) := by decide +kernel
theorem dX6_seat_61 : dcd cX6_seat 61 = some (.aload_n 0, 62) := by decide +kernel
theorem dX6_seat_62 : dcd cX6_seat 62 = some (.getfield 18, 65) := by decide +kernel
theorem dX6_seat_65 : dcd cX6_seat 65 = some (.iconst 2, 66) := by decide +kernel
theorem dX6_seat_66 : dcd cX6_seat 66 = some (.iaload, 67) := by decide +kernel
theorem dX6_seat_67 : dcd cX6_seat 67 = some (.isub, 68) := by decide +kernel
theorem dX6_seat_68 : dcd cX6_seat 68 = some (.istore 4, 70) := by decide +kernel
theorem dX6_seat_70 : dcd cX6_seat 70 = some (.aload_n 0, 71) := by decide +kernel
theorem dX6_seat_71 : dcd cX6_seat 71 = some (.getfield 32, 74) := by decide +kernel
theorem dX6_seat_74 : dcd cX6_seat 74 = some (.iload_n 1, 75) := by decide +kernel
theorem dX6_seat_75 : dcd cX6_seat 75 = some (.aload_n 2, 76) := by decide +kernel
theorem dX6_seat_76 : dcd cX6_seat 76 = some (.getfield 73, 79) := by decide +kernel
theorem dX6_seat_79 : dcd cX6_seat 79 = some (.ifCond .eq 7, 82) := by decide +kernel
theorem dX6_seat_82 : dcd cX6_seat 82 = some (.iconst 0, 83) := by decide +kernel
theorem dX6_seat_83 : dcd cX6_seat 83 = some (.goto 14, 86) := by decide +kernel
theorem dX6_seat_86 : dcd cX6_seat 86 = some (.iconst 0, 87) := by decide +kernel
theorem dX6_seat_87 : dcd cX6_seat 87 = some (.aload_n 2, 88) := by decide +kernel
theorem dX6_seat_88 : dcd cX6_seat 88 = some (.getfield 77, 91) := by decide +kernel
theorem dX6_seat_91 : dcd cX6_seat 91 = some (.iload 4, 93) := by decide +kernel
theorem dX6_seat_93 : dcd cX6_seat 93 = some (.iadd, 94) := by decide +kernel
theorem dX6_seat_94 : dcd cX6_seat 94 = some (.invokestatic 80, 97) := by decide +kernel
theorem dX6_seat_97 : dcd cX6_seat 97 = some (.iastore, 98) := by decide +kernel
theorem dX6_seat_98 : dcd cX6_seat 98 = some (.aload_n 0, 99) := by decide +kernel
theorem dX6_seat_99 : dcd cX6_seat 99 = some (.getfield 35, 102) := by decide +kernel
theorem dX6_seat_102 : dcd cX6_seat 102 = some (.iload_n 1, 103) := by decide +kernel
theorem dX6_seat_103 : dcd cX6_seat 103 = some (.iload_n 3, 104) := by decide +kernel
theorem dX6_seat_104 : dcd cX6_seat 104 = some (.aload_n 0, 105) := by decide +kernel
theorem dX6_seat_105 : dcd cX6_seat 105 = some (.getfield 32, 108) := by decide +kernel
theorem dX6_seat_108 : dcd cX6_seat 108 = some (.iload_n 1, 109) := by decide +kernel
theorem dX6_seat_109 : dcd cX6_seat 109 = some (.iaload, 110) := by decide +kernel
theorem dX6_seat_110 : dcd cX6_seat 110 = some (.iadd, 111) := by decide +kernel
theorem dX6_seat_111 : dcd cX6_seat 111 = some (.iastore, 112) := by decide +kernel
theorem dX6_seat_112 : dcd cX6_seat 112 = some (.aload_n 0, 113) := by decide +kernel
theorem dX6_seat_113 : dcd cX6_seat 113 = some (.getfield 38, 116) := by decide +kernel
theorem dX6_seat_116 : dcd cX6_seat 116 = some (.iload_n 1, 117) := by decide +kernel
theorem dX6_seat_117 : dcd cX6_seat 117 = some (.aload_n 0, 118) := by decide +kernel
theorem dX6_seat_118 : dcd cX6_seat 118 = some (.getfield 35, 121) := by decide +kernel
theorem dX6_seat_121 : dcd cX6_seat 121 = some (.iload_n 1, 122) := by decide +kernel
theorem dX6_seat_122 : dcd cX6_seat 122 = some (.iaload, 123) := by decide +kernel
theorem dX6_seat_123 : dcd cX6_seat 123 = some (.aload_n 2, 124) := by decide +kernel
theorem dX6_seat_124 : dcd cX6_seat 124 = some (.getfield 86, 127) := by decide +kernel
theorem dX6_seat_127 : dcd cX6_seat 127 = some (.iadd, 128) := by decide +kernel
theorem dX6_seat_128 : dcd cX6_seat 128 = some (.iastore, 129) := by decide +kernel
theorem dX6_seat_129 : dcd cX6_seat 129 = some (.aload_n 0, 130) := by decide +kernel
theorem dX6_seat_130 : dcd cX6_seat 130 = some (.getfield 41, 133) := by decide +kernel
theorem dX6_seat_133 : dcd cX6_seat 133 = some (.iload_n 1, 134) := by decide +kernel
theorem dX6_seat_134 : dcd cX6_seat 134 = some (.aload_n 2, 135) := by decide +kernel
theorem dX6_seat_135 : dcd cX6_seat 135 = some (.getfield 73, 138) := by decide +kernel
theorem dX6_seat_138 : dcd cX6_seat 138 = some (.ifCond .eq 13, 141) := by decide +kernel
theorem dX6_seat_141 : dcd cX6_seat 141 = some (.iload 4, 143) := by decide +kernel
theorem dX6_seat_143 : dcd cX6_seat 143 = some (.aload_n 2, 144) := by decide +kernel
theorem dX6_seat_144 : dcd cX6_seat 144 = some (.getfield 86, 147) := by decide +kernel
theorem dX6_seat_147 : dcd cX6_seat 147 = some (.isub, 148) := by decide +kernel
theorem dX6_seat_148 : dcd cX6_seat 148 = some (.goto 7, 151) := by decide +kernel
theorem dX6_seat_151 : dcd cX6_seat 151 = some (.aload_n 2, 152) := by decide +kernel
theorem dX6_seat_152 : dcd cX6_seat 152 = some (.getfield 89, 155) := by decide +kernel
theorem dX6_seat_155 : dcd cX6_seat 155 = some (.iastore, 156) := by decide +kernel
theorem dX6_seat_156 : dcd cX6_seat 156 = some (.return_, 157) := by decide +kernel
theorem dX6_applaud_0 : dcd cX6_applaud 0 = some (.iload_n 1, 1) := by decide +kernel
theorem dX6_applaud_1 : dcd cX6_applaud 1 = some (.ifCond .le 14, 4) := by decide +kernel
theorem dX6_applaud_4 : dcd cX6_applaud 4 = some (.aload_n 0, 5) := by decide +kernel
theorem dX6_applaud_5 : dcd cX6_applaud 5 = some (.getfield 50, 8) := by decide +kernel
theorem dX6_applaud_8 : dcd cX6_applaud 8 = some (.iload_n 1, 9) := by decide +kernel
theorem dX6_applaud_9 : dcd cX6_applaud 9 = some (.iconst 1, 10) := by decide +kernel
theorem dX6_applaud_10 : dcd cX6_applaud 10 = some (.isub, 11) := by decide +kernel
theorem dX6_applaud_11 : dcd cX6_applaud 11 = some (.iaload, 12) := by decide +kernel
theorem dX6_applaud_12 : dcd cX6_applaud 12 = some (.goto 10, 15) := by decide +kernel
theorem dX6_applaud_15 : dcd cX6_applaud 15 = some (.aload_n 0, 16) := by decide +kernel
theorem dX6_applaud_16 : dcd cX6_applaud 16 = some (.getfield 18, 19) := by decide +kernel
theorem dX6_applaud_19 : dcd cX6_applaud 19 = some (.bipush 6, 21) := by decide +kernel
theorem dX6_applaud_21 : dcd cX6_applaud 21 = some (.iaload, 22) := by decide +kernel
theorem dX6_applaud_22 : dcd cX6_applaud 22 = some (.istore_n 3, 23) := by decide +kernel
theorem dX6_applaud_23 : dcd cX6_applaud 23 = some (.iload_n 1, 24) := by decide +kernel
theorem dX6_applaud_24 : dcd cX6_applaud 24 = some (.ifCond .le 14, 27) := by decide +kernel
theorem dX6_applaud_27 : dcd cX6_applaud 27 = some (.aload_n 0, 28) := by decide +kernel
theorem dX6_applaud_28 : dcd cX6_applaud 28 = some (.getfield 53, 31) := by decide +kernel
theorem dX6_applaud_31 : dcd cX6_applaud 31 = some (.iload_n 1, 32) := by decide +kernel
theorem dX6_applaud_32 : dcd cX6_applaud 32 = some (.iconst 1, 33) := by decide +kernel
theorem dX6_applaud_33 : dcd cX6_applaud 33 = some (.isub, 34) := by decide +kernel
theorem dX6_applaud_34 : dcd cX6_applaud 34 = some (.iaload, 35) := by decide +kernel
theorem dX6_applaud_35 : dcd cX6_applaud 35 = some (.goto 10, 38) := by decide +kernel
theorem dX6_applaud_38 : dcd cX6_applaud 38 = some (.aload_n 0, 39) := by decide +kernel
theorem dX6_applaud_39 : dcd cX6_applaud 39 = some (.getfield 18, 42) := by decide +kernel
theorem dX6_applaud_42 : dcd cX6_applaud 42 = some (.bipush 7, 44) := by decide +kernel
theorem dX6_applaud_44 : dcd cX6_applaud 44 = some (.iaload, 45) := by decide +kernel
theorem dX6_applaud_45 : dcd cX6_applaud 45 = some (.istore 4, 47) := by decide +kernel
theorem dX6_applaud_47 : dcd cX6_applaud 47 = some (.aload_n 0, 48) := by decide +kernel
theorem dX6_applaud_48 : dcd cX6_applaud 48 = some (.iload_n 1, 49) := by decide +kernel
theorem dX6_applaud_49 : dcd cX6_applaud 49 = some (.invokevirtual 69, 52) := by decide +kernel
theorem dX6_applaud_52 : dcd cX6_applaud 52 = some (.istore 5, 54) := by decide +kernel
theorem dX6_applaud_54 : dcd cX6_applaud 54 = some (.iload 5, 56) := by decide +kernel
theorem dX6_applaud_56 : dcd cX6_applaud 56 = some (.ifCond .eq 19, 59) := by decide +kernel
theorem dX6_applaud_59 : dcd cX6_applaud 59 = some (.aload_n 0, 60) := by decide +kernel
theorem dX6_applaud_60 : dcd cX6_applaud 60 = some (.iload 4, 62) := by decide +kernel
theorem dX6_applaud_62 : dcd cX6_applaud 62 = some (.iload_n 3, 63) := by decide +kernel
theorem dX6_applaud_63 : dcd cX6_applaud 63 = some (.imul, 64) := by decide +kernel
theorem dX6_applaud_64 : dcd cX6_applaud 64 = some (.sipush 1000, 67) := by decide +kernel
theorem dX6_applaud_67 : dcd cX6_applaud 67 = some (.idiv, 68) := by decide +kernel
theorem dX6_applaud_68 : dcd cX6_applaud 68 = some (.putfield 66, 71) := by decide +kernel
theorem dX6_applaud_71 : dcd cX6_applaud 71 = some (.iload_n 3, 72) := by decide +kernel
theorem dX6_applaud_72 : dcd cX6_applaud 72 = some (.iconst 2, 73) := by decide +kernel
theorem dX6_applaud_73 : dcd cX6_applaud 73 = some (.idiv, 74) := by decide +kernel
theorem dX6_applaud_74 : dcd cX6_applaud 74 = some (.istore_n 3, 75) := by decide +kernel
theorem dX6_applaud_75 : dcd cX6_applaud 75 = some (.iconst 0, 76) := by decide +kernel
theorem dX6_applaud_76 : dcd cX6_applaud 76 = some (.iload_n 3, 77) := by decide +kernel
theorem dX6_applaud_77 : dcd cX6_applaud 77 = some (.aload_n 0, 78) := by decide +kernel
theorem dX6_applaud_78 : dcd cX6_applaud 78 = some (.getfield 18, 81) := by decide +kernel
theorem dX6_applaud_81 : dcd cX6_applaud 81 = some (.iconst 3, 82) := by decide +kernel
theorem dX6_applaud_82 : dcd cX6_applaud 82 = some (.iaload, 83) := by decide +kernel
theorem dX6_applaud_83 : dcd cX6_applaud 83 = some (.aload_n 0, 84) := by decide +kernel
theorem dX6_applaud_84 : dcd cX6_applaud 84 = some (.getfield 32, 87) := by decide +kernel
theorem dX6_applaud_87 : dcd cX6_applaud 87 = some (.iload_n 1, 88) := by decide +kernel
theorem dX6_applaud_88 : dcd cX6_applaud 88 = some (.iaload, 89) := by decide +kernel
theorem dX6_applaud_89 : dcd cX6_applaud 89 = some (.imul, 90) := by decide +kernel
theorem dX6_applaud_90 : dcd cX6_applaud 90 = some (.isub, 91) := by decide +kernel
theorem dX6_applaud_91 : dcd cX6_applaud 91 = some (.invokestatic 80, 94) := by decide +kernel
theorem dX6_applaud_94 : dcd cX6_applaud 94 = some (.istore_n 3, 95) := by decide +kernel
theorem dX6_applaud_95 : dcd cX6_applaud 95 = some (.iload_n 1, 96) := by decide +kernel
theorem dX6_applaud_96 : dcd cX6_applaud 96 = some (.ifCond .le 38, 99) := by decide +kernel
theorem dX6_applaud_99 : dcd cX6_applaud 99 = some (.iload 5, 101) := by decide +kernel
theorem dX6_applaud_101 : dcd cX6_applaud 101 = some (.ifCond .ne 33, 104) := by decide +kernel
theorem dX6_applaud_104 : dcd cX6_applaud 104 = some (.iconst 0, 105) := by decide +kernel
theorem dX6_applaud_105 : dcd cX6_applaud 105 = some (.iload_n 3, 106) := by decide +kernel
theorem dX6_applaud_106 : dcd cX6_applaud 106 = some (.aload_n 0, 107) := by decide +kernel
theorem dX6_applaud_107 : dcd cX6_applaud 107 = some (.getfield 25, 110) := by decide +kernel
theorem dX6_applaud_110 : dcd cX6_applaud 110 = some (.iload_n 1, 111) := by decide +kernel
theorem dX6_applaud_111 : dcd cX6_applaud 111 = some (.iconst 1, 112) := by decide +kernel
theorem dX6_applaud_112 : dcd cX6_applaud 112 = some (.isub, 113) := by decide +kernel
theorem dX6_applaud_113 : dcd cX6_applaud 113 = some (.aaload, 114) := by decide +kernel
theorem dX6_applaud_114 : dcd cX6_applaud 114 = some (.getfield 92, 117) := by decide +kernel
theorem dX6_applaud_117 : dcd cX6_applaud 117 = some (.aload_n 0, 118) := by decide +kernel
theorem dX6_applaud_118 : dcd cX6_applaud 118 = some (.getfield 25, 121) := by decide +kernel
theorem dX6_applaud_121 : dcd cX6_applaud 121 = some (.iload_n 1, 122) := by decide +kernel
theorem dX6_applaud_122 : dcd cX6_applaud 122 = some (.aaload, 123) := by decide +kernel
theorem dX6_applaud_123 : dcd cX6_applaud 123 = some (.getfield 92, 126) := by decide +kernel
theorem dX6_applaud_126 : dcd cX6_applaud 126 = some (.invokestatic 95, 129) := by decide +kernel
theorem dX6_applaud_129 : dcd cX6_applaud 129 = some (.isub, 130) := by decide +kernel
theorem dX6_applaud_130 : dcd cX6_applaud 130 = some (.invokestatic 80, 133) := by decide +kernel
theorem dX6_applaud_133 : dcd cX6_applaud 133 = some (.istore_n 3, 134) := by decide +kernel
theorem dX6_applaud_134 : dcd cX6_applaud 134 = some (.iconst 0, 135) := by decide +kernel
theorem dX6_applaud_135 : dcd cX6_applaud 135 = some (.aload_n 0, 136) := by decide +kernel
theorem dX6_applaud_136 : dcd cX6_applaud 136 = some (.iload_n 1, 137) := by decide +kernel
theorem dX6_applaud_137 : dcd cX6_applaud 137 = some (.iload_n 3, 138) := by decide +kernel
theorem dX6_applaud_138 : dcd cX6_applaud 138 = some (.invokevirtual 98, 141) := by decide +kernel
theorem dX6_applaud_141 : dcd cX6_applaud 141 = some (.iload_n 2, 142) := by decide +kernel
theorem dX6_applaud_142 : dcd cX6_applaud 142 = some (.iadd, 143) := by decide +kernel
theorem dX6_applaud_143 : dcd cX6_applaud 143 = some (.invokestatic 80, 146) := by decide +kernel
theorem dX6_applaud_146 : dcd cX6_applaud 146 = some (.istore 6, 148) := by decide +kernel
theorem dX6_applaud_148 : dcd cX6_applaud 148 = some (.aload_n 0, 149) := by decide +kernel
theorem dX6_applaud_149 : dcd cX6_applaud 149 = some (.getfield 44, 152) := by decide +kernel
theorem dX6_applaud_152 : dcd cX6_applaud 152 = some (.iload_n 1, 153) := by decide +kernel
theorem dX6_applaud_153 : dcd cX6_applaud 153 = some (.iload_n 3, 154) := by decide +kernel
theorem dX6_applaud_154 : dcd cX6_applaud 154 = some (.iastore, 155) := by decide +kernel
theorem dX6_applaud_155 : dcd cX6_applaud 155 = some (.aload_n 0, 156) := by decide +kernel
theorem dX6_applaud_156 : dcd cX6_applaud 156 = some (.getfield 47, 159) := by decide +kernel
theorem dX6_applaud_159 : dcd cX6_applaud 159 = some (.iload_n 1, 160) := by decide +kernel
theorem dX6_applaud_160 : dcd cX6_applaud 160 = some (.iload 6, 162) := by decide +kernel
theorem dX6_applaud_162 : dcd cX6_applaud 162 = some (.iastore, 163) := by decide +kernel
theorem dX6_applaud_163 : dcd cX6_applaud 163 = some (.aload_n 0, 164) := by decide +kernel
theorem dX6_applaud_164 : dcd cX6_applaud 164 = some (.getfield 50, 167) := by decide +kernel
theorem dX6_applaud_167 : dcd cX6_applaud 167 = some (.iload_n 1, 168) := by decide +kernel
theorem dX6_applaud_168 : dcd cX6_applaud 168 = some (.iconst 0, 169) := by decide +kernel
theorem dX6_applaud_169 : dcd cX6_applaud 169 = some (.bipush 100, 171) := by decide +kernel
theorem dX6_applaud_171 : dcd cX6_applaud 171 = some (.iload_n 3, 172) := by decide +kernel
theorem dX6_applaud_172 : dcd cX6_applaud 172 = some (.iload 6, 174) := by decide +kernel
theorem dX6_applaud_174 : dcd cX6_applaud 174 = some (.iadd, 175) := by decide +kernel
theorem dX6_applaud_175 : dcd cX6_applaud 175 = some (.bipush 12, 177) := by decide +kernel
theorem dX6_applaud_177 : dcd cX6_applaud 177 = some (.isub, 178) := by decide +kernel
theorem dX6_applaud_178 : dcd cX6_applaud 178 = some (.invokestatic 101, 181) := by decide +kernel
theorem dX6_applaud_181 : dcd cX6_applaud 181 = some (.invokestatic 80, 184) := by decide +kernel
theorem dX6_applaud_184 : dcd cX6_applaud 184 = some (.iastore, 185) := by decide +kernel
theorem dX6_applaud_185 : dcd cX6_applaud 185 = some (.aload_n 0, 186) := by decide +kernel
theorem dX6_applaud_186 : dcd cX6_applaud 186 = some (.getfield 53, 189) := by decide +kernel
theorem dX6_applaud_189 : dcd cX6_applaud 189 = some (.iload_n 1, 190) := by decide +kernel
theorem dX6_applaud_190 : dcd cX6_applaud 190 = some (.iload 6, 192) := by decide +kernel
theorem dX6_applaud_192 : dcd cX6_applaud 192 = some (.bipush 8, 194) := by decide +kernel
theorem dX6_applaud_194 : dcd cX6_applaud 194 = some (.if_icmp .ge 20, 197) := by decide +kernel
theorem dX6_applaud_197 : dcd cX6_applaud 197 = some (.iload 4, 199) := by decide +kernel
theorem dX6_applaud_199 : dcd cX6_applaud 199 = some (.iload 4, 201) := by decide +kernel
theorem dX6_applaud_201 : dcd cX6_applaud 201 = some (.bipush 8, 203) := by decide +kernel
theorem dX6_applaud_203 : dcd cX6_applaud 203 = some (.iload 6, 205) := by decide +kernel
theorem dX6_applaud_205 : dcd cX6_applaud 205 = some (.isub, 206) := by decide +kernel
theorem dX6_applaud_206 : dcd cX6_applaud 206 = some (.imul, 207) := by decide +kernel
theorem dX6_applaud_207 : dcd cX6_applaud 207 = some (.bipush 100, 209) := by decide +kernel
theorem dX6_applaud_209 : dcd cX6_applaud 209 = some (.idiv, 210) := by decide +kernel
theorem dX6_applaud_210 : dcd cX6_applaud 210 = some (.isub, 211) := by decide +kernel
theorem dX6_applaud_211 : dcd cX6_applaud 211 = some (.goto 5, 214) := by decide +kernel
theorem dX6_applaud_214 : dcd cX6_applaud 214 = some (.iload 4, 216) := by decide +kernel
theorem dX6_applaud_216 : dcd cX6_applaud 216 = some (.iastore, 217) := by decide +kernel
theorem dX6_applaud_217 : dcd cX6_applaud 217 = some (.aload_n 0, 218) := by decide +kernel
theorem dX6_applaud_218 : dcd cX6_applaud 218 = some (.getfield 56, 221) := by decide +kernel
theorem dX6_applaud_221 : dcd cX6_applaud 221 = some (.iload_n 1, 222) := by decide +kernel
theorem dX6_applaud_222 : dcd cX6_applaud 222 = some (.iload 6, 224) := by decide +kernel
theorem dX6_applaud_224 : dcd cX6_applaud 224 = some (.iload_n 1, 225) := by decide +kernel
theorem dX6_applaud_225 : dcd cX6_applaud 225 = some (.ifCond .le 14, 228) := by decide +kernel
theorem dX6_applaud_228 : dcd cX6_applaud 228 = some (.aload_n 0, 229) := by decide +kernel
theorem dX6_applaud_229 : dcd cX6_applaud 229 = some (.getfield 56, 232) := by decide +kernel
theorem dX6_applaud_232 : dcd cX6_applaud 232 = some (.iload_n 1, 233) := by decide +kernel
theorem dX6_applaud_233 : dcd cX6_applaud 233 = some (.iconst 1, 234) := by decide +kernel
theorem dX6_applaud_234 : dcd cX6_applaud 234 = some (.isub, 235) := by decide +kernel
theorem dX6_applaud_235 : dcd cX6_applaud 235 = some (.iaload, 236) := by decide +kernel
theorem dX6_applaud_236 : dcd cX6_applaud 236 = some (.goto 4, 239) := by decide +kernel
theorem dX6_applaud_239 : dcd cX6_applaud 239 = some (.iconst 0, 240) := by decide +kernel
theorem dX6_applaud_240 : dcd cX6_applaud 240 = some (.iadd, 241) := by decide +kernel
theorem dX6_applaud_241 : dcd cX6_applaud 241 = some (.iastore, 242) := by decide +kernel
theorem dX6_applaud_242 : dcd cX6_applaud 242 = some (.return_, 243) := by decide +kernel
theorem dX6_pausesAhead_0 : dcd cX6_pausesAhead 0 = some (.iload_n 1, 1) := by decide +kernel
theorem dX6_pausesAhead_1 : dcd cX6_pausesAhead 1 = some (.ifCond .le 15, 4) := by decide +kernel
theorem dX6_pausesAhead_4 : dcd cX6_pausesAhead 4 = some (.iload_n 1, 5) := by decide +kernel
theorem dX6_pausesAhead_5 : dcd cX6_pausesAhead 5 = some (.aload_n 0, 6) := by decide +kernel
theorem dX6_pausesAhead_6 : dcd cX6_pausesAhead 6 = some (.getfield 63, 9) := by decide +kernel
theorem dX6_pausesAhead_9 : dcd cX6_pausesAhead 9 = some (.if_icmp .ne 7, 12) := by decide +kernel
theorem dX6_pausesAhead_12 : dcd cX6_pausesAhead 12 = some (.iconst 1, 13) := by decide +kernel
theorem dX6_pausesAhead_13 : dcd cX6_pausesAhead 13 = some (.goto 4, 16) := by decide +kernel
theorem dX6_pausesAhead_16 : dcd cX6_pausesAhead 16 = some (.iconst 0, 17) := by decide +kernel
theorem dX6_pausesAhead_17 : dcd cX6_pausesAhead 17 = some (.ireturn, 18) := by decide +kernel
theorem dX6_damping_0 : dcd cX6_damping 0 = some (.iload_n 1, 1) := by decide +kernel
theorem dX6_damping_1 : dcd cX6_damping 1 = some (.iload_n 0, 2) := by decide +kernel
theorem dX6_damping_2 : dcd cX6_damping 2 = some (.if_icmp .ne 10, 5) := by decide +kernel
theorem dX6_damping_5 : dcd cX6_damping 5 = some (.iload_n 1, 6) := by decide +kernel
theorem dX6_damping_6 : dcd cX6_damping 6 = some (.ifCond .eq 6, 9) := by decide +kernel
theorem dX6_damping_9 : dcd cX6_damping 9 = some (.bipush 10, 11) := by decide +kernel
theorem dX6_damping_11 : dcd cX6_damping 11 = some (.ireturn, 12) := by decide +kernel
theorem dX6_damping_12 : dcd cX6_damping 12 = some (.iload_n 1, 13) := by decide +kernel
theorem dX6_damping_13 : dcd cX6_damping 13 = some (.iconst 2, 14) := by decide +kernel
theorem dX6_damping_14 : dcd cX6_damping 14 = some (.if_icmp .ne 12, 17) := by decide +kernel
theorem dX6_damping_17 : dcd cX6_damping 17 = some (.iload_n 0, 18) := by decide +kernel
theorem dX6_damping_18 : dcd cX6_damping 18 = some (.iconst 1, 19) := by decide +kernel
theorem dX6_damping_19 : dcd cX6_damping 19 = some (.if_icmp .ne 7, 22) := by decide +kernel
theorem dX6_damping_22 : dcd cX6_damping 22 = some (.iconst 5, 23) := by decide +kernel
theorem dX6_damping_23 : dcd cX6_damping 23 = some (.goto 4, 26) := by decide +kernel
theorem dX6_damping_26 : dcd cX6_damping 26 = some (.iconst 0, 27) := by decide +kernel
theorem dX6_damping_27 : dcd cX6_damping 27 = some (.ireturn, 28) := by decide +kernel
theorem dX6_clapsBy_0 : dcd cX6_clapsBy 0 = some (.bipush 10, 2) := by decide +kernel
theorem dX6_clapsBy_2 : dcd cX6_clapsBy 2 = some (.istore_n 3, 3) := by decide +kernel
theorem dX6_clapsBy_3 : dcd cX6_clapsBy 3 = some (.iload_n 1, 4) := by decide +kernel
theorem dX6_clapsBy_4 : dcd cX6_clapsBy 4 = some (.iconst 2, 5) := by decide +kernel
theorem dX6_clapsBy_5 : dcd cX6_clapsBy 5 = some (.if_icmp .ge 28, 8) := by decide +kernel
theorem dX6_clapsBy_8 : dcd cX6_clapsBy 8 = some (.iload_n 1, 9) := by decide +kernel
theorem dX6_clapsBy_9 : dcd cX6_clapsBy 9 = some (.ifCond .ne 12, 12) := by decide +kernel
theorem dX6_clapsBy_12 : dcd cX6_clapsBy 12 = some (.aload_n 0, 13) := by decide +kernel
theorem dX6_clapsBy_13 : dcd cX6_clapsBy 13 = some (.getfield 18, 16) := by decide +kernel
theorem dX6_clapsBy_16 : dcd cX6_clapsBy 16 = some (.iconst 4, 17) := by decide +kernel
theorem dX6_clapsBy_17 : dcd cX6_clapsBy 17 = some (.iaload, 18) := by decide +kernel
theorem dX6_clapsBy_18 : dcd cX6_clapsBy 18 = some (.goto 14, 21) := by decide +kernel
theorem dX6_clapsBy_21 : dcd cX6_clapsBy 21 = some (.aload_n 0, 22) := by decide +kernel
theorem dX6_clapsBy_22 : dcd cX6_clapsBy 22 = some (.getfield 18, 25) := by decide +kernel
theorem dX6_clapsBy_25 : dcd cX6_clapsBy 25 = some (.iconst 4, 26) := by decide +kernel
theorem dX6_clapsBy_26 : dcd cX6_clapsBy 26 = some (.iaload, 27) := by decide +kernel
theorem dX6_clapsBy_27 : dcd cX6_clapsBy 27 = some (.bipush 10, 29) := by decide +kernel
theorem dX6_clapsBy_29 : dcd cX6_clapsBy 29 = some (.iadd, 30) := by decide +kernel
theorem dX6_clapsBy_30 : dcd cX6_clapsBy 30 = some (.iconst 2, 31) := by decide +kernel
theorem dX6_clapsBy_31 : dcd cX6_clapsBy 31 = some (.idiv, 32) := by decide +kernel
theorem dX6_clapsBy_32 : dcd cX6_clapsBy 32 = some (.istore_n 3, 33) := by decide +kernel
theorem dX6_clapsBy_33 : dcd cX6_clapsBy 33 = some (.aload_n 0, 34) := by decide +kernel
theorem dX6_clapsBy_34 : dcd cX6_clapsBy 34 = some (.getfield 25, 37) := by decide +kernel
theorem dX6_clapsBy_37 : dcd cX6_clapsBy 37 = some (.iload_n 1, 38) := by decide +kernel
theorem dX6_clapsBy_38 : dcd cX6_clapsBy 38 = some (.aaload, 39) := by decide +kernel
theorem dX6_clapsBy_39 : dcd cX6_clapsBy 39 = some (.getfield 104, 42) := by decide +kernel
theorem dX6_clapsBy_42 : dcd cX6_clapsBy 42 = some (.bipush 100, 44) := by decide +kernel
theorem dX6_clapsBy_44 : dcd cX6_clapsBy 44 = some (.iload_n 2, 45) := by decide +kernel
theorem dX6_clapsBy_45 : dcd cX6_clapsBy 45 = some (.iadd, 46) := by decide +kernel
theorem dX6_clapsBy_46 : dcd cX6_clapsBy 46 = some (.imul, 47) := by decide +kernel
theorem dX6_clapsBy_47 : dcd cX6_clapsBy 47 = some (.bipush 100, 49) := by decide +kernel
theorem dX6_clapsBy_49 : dcd cX6_clapsBy 49 = some (.idiv, 50) := by decide +kernel
theorem dX6_clapsBy_50 : dcd cX6_clapsBy 50 = some (.istore 4, 52) := by decide +kernel
theorem dX6_clapsBy_52 : dcd cX6_clapsBy 52 = some (.iload_n 1, 53) := by decide +kernel
theorem dX6_clapsBy_53 : dcd cX6_clapsBy 53 = some (.iconst 5, 54) := by decide +kernel
theorem dX6_clapsBy_54 : dcd cX6_clapsBy 54 = some (.if_icmp .le 16, 57) := by decide +kernel
theorem dX6_clapsBy_57 : dcd cX6_clapsBy 57 = some (.aload_n 0, 58) := by decide +kernel
theorem dX6_clapsBy_58 : dcd cX6_clapsBy 58 = some (.getfield 18, 61) := by decide +kernel
theorem dX6_clapsBy_61 : dcd cX6_clapsBy 61 = some (.iconst 5, 62) := by decide +kernel
theorem dX6_clapsBy_62 : dcd cX6_clapsBy 62 = some (.iaload, 63) := by decide +kernel
theorem dX6_clapsBy_63 : dcd cX6_clapsBy 63 = some (.iload_n 1, 64) := by decide +kernel
theorem dX6_clapsBy_64 : dcd cX6_clapsBy 64 = some (.iconst 5, 65) := by decide +kernel
theorem dX6_clapsBy_65 : dcd cX6_clapsBy 65 = some (.isub, 66) := by decide +kernel
theorem dX6_clapsBy_66 : dcd cX6_clapsBy 66 = some (.imul, 67) := by decide +kernel
theorem dX6_clapsBy_67 : dcd cX6_clapsBy 67 = some (.goto 4, 70) := by decide +kernel
theorem dX6_clapsBy_70 : dcd cX6_clapsBy 70 = some (.iconst 0, 71) := by decide +kernel
theorem dX6_clapsBy_71 : dcd cX6_clapsBy 71 = some (.istore 5, 73) := by decide +kernel
theorem dX6_clapsBy_73 : dcd cX6_clapsBy 73 = some (.iconst 0, 74) := by decide +kernel
theorem dX6_clapsBy_74 : dcd cX6_clapsBy 74 = some (.iload 4, 76) := by decide +kernel
theorem dX6_clapsBy_76 : dcd cX6_clapsBy 76 = some (.iload_n 3, 77) := by decide +kernel
theorem dX6_clapsBy_77 : dcd cX6_clapsBy 77 = some (.imul, 78) := by decide +kernel
theorem dX6_clapsBy_78 : dcd cX6_clapsBy 78 = some (.bipush 10, 80) := by decide +kernel
theorem dX6_clapsBy_80 : dcd cX6_clapsBy 80 = some (.idiv, 81) := by decide +kernel
theorem dX6_clapsBy_81 : dcd cX6_clapsBy 81 = some (.iload 5, 83) := by decide +kernel
theorem dX6_clapsBy_83 : dcd cX6_clapsBy 83 = some (.isub, 84) := by decide +kernel
theorem dX6_clapsBy_84 : dcd cX6_clapsBy 84 = some (.invokestatic 80, 87) := by decide +kernel
theorem dX6_clapsBy_87 : dcd cX6_clapsBy 87 = some (.ireturn, 88) := by decide +kernel
theorem dX6_total_0 : dcd cX6_total 0 = some (.aload_n 0, 1) := by decide +kernel
theorem dX6_total_1 : dcd cX6_total 1 = some (.getfield 59, 4) := by decide +kernel
theorem dX6_total_4 : dcd cX6_total 4 = some (.iconst 1, 5) := by decide +kernel
theorem dX6_total_5 : dcd cX6_total 5 = some (.if_icmp .ge 5, 8) := by decide +kernel
theorem dX6_total_8 : dcd cX6_total 8 = some (.iconst 0, 9) := by decide +kernel
theorem dX6_total_9 : dcd cX6_total 9 = some (.ireturn, 10) := by decide +kernel
theorem dX6_total_10 : dcd cX6_total 10 = some (.aload_n 0, 11) := by decide +kernel
theorem dX6_total_11 : dcd cX6_total 11 = some (.getfield 56, 14) := by decide +kernel
theorem dX6_total_14 : dcd cX6_total 14 = some (.aload_n 0, 15) := by decide +kernel
theorem dX6_total_15 : dcd cX6_total 15 = some (.getfield 59, 18) := by decide +kernel
theorem dX6_total_18 : dcd cX6_total 18 = some (.iconst 1, 19) := by decide +kernel
theorem dX6_total_19 : dcd cX6_total 19 = some (.isub, 20) := by decide +kernel
theorem dX6_total_20 : dcd cX6_total 20 = some (.iaload, 21) := by decide +kernel
theorem dX6_total_21 : dcd cX6_total 21 = some (.aload_n 0, 22) := by decide +kernel
theorem dX6_total_22 : dcd cX6_total 22 = some (.getfield 47, 25) := by decide +kernel
theorem dX6_total_25 : dcd cX6_total 25 = some (.aload_n 0, 26) := by decide +kernel
theorem dX6_total_26 : dcd cX6_total 26 = some (.getfield 59, 29) := by decide +kernel
theorem dX6_total_29 : dcd cX6_total 29 = some (.iconst 1, 30) := by decide +kernel
theorem dX6_total_30 : dcd cX6_total 30 = some (.isub, 31) := by decide +kernel
theorem dX6_total_31 : dcd cX6_total 31 = some (.iaload, 32) := by decide +kernel
theorem dX6_total_32 : dcd cX6_total 32 = some (.iadd, 33) := by decide +kernel
theorem dX6_total_33 : dcd cX6_total 33 = some (.aload_n 0, 34) := by decide +kernel
theorem dX6_total_34 : dcd cX6_total 34 = some (.getfield 66, 37) := by decide +kernel
theorem dX6_total_37 : dcd cX6_total 37 = some (.iadd, 38) := by decide +kernel
theorem dX6_total_38 : dcd cX6_total 38 = some (.ireturn, 39) := by decide +kernel
theorem dX6_firstFailing_0 : dcd cX6_firstFailing 0 = some (.iconst 0, 1) := by decide +kernel
theorem dX6_firstFailing_1 : dcd cX6_firstFailing 1 = some (.istore_n 2, 2) := by decide +kernel
theorem dX6_firstFailing_2 : dcd cX6_firstFailing 2 = some (.iload_n 2, 3) := by decide +kernel
theorem dX6_firstFailing_3 : dcd cX6_firstFailing 3 = some (.aload_n 0, 4) := by decide +kernel
theorem dX6_firstFailing_4 : dcd cX6_firstFailing 4 = some (.getfield 59, 7) := by decide +kernel
theorem dX6_firstFailing_7 : dcd cX6_firstFailing 7 = some (.if_icmp .ge 20, 10) := by decide +kernel
theorem dX6_firstFailing_10 : dcd cX6_firstFailing 10 = some (.aload_n 0, 11) := by decide +kernel
theorem dX6_firstFailing_11 : dcd cX6_firstFailing 11 = some (.iload_n 1, 12) := by decide +kernel
theorem dX6_firstFailing_12 : dcd cX6_firstFailing 12 = some (.iload_n 2, 13) := by decide +kernel
theorem dX6_firstFailing_13 : dcd cX6_firstFailing 13 = some (.invokevirtual 107, 16) := by decide +kernel
theorem dX6_firstFailing_16 : dcd cX6_firstFailing 16 = some (.ifCond .eq 5, 19) := by decide +kernel
theorem dX6_firstFailing_19 : dcd cX6_firstFailing 19 = some (.iload_n 2, 20) := by decide +kernel
theorem dX6_firstFailing_20 : dcd cX6_firstFailing 20 = some (.ireturn, 21) := by decide +kernel
theorem dX6_firstFailing_21 : dcd cX6_firstFailing 21 = some (.iinc 2 1, 24) := by decide +kernel
theorem dX6_firstFailing_24 : dcd cX6_firstFailing 24 = some (.goto (-22), 27) := by decide +kernel
theorem dX6_firstFailing_27 : dcd cX6_firstFailing 27 = some (.bipush (-9), 29) := by decide +kernel
theorem dX6_firstFailing_29 : dcd cX6_firstFailing 29 = some (.ireturn, 30) := by decide +kernel
theorem dX6_fails_0 : dcd cX6_fails 0 = some (.iload_n 1, 1) := by decide +kernel
theorem dX6_fails_1 : dcd cX6_fails 1 = some (.tableswitch 162 1 4 #[31, 52, 93, 126], 32) := by decide +kernel
theorem dX6_fails_32 : dcd cX6_fails 32 = some (.aload_n 0, 33) := by decide +kernel
theorem dX6_fails_33 : dcd cX6_fails 33 = some (.getfield 32, 36) := by decide +kernel
theorem dX6_fails_36 : dcd cX6_fails 36 = some (.iload_n 2, 37) := by decide +kernel
theorem dX6_fails_37 : dcd cX6_fails 37 = some (.iaload, 38) := by decide +kernel
theorem dX6_fails_38 : dcd cX6_fails 38 = some (.aload_n 0, 39) := by decide +kernel
theorem dX6_fails_39 : dcd cX6_fails 39 = some (.getfield 18, 42) := by decide +kernel
theorem dX6_fails_42 : dcd cX6_fails 42 = some (.iconst 0, 43) := by decide +kernel
theorem dX6_fails_43 : dcd cX6_fails 43 = some (.iaload, 44) := by decide +kernel
theorem dX6_fails_44 : dcd cX6_fails 44 = some (.if_icmp .le 7, 47) := by decide +kernel
theorem dX6_fails_47 : dcd cX6_fails 47 = some (.iconst 1, 48) := by decide +kernel
theorem dX6_fails_48 : dcd cX6_fails 48 = some (.goto 4, 51) := by decide +kernel
theorem dX6_fails_51 : dcd cX6_fails 51 = some (.iconst 0, 52) := by decide +kernel
theorem dX6_fails_52 : dcd cX6_fails 52 = some (.ireturn, 53) := by decide +kernel
theorem dX6_fails_53 : dcd cX6_fails 53 = some (.iload_n 2, 54) := by decide +kernel
theorem dX6_fails_54 : dcd cX6_fails 54 = some (.ifCond .le 38, 57) := by decide +kernel
theorem dX6_fails_57 : dcd cX6_fails 57 = some (.aload_n 0, 58) := by decide +kernel
theorem dX6_fails_58 : dcd cX6_fails 58 = some (.iload_n 2, 59) := by decide +kernel
theorem dX6_fails_59 : dcd cX6_fails 59 = some (.invokevirtual 69, 62) := by decide +kernel
theorem dX6_fails_62 : dcd cX6_fails 62 = some (.ifCond .ne 30, 65) := by decide +kernel
theorem dX6_fails_65 : dcd cX6_fails 65 = some (.aload_n 0, 66) := by decide +kernel
theorem dX6_fails_66 : dcd cX6_fails 66 = some (.getfield 25, 69) := by decide +kernel
theorem dX6_fails_69 : dcd cX6_fails 69 = some (.iload_n 2, 70) := by decide +kernel
theorem dX6_fails_70 : dcd cX6_fails 70 = some (.aaload, 71) := by decide +kernel
theorem dX6_fails_71 : dcd cX6_fails 71 = some (.getfield 111, 74) := by decide +kernel
theorem dX6_fails_74 : dcd cX6_fails 74 = some (.aload_n 0, 75) := by decide +kernel
theorem dX6_fails_75 : dcd cX6_fails 75 = some (.getfield 25, 78) := by decide +kernel
theorem dX6_fails_78 : dcd cX6_fails 78 = some (.iload_n 2, 79) := by decide +kernel
theorem dX6_fails_79 : dcd cX6_fails 79 = some (.iconst 1, 80) := by decide +kernel
theorem dX6_fails_80 : dcd cX6_fails 80 = some (.isub, 81) := by decide +kernel
theorem dX6_fails_81 : dcd cX6_fails 81 = some (.aaload, 82) := by decide +kernel
theorem dX6_fails_82 : dcd cX6_fails 82 = some (.getfield 111, 85) := by decide +kernel
theorem dX6_fails_85 : dcd cX6_fails 85 = some (.if_icmp .ne 7, 88) := by decide +kernel
theorem dX6_fails_88 : dcd cX6_fails 88 = some (.iconst 1, 89) := by decide +kernel
theorem dX6_fails_89 : dcd cX6_fails 89 = some (.goto 4, 92) := by decide +kernel
theorem dX6_fails_92 : dcd cX6_fails 92 = some (.iconst 0, 93) := by decide +kernel
theorem dX6_fails_93 : dcd cX6_fails 93 = some (.ireturn, 94) := by decide +kernel
theorem dX6_fails_94 : dcd cX6_fails 94 = some (.iload_n 2, 95) := by decide +kernel
theorem dX6_fails_95 : dcd cX6_fails 95 = some (.ifCond .le 30, 98) := by decide +kernel
theorem dX6_fails_98 : dcd cX6_fails 98 = some (.aload_n 0, 99) := by decide +kernel
theorem dX6_fails_99 : dcd cX6_fails 99 = some (.getfield 25, 102) := by decide +kernel
theorem dX6_fails_102 : dcd cX6_fails 102 = some (.iload_n 2, 103) := by decide +kernel
theorem dX6_fails_103 : dcd cX6_fails 103 = some (.aaload, 104) := by decide +kernel
theorem dX6_fails_104 : dcd cX6_fails 104 = some (.aload_n 0, 105) := by decide +kernel
theorem dX6_fails_105 : dcd cX6_fails 105 = some (.getfield 25, 108) := by decide +kernel
theorem dX6_fails_108 : dcd cX6_fails 108 = some (.iload_n 2, 109) := by decide +kernel
theorem dX6_fails_109 : dcd cX6_fails 109 = some (.iconst 1, 110) := by decide +kernel
theorem dX6_fails_110 : dcd cX6_fails 110 = some (.isub, 111) := by decide +kernel
theorem dX6_fails_111 : dcd cX6_fails 111 = some (.aaload, 112) := by decide +kernel
theorem dX6_fails_112 : dcd cX6_fails 112 = some (.getfield 114, 115) := by decide +kernel
theorem dX6_fails_115 : dcd cX6_fails 115 = some (.invokevirtual 117, 118) := by decide +kernel
theorem dX6_fails_118 : dcd cX6_fails 118 = some (.ifCond .eq 7, 121) := by decide +kernel
theorem dX6_fails_121 : dcd cX6_fails 121 = some (.iconst 1, 122) := by decide +kernel
theorem dX6_fails_122 : dcd cX6_fails 122 = some (.goto 4, 125) := by decide +kernel
theorem dX6_fails_125 : dcd cX6_fails 125 = some (.iconst 0, 126) := by decide +kernel
theorem dX6_fails_126 : dcd cX6_fails 126 = some (.ireturn, 127) := by decide +kernel
theorem dX6_fails_127 : dcd cX6_fails 127 = some (.aload_n 0, 128) := by decide +kernel
theorem dX6_fails_128 : dcd cX6_fails 128 = some (.getfield 25, 131) := by decide +kernel
theorem dX6_fails_131 : dcd cX6_fails 131 = some (.iload_n 2, 132) := by decide +kernel
theorem dX6_fails_132 : dcd cX6_fails 132 = some (.aaload, 133) := by decide +kernel
theorem dX6_fails_133 : dcd cX6_fails 133 = some (.getfield 120, 136) := by decide +kernel
theorem dX6_fails_136 : dcd cX6_fails 136 = some (.ifCond .le 25, 139) := by decide +kernel
theorem dX6_fails_139 : dcd cX6_fails 139 = some (.aload_n 0, 140) := by decide +kernel
theorem dX6_fails_140 : dcd cX6_fails 140 = some (.getfield 38, 143) := by decide +kernel
theorem dX6_fails_143 : dcd cX6_fails 143 = some (.iload_n 2, 144) := by decide +kernel
theorem dX6_fails_144 : dcd cX6_fails 144 = some (.iaload, 145) := by decide +kernel
theorem dX6_fails_145 : dcd cX6_fails 145 = some (.aload_n 0, 146) := by decide +kernel
theorem dX6_fails_146 : dcd cX6_fails 146 = some (.getfield 25, 149) := by decide +kernel
theorem dX6_fails_149 : dcd cX6_fails 149 = some (.iload_n 2, 150) := by decide +kernel
theorem dX6_fails_150 : dcd cX6_fails 150 = some (.aaload, 151) := by decide +kernel
theorem dX6_fails_151 : dcd cX6_fails 151 = some (.getfield 120, 154) := by decide +kernel
theorem dX6_fails_154 : dcd cX6_fails 154 = some (.if_icmp .le 7, 157) := by decide +kernel
theorem dX6_fails_157 : dcd cX6_fails 157 = some (.iconst 1, 158) := by decide +kernel
theorem dX6_fails_158 : dcd cX6_fails 158 = some (.goto 4, 161) := by decide +kernel
theorem dX6_fails_161 : dcd cX6_fails 161 = some (.iconst 0, 162) := by decide +kernel
theorem dX6_fails_162 : dcd cX6_fails 162 = some (.ireturn, 163) := by decide +kernel
theorem dX6_fails_163 : dcd cX6_fails 163 = some (.iload_n 2, 164) := by decide +kernel
theorem dX6_fails_164 : dcd cX6_fails 164 = some (.aload_n 0, 165) := by decide +kernel
theorem dX6_fails_165 : dcd cX6_fails 165 = some (.getfield 59, 168) := by decide +kernel
theorem dX6_fails_168 : dcd cX6_fails 168 = some (.iconst 1, 169) := by decide +kernel
theorem dX6_fails_169 : dcd cX6_fails 169 = some (.isub, 170) := by decide +kernel
theorem dX6_fails_170 : dcd cX6_fails 170 = some (.if_icmp .ne 22, 173) := by decide +kernel
theorem dX6_fails_173 : dcd cX6_fails 173 = some (.aload_n 0, 174) := by decide +kernel
theorem dX6_fails_174 : dcd cX6_fails 174 = some (.getfield 38, 177) := by decide +kernel
theorem dX6_fails_177 : dcd cX6_fails 177 = some (.iload_n 2, 178) := by decide +kernel
theorem dX6_fails_178 : dcd cX6_fails 178 = some (.iaload, 179) := by decide +kernel
theorem dX6_fails_179 : dcd cX6_fails 179 = some (.aload_n 0, 180) := by decide +kernel
theorem dX6_fails_180 : dcd cX6_fails 180 = some (.getfield 18, 183) := by decide +kernel
theorem dX6_fails_183 : dcd cX6_fails 183 = some (.iconst 1, 184) := by decide +kernel
theorem dX6_fails_184 : dcd cX6_fails 184 = some (.iaload, 185) := by decide +kernel
theorem dX6_fails_185 : dcd cX6_fails 185 = some (.if_icmp .le 7, 188) := by decide +kernel
theorem dX6_fails_188 : dcd cX6_fails 188 = some (.iconst 1, 189) := by decide +kernel
theorem dX6_fails_189 : dcd cX6_fails 189 = some (.goto 4, 192) := by decide +kernel
theorem dX6_fails_192 : dcd cX6_fails 192 = some (.iconst 0, 193) := by decide +kernel
theorem dX6_fails_193 : dcd cX6_fails 193 = some (.ireturn, 194) := by decide +kernel
theorem dX6_isStaged_0 : dcd cX6_isStaged 0 = some (.iconst 0, 1) := by decide +kernel
theorem dX6_isStaged_1 : dcd cX6_isStaged 1 = some (.istore_n 1, 2) := by decide +kernel
theorem dX6_isStaged_2 : dcd cX6_isStaged 2 = some (.iload_n 1, 3) := by decide +kernel
theorem dX6_isStaged_3 : dcd cX6_isStaged 3 = some (.aload_n 0, 4) := by decide +kernel
theorem dX6_isStaged_4 : dcd cX6_isStaged 4 = some (.getfield 59, 7) := by decide +kernel
theorem dX6_isStaged_7 : dcd cX6_isStaged 7 = some (.if_icmp .ge 19, 10) := by decide +kernel
theorem dX6_isStaged_10 : dcd cX6_isStaged 10 = some (.aload_n 0, 11) := by decide +kernel
theorem dX6_isStaged_11 : dcd cX6_isStaged 11 = some (.iload_n 1, 12) := by decide +kernel
theorem dX6_isStaged_12 : dcd cX6_isStaged 12 = some (.invokevirtual 123, 15) := by decide +kernel
theorem dX6_isStaged_15 : dcd cX6_isStaged 15 = some (.ifCond .ne 5, 18) := by decide +kernel
theorem dX6_isStaged_18 : dcd cX6_isStaged 18 = some (.iconst 0, 19) := by decide +kernel
theorem dX6_isStaged_19 : dcd cX6_isStaged 19 = some (.ireturn, 20) := by decide +kernel
theorem dX6_isStaged_20 : dcd cX6_isStaged 20 = some (.iinc 1 1, 23) := by decide +kernel
theorem dX6_isStaged_23 : dcd cX6_isStaged 23 = some (.goto (-21), 26) := by decide +kernel
theorem dX6_isStaged_26 : dcd cX6_isStaged 26 = some (.iconst 1, 27) := by decide +kernel
theorem dX6_isStaged_27 : dcd cX6_isStaged 27 = some (.ireturn, 28) := by decide +kernel
theorem dX6_fits_0 : dcd cX6_fits 0 = some (.aload_n 0, 1) := by decide +kernel
theorem dX6_fits_1 : dcd cX6_fits 1 = some (.iconst 1, 2) := by decide +kernel
theorem dX6_fits_2 : dcd cX6_fits 2 = some (.iload_n 1, 3) := by decide +kernel
theorem dX6_fits_3 : dcd cX6_fits 3 = some (.invokevirtual 107, 6) := by decide +kernel
theorem dX6_fits_6 : dcd cX6_fits 6 = some (.ifCond .ne 49, 9) := by decide +kernel
theorem dX6_fits_9 : dcd cX6_fits 9 = some (.aload_n 0, 10) := by decide +kernel
theorem dX6_fits_10 : dcd cX6_fits 10 = some (.iconst 2, 11) := by decide +kernel
theorem dX6_fits_11 : dcd cX6_fits 11 = some (.iload_n 1, 12) := by decide +kernel
theorem dX6_fits_12 : dcd cX6_fits 12 = some (.invokevirtual 107, 15) := by decide +kernel
theorem dX6_fits_15 : dcd cX6_fits 15 = some (.ifCond .ne 40, 18) := by decide +kernel
theorem dX6_fits_18 : dcd cX6_fits 18 = some (.aload_n 0, 19) := by decide +kernel
theorem dX6_fits_19 : dcd cX6_fits 19 = some (.iconst 3, 20) := by decide +kernel
theorem dX6_fits_20 : dcd cX6_fits 20 = some (.iload_n 1, 21) := by decide +kernel
theorem dX6_fits_21 : dcd cX6_fits 21 = some (.invokevirtual 107, 24) := by decide +kernel
theorem dX6_fits_24 : dcd cX6_fits 24 = some (.ifCond .ne 31, 27) := by decide +kernel
theorem dX6_fits_27 : dcd cX6_fits 27 = some (.aload_n 0, 28) := by decide +kernel
theorem dX6_fits_28 : dcd cX6_fits 28 = some (.iconst 4, 29) := by decide +kernel
theorem dX6_fits_29 : dcd cX6_fits 29 = some (.iload_n 1, 30) := by decide +kernel
theorem dX6_fits_30 : dcd cX6_fits 30 = some (.invokevirtual 107, 33) := by decide +kernel
theorem dX6_fits_33 : dcd cX6_fits 33 = some (.ifCond .ne 22, 36) := by decide +kernel
theorem dX6_fits_36 : dcd cX6_fits 36 = some (.aload_n 0, 37) := by decide +kernel
theorem dX6_fits_37 : dcd cX6_fits 37 = some (.getfield 38, 40) := by decide +kernel
theorem dX6_fits_40 : dcd cX6_fits 40 = some (.iload_n 1, 41) := by decide +kernel
theorem dX6_fits_41 : dcd cX6_fits 41 = some (.iaload, 42) := by decide +kernel
theorem dX6_fits_42 : dcd cX6_fits 42 = some (.aload_n 0, 43) := by decide +kernel
theorem dX6_fits_43 : dcd cX6_fits 43 = some (.getfield 18, 46) := by decide +kernel
theorem dX6_fits_46 : dcd cX6_fits 46 = some (.iconst 1, 47) := by decide +kernel
theorem dX6_fits_47 : dcd cX6_fits 47 = some (.iaload, 48) := by decide +kernel
theorem dX6_fits_48 : dcd cX6_fits 48 = some (.if_icmp .gt 7, 51) := by decide +kernel
theorem dX6_fits_51 : dcd cX6_fits 51 = some (.iconst 1, 52) := by decide +kernel
theorem dX6_fits_52 : dcd cX6_fits 52 = some (.goto 4, 55) := by decide +kernel
theorem dX6_fits_55 : dcd cX6_fits 55 = some (.iconst 0, 56) := by decide +kernel
theorem dX6_fits_56 : dcd cX6_fits 56 = some (.ireturn, 57) := by decide +kernel
theorem dX7_init_0 : dcd cX7_init 0 = some (.aload_n 0, 1) := by decide +kernel
theorem dX7_init_1 : dcd cX7_init 1 = some (.invokespecial 1, 4) := by decide +kernel
theorem dX7_init_4 : dcd cX7_init 4 = some (.aload_n 0, 5) := by decide +kernel
theorem dX7_init_5 : dcd cX7_init 5 = some (.new 7, 8) := by decide +kernel
theorem dX7_init_8 : dcd cX7_init 8 = some (.dup, 9) := by decide +kernel
theorem dX7_init_9 : dcd cX7_init 9 = some (.invokespecial 9, 12) := by decide +kernel
theorem dX7_init_12 : dcd cX7_init 12 = some (.putfield 10, 15) := by decide +kernel
theorem dX7_init_15 : dcd cX7_init 15 = some (.aload_n 0, 16) := by decide +kernel
theorem dX7_init_16 : dcd cX7_init 16 = some (.new 16, 19) := by decide +kernel
theorem dX7_init_19 : dcd cX7_init 19 = some (.dup, 20) := by decide +kernel
theorem dX7_init_20 : dcd cX7_init 20 = some (.invokespecial 18, 23) := by decide +kernel
theorem dX7_init_23 : dcd cX7_init 23 = some (.putfield 19, 26) := by decide +kernel
theorem dX7_init_26 : dcd cX7_init 26 = some (.aload_n 0, 27) := by decide +kernel
theorem dX7_init_27 : dcd cX7_init 27 = some (.new 16, 30) := by decide +kernel
theorem dX7_init_30 : dcd cX7_init 30 = some (.dup, 31) := by decide +kernel
theorem dX7_init_31 : dcd cX7_init 31 = some (.invokespecial 18, 34) := by decide +kernel
theorem dX7_init_34 : dcd cX7_init 34 = some (.putfield 23, 37) := by decide +kernel
theorem dX7_init_37 : dcd cX7_init 37 = some (.aload_n 0, 38) := by decide +kernel
theorem dX7_init_38 : dcd cX7_init 38 = some (.new 26, 41) := by decide +kernel
theorem dX7_init_41 : dcd cX7_init 41 = some (.dup, 42) := by decide +kernel
theorem dX7_init_42 : dcd cX7_init 42 = some (.invokespecial 28, 45) := by decide +kernel
theorem dX7_init_45 : dcd cX7_init 45 = some (.putfield 29, 48) := by decide +kernel
theorem dX7_init_48 : dcd cX7_init 48 = some (.aload_n 0, 49) := by decide +kernel
theorem dX7_init_49 : dcd cX7_init 49 = some (.iconst 2, 50) := by decide +kernel
theorem dX7_init_50 : dcd cX7_init 50 = some (.anewarray 26, 53) := by decide +kernel
theorem dX7_init_53 : dcd cX7_init 53 = some (.putfield 33, 56) := by decide +kernel
theorem dX7_init_56 : dcd cX7_init 56 = some (.iconst 0, 57) := by decide +kernel
theorem dX7_init_57 : dcd cX7_init 57 = some (.istore_n 1, 58) := by decide +kernel
theorem dX7_init_58 : dcd cX7_init 58 = some (.iload_n 1, 59) := by decide +kernel
theorem dX7_init_59 : dcd cX7_init 59 = some (.iconst 2, 60) := by decide +kernel
theorem dX7_init_60 : dcd cX7_init 60 = some (.if_icmp .ge 22, 63) := by decide +kernel
theorem dX7_init_63 : dcd cX7_init 63 = some (.aload_n 0, 64) := by decide +kernel
theorem dX7_init_64 : dcd cX7_init 64 = some (.getfield 33, 67) := by decide +kernel
theorem dX7_init_67 : dcd cX7_init 67 = some (.iload_n 1, 68) := by decide +kernel
theorem dX7_init_68 : dcd cX7_init 68 = some (.new 26, 71) := by decide +kernel
theorem dX7_init_71 : dcd cX7_init 71 = some (.dup, 72) := by decide +kernel
theorem dX7_init_72 : dcd cX7_init 72 = some (.invokespecial 28, 75) := by decide +kernel
theorem dX7_init_75 : dcd cX7_init 75 = some (.aastore, 76) := by decide +kernel
theorem dX7_init_76 : dcd cX7_init 76 = some (.iinc 1 1, 79) := by decide +kernel
theorem dX7_init_79 : dcd cX7_init 79 = some (.goto (-21), 82) := by decide +kernel
theorem dX7_init_82 : dcd cX7_init 82 = some (.aload_n 0, 83) := by decide +kernel
theorem dX7_init_83 : dcd cX7_init 83 = some (.new 37, 86) := by decide +kernel
theorem dX7_init_86 : dcd cX7_init 86 = some (.dup, 87) := by decide +kernel
theorem dX7_init_87 : dcd cX7_init 87 = some (.invokespecial 39, 90) := by decide +kernel
theorem dX7_init_90 : dcd cX7_init 90 = some (.putfield 40, 93) := by decide +kernel
theorem dX7_init_93 : dcd cX7_init 93 = some (.aload_n 0, 94) := by decide +kernel
theorem dX7_init_94 : dcd cX7_init 94 = some (.new 44, 97) := by decide +kernel
theorem dX7_init_97 : dcd cX7_init 97 = some (.dup, 98) := by decide +kernel
theorem dX7_init_98 : dcd cX7_init 98 = some (.invokespecial 46, 101) := by decide +kernel
theorem dX7_init_101 : dcd cX7_init 101 = some (.putfield 47, 104) := by decide +kernel
theorem dX7_init_104 : dcd cX7_init 104 = some (.aload_n 0, 105) := by decide +kernel
theorem dX7_init_105 : dcd cX7_init 105 = some (.new 44, 108) := by decide +kernel
theorem dX7_init_108 : dcd cX7_init 108 = some (.dup, 109) := by decide +kernel
theorem dX7_init_109 : dcd cX7_init 109 = some (.invokespecial 46, 112) := by decide +kernel
theorem dX7_init_112 : dcd cX7_init 112 = some (.putfield 51, 115) := by decide +kernel
theorem dX7_init_115 : dcd cX7_init 115 = some (.aload_n 0, 116) := by decide +kernel
theorem dX7_init_116 : dcd cX7_init 116 = some (.new 54, 119) := by decide +kernel
theorem dX7_init_119 : dcd cX7_init 119 = some (.dup, 120) := by decide +kernel
theorem dX7_init_120 : dcd cX7_init 120 = some (.invokespecial 56, 123) := by decide +kernel
theorem dX7_init_123 : dcd cX7_init 123 = some (.putfield 57, 126) := by decide +kernel
theorem dX7_init_126 : dcd cX7_init 126 = some (.aload_n 0, 127) := by decide +kernel
theorem dX7_init_127 : dcd cX7_init 127 = some (.new 61, 130) := by decide +kernel
theorem dX7_init_130 : dcd cX7_init 130 = some (.dup, 131) := by decide +kernel
theorem dX7_init_131 : dcd cX7_init 131 = some (.bipush 9, 133) := by decide +kernel
theorem dX7_init_133 : dcd cX7_init 133 = some (.invokespecial 63, 136) := by decide +kernel
theorem dX7_init_136 : dcd cX7_init 136 = some (.putfield 66, 139) := by decide +kernel
theorem dX7_init_139 : dcd cX7_init 139 = some (.aload_n 0, 140) := by decide +kernel
theorem dX7_init_140 : dcd cX7_init 140 = some (.bipush 9, 142) := by decide +kernel
theorem dX7_init_142 : dcd cX7_init 142 = some (.newarray .int, 144) := by decide +kernel
theorem dX7_init_144 : dcd cX7_init 144 = some (.putfield 70, 147) := by decide +kernel
theorem dX7_init_147 : dcd cX7_init 147 = some (.aload_n 0, 148) := by decide +kernel
theorem dX7_init_148 : dcd cX7_init 148 = some (.iconst 0, 149) := by decide +kernel
theorem dX7_init_149 : dcd cX7_init 149 = some (.putfield 74, 152) := by decide +kernel
theorem dX7_init_152 : dcd cX7_init 152 = some (.aload_n 0, 153) := by decide +kernel
theorem dX7_init_153 : dcd cX7_init 153 = some (.lconst 0, 154) := by decide +kernel
theorem dX7_init_154 : dcd cX7_init 154 = some (.putfield 78, 157) := by decide +kernel
theorem dX7_init_157 : dcd cX7_init 157 = some (.aload_n 0, 158) := by decide +kernel
theorem dX7_init_158 : dcd cX7_init 158 = some (.getfield 29, 161) := by decide +kernel
theorem dX7_init_161 : dcd cX7_init 161 = some (.iconst 1, 162) := by decide +kernel
theorem dX7_init_162 : dcd cX7_init 162 = some (.putfield 82, 165) := by decide +kernel
theorem dX7_init_165 : dcd cX7_init 165 = some (.return_, 166) := by decide +kernel
theorem dX7_type_0 : dcd cX7_type 0 = some (.iload_n 3, 1) := by decide +kernel
theorem dX7_type_1 : dcd cX7_type 1 = some (.iconst 1, 2) := by decide +kernel
theorem dX7_type_2 : dcd cX7_type 2 = some (.if_icmp .lt 9, 5) := by decide +kernel
theorem dX7_type_5 : dcd cX7_type 5 = some (.iload_n 3, 6) := by decide +kernel
theorem dX7_type_6 : dcd cX7_type 6 = some (.bipush 8, 8) := by decide +kernel
theorem dX7_type_8 : dcd cX7_type 8 = some (.if_icmp .le 5, 11) := by decide +kernel
theorem dX7_type_11 : dcd cX7_type 11 = some (.iconst (-1), 12) := by decide +kernel
theorem dX7_type_12 : dcd cX7_type 12 = some (.ireturn, 13) := by decide +kernel
theorem dX7_type_13 : dcd cX7_type 13 = some (.aload_n 0, 14) := by decide +kernel
theorem dX7_type_14 : dcd cX7_type 14 = some (.getfield 10, 17) := by decide +kernel
theorem dX7_type_17 : dcd cX7_type 17 = some (.getfield 86, 20) := by decide +kernel
theorem dX7_type_20 : dcd cX7_type 20 = some (.iload_n 3, 21) := by decide +kernel
theorem dX7_type_21 : dcd cX7_type 21 = some (.iadd, 22) := by decide +kernel
theorem dX7_type_22 : dcd cX7_type 22 = some (.sipush 400, 25) := by decide +kernel
theorem dX7_type_25 : dcd cX7_type 25 = some (.if_icmp .le 6, 28) := by decide +kernel
theorem dX7_type_28 : dcd cX7_type 28 = some (.bipush (-3), 30) := by decide +kernel
theorem dX7_type_30 : dcd cX7_type 30 = some (.ireturn, 31) := by decide +kernel
theorem dX7_type_31 : dcd cX7_type 31 = some (.aload_n 0, 32) := by decide +kernel
theorem dX7_type_32 : dcd cX7_type 32 = some (.getfield 10, 35) := by decide +kernel
theorem dX7_type_35 : dcd cX7_type 35 = some (.lload_n 1, 36) := by decide +kernel
theorem dX7_type_36 : dcd cX7_type 36 = some (.iload_n 3, 37) := by decide +kernel
theorem dX7_type_37 : dcd cX7_type 37 = some (.invokevirtual 89, 40) := by decide +kernel
theorem dX7_type_40 : dcd cX7_type 40 = some (.aload_n 0, 41) := by decide +kernel
theorem dX7_type_41 : dcd cX7_type 41 = some (.getfield 10, 44) := by decide +kernel
theorem dX7_type_44 : dcd cX7_type 44 = some (.getfield 86, 47) := by decide +kernel
theorem dX7_type_47 : dcd cX7_type 47 = some (.ireturn, 48) := by decide +kernel
theorem dX7_clear_0 : dcd cX7_clear 0 = some (.aload_n 0, 1) := by decide +kernel
theorem dX7_clear_1 : dcd cX7_clear 1 = some (.getfield 10, 4) := by decide +kernel
theorem dX7_clear_4 : dcd cX7_clear 4 = some (.getfield 86, 7) := by decide +kernel
theorem dX7_clear_7 : dcd cX7_clear 7 = some (.istore_n 1, 8) := by decide +kernel
theorem dX7_clear_8 : dcd cX7_clear 8 = some (.aload_n 0, 9) := by decide +kernel
theorem dX7_clear_9 : dcd cX7_clear 9 = some (.getfield 10, 12) := by decide +kernel
theorem dX7_clear_12 : dcd cX7_clear 12 = some (.iconst 0, 13) := by decide +kernel
theorem dX7_clear_13 : dcd cX7_clear 13 = some (.putfield 86, 16) := by decide +kernel
theorem dX7_clear_16 : dcd cX7_clear 16 = some (.iload_n 1, 17) := by decide +kernel
theorem dX7_clear_17 : dcd cX7_clear 17 = some (.ireturn, 18) := by decide +kernel
theorem dX7_acts_0 : dcd cX7_acts 0 = some (.aload_n 0, 1) := by decide +kernel
theorem dX7_acts_1 : dcd cX7_acts 1 = some (.getfield 10, 4) := by decide +kernel
theorem dX7_acts_4 : dcd cX7_acts 4 = some (.aload_n 0, 5) := by decide +kernel
theorem dX7_acts_5 : dcd cX7_acts 5 = some (.getfield 23, 8) := by decide +kernel
theorem dX7_acts_8 : dcd cX7_acts 8 = some (.invokevirtual 93, 11) := by decide +kernel
theorem dX7_acts_11 : dcd cX7_acts 11 = some (.istore_n 1, 12) := by decide +kernel
theorem dX7_acts_12 : dcd cX7_acts 12 = some (.iload_n 1, 13) := by decide +kernel
theorem dX7_acts_13 : dcd cX7_acts 13 = some (.ifCond .ge 5, 16) := by decide +kernel
theorem dX7_acts_16 : dcd cX7_acts 16 = some (.iload_n 1, 17) := by decide +kernel
theorem dX7_acts_17 : dcd cX7_acts 17 = some (.ireturn, 18) := by decide +kernel
theorem dX7_acts_18 : dcd cX7_acts 18 = some (.aload_n 0, 19) := by decide +kernel
theorem dX7_acts_19 : dcd cX7_acts 19 = some (.getfield 19, 22) := by decide +kernel
theorem dX7_acts_22 : dcd cX7_acts 22 = some (.astore_n 2, 23) := by decide +kernel
theorem dX7_acts_23 : dcd cX7_acts 23 = some (.aload_n 0, 24) := by decide +kernel
theorem dX7_acts_24 : dcd cX7_acts 24 = some (.aload_n 0, 25) := by decide +kernel
theorem dX7_acts_25 : dcd cX7_acts 25 = some (.getfield 23, 28) := by decide +kernel
theorem dX7_acts_28 : dcd cX7_acts 28 = some (.putfield 19, 31) := by decide +kernel
theorem dX7_acts_31 : dcd cX7_acts 31 = some (.aload_n 0, 32) := by decide +kernel
theorem dX7_acts_32 : dcd cX7_acts 32 = some (.aload_n 2, 33) := by decide +kernel
theorem dX7_acts_33 : dcd cX7_acts 33 = some (.putfield 23, 36) := by decide +kernel
theorem dX7_acts_36 : dcd cX7_acts 36 = some (.aload_n 0, 37) := by decide +kernel
theorem dX7_acts_37 : dcd cX7_acts 37 = some (.getfield 10, 40) := by decide +kernel
theorem dX7_acts_40 : dcd cX7_acts 40 = some (.iconst 0, 41) := by decide +kernel
theorem dX7_acts_41 : dcd cX7_acts 41 = some (.putfield 86, 44) := by decide +kernel
theorem dX7_acts_44 : dcd cX7_acts 44 = some (.aload_n 0, 45) := by decide +kernel
theorem dX7_acts_45 : dcd cX7_acts 45 = some (.getfield 29, 48) := by decide +kernel
theorem dX7_acts_48 : dcd cX7_acts 48 = some (.invokevirtual 97, 51) := by decide +kernel
theorem dX7_acts_51 : dcd cX7_acts 51 = some (.aload_n 0, 52) := by decide +kernel
theorem dX7_acts_52 : dcd cX7_acts 52 = some (.getfield 57, 55) := by decide +kernel
theorem dX7_acts_55 : dcd cX7_acts 55 = some (.invokevirtual 100, 58) := by decide +kernel
theorem dX7_acts_58 : dcd cX7_acts 58 = some (.iconst 0, 59) := by decide +kernel
theorem dX7_acts_59 : dcd cX7_acts 59 = some (.istore_n 3, 60) := by decide +kernel
theorem dX7_acts_60 : dcd cX7_acts 60 = some (.iload_n 3, 61) := by decide +kernel
theorem dX7_acts_61 : dcd cX7_acts 61 = some (.iconst 2, 62) := by decide +kernel
theorem dX7_acts_62 : dcd cX7_acts 62 = some (.if_icmp .ge 19, 65) := by decide +kernel
theorem dX7_acts_65 : dcd cX7_acts 65 = some (.aload_n 0, 66) := by decide +kernel
theorem dX7_acts_66 : dcd cX7_acts 66 = some (.getfield 33, 69) := by decide +kernel
theorem dX7_acts_69 : dcd cX7_acts 69 = some (.iload_n 3, 70) := by decide +kernel
theorem dX7_acts_70 : dcd cX7_acts 70 = some (.aaload, 71) := by decide +kernel
theorem dX7_acts_71 : dcd cX7_acts 71 = some (.iconst 0, 72) := by decide +kernel
theorem dX7_acts_72 : dcd cX7_acts 72 = some (.putfield 103, 75) := by decide +kernel
theorem dX7_acts_75 : dcd cX7_acts 75 = some (.iinc 3 1, 78) := by decide +kernel
theorem dX7_acts_78 : dcd cX7_acts 78 = some (.goto (-18), 81) := by decide +kernel
theorem dX7_acts_81 : dcd cX7_acts 81 = some (.aload_n 0, 82) := by decide +kernel
theorem dX7_acts_82 : dcd cX7_acts 82 = some (.iconst 0, 83) := by decide +kernel
theorem dX7_acts_83 : dcd cX7_acts 83 = some (.putfield 74, 86) := by decide +kernel
theorem dX7_acts_86 : dcd cX7_acts 86 = some (.iload_n 1, 87) := by decide +kernel
theorem dX7_acts_87 : dcd cX7_acts 87 = some (.ireturn, 88) := by decide +kernel
theorem dX7_act_0 : dcd cX7_act 0 = some (.aload_n 0, 1) := by decide +kernel
theorem dX7_act_1 : dcd cX7_act 1 = some (.iload_n 1, 2) := by decide +kernel
theorem dX7_act_2 : dcd cX7_act 2 = some (.invokevirtual 106, 5) := by decide +kernel
theorem dX7_act_5 : dcd cX7_act 5 = some (.ifCond .ne 5, 8) := by decide +kernel
theorem dX7_act_8 : dcd cX7_act 8 = some (.iconst (-1), 9) := by decide +kernel
theorem dX7_act_9 : dcd cX7_act 9 = some (.ireturn, 10) := by decide +kernel
theorem dX7_act_10 : dcd cX7_act 10 = some (.aload_n 0, 11) := by decide +kernel
theorem dX7_act_11 : dcd cX7_act 11 = some (.getfield 19, 14) := by decide +kernel
theorem dX7_act_14 : dcd cX7_act 14 = some (.getfield 110, 17) := by decide +kernel
theorem dX7_act_17 : dcd cX7_act 17 = some (.iload_n 1, 18) := by decide +kernel
theorem dX7_act_18 : dcd cX7_act 18 = some (.aaload, 19) := by decide +kernel
theorem dX7_act_19 : dcd cX7_act 19 = some (.astore_n 3, 20) := by decide +kernel
theorem dX7_act_20 : dcd cX7_act 20 = some (.iload_n 2, 21) := by decide +kernel
theorem dX7_act_21 : dcd cX7_act 21 = some (.tableswitch 104 0 8 #[51, 56, 61, 66, 79, 84, 89, 94, 99], 72) := by decide +kernel
theorem dX7_act_72 : dcd cX7_act 72 = some (.aload_n 3, 73) := by decide +kernel
theorem dX7_act_73 : dcd cX7_act 73 = some (.getfield 114, 76) := by decide +kernel
theorem dX7_act_76 : dcd cX7_act 76 = some (.ireturn, 77) := by decide +kernel
theorem dX7_act_77 : dcd cX7_act 77 = some (.aload_n 3, 78) := by decide +kernel
theorem dX7_act_78 : dcd cX7_act 78 = some (.getfield 117, 81) := by decide +kernel
theorem dX7_act_81 : dcd cX7_act 81 = some (.ireturn, 82) := by decide +kernel
theorem dX7_act_82 : dcd cX7_act 82 = some (.aload_n 3, 83) := by decide +kernel
theorem dX7_act_83 : dcd cX7_act 83 = some (.getfield 120, 86) := by decide +kernel
theorem dX7_act_86 : dcd cX7_act 86 = some (.ireturn, 87) := by decide +kernel
theorem dX7_act_87 : dcd cX7_act 87 = some (.aload_n 3, 88) := by decide +kernel
theorem dX7_act_88 : dcd cX7_act 88 = some (.getfield 123, 91) := by decide +kernel
theorem dX7_act_91 : dcd cX7_act 91 = some (.ifCond .eq 7, 94) := by decide +kernel
theorem dX7_act_94 : dcd cX7_act 94 = some (.iconst 1, 95) := by decide +kernel
theorem dX7_act_95 : dcd cX7_act 95 = some (.goto 4, 98) := by decide +kernel
theorem dX7_act_98 : dcd cX7_act 98 = some (.iconst 0, 99) := by decide +kernel
theorem dX7_act_99 : dcd cX7_act 99 = some (.ireturn, 100) := by decide +kernel
theorem dX7_act_100 : dcd cX7_act 100 = some (.aload_n 3, 101) := by decide +kernel
theorem dX7_act_101 : dcd cX7_act 101 = some (.getfield 126, 104) := by decide +kernel
theorem dX7_act_104 : dcd cX7_act 104 = some (.ireturn, 105) := by decide +kernel
theorem dX7_act_105 : dcd cX7_act 105 = some (.aload_n 3, 106) := by decide +kernel
theorem dX7_act_106 : dcd cX7_act 106 = some (.getfield 129, 109) := by decide +kernel
theorem dX7_act_109 : dcd cX7_act 109 = some (.ireturn, 110) := by decide +kernel
theorem dX7_act_110 : dcd cX7_act 110 = some (.aload_n 3, 111) := by decide +kernel
theorem dX7_act_111 : dcd cX7_act 111 = some (.getfield 132, 114) := by decide +kernel
theorem dX7_act_114 : dcd cX7_act 114 = some (.ireturn, 115) := by decide +kernel
theorem dX7_act_115 : dcd cX7_act 115 = some (.aload_n 3, 116) := by decide +kernel
theorem dX7_act_116 : dcd cX7_act 116 = some (.getfield 135, 119) := by decide +kernel
theorem dX7_act_119 : dcd cX7_act 119 = some (.ireturn, 120) := by decide +kernel
theorem dX7_act_120 : dcd cX7_act 120 = some (.aload_n 3, 121) := by decide +kernel
theorem dX7_act_121 : dcd cX7_act 121 = some (.getfield 138, 124) := by decide +kernel
theorem dX7_act_124 : dcd cX7_act 124 = some (.ireturn, 125) := by decide +kernel
theorem dX7_act_125 : dcd cX7_act 125 = some (.iconst (-1), 126) := by decide +kernel
