theorem dX7_act_126 : dcd cX7_act 126 = some (.ireturn, 127) := by decide +kernel
theorem dX7_feud_0 : dcd cX7_feud 0 = some (.aload_n 0, 1) := by decide +kernel
theorem dX7_feud_1 : dcd cX7_feud 1 = some (.iload_n 1, 2) := by decide +kernel
theorem dX7_feud_2 : dcd cX7_feud 2 = some (.invokevirtual 106, 5) := by decide +kernel
theorem dX7_feud_5 : dcd cX7_feud 5 = some (.ifCond .eq 16, 8) := by decide +kernel
theorem dX7_feud_8 : dcd cX7_feud 8 = some (.aload_n 0, 9) := by decide +kernel
theorem dX7_feud_9 : dcd cX7_feud 9 = some (.iload_n 2, 10) := by decide +kernel
theorem dX7_feud_10 : dcd cX7_feud 10 = some (.invokevirtual 106, 13) := by decide +kernel
theorem dX7_feud_13 : dcd cX7_feud 13 = some (.ifCond .eq 8, 16) := by decide +kernel
theorem dX7_feud_16 : dcd cX7_feud 16 = some (.iload_n 1, 17) := by decide +kernel
theorem dX7_feud_17 : dcd cX7_feud 17 = some (.iload_n 2, 18) := by decide +kernel
theorem dX7_feud_18 : dcd cX7_feud 18 = some (.if_icmp .ne 5, 21) := by decide +kernel
theorem dX7_feud_21 : dcd cX7_feud 21 = some (.iconst (-1), 22) := by decide +kernel
theorem dX7_feud_22 : dcd cX7_feud 22 = some (.ireturn, 23) := by decide +kernel
theorem dX7_feud_23 : dcd cX7_feud 23 = some (.aload_n 0, 24) := by decide +kernel
theorem dX7_feud_24 : dcd cX7_feud 24 = some (.getfield 19, 27) := by decide +kernel
theorem dX7_feud_27 : dcd cX7_feud 27 = some (.getfield 110, 30) := by decide +kernel
theorem dX7_feud_30 : dcd cX7_feud 30 = some (.iload_n 1, 31) := by decide +kernel
theorem dX7_feud_31 : dcd cX7_feud 31 = some (.aaload, 32) := by decide +kernel
theorem dX7_feud_32 : dcd cX7_feud 32 = some (.iload_n 2, 33) := by decide +kernel
theorem dX7_feud_33 : dcd cX7_feud 33 = some (.invokevirtual 141, 36) := by decide +kernel
theorem dX7_feud_36 : dcd cX7_feud 36 = some (.ifCond .eq 7, 39) := by decide +kernel
theorem dX7_feud_39 : dcd cX7_feud 39 = some (.iconst 1, 40) := by decide +kernel
theorem dX7_feud_40 : dcd cX7_feud 40 = some (.goto 4, 43) := by decide +kernel
theorem dX7_feud_43 : dcd cX7_feud 43 = some (.iconst 0, 44) := by decide +kernel
theorem dX7_feud_44 : dcd cX7_feud 44 = some (.ireturn, 45) := by decide +kernel
theorem dX7_tune_0 : dcd cX7_tune 0 = some (.iload_n 1, 1) := by decide +kernel
theorem dX7_tune_1 : dcd cX7_tune 1 = some (.ifCond .lt 27, 4) := by decide +kernel
theorem dX7_tune_4 : dcd cX7_tune 4 = some (.iload_n 1, 5) := by decide +kernel
theorem dX7_tune_5 : dcd cX7_tune 5 = some (.bipush 8, 7) := by decide +kernel
theorem dX7_tune_7 : dcd cX7_tune 7 = some (.if_icmp .ge 21, 10) := by decide +kernel
theorem dX7_tune_10 : dcd cX7_tune 10 = some (.iload_n 2, 11) := by decide +kernel
theorem dX7_tune_11 : dcd cX7_tune 11 = some (.getstatic 144, 14) := by decide +kernel
theorem dX7_tune_14 : dcd cX7_tune 14 = some (.iload_n 1, 15) := by decide +kernel
theorem dX7_tune_15 : dcd cX7_tune 15 = some (.iaload, 16) := by decide +kernel
theorem dX7_tune_16 : dcd cX7_tune 16 = some (.if_icmp .lt 12, 19) := by decide +kernel
theorem dX7_tune_19 : dcd cX7_tune 19 = some (.iload_n 2, 20) := by decide +kernel
theorem dX7_tune_20 : dcd cX7_tune 20 = some (.getstatic 147, 23) := by decide +kernel
theorem dX7_tune_23 : dcd cX7_tune 23 = some (.iload_n 1, 24) := by decide +kernel
theorem dX7_tune_24 : dcd cX7_tune 24 = some (.iaload, 25) := by decide +kernel
theorem dX7_tune_25 : dcd cX7_tune 25 = some (.if_icmp .le 5, 28) := by decide +kernel
theorem dX7_tune_28 : dcd cX7_tune 28 = some (.iconst (-1), 29) := by decide +kernel
theorem dX7_tune_29 : dcd cX7_tune 29 = some (.ireturn, 30) := by decide +kernel
theorem dX7_tune_30 : dcd cX7_tune 30 = some (.aload_n 0, 31) := by decide +kernel
theorem dX7_tune_31 : dcd cX7_tune 31 = some (.getfield 40, 34) := by decide +kernel
theorem dX7_tune_34 : dcd cX7_tune 34 = some (.getfield 150, 37) := by decide +kernel
theorem dX7_tune_37 : dcd cX7_tune 37 = some (.iload_n 1, 38) := by decide +kernel
theorem dX7_tune_38 : dcd cX7_tune 38 = some (.iaload, 39) := by decide +kernel
theorem dX7_tune_39 : dcd cX7_tune 39 = some (.istore_n 3, 40) := by decide +kernel
theorem dX7_tune_40 : dcd cX7_tune 40 = some (.aload_n 0, 41) := by decide +kernel
theorem dX7_tune_41 : dcd cX7_tune 41 = some (.getfield 40, 44) := by decide +kernel
theorem dX7_tune_44 : dcd cX7_tune 44 = some (.getfield 150, 47) := by decide +kernel
theorem dX7_tune_47 : dcd cX7_tune 47 = some (.iload_n 1, 48) := by decide +kernel
theorem dX7_tune_48 : dcd cX7_tune 48 = some (.iload_n 2, 49) := by decide +kernel
theorem dX7_tune_49 : dcd cX7_tune 49 = some (.iastore, 50) := by decide +kernel
theorem dX7_tune_50 : dcd cX7_tune 50 = some (.aload_n 0, 51) := by decide +kernel
theorem dX7_tune_51 : dcd cX7_tune 51 = some (.iconst 0, 52) := by decide +kernel
theorem dX7_tune_52 : dcd cX7_tune 52 = some (.putfield 74, 55) := by decide +kernel
theorem dX7_tune_55 : dcd cX7_tune 55 = some (.iload_n 3, 56) := by decide +kernel
theorem dX7_tune_56 : dcd cX7_tune 56 = some (.ireturn, 57) := by decide +kernel
theorem dX7_family_0 : dcd cX7_family 0 = some (.aload_n 0, 1) := by decide +kernel
theorem dX7_family_1 : dcd cX7_family 1 = some (.iload_n 1, 2) := by decide +kernel
theorem dX7_family_2 : dcd cX7_family 2 = some (.invokevirtual 106, 5) := by decide +kernel
theorem dX7_family_5 : dcd cX7_family 5 = some (.ifCond .eq 13, 8) := by decide +kernel
theorem dX7_family_8 : dcd cX7_family 8 = some (.iload_n 2, 9) := by decide +kernel
theorem dX7_family_9 : dcd cX7_family 9 = some (.ifCond .lt 9, 12) := by decide +kernel
theorem dX7_family_12 : dcd cX7_family 12 = some (.iload_n 2, 13) := by decide +kernel
theorem dX7_family_13 : dcd cX7_family 13 = some (.bipush 99, 15) := by decide +kernel
theorem dX7_family_15 : dcd cX7_family 15 = some (.if_icmp .le 5, 18) := by decide +kernel
theorem dX7_family_18 : dcd cX7_family 18 = some (.iconst (-1), 19) := by decide +kernel
theorem dX7_family_19 : dcd cX7_family 19 = some (.ireturn, 20) := by decide +kernel
theorem dX7_family_20 : dcd cX7_family 20 = some (.aload_n 0, 21) := by decide +kernel
theorem dX7_family_21 : dcd cX7_family 21 = some (.getfield 19, 24) := by decide +kernel
theorem dX7_family_24 : dcd cX7_family 24 = some (.getfield 110, 27) := by decide +kernel
theorem dX7_family_27 : dcd cX7_family 27 = some (.iload_n 1, 28) := by decide +kernel
theorem dX7_family_28 : dcd cX7_family 28 = some (.aaload, 29) := by decide +kernel
theorem dX7_family_29 : dcd cX7_family 29 = some (.getfield 138, 32) := by decide +kernel
theorem dX7_family_32 : dcd cX7_family 32 = some (.istore_n 3, 33) := by decide +kernel
theorem dX7_family_33 : dcd cX7_family 33 = some (.aload_n 0, 34) := by decide +kernel
theorem dX7_family_34 : dcd cX7_family 34 = some (.getfield 19, 37) := by decide +kernel
theorem dX7_family_37 : dcd cX7_family 37 = some (.getfield 110, 40) := by decide +kernel
theorem dX7_family_40 : dcd cX7_family 40 = some (.iload_n 1, 41) := by decide +kernel
theorem dX7_family_41 : dcd cX7_family 41 = some (.aaload, 42) := by decide +kernel
theorem dX7_family_42 : dcd cX7_family 42 = some (.iload_n 2, 43) := by decide +kernel
theorem dX7_family_43 : dcd cX7_family 43 = some (.putfield 138, 46) := by decide +kernel
theorem dX7_family_46 : dcd cX7_family 46 = some (.iload_n 3, 47) := by decide +kernel
theorem dX7_family_47 : dcd cX7_family 47 = some (.ireturn, 48) := by decide +kernel
theorem dX7_place_0 : dcd cX7_place 0 = some (.aload_n 0, 1) := by decide +kernel
theorem dX7_place_1 : dcd cX7_place 1 = some (.iload_n 1, 2) := by decide +kernel
theorem dX7_place_2 : dcd cX7_place 2 = some (.invokevirtual 106, 5) := by decide +kernel
theorem dX7_place_5 : dcd cX7_place 5 = some (.ifCond .ne 5, 8) := by decide +kernel
theorem dX7_place_8 : dcd cX7_place 8 = some (.iconst (-1), 9) := by decide +kernel
theorem dX7_place_9 : dcd cX7_place 9 = some (.ireturn, 10) := by decide +kernel
theorem dX7_place_10 : dcd cX7_place 10 = some (.aload_n 0, 11) := by decide +kernel
theorem dX7_place_11 : dcd cX7_place 11 = some (.getfield 29, 14) := by decide +kernel
theorem dX7_place_14 : dcd cX7_place 14 = some (.iload_n 1, 15) := by decide +kernel
theorem dX7_place_15 : dcd cX7_place 15 = some (.invokevirtual 153, 18) := by decide +kernel
theorem dX7_place_18 : dcd cX7_place 18 = some (.bipush (-9), 20) := by decide +kernel
theorem dX7_place_20 : dcd cX7_place 20 = some (.if_icmp .eq 6, 23) := by decide +kernel
theorem dX7_place_23 : dcd cX7_place 23 = some (.bipush (-2), 25) := by decide +kernel
theorem dX7_place_25 : dcd cX7_place 25 = some (.ireturn, 26) := by decide +kernel
theorem dX7_place_26 : dcd cX7_place 26 = some (.aload_n 0, 27) := by decide +kernel
theorem dX7_place_27 : dcd cX7_place 27 = some (.getfield 29, 30) := by decide +kernel
theorem dX7_place_30 : dcd cX7_place 30 = some (.iload_n 1, 31) := by decide +kernel
theorem dX7_place_31 : dcd cX7_place 31 = some (.invokevirtual 157, 34) := by decide +kernel
theorem dX7_place_34 : dcd cX7_place 34 = some (.aload_n 0, 35) := by decide +kernel
theorem dX7_place_35 : dcd cX7_place 35 = some (.iconst 0, 36) := by decide +kernel
theorem dX7_place_36 : dcd cX7_place 36 = some (.putfield 74, 39) := by decide +kernel
theorem dX7_place_39 : dcd cX7_place 39 = some (.aload_n 0, 40) := by decide +kernel
theorem dX7_place_40 : dcd cX7_place 40 = some (.getfield 29, 43) := by decide +kernel
theorem dX7_place_43 : dcd cX7_place 43 = some (.getfield 159, 46) := by decide +kernel
theorem dX7_place_46 : dcd cX7_place 46 = some (.ireturn, 47) := by decide +kernel
theorem dX7_empty_0 : dcd cX7_empty 0 = some (.aload_n 0, 1) := by decide +kernel
theorem dX7_empty_1 : dcd cX7_empty 1 = some (.getfield 29, 4) := by decide +kernel
theorem dX7_empty_4 : dcd cX7_empty 4 = some (.getfield 159, 7) := by decide +kernel
theorem dX7_empty_7 : dcd cX7_empty 7 = some (.istore_n 1, 8) := by decide +kernel
theorem dX7_empty_8 : dcd cX7_empty 8 = some (.aload_n 0, 9) := by decide +kernel
theorem dX7_empty_9 : dcd cX7_empty 9 = some (.getfield 29, 12) := by decide +kernel
theorem dX7_empty_12 : dcd cX7_empty 12 = some (.invokevirtual 97, 15) := by decide +kernel
theorem dX7_empty_15 : dcd cX7_empty 15 = some (.aload_n 0, 16) := by decide +kernel
theorem dX7_empty_16 : dcd cX7_empty 16 = some (.iconst 0, 17) := by decide +kernel
theorem dX7_empty_17 : dcd cX7_empty 17 = some (.putfield 74, 20) := by decide +kernel
theorem dX7_empty_20 : dcd cX7_empty 20 = some (.iload_n 1, 21) := by decide +kernel
theorem dX7_empty_21 : dcd cX7_empty 21 = some (.ireturn, 22) := by decide +kernel
theorem dX7_rest_0 : dcd cX7_rest 0 = some (.iload_n 1, 1) := by decide +kernel
theorem dX7_rest_1 : dcd cX7_rest 1 = some (.ifCond .lt 14, 4) := by decide +kernel
theorem dX7_rest_4 : dcd cX7_rest 4 = some (.iload_n 1, 5) := by decide +kernel
theorem dX7_rest_5 : dcd cX7_rest 5 = some (.aload_n 0, 6) := by decide +kernel
theorem dX7_rest_6 : dcd cX7_rest 6 = some (.getfield 29, 9) := by decide +kernel
theorem dX7_rest_9 : dcd cX7_rest 9 = some (.getfield 159, 12) := by decide +kernel
theorem dX7_rest_12 : dcd cX7_rest 12 = some (.if_icmp .lt 5, 15) := by decide +kernel
theorem dX7_rest_15 : dcd cX7_rest 15 = some (.iconst (-1), 16) := by decide +kernel
theorem dX7_rest_16 : dcd cX7_rest 16 = some (.ireturn, 17) := by decide +kernel
theorem dX7_rest_17 : dcd cX7_rest 17 = some (.aload_n 0, 18) := by decide +kernel
theorem dX7_rest_18 : dcd cX7_rest 18 = some (.getfield 29, 21) := by decide +kernel
theorem dX7_rest_21 : dcd cX7_rest 21 = some (.getfield 162, 24) := by decide +kernel
theorem dX7_rest_24 : dcd cX7_rest 24 = some (.istore_n 2, 25) := by decide +kernel
theorem dX7_rest_25 : dcd cX7_rest 25 = some (.aload_n 0, 26) := by decide +kernel
theorem dX7_rest_26 : dcd cX7_rest 26 = some (.getfield 29, 29) := by decide +kernel
theorem dX7_rest_29 : dcd cX7_rest 29 = some (.iload_n 1, 30) := by decide +kernel
theorem dX7_rest_30 : dcd cX7_rest 30 = some (.putfield 162, 33) := by decide +kernel
theorem dX7_rest_33 : dcd cX7_rest 33 = some (.iload_n 2, 34) := by decide +kernel
theorem dX7_rest_34 : dcd cX7_rest 34 = some (.ireturn, 35) := by decide +kernel
theorem dX7_on_0 : dcd cX7_on 0 = some (.aload_n 0, 1) := by decide +kernel
theorem dX7_on_1 : dcd cX7_on 1 = some (.getfield 29, 4) := by decide +kernel
theorem dX7_on_4 : dcd cX7_on 4 = some (.iload_n 1, 5) := by decide +kernel
theorem dX7_on_5 : dcd cX7_on 5 = some (.invokevirtual 165, 8) := by decide +kernel
theorem dX7_on_8 : dcd cX7_on 8 = some (.ifCond .eq 15, 11) := by decide +kernel
theorem dX7_on_11 : dcd cX7_on 11 = some (.aload_n 0, 12) := by decide +kernel
theorem dX7_on_12 : dcd cX7_on 12 = some (.getfield 29, 15) := by decide +kernel
theorem dX7_on_15 : dcd cX7_on 15 = some (.getfield 168, 18) := by decide +kernel
theorem dX7_on_18 : dcd cX7_on 18 = some (.iload_n 1, 19) := by decide +kernel
theorem dX7_on_19 : dcd cX7_on 19 = some (.iaload, 20) := by decide +kernel
theorem dX7_on_20 : dcd cX7_on 20 = some (.goto 4, 23) := by decide +kernel
theorem dX7_on_23 : dcd cX7_on 23 = some (.iconst (-1), 24) := by decide +kernel
theorem dX7_on_24 : dcd cX7_on 24 = some (.ireturn, 25) := by decide +kernel
theorem dX7_minute_0 : dcd cX7_minute 0 = some (.aload_n 0, 1) := by decide +kernel
theorem dX7_minute_1 : dcd cX7_minute 1 = some (.getfield 29, 4) := by decide +kernel
theorem dX7_minute_4 : dcd cX7_minute 4 = some (.iload_n 1, 5) := by decide +kernel
theorem dX7_minute_5 : dcd cX7_minute 5 = some (.invokevirtual 165, 8) := by decide +kernel
theorem dX7_minute_8 : dcd cX7_minute 8 = some (.ifCond .eq 12, 11) := by decide +kernel
theorem dX7_minute_11 : dcd cX7_minute 11 = some (.iload_n 2, 12) := by decide +kernel
theorem dX7_minute_12 : dcd cX7_minute 12 = some (.ifCond .lt 8, 15) := by decide +kernel
theorem dX7_minute_15 : dcd cX7_minute 15 = some (.iload_n 2, 16) := by decide +kernel
theorem dX7_minute_16 : dcd cX7_minute 16 = some (.iconst 2, 17) := by decide +kernel
theorem dX7_minute_17 : dcd cX7_minute 17 = some (.if_icmp .le 5, 20) := by decide +kernel
theorem dX7_minute_20 : dcd cX7_minute 20 = some (.iconst (-1), 21) := by decide +kernel
theorem dX7_minute_21 : dcd cX7_minute 21 = some (.ireturn, 22) := by decide +kernel
theorem dX7_minute_22 : dcd cX7_minute 22 = some (.aload_n 0, 23) := by decide +kernel
theorem dX7_minute_23 : dcd cX7_minute 23 = some (.aload_n 0, 24) := by decide +kernel
theorem dX7_minute_24 : dcd cX7_minute 24 = some (.getfield 29, 27) := by decide +kernel
theorem dX7_minute_27 : dcd cX7_minute 27 = some (.getfield 168, 30) := by decide +kernel
theorem dX7_minute_30 : dcd cX7_minute 30 = some (.aload_n 0, 31) := by decide +kernel
theorem dX7_minute_31 : dcd cX7_minute 31 = some (.getfield 29, 34) := by decide +kernel
theorem dX7_minute_34 : dcd cX7_minute 34 = some (.getfield 162, 37) := by decide +kernel
theorem dX7_minute_37 : dcd cX7_minute 37 = some (.invokevirtual 171, 40) := by decide +kernel
theorem dX7_minute_40 : dcd cX7_minute 40 = some (.iload_n 2, 41) := by decide +kernel
theorem dX7_minute_41 : dcd cX7_minute 41 = some (.lookupswitch 47 #[(0, 27), (1, 37)], 68) := by decide +kernel
theorem dX7_minute_68 : dcd cX7_minute 68 = some (.aload_n 0, 69) := by decide +kernel
theorem dX7_minute_69 : dcd cX7_minute 69 = some (.getfield 40, 72) := by decide +kernel
theorem dX7_minute_72 : dcd cX7_minute 72 = some (.getfield 175, 75) := by decide +kernel
theorem dX7_minute_75 : dcd cX7_minute 75 = some (.iload_n 1, 76) := by decide +kernel
theorem dX7_minute_76 : dcd cX7_minute 76 = some (.iaload, 77) := by decide +kernel
theorem dX7_minute_77 : dcd cX7_minute 77 = some (.ireturn, 78) := by decide +kernel
theorem dX7_minute_78 : dcd cX7_minute 78 = some (.aload_n 0, 79) := by decide +kernel
theorem dX7_minute_79 : dcd cX7_minute 79 = some (.getfield 40, 82) := by decide +kernel
theorem dX7_minute_82 : dcd cX7_minute 82 = some (.getfield 178, 85) := by decide +kernel
theorem dX7_minute_85 : dcd cX7_minute 85 = some (.iload_n 1, 86) := by decide +kernel
theorem dX7_minute_86 : dcd cX7_minute 86 = some (.iaload, 87) := by decide +kernel
theorem dX7_minute_87 : dcd cX7_minute 87 = some (.ireturn, 88) := by decide +kernel
theorem dX7_minute_88 : dcd cX7_minute 88 = some (.aload_n 0, 89) := by decide +kernel
theorem dX7_minute_89 : dcd cX7_minute 89 = some (.getfield 40, 92) := by decide +kernel
theorem dX7_minute_92 : dcd cX7_minute 92 = some (.getfield 181, 95) := by decide +kernel
theorem dX7_minute_95 : dcd cX7_minute 95 = some (.iload_n 1, 96) := by decide +kernel
theorem dX7_minute_96 : dcd cX7_minute 96 = some (.iaload, 97) := by decide +kernel
theorem dX7_minute_97 : dcd cX7_minute 97 = some (.ireturn, 98) := by decide +kernel
theorem dX7_staged_0 : dcd cX7_staged 0 = some (.iload_n 1, 1) := by decide +kernel
theorem dX7_staged_1 : dcd cX7_staged 1 = some (.ifCond .lt 8, 4) := by decide +kernel
theorem dX7_staged_4 : dcd cX7_staged 4 = some (.iload_n 1, 5) := by decide +kernel
theorem dX7_staged_5 : dcd cX7_staged 5 = some (.iconst 1, 6) := by decide +kernel
theorem dX7_staged_6 : dcd cX7_staged 6 = some (.if_icmp .le 5, 9) := by decide +kernel
theorem dX7_staged_9 : dcd cX7_staged 9 = some (.iconst (-1), 10) := by decide +kernel
theorem dX7_staged_10 : dcd cX7_staged 10 = some (.ireturn, 11) := by decide +kernel
theorem dX7_staged_11 : dcd cX7_staged 11 = some (.aload_n 0, 12) := by decide +kernel
theorem dX7_staged_12 : dcd cX7_staged 12 = some (.getfield 29, 15) := by decide +kernel
theorem dX7_staged_15 : dcd cX7_staged 15 = some (.getfield 159, 18) := by decide +kernel
theorem dX7_staged_18 : dcd cX7_staged 18 = some (.ifCond .ne 6, 21) := by decide +kernel
theorem dX7_staged_21 : dcd cX7_staged 21 = some (.bipush (-2), 23) := by decide +kernel
theorem dX7_staged_23 : dcd cX7_staged 23 = some (.ireturn, 24) := by decide +kernel
theorem dX7_staged_24 : dcd cX7_staged 24 = some (.aload_n 0, 25) := by decide +kernel
theorem dX7_staged_25 : dcd cX7_staged 25 = some (.aload_n 0, 26) := by decide +kernel
theorem dX7_staged_26 : dcd cX7_staged 26 = some (.getfield 29, 29) := by decide +kernel
theorem dX7_staged_29 : dcd cX7_staged 29 = some (.getfield 168, 32) := by decide +kernel
theorem dX7_staged_32 : dcd cX7_staged 32 = some (.aload_n 0, 33) := by decide +kernel
theorem dX7_staged_33 : dcd cX7_staged 33 = some (.getfield 29, 36) := by decide +kernel
theorem dX7_staged_36 : dcd cX7_staged 36 = some (.getfield 162, 39) := by decide +kernel
theorem dX7_staged_39 : dcd cX7_staged 39 = some (.invokevirtual 171, 42) := by decide +kernel
theorem dX7_staged_42 : dcd cX7_staged 42 = some (.iconst 1, 43) := by decide +kernel
theorem dX7_staged_43 : dcd cX7_staged 43 = some (.istore_n 2, 44) := by decide +kernel
theorem dX7_staged_44 : dcd cX7_staged 44 = some (.iload_n 2, 45) := by decide +kernel
theorem dX7_staged_45 : dcd cX7_staged 45 = some (.iconst 5, 46) := by decide +kernel
theorem dX7_staged_46 : dcd cX7_staged 46 = some (.if_icmp .gt 34, 49) := by decide +kernel
theorem dX7_staged_49 : dcd cX7_staged 49 = some (.aload_n 0, 50) := by decide +kernel
theorem dX7_staged_50 : dcd cX7_staged 50 = some (.getfield 40, 53) := by decide +kernel
theorem dX7_staged_53 : dcd cX7_staged 53 = some (.iload_n 2, 54) := by decide +kernel
theorem dX7_staged_54 : dcd cX7_staged 54 = some (.invokevirtual 184, 57) := by decide +kernel
theorem dX7_staged_57 : dcd cX7_staged 57 = some (.istore_n 3, 58) := by decide +kernel
theorem dX7_staged_58 : dcd cX7_staged 58 = some (.iload_n 3, 59) := by decide +kernel
theorem dX7_staged_59 : dcd cX7_staged 59 = some (.bipush (-9), 61) := by decide +kernel
theorem dX7_staged_61 : dcd cX7_staged 61 = some (.if_icmp .eq 13, 64) := by decide +kernel
theorem dX7_staged_64 : dcd cX7_staged 64 = some (.iload_n 1, 65) := by decide +kernel
theorem dX7_staged_65 : dcd cX7_staged 65 = some (.ifCond .ne 7, 68) := by decide +kernel
theorem dX7_staged_68 : dcd cX7_staged 68 = some (.iload_n 2, 69) := by decide +kernel
theorem dX7_staged_69 : dcd cX7_staged 69 = some (.goto 4, 72) := by decide +kernel
theorem dX7_staged_72 : dcd cX7_staged 72 = some (.iload_n 3, 73) := by decide +kernel
theorem dX7_staged_73 : dcd cX7_staged 73 = some (.ireturn, 74) := by decide +kernel
theorem dX7_staged_74 : dcd cX7_staged 74 = some (.iinc 2 1, 77) := by decide +kernel
theorem dX7_staged_77 : dcd cX7_staged 77 = some (.goto (-33), 80) := by decide +kernel
theorem dX7_staged_80 : dcd cX7_staged 80 = some (.bipush (-9), 82) := by decide +kernel
theorem dX7_staged_82 : dcd cX7_staged 82 = some (.ireturn, 83) := by decide +kernel
theorem dX7_night_0 : dcd cX7_night 0 = some (.aload_n 0, 1) := by decide +kernel
theorem dX7_night_1 : dcd cX7_night 1 = some (.getfield 29, 4) := by decide +kernel
theorem dX7_night_4 : dcd cX7_night 4 = some (.iload_n 1, 5) := by decide +kernel
theorem dX7_night_5 : dcd cX7_night 5 = some (.invokevirtual 165, 8) := by decide +kernel
theorem dX7_night_8 : dcd cX7_night 8 = some (.ifCond .eq 12, 11) := by decide +kernel
theorem dX7_night_11 : dcd cX7_night 11 = some (.iload_n 2, 12) := by decide +kernel
theorem dX7_night_12 : dcd cX7_night 12 = some (.ifCond .lt 8, 15) := by decide +kernel
theorem dX7_night_15 : dcd cX7_night 15 = some (.iload_n 2, 16) := by decide +kernel
theorem dX7_night_16 : dcd cX7_night 16 = some (.iconst 3, 17) := by decide +kernel
theorem dX7_night_17 : dcd cX7_night 17 = some (.if_icmp .le 5, 20) := by decide +kernel
theorem dX7_night_20 : dcd cX7_night 20 = some (.iconst (-1), 21) := by decide +kernel
theorem dX7_night_21 : dcd cX7_night 21 = some (.ireturn, 22) := by decide +kernel
theorem dX7_night_22 : dcd cX7_night 22 = some (.aload_n 0, 23) := by decide +kernel
theorem dX7_night_23 : dcd cX7_night 23 = some (.aload_n 0, 24) := by decide +kernel
theorem dX7_night_24 : dcd cX7_night 24 = some (.getfield 29, 27) := by decide +kernel
theorem dX7_night_27 : dcd cX7_night 27 = some (.getfield 168, 30) := by decide +kernel
theorem dX7_night_30 : dcd cX7_night 30 = some (.aload_n 0, 31) := by decide +kernel
theorem dX7_night_31 : dcd cX7_night 31 = some (.getfield 29, 34) := by decide +kernel
theorem dX7_night_34 : dcd cX7_night 34 = some (.getfield 162, 37) := by decide +kernel
theorem dX7_night_37 : dcd cX7_night 37 = some (.invokevirtual 171, 40) := by decide +kernel
theorem dX7_night_40 : dcd cX7_night 40 = some (.iload_n 2, 41) := by decide +kernel
theorem dX7_night_41 : dcd cX7_night 41 = some (.tableswitch 57 0 2 #[27, 37, 47], 68) := by decide +kernel
theorem dX7_night_68 : dcd cX7_night 68 = some (.aload_n 0, 69) := by decide +kernel
theorem dX7_night_69 : dcd cX7_night 69 = some (.getfield 40, 72) := by decide +kernel
theorem dX7_night_72 : dcd cX7_night 72 = some (.getfield 187, 75) := by decide +kernel
theorem dX7_night_75 : dcd cX7_night 75 = some (.iload_n 1, 76) := by decide +kernel
theorem dX7_night_76 : dcd cX7_night 76 = some (.iaload, 77) := by decide +kernel
theorem dX7_night_77 : dcd cX7_night 77 = some (.ireturn, 78) := by decide +kernel
theorem dX7_night_78 : dcd cX7_night 78 = some (.aload_n 0, 79) := by decide +kernel
theorem dX7_night_79 : dcd cX7_night 79 = some (.getfield 40, 82) := by decide +kernel
theorem dX7_night_82 : dcd cX7_night 82 = some (.getfield 190, 85) := by decide +kernel
theorem dX7_night_85 : dcd cX7_night 85 = some (.iload_n 1, 86) := by decide +kernel
theorem dX7_night_86 : dcd cX7_night 86 = some (.iaload, 87) := by decide +kernel
theorem dX7_night_87 : dcd cX7_night 87 = some (.ireturn, 88) := by decide +kernel
theorem dX7_night_88 : dcd cX7_night 88 = some (.aload_n 0, 89) := by decide +kernel
theorem dX7_night_89 : dcd cX7_night 89 = some (.getfield 40, 92) := by decide +kernel
theorem dX7_night_92 : dcd cX7_night 92 = some (.getfield 193, 95) := by decide +kernel
theorem dX7_night_95 : dcd cX7_night 95 = some (.iload_n 1, 96) := by decide +kernel
theorem dX7_night_96 : dcd cX7_night 96 = some (.iaload, 97) := by decide +kernel
theorem dX7_night_97 : dcd cX7_night 97 = some (.ireturn, 98) := by decide +kernel
theorem dX7_night_98 : dcd cX7_night 98 = some (.aload_n 0, 99) := by decide +kernel
theorem dX7_night_99 : dcd cX7_night 99 = some (.getfield 40, 102) := by decide +kernel
theorem dX7_night_102 : dcd cX7_night 102 = some (.getfield 196, 105) := by decide +kernel
theorem dX7_night_105 : dcd cX7_night 105 = some (.iload_n 1, 106) := by decide +kernel
theorem dX7_night_106 : dcd cX7_night 106 = some (.iaload, 107) := by decide +kernel
theorem dX7_night_107 : dcd cX7_night 107 = some (.ireturn, 108) := by decide +kernel
theorem dX7_worth_0 : dcd cX7_worth 0 = some (.iload_n 1, 1) := by decide +kernel
theorem dX7_worth_1 : dcd cX7_worth 1 = some (.ifCond .lt 8, 4) := by decide +kernel
theorem dX7_worth_4 : dcd cX7_worth 4 = some (.iload_n 1, 5) := by decide +kernel
theorem dX7_worth_5 : dcd cX7_worth 5 = some (.iconst 3, 6) := by decide +kernel
theorem dX7_worth_6 : dcd cX7_worth 6 = some (.if_icmp .le 5, 9) := by decide +kernel
theorem dX7_worth_9 : dcd cX7_worth 9 = some (.iconst (-1), 10) := by decide +kernel
theorem dX7_worth_10 : dcd cX7_worth 10 = some (.ireturn, 11) := by decide +kernel
theorem dX7_worth_11 : dcd cX7_worth 11 = some (.aload_n 0, 12) := by decide +kernel
theorem dX7_worth_12 : dcd cX7_worth 12 = some (.getfield 29, 15) := by decide +kernel
theorem dX7_worth_15 : dcd cX7_worth 15 = some (.getfield 159, 18) := by decide +kernel
theorem dX7_worth_18 : dcd cX7_worth 18 = some (.ifCond .ne 6, 21) := by decide +kernel
theorem dX7_worth_21 : dcd cX7_worth 21 = some (.bipush (-2), 23) := by decide +kernel
theorem dX7_worth_23 : dcd cX7_worth 23 = some (.ireturn, 24) := by decide +kernel
theorem dX7_worth_24 : dcd cX7_worth 24 = some (.aload_n 0, 25) := by decide +kernel
theorem dX7_worth_25 : dcd cX7_worth 25 = some (.aload_n 0, 26) := by decide +kernel
theorem dX7_worth_26 : dcd cX7_worth 26 = some (.getfield 29, 29) := by decide +kernel
theorem dX7_worth_29 : dcd cX7_worth 29 = some (.getfield 168, 32) := by decide +kernel
theorem dX7_worth_32 : dcd cX7_worth 32 = some (.aload_n 0, 33) := by decide +kernel
theorem dX7_worth_33 : dcd cX7_worth 33 = some (.getfield 29, 36) := by decide +kernel
theorem dX7_worth_36 : dcd cX7_worth 36 = some (.getfield 162, 39) := by decide +kernel
theorem dX7_worth_39 : dcd cX7_worth 39 = some (.invokevirtual 171, 42) := by decide +kernel
theorem dX7_worth_42 : dcd cX7_worth 42 = some (.aload_n 0, 43) := by decide +kernel
theorem dX7_worth_43 : dcd cX7_worth 43 = some (.getfield 29, 46) := by decide +kernel
theorem dX7_worth_46 : dcd cX7_worth 46 = some (.getfield 159, 49) := by decide +kernel
theorem dX7_worth_49 : dcd cX7_worth 49 = some (.iconst 1, 50) := by decide +kernel
theorem dX7_worth_50 : dcd cX7_worth 50 = some (.isub, 51) := by decide +kernel
theorem dX7_worth_51 : dcd cX7_worth 51 = some (.istore_n 2, 52) := by decide +kernel
theorem dX7_worth_52 : dcd cX7_worth 52 = some (.iload_n 1, 53) := by decide +kernel
theorem dX7_worth_53 : dcd cX7_worth 53 = some (.tableswitch 53 0 2 #[27, 35, 43], 80) := by decide +kernel
theorem dX7_worth_80 : dcd cX7_worth 80 = some (.aload_n 0, 81) := by decide +kernel
theorem dX7_worth_81 : dcd cX7_worth 81 = some (.getfield 40, 84) := by decide +kernel
theorem dX7_worth_84 : dcd cX7_worth 84 = some (.invokevirtual 199, 87) := by decide +kernel
theorem dX7_worth_87 : dcd cX7_worth 87 = some (.ireturn, 88) := by decide +kernel
theorem dX7_worth_88 : dcd cX7_worth 88 = some (.aload_n 0, 89) := by decide +kernel
theorem dX7_worth_89 : dcd cX7_worth 89 = some (.getfield 40, 92) := by decide +kernel
theorem dX7_worth_92 : dcd cX7_worth 92 = some (.getfield 203, 95) := by decide +kernel
theorem dX7_worth_95 : dcd cX7_worth 95 = some (.ireturn, 96) := by decide +kernel
theorem dX7_worth_96 : dcd cX7_worth 96 = some (.aload_n 0, 97) := by decide +kernel
theorem dX7_worth_97 : dcd cX7_worth 97 = some (.getfield 40, 100) := by decide +kernel
theorem dX7_worth_100 : dcd cX7_worth 100 = some (.getfield 196, 103) := by decide +kernel
theorem dX7_worth_103 : dcd cX7_worth 103 = some (.iload_n 2, 104) := by decide +kernel
theorem dX7_worth_104 : dcd cX7_worth 104 = some (.iaload, 105) := by decide +kernel
theorem dX7_worth_105 : dcd cX7_worth 105 = some (.ireturn, 106) := by decide +kernel
theorem dX7_worth_106 : dcd cX7_worth 106 = some (.aload_n 0, 107) := by decide +kernel
theorem dX7_worth_107 : dcd cX7_worth 107 = some (.getfield 40, 110) := by decide +kernel
theorem dX7_worth_110 : dcd cX7_worth 110 = some (.getfield 181, 113) := by decide +kernel
theorem dX7_worth_113 : dcd cX7_worth 113 = some (.iload_n 2, 114) := by decide +kernel
theorem dX7_worth_114 : dcd cX7_worth 114 = some (.iaload, 115) := by decide +kernel
theorem dX7_worth_115 : dcd cX7_worth 115 = some (.ireturn, 116) := by decide +kernel
theorem dX7_best_0 : dcd cX7_best 0 = some (.iload_n 1, 1) := by decide +kernel
theorem dX7_best_1 : dcd cX7_best 1 = some (.ifCond .lt 8, 4) := by decide +kernel
theorem dX7_best_4 : dcd cX7_best 4 = some (.iload_n 1, 5) := by decide +kernel
theorem dX7_best_5 : dcd cX7_best 5 = some (.iconst 3, 6) := by decide +kernel
theorem dX7_best_6 : dcd cX7_best 6 = some (.if_icmp .le 5, 9) := by decide +kernel
theorem dX7_best_9 : dcd cX7_best 9 = some (.iconst (-1), 10) := by decide +kernel
theorem dX7_best_10 : dcd cX7_best 10 = some (.ireturn, 11) := by decide +kernel
theorem dX7_best_11 : dcd cX7_best 11 = some (.aload_n 0, 12) := by decide +kernel
theorem dX7_best_12 : dcd cX7_best 12 = some (.getfield 29, 15) := by decide +kernel
theorem dX7_best_15 : dcd cX7_best 15 = some (.getfield 159, 18) := by decide +kernel
theorem dX7_best_18 : dcd cX7_best 18 = some (.ifCond .eq 15, 21) := by decide +kernel
theorem dX7_best_21 : dcd cX7_best 21 = some (.aload_n 0, 22) := by decide +kernel
theorem dX7_best_22 : dcd cX7_best 22 = some (.getfield 29, 25) := by decide +kernel
theorem dX7_best_25 : dcd cX7_best 25 = some (.getfield 159, 28) := by decide +kernel
theorem dX7_best_28 : dcd cX7_best 28 = some (.bipush 7, 30) := by decide +kernel
theorem dX7_best_30 : dcd cX7_best 30 = some (.if_icmp .le 6, 33) := by decide +kernel
theorem dX7_best_33 : dcd cX7_best 33 = some (.bipush (-2), 35) := by decide +kernel
theorem dX7_best_35 : dcd cX7_best 35 = some (.ireturn, 36) := by decide +kernel
theorem dX7_best_36 : dcd cX7_best 36 = some (.aload_n 0, 37) := by decide +kernel
theorem dX7_best_37 : dcd cX7_best 37 = some (.invokevirtual 206, 40) := by decide +kernel
theorem dX7_best_40 : dcd cX7_best 40 = some (.iload_n 1, 41) := by decide +kernel
theorem dX7_best_41 : dcd cX7_best 41 = some (.iconst 3, 42) := by decide +kernel
theorem dX7_best_42 : dcd cX7_best 42 = some (.if_icmp .ne 11, 45) := by decide +kernel
theorem dX7_best_45 : dcd cX7_best 45 = some (.aload_n 0, 46) := by decide +kernel
theorem dX7_best_46 : dcd cX7_best 46 = some (.getfield 47, 49) := by decide +kernel
theorem dX7_best_49 : dcd cX7_best 49 = some (.getfield 209, 52) := by decide +kernel
theorem dX7_best_52 : dcd cX7_best 52 = some (.ireturn, 53) := by decide +kernel
theorem dX7_best_53 : dcd cX7_best 53 = some (.aload_n 0, 54) := by decide +kernel
theorem dX7_best_54 : dcd cX7_best 54 = some (.getfield 47, 57) := by decide +kernel
theorem dX7_best_57 : dcd cX7_best 57 = some (.getfield 209, 60) := by decide +kernel
theorem dX7_best_60 : dcd cX7_best 60 = some (.ifCond .ne 6, 63) := by decide +kernel
theorem dX7_best_63 : dcd cX7_best 63 = some (.bipush (-9), 65) := by decide +kernel
theorem dX7_best_65 : dcd cX7_best 65 = some (.ireturn, 66) := by decide +kernel
theorem dX7_best_66 : dcd cX7_best 66 = some (.iload_n 1, 67) := by decide +kernel
theorem dX7_best_67 : dcd cX7_best 67 = some (.lookupswitch 41 #[(0, 25), (1, 33)], 92) := by decide +kernel
theorem dX7_best_92 : dcd cX7_best 92 = some (.aload_n 0, 93) := by decide +kernel
theorem dX7_best_93 : dcd cX7_best 93 = some (.getfield 47, 96) := by decide +kernel
theorem dX7_best_96 : dcd cX7_best 96 = some (.getfield 212, 99) := by decide +kernel
theorem dX7_best_99 : dcd cX7_best 99 = some (.ireturn, 100) := by decide +kernel
theorem dX7_best_100 : dcd cX7_best 100 = some (.aload_n 0, 101) := by decide +kernel
theorem dX7_best_101 : dcd cX7_best 101 = some (.getfield 47, 104) := by decide +kernel
theorem dX7_best_104 : dcd cX7_best 104 = some (.getfield 214, 107) := by decide +kernel
theorem dX7_best_107 : dcd cX7_best 107 = some (.ireturn, 108) := by decide +kernel
theorem dX7_best_108 : dcd cX7_best 108 = some (.aload_n 0, 109) := by decide +kernel
theorem dX7_best_109 : dcd cX7_best 109 = some (.getfield 47, 112) := by decide +kernel
theorem dX7_best_112 : dcd cX7_best 112 = some (.getfield 217, 115) := by decide +kernel
theorem dX7_best_115 : dcd cX7_best 115 = some (.ireturn, 116) := by decide +kernel
theorem dX7_custom_0 : dcd cX7_custom 0 = some (.aload_n 0, 1) := by decide +kernel
theorem dX7_custom_1 : dcd cX7_custom 1 = some (.getfield 29, 4) := by decide +kernel
theorem dX7_custom_4 : dcd cX7_custom 4 = some (.getfield 159, 7) := by decide +kernel
theorem dX7_custom_7 : dcd cX7_custom 7 = some (.ifCond .ne 6, 10) := by decide +kernel
theorem dX7_custom_10 : dcd cX7_custom 10 = some (.bipush (-2), 12) := by decide +kernel
theorem dX7_custom_12 : dcd cX7_custom 12 = some (.ireturn, 13) := by decide +kernel
theorem dX7_custom_13 : dcd cX7_custom 13 = some (.aload_n 0, 14) := by decide +kernel
theorem dX7_custom_14 : dcd cX7_custom 14 = some (.bipush (-9), 16) := by decide +kernel
theorem dX7_custom_16 : dcd cX7_custom 16 = some (.invokevirtual 218, 19) := by decide +kernel
theorem dX7_custom_19 : dcd cX7_custom 19 = some (.pop, 20) := by decide +kernel
theorem dX7_custom_20 : dcd cX7_custom 20 = some (.aload_n 0, 21) := by decide +kernel
theorem dX7_custom_21 : dcd cX7_custom 21 = some (.invokevirtual 221, 24) := by decide +kernel
theorem dX7_custom_24 : dcd cX7_custom 24 = some (.aload_n 0, 25) := by decide +kernel
theorem dX7_custom_25 : dcd cX7_custom 25 = some (.getfield 29, 28) := by decide +kernel
theorem dX7_custom_28 : dcd cX7_custom 28 = some (.getfield 159, 31) := by decide +kernel
theorem dX7_custom_31 : dcd cX7_custom 31 = some (.iconst 1, 32) := by decide +kernel
theorem dX7_custom_32 : dcd cX7_custom 32 = some (.isub, 33) := by decide +kernel
theorem dX7_custom_33 : dcd cX7_custom 33 = some (.istore_n 1, 34) := by decide +kernel
theorem dX7_custom_34 : dcd cX7_custom 34 = some (.iload_n 1, 35) := by decide +kernel
theorem dX7_custom_35 : dcd cX7_custom 35 = some (.ifCond .le 33, 38) := by decide +kernel
theorem dX7_custom_38 : dcd cX7_custom 38 = some (.aload_n 0, 39) := by decide +kernel
theorem dX7_custom_39 : dcd cX7_custom 39 = some (.getfield 70, 42) := by decide +kernel
theorem dX7_custom_42 : dcd cX7_custom 42 = some (.iload_n 1, 43) := by decide +kernel
theorem dX7_custom_43 : dcd cX7_custom 43 = some (.iaload, 44) := by decide +kernel
theorem dX7_custom_44 : dcd cX7_custom 44 = some (.istore_n 2, 45) := by decide +kernel
theorem dX7_custom_45 : dcd cX7_custom 45 = some (.aload_n 0, 46) := by decide +kernel
theorem dX7_custom_46 : dcd cX7_custom 46 = some (.getfield 70, 49) := by decide +kernel
theorem dX7_custom_49 : dcd cX7_custom 49 = some (.iload_n 1, 50) := by decide +kernel
theorem dX7_custom_50 : dcd cX7_custom 50 = some (.aload_n 0, 51) := by decide +kernel
theorem dX7_custom_51 : dcd cX7_custom 51 = some (.getfield 70, 54) := by decide +kernel
theorem dX7_custom_54 : dcd cX7_custom 54 = some (.iload_n 1, 55) := by decide +kernel
theorem dX7_custom_55 : dcd cX7_custom 55 = some (.iconst 1, 56) := by decide +kernel
theorem dX7_custom_56 : dcd cX7_custom 56 = some (.isub, 57) := by decide +kernel
theorem dX7_custom_57 : dcd cX7_custom 57 = some (.iaload, 58) := by decide +kernel
theorem dX7_custom_58 : dcd cX7_custom 58 = some (.iastore, 59) := by decide +kernel
theorem dX7_custom_59 : dcd cX7_custom 59 = some (.aload_n 0, 60) := by decide +kernel
theorem dX7_custom_60 : dcd cX7_custom 60 = some (.getfield 70, 63) := by decide +kernel
theorem dX7_custom_63 : dcd cX7_custom 63 = some (.iload_n 1, 64) := by decide +kernel
theorem dX7_custom_64 : dcd cX7_custom 64 = some (.iconst 1, 65) := by decide +kernel
theorem dX7_custom_65 : dcd cX7_custom 65 = some (.isub, 66) := by decide +kernel
theorem dX7_custom_66 : dcd cX7_custom 66 = some (.iload_n 2, 67) := by decide +kernel
theorem dX7_custom_67 : dcd cX7_custom 67 = some (.iastore, 68) := by decide +kernel
theorem dX7_custom_68 : dcd cX7_custom 68 = some (.aload_n 0, 69) := by decide +kernel
theorem dX7_custom_69 : dcd cX7_custom 69 = some (.aload_n 0, 70) := by decide +kernel
theorem dX7_custom_70 : dcd cX7_custom 70 = some (.getfield 70, 73) := by decide +kernel
theorem dX7_custom_73 : dcd cX7_custom 73 = some (.aload_n 0, 74) := by decide +kernel
theorem dX7_custom_74 : dcd cX7_custom 74 = some (.getfield 29, 77) := by decide +kernel
theorem dX7_custom_77 : dcd cX7_custom 77 = some (.getfield 162, 80) := by decide +kernel
theorem dX7_custom_80 : dcd cX7_custom 80 = some (.invokevirtual 171, 83) := by decide +kernel
theorem dX7_custom_83 : dcd cX7_custom 83 = some (.aload_n 0, 84) := by decide +kernel
theorem dX7_custom_84 : dcd cX7_custom 84 = some (.getfield 40, 87) := by decide +kernel
theorem dX7_custom_87 : dcd cX7_custom 87 = some (.invokevirtual 199, 90) := by decide +kernel
theorem dX7_custom_90 : dcd cX7_custom 90 = some (.ireturn, 91) := by decide +kernel
theorem dX7_when_0 : dcd cX7_when 0 = some (.aload_n 0, 1) := by decide +kernel
theorem dX7_when_1 : dcd cX7_when 1 = some (.getfield 29, 4) := by decide +kernel
theorem dX7_when_4 : dcd cX7_when 4 = some (.getfield 159, 7) := by decide +kernel
theorem dX7_when_7 : dcd cX7_when 7 = some (.ifCond .ne 6, 10) := by decide +kernel
theorem dX7_when_10 : dcd cX7_when 10 = some (.bipush (-2), 12) := by decide +kernel
theorem dX7_when_12 : dcd cX7_when 12 = some (.ireturn, 13) := by decide +kernel
theorem dX7_when_13 : dcd cX7_when 13 = some (.bipush (-9), 15) := by decide +kernel
theorem dX7_when_15 : dcd cX7_when 15 = some (.istore_n 1, 16) := by decide +kernel
theorem dX7_when_16 : dcd cX7_when 16 = some (.iconst 0, 17) := by decide +kernel
theorem dX7_when_17 : dcd cX7_when 17 = some (.istore_n 2, 18) := by decide +kernel
theorem dX7_when_18 : dcd cX7_when 18 = some (.iconst 0, 19) := by decide +kernel
theorem dX7_when_19 : dcd cX7_when 19 = some (.istore_n 3, 20) := by decide +kernel
theorem dX7_when_20 : dcd cX7_when 20 = some (.iload_n 3, 21) := by decide +kernel
theorem dX7_when_21 : dcd cX7_when 21 = some (.aload_n 0, 22) := by decide +kernel
theorem dX7_when_22 : dcd cX7_when 22 = some (.getfield 29, 25) := by decide +kernel
theorem dX7_when_25 : dcd cX7_when 25 = some (.getfield 159, 28) := by decide +kernel
theorem dX7_when_28 : dcd cX7_when 28 = some (.if_icmp .ge 58, 31) := by decide +kernel
theorem dX7_when_31 : dcd cX7_when 31 = some (.aload_n 0, 32) := by decide +kernel
theorem dX7_when_32 : dcd cX7_when 32 = some (.aload_n 0, 33) := by decide +kernel
theorem dX7_when_33 : dcd cX7_when 33 = some (.getfield 29, 36) := by decide +kernel
theorem dX7_when_36 : dcd cX7_when 36 = some (.getfield 168, 39) := by decide +kernel
theorem dX7_when_39 : dcd cX7_when 39 = some (.iload_n 3, 40) := by decide +kernel
theorem dX7_when_40 : dcd cX7_when 40 = some (.invokevirtual 171, 43) := by decide +kernel
theorem dX7_when_43 : dcd cX7_when 43 = some (.aload_n 0, 44) := by decide +kernel
theorem dX7_when_44 : dcd cX7_when 44 = some (.getfield 40, 47) := by decide +kernel
theorem dX7_when_47 : dcd cX7_when 47 = some (.invokevirtual 224, 50) := by decide +kernel
theorem dX7_when_50 : dcd cX7_when 50 = some (.ifCond .eq 30, 53) := by decide +kernel
theorem dX7_when_53 : dcd cX7_when 53 = some (.iload_n 1, 54) := by decide +kernel
theorem dX7_when_54 : dcd cX7_when 54 = some (.bipush (-9), 56) := by decide +kernel
theorem dX7_when_56 : dcd cX7_when 56 = some (.if_icmp .eq 14, 59) := by decide +kernel
theorem dX7_when_59 : dcd cX7_when 59 = some (.aload_n 0, 60) := by decide +kernel
theorem dX7_when_60 : dcd cX7_when 60 = some (.getfield 40, 63) := by decide +kernel
theorem dX7_when_63 : dcd cX7_when 63 = some (.invokevirtual 199, 66) := by decide +kernel
theorem dX7_when_66 : dcd cX7_when 66 = some (.iload_n 2, 67) := by decide +kernel
theorem dX7_when_67 : dcd cX7_when 67 = some (.if_icmp .le 13, 70) := by decide +kernel
theorem dX7_when_70 : dcd cX7_when 70 = some (.iload_n 3, 71) := by decide +kernel
theorem dX7_when_71 : dcd cX7_when 71 = some (.istore_n 1, 72) := by decide +kernel
theorem dX7_when_72 : dcd cX7_when 72 = some (.aload_n 0, 73) := by decide +kernel
theorem dX7_when_73 : dcd cX7_when 73 = some (.getfield 40, 76) := by decide +kernel
theorem dX7_when_76 : dcd cX7_when 76 = some (.invokevirtual 199, 79) := by decide +kernel
theorem dX7_when_79 : dcd cX7_when 79 = some (.istore_n 2, 80) := by decide +kernel
theorem dX7_when_80 : dcd cX7_when 80 = some (.iinc 3 1, 83) := by decide +kernel
theorem dX7_when_83 : dcd cX7_when 83 = some (.goto (-63), 86) := by decide +kernel
theorem dX7_when_86 : dcd cX7_when 86 = some (.iload_n 1, 87) := by decide +kernel
theorem dX7_when_87 : dcd cX7_when 87 = some (.ireturn, 88) := by decide +kernel
theorem dX7_ill_0 : dcd cX7_ill 0 = some (.aload_n 0, 1) := by decide +kernel
theorem dX7_ill_1 : dcd cX7_ill 1 = some (.iload_n 1, 2) := by decide +kernel
theorem dX7_ill_2 : dcd cX7_ill 2 = some (.invokevirtual 106, 5) := by decide +kernel
theorem dX7_ill_5 : dcd cX7_ill 5 = some (.ifCond .eq 14, 8) := by decide +kernel
theorem dX7_ill_8 : dcd cX7_ill 8 = some (.aload_n 0, 9) := by decide +kernel
theorem dX7_ill_9 : dcd cX7_ill 9 = some (.getfield 29, 12) := by decide +kernel
theorem dX7_ill_12 : dcd cX7_ill 12 = some (.iload_n 1, 13) := by decide +kernel
theorem dX7_ill_13 : dcd cX7_ill 13 = some (.invokevirtual 153, 16) := by decide +kernel
theorem dX7_ill_16 : dcd cX7_ill 16 = some (.goto 5, 19) := by decide +kernel
theorem dX7_ill_19 : dcd cX7_ill 19 = some (.bipush (-9), 21) := by decide +kernel
theorem dX7_ill_21 : dcd cX7_ill 21 = some (.istore_n 3, 22) := by decide +kernel
theorem dX7_ill_22 : dcd cX7_ill 22 = some (.iload_n 3, 23) := by decide +kernel
theorem dX7_ill_23 : dcd cX7_ill 23 = some (.bipush (-9), 25) := by decide +kernel
theorem dX7_ill_25 : dcd cX7_ill 25 = some (.if_icmp .eq 12, 28) := by decide +kernel
theorem dX7_ill_28 : dcd cX7_ill 28 = some (.iload_n 2, 29) := by decide +kernel
theorem dX7_ill_29 : dcd cX7_ill 29 = some (.ifCond .lt 8, 32) := by decide +kernel
theorem dX7_ill_32 : dcd cX7_ill 32 = some (.iload_n 2, 33) := by decide +kernel
theorem dX7_ill_33 : dcd cX7_ill 33 = some (.iconst 2, 34) := by decide +kernel
theorem dX7_ill_34 : dcd cX7_ill 34 = some (.if_icmp .le 5, 37) := by decide +kernel
theorem dX7_ill_37 : dcd cX7_ill 37 = some (.iconst (-1), 38) := by decide +kernel
theorem dX7_ill_38 : dcd cX7_ill 38 = some (.ireturn, 39) := by decide +kernel
theorem dX7_ill_39 : dcd cX7_ill 39 = some (.aload_n 0, 40) := by decide +kernel
theorem dX7_ill_40 : dcd cX7_ill 40 = some (.getfield 29, 43) := by decide +kernel
theorem dX7_ill_43 : dcd cX7_ill 43 = some (.getfield 159, 46) := by decide +kernel
theorem dX7_ill_46 : dcd cX7_ill 46 = some (.bipush 7, 48) := by decide +kernel
theorem dX7_ill_48 : dcd cX7_ill 48 = some (.if_icmp .gt 14, 51) := by decide +kernel
theorem dX7_ill_51 : dcd cX7_ill 51 = some (.aload_n 0, 52) := by decide +kernel
theorem dX7_ill_52 : dcd cX7_ill 52 = some (.getfield 29, 55) := by decide +kernel
theorem dX7_ill_55 : dcd cX7_ill 55 = some (.getfield 159, 58) := by decide +kernel
theorem dX7_ill_58 : dcd cX7_ill 58 = some (.iconst 2, 59) := by decide +kernel
theorem dX7_ill_59 : dcd cX7_ill 59 = some (.if_icmp .ge 6, 62) := by decide +kernel
theorem dX7_ill_62 : dcd cX7_ill 62 = some (.bipush (-2), 64) := by decide +kernel
theorem dX7_ill_64 : dcd cX7_ill 64 = some (.ireturn, 65) := by decide +kernel
theorem dX7_ill_65 : dcd cX7_ill 65 = some (.aload_n 0, 66) := by decide +kernel
theorem dX7_ill_66 : dcd cX7_ill 66 = some (.iload_n 1, 67) := by decide +kernel
theorem dX7_ill_67 : dcd cX7_ill 67 = some (.iload_n 3, 68) := by decide +kernel
theorem dX7_ill_68 : dcd cX7_ill 68 = some (.invokevirtual 228, 71) := by decide +kernel
theorem dX7_ill_71 : dcd cX7_ill 71 = some (.aload_n 0, 72) := by decide +kernel
theorem dX7_ill_72 : dcd cX7_ill 72 = some (.getfield 51, 75) := by decide +kernel
theorem dX7_ill_75 : dcd cX7_ill 75 = some (.getfield 209, 78) := by decide +kernel
theorem dX7_ill_78 : dcd cX7_ill 78 = some (.ifCond .ne 6, 81) := by decide +kernel
theorem dX7_ill_81 : dcd cX7_ill 81 = some (.bipush (-9), 83) := by decide +kernel
theorem dX7_ill_83 : dcd cX7_ill 83 = some (.ireturn, 84) := by decide +kernel
theorem dX7_ill_84 : dcd cX7_ill 84 = some (.iload_n 2, 85) := by decide +kernel
theorem dX7_ill_85 : dcd cX7_ill 85 = some (.lookupswitch 43 #[(0, 27), (1, 35)], 112) := by decide +kernel
theorem dX7_ill_112 : dcd cX7_ill 112 = some (.aload_n 0, 113) := by decide +kernel
theorem dX7_ill_113 : dcd cX7_ill 113 = some (.getfield 51, 116) := by decide +kernel
theorem dX7_ill_116 : dcd cX7_ill 116 = some (.getfield 232, 119) := by decide +kernel
theorem dX7_ill_119 : dcd cX7_ill 119 = some (.ireturn, 120) := by decide +kernel
theorem dX7_ill_120 : dcd cX7_ill 120 = some (.aload_n 0, 121) := by decide +kernel
theorem dX7_ill_121 : dcd cX7_ill 121 = some (.getfield 51, 124) := by decide +kernel
theorem dX7_ill_124 : dcd cX7_ill 124 = some (.getfield 214, 127) := by decide +kernel
theorem dX7_ill_127 : dcd cX7_ill 127 = some (.ireturn, 128) := by decide +kernel
theorem dX7_ill_128 : dcd cX7_ill 128 = some (.aload_n 0, 129) := by decide +kernel
theorem dX7_ill_129 : dcd cX7_ill 129 = some (.getfield 51, 132) := by decide +kernel
theorem dX7_ill_132 : dcd cX7_ill 132 = some (.getfield 212, 135) := by decide +kernel
theorem dX7_ill_135 : dcd cX7_ill 135 = some (.ireturn, 136) := by decide +kernel
theorem dX7_halves_0 : dcd cX7_halves 0 = some (.iload_n 1, 1) := by decide +kernel
theorem dX7_halves_1 : dcd cX7_halves 1 = some (.ifCond .lt 8, 4) := by decide +kernel
theorem dX7_halves_4 : dcd cX7_halves 4 = some (.iload_n 1, 5) := by decide +kernel
theorem dX7_halves_5 : dcd cX7_halves 5 = some (.iconst 1, 6) := by decide +kernel
theorem dX7_halves_6 : dcd cX7_halves 6 = some (.if_icmp .le 5, 9) := by decide +kernel
theorem dX7_halves_9 : dcd cX7_halves 9 = some (.iconst (-1), 10) := by decide +kernel
theorem dX7_halves_10 : dcd cX7_halves 10 = some (.ireturn, 11) := by decide +kernel
theorem dX7_halves_11 : dcd cX7_halves 11 = some (.aload_n 0, 12) := by decide +kernel
theorem dX7_halves_12 : dcd cX7_halves 12 = some (.getfield 29, 15) := by decide +kernel
theorem dX7_halves_15 : dcd cX7_halves 15 = some (.getfield 159, 18) := by decide +kernel
theorem dX7_halves_18 : dcd cX7_halves 18 = some (.iconst 2, 19) := by decide +kernel
theorem dX7_halves_19 : dcd cX7_halves 19 = some (.if_icmp .ge 6, 22) := by decide +kernel
theorem dX7_halves_22 : dcd cX7_halves 22 = some (.bipush (-2), 24) := by decide +kernel
theorem dX7_halves_24 : dcd cX7_halves 24 = some (.ireturn, 25) := by decide +kernel
theorem dX7_halves_25 : dcd cX7_halves 25 = some (.aload_n 0, 26) := by decide +kernel
theorem dX7_halves_26 : dcd cX7_halves 26 = some (.getfield 29, 29) := by decide +kernel
theorem dX7_halves_29 : dcd cX7_halves 29 = some (.invokevirtual 235, 32) := by decide +kernel
theorem dX7_halves_32 : dcd cX7_halves 32 = some (.istore_n 2, 33) := by decide +kernel
theorem dX7_halves_33 : dcd cX7_halves 33 = some (.bipush (-9), 35) := by decide +kernel
theorem dX7_halves_35 : dcd cX7_halves 35 = some (.istore_n 3, 36) := by decide +kernel
theorem dX7_halves_36 : dcd cX7_halves 36 = some (.iconst 1, 37) := by decide +kernel
theorem dX7_halves_37 : dcd cX7_halves 37 = some (.istore 4, 39) := by decide +kernel
theorem dX7_halves_39 : dcd cX7_halves 39 = some (.iload 4, 41) := by decide +kernel
theorem dX7_halves_41 : dcd cX7_halves 41 = some (.iload_n 2, 42) := by decide +kernel
theorem dX7_halves_42 : dcd cX7_halves 42 = some (.if_icmp .gt 44, 45) := by decide +kernel
theorem dX7_halves_45 : dcd cX7_halves 45 = some (.aload_n 0, 46) := by decide +kernel
theorem dX7_halves_46 : dcd cX7_halves 46 = some (.iload 4, 48) := by decide +kernel
theorem dX7_halves_48 : dcd cX7_halves 48 = some (.iload_n 2, 49) := by decide +kernel
theorem dX7_halves_49 : dcd cX7_halves 49 = some (.invokevirtual 238, 52) := by decide +kernel
theorem dX7_halves_52 : dcd cX7_halves 52 = some (.ifCond .eq 28, 55) := by decide +kernel
theorem dX7_halves_55 : dcd cX7_halves 55 = some (.iload_n 3, 56) := by decide +kernel
theorem dX7_halves_56 : dcd cX7_halves 56 = some (.bipush (-9), 58) := by decide +kernel
theorem dX7_halves_58 : dcd cX7_halves 58 = some (.if_icmp .eq 19, 61) := by decide +kernel
theorem dX7_halves_61 : dcd cX7_halves 61 = some (.aload_n 0, 62) := by decide +kernel
theorem dX7_halves_62 : dcd cX7_halves 62 = some (.iload 4, 64) := by decide +kernel
theorem dX7_halves_64 : dcd cX7_halves 64 = some (.iload_n 2, 65) := by decide +kernel
theorem dX7_halves_65 : dcd cX7_halves 65 = some (.invokevirtual 242, 68) := by decide +kernel
theorem dX7_halves_68 : dcd cX7_halves 68 = some (.aload_n 0, 69) := by decide +kernel
theorem dX7_halves_69 : dcd cX7_halves 69 = some (.iload_n 3, 70) := by decide +kernel
theorem dX7_halves_70 : dcd cX7_halves 70 = some (.iload_n 2, 71) := by decide +kernel
theorem dX7_halves_71 : dcd cX7_halves 71 = some (.invokevirtual 242, 74) := by decide +kernel
theorem dX7_halves_74 : dcd cX7_halves 74 = some (.if_icmp .ge 6, 77) := by decide +kernel
theorem dX7_halves_77 : dcd cX7_halves 77 = some (.iload 4, 79) := by decide +kernel
theorem dX7_halves_79 : dcd cX7_halves 79 = some (.istore_n 3, 80) := by decide +kernel
theorem dX7_halves_80 : dcd cX7_halves 80 = some (.iinc 4 1, 83) := by decide +kernel
theorem dX7_halves_83 : dcd cX7_halves 83 = some (.goto (-44), 86) := by decide +kernel
theorem dX7_halves_86 : dcd cX7_halves 86 = some (.iload_n 3, 87) := by decide +kernel
theorem dX7_halves_87 : dcd cX7_halves 87 = some (.bipush (-9), 89) := by decide +kernel
theorem dX7_halves_89 : dcd cX7_halves 89 = some (.if_icmp .ne 6, 92) := by decide +kernel
theorem dX7_halves_92 : dcd cX7_halves 92 = some (.bipush (-9), 94) := by decide +kernel
theorem dX7_halves_94 : dcd cX7_halves 94 = some (.ireturn, 95) := by decide +kernel
theorem dX7_halves_95 : dcd cX7_halves 95 = some (.iload_n 1, 96) := by decide +kernel
theorem dX7_halves_96 : dcd cX7_halves 96 = some (.ifCond .ne 7, 99) := by decide +kernel
theorem dX7_halves_99 : dcd cX7_halves 99 = some (.iload_n 3, 100) := by decide +kernel
theorem dX7_halves_100 : dcd cX7_halves 100 = some (.goto 9, 103) := by decide +kernel
theorem dX7_halves_103 : dcd cX7_halves 103 = some (.aload_n 0, 104) := by decide +kernel
theorem dX7_halves_104 : dcd cX7_halves 104 = some (.iload_n 3, 105) := by decide +kernel
theorem dX7_halves_105 : dcd cX7_halves 105 = some (.iload_n 2, 106) := by decide +kernel
theorem dX7_halves_106 : dcd cX7_halves 106 = some (.invokevirtual 242, 109) := by decide +kernel
theorem dX7_halves_109 : dcd cX7_halves 109 = some (.ireturn, 110) := by decide +kernel
theorem dX7_tryout_0 : dcd cX7_tryout 0 = some (.iload_n 1, 1) := by decide +kernel
theorem dX7_tryout_1 : dcd cX7_tryout 1 = some (.ifCond .lt 19, 4) := by decide +kernel
theorem dX7_tryout_4 : dcd cX7_tryout 4 = some (.iload_n 1, 5) := by decide +kernel
theorem dX7_tryout_5 : dcd cX7_tryout 5 = some (.iconst 5, 6) := by decide +kernel
theorem dX7_tryout_6 : dcd cX7_tryout 6 = some (.if_icmp .gt 14, 9) := by decide +kernel
theorem dX7_tryout_9 : dcd cX7_tryout 9 = some (.iload_n 2, 10) := by decide +kernel
theorem dX7_tryout_10 : dcd cX7_tryout 10 = some (.iconst 1, 11) := by decide +kernel
theorem dX7_tryout_11 : dcd cX7_tryout 11 = some (.if_icmp .lt 9, 14) := by decide +kernel
theorem dX7_tryout_14 : dcd cX7_tryout 14 = some (.iload_n 2, 15) := by decide +kernel
theorem dX7_tryout_15 : dcd cX7_tryout 15 = some (.bipush 30, 17) := by decide +kernel
theorem dX7_tryout_17 : dcd cX7_tryout 17 = some (.if_icmp .le 5, 20) := by decide +kernel
theorem dX7_tryout_20 : dcd cX7_tryout 20 = some (.iconst (-1), 21) := by decide +kernel
theorem dX7_tryout_21 : dcd cX7_tryout 21 = some (.ireturn, 22) := by decide +kernel
theorem dX7_tryout_22 : dcd cX7_tryout 22 = some (.iload_n 3, 23) := by decide +kernel
theorem dX7_tryout_23 : dcd cX7_tryout 23 = some (.ifCond .lt 20, 26) := by decide +kernel
theorem dX7_tryout_26 : dcd cX7_tryout 26 = some (.iload_n 3, 27) := by decide +kernel
theorem dX7_tryout_27 : dcd cX7_tryout 27 = some (.bipush 30, 29) := by decide +kernel
theorem dX7_tryout_29 : dcd cX7_tryout 29 = some (.if_icmp .gt 14, 32) := by decide +kernel
theorem dX7_tryout_32 : dcd cX7_tryout 32 = some (.iload 4, 34) := by decide +kernel
theorem dX7_tryout_34 : dcd cX7_tryout 34 = some (.ifCond .lt 9, 37) := by decide +kernel
theorem dX7_tryout_37 : dcd cX7_tryout 37 = some (.iload 4, 39) := by decide +kernel
theorem dX7_tryout_39 : dcd cX7_tryout 39 = some (.iconst 1, 40) := by decide +kernel
theorem dX7_tryout_40 : dcd cX7_tryout 40 = some (.if_icmp .le 5, 43) := by decide +kernel
theorem dX7_tryout_43 : dcd cX7_tryout 43 = some (.iconst (-1), 44) := by decide +kernel
theorem dX7_tryout_44 : dcd cX7_tryout 44 = some (.ireturn, 45) := by decide +kernel
theorem dX7_tryout_45 : dcd cX7_tryout 45 = some (.aload_n 0, 46) := by decide +kernel
theorem dX7_tryout_46 : dcd cX7_tryout 46 = some (.getfield 66, 49) := by decide +kernel
theorem dX7_tryout_49 : dcd cX7_tryout 49 = some (.iload_n 1, 50) := by decide +kernel
theorem dX7_tryout_50 : dcd cX7_tryout 50 = some (.putfield 114, 53) := by decide +kernel
theorem dX7_tryout_53 : dcd cX7_tryout 53 = some (.aload_n 0, 54) := by decide +kernel
theorem dX7_tryout_54 : dcd cX7_tryout 54 = some (.getfield 66, 57) := by decide +kernel
theorem dX7_tryout_57 : dcd cX7_tryout 57 = some (.iload_n 2, 58) := by decide +kernel
theorem dX7_tryout_58 : dcd cX7_tryout 58 = some (.putfield 117, 61) := by decide +kernel
theorem dX7_tryout_61 : dcd cX7_tryout 61 = some (.aload_n 0, 62) := by decide +kernel
theorem dX7_tryout_62 : dcd cX7_tryout 62 = some (.getfield 66, 65) := by decide +kernel
theorem dX7_tryout_65 : dcd cX7_tryout 65 = some (.iload_n 3, 66) := by decide +kernel
theorem dX7_tryout_66 : dcd cX7_tryout 66 = some (.putfield 120, 69) := by decide +kernel
theorem dX7_tryout_69 : dcd cX7_tryout 69 = some (.bipush (-9), 71) := by decide +kernel
theorem dX7_tryout_71 : dcd cX7_tryout 71 = some (.istore 5, 73) := by decide +kernel
theorem dX7_tryout_73 : dcd cX7_tryout 73 = some (.iconst 0, 74) := by decide +kernel
theorem dX7_tryout_74 : dcd cX7_tryout 74 = some (.istore 6, 76) := by decide +kernel
theorem dX7_tryout_76 : dcd cX7_tryout 76 = some (.iconst 0, 77) := by decide +kernel
theorem dX7_tryout_77 : dcd cX7_tryout 77 = some (.istore 7, 79) := by decide +kernel
theorem dX7_tryout_79 : dcd cX7_tryout 79 = some (.iload 7, 81) := by decide +kernel
theorem dX7_tryout_81 : dcd cX7_tryout 81 = some (.aload_n 0, 82) := by decide +kernel
theorem dX7_tryout_82 : dcd cX7_tryout 82 = some (.getfield 29, 85) := by decide +kernel
theorem dX7_tryout_85 : dcd cX7_tryout 85 = some (.getfield 159, 88) := by decide +kernel
theorem dX7_tryout_88 : dcd cX7_tryout 88 = some (.if_icmp .gt 57, 91) := by decide +kernel
theorem dX7_tryout_91 : dcd cX7_tryout 91 = some (.aload_n 0, 92) := by decide +kernel
theorem dX7_tryout_92 : dcd cX7_tryout 92 = some (.iload 7, 94) := by decide +kernel
theorem dX7_tryout_94 : dcd cX7_tryout 94 = some (.invokevirtual 246, 97) := by decide +kernel
theorem dX7_tryout_97 : dcd cX7_tryout 97 = some (.aload_n 0, 98) := by decide +kernel
theorem dX7_tryout_98 : dcd cX7_tryout 98 = some (.getfield 40, 101) := by decide +kernel
theorem dX7_tryout_101 : dcd cX7_tryout 101 = some (.invokevirtual 224, 104) := by decide +kernel
theorem dX7_tryout_104 : dcd cX7_tryout 104 = some (.ifCond .eq 35, 107) := by decide +kernel
theorem dX7_tryout_107 : dcd cX7_tryout 107 = some (.iload 5, 109) := by decide +kernel
theorem dX7_tryout_109 : dcd cX7_tryout 109 = some (.bipush (-9), 111) := by decide +kernel
theorem dX7_tryout_111 : dcd cX7_tryout 111 = some (.if_icmp .eq 15, 114) := by decide +kernel
theorem dX7_tryout_114 : dcd cX7_tryout 114 = some (.aload_n 0, 115) := by decide +kernel
theorem dX7_tryout_115 : dcd cX7_tryout 115 = some (.getfield 40, 118) := by decide +kernel
theorem dX7_tryout_118 : dcd cX7_tryout 118 = some (.invokevirtual 199, 121) := by decide +kernel
theorem dX7_tryout_121 : dcd cX7_tryout 121 = some (.iload 6, 123) := by decide +kernel
theorem dX7_tryout_123 : dcd cX7_tryout 123 = some (.if_icmp .le 16, 126) := by decide +kernel
theorem dX7_tryout_126 : dcd cX7_tryout 126 = some (.iload 7, 128) := by decide +kernel
theorem dX7_tryout_128 : dcd cX7_tryout 128 = some (.istore 5, 130) := by decide +kernel
theorem dX7_tryout_130 : dcd cX7_tryout 130 = some (.aload_n 0, 131) := by decide +kernel
theorem dX7_tryout_131 : dcd cX7_tryout 131 = some (.getfield 40, 134) := by decide +kernel
theorem dX7_tryout_134 : dcd cX7_tryout 134 = some (.invokevirtual 199, 137) := by decide +kernel
theorem dX7_tryout_137 : dcd cX7_tryout 137 = some (.istore 6, 139) := by decide +kernel
theorem dX7_tryout_139 : dcd cX7_tryout 139 = some (.iinc 7 1, 142) := by decide +kernel
theorem dX7_tryout_142 : dcd cX7_tryout 142 = some (.goto (-63), 145) := by decide +kernel
theorem dX7_tryout_145 : dcd cX7_tryout 145 = some (.iload 5, 147) := by decide +kernel
theorem dX7_tryout_147 : dcd cX7_tryout 147 = some (.bipush (-9), 149) := by decide +kernel
theorem dX7_tryout_149 : dcd cX7_tryout 149 = some (.if_icmp .eq 8, 152) := by decide +kernel
theorem dX7_tryout_152 : dcd cX7_tryout 152 = some (.iload 4, 154) := by decide +kernel
theorem dX7_tryout_154 : dcd cX7_tryout 154 = some (.ifCond .ne 8, 157) := by decide +kernel
theorem dX7_tryout_157 : dcd cX7_tryout 157 = some (.iload 5, 159) := by decide +kernel
theorem dX7_tryout_159 : dcd cX7_tryout 159 = some (.goto 5, 162) := by decide +kernel
theorem dX7_tryout_162 : dcd cX7_tryout 162 = some (.iload 6, 164) := by decide +kernel
theorem dX7_tryout_164 : dcd cX7_tryout 164 = some (.ireturn, 165) := by decide +kernel
theorem dX7_mark_0 : dcd cX7_mark 0 = some (.aload_n 0, 1) := by decide +kernel
theorem dX7_mark_1 : dcd cX7_mark 1 = some (.iload_n 1, 2) := by decide +kernel
theorem dX7_mark_2 : dcd cX7_mark 2 = some (.invokevirtual 106, 5) := by decide +kernel
theorem dX7_mark_5 : dcd cX7_mark 5 = some (.ifCond .eq 23, 8) := by decide +kernel
theorem dX7_mark_8 : dcd cX7_mark 8 = some (.iload_n 2, 9) := by decide +kernel
theorem dX7_mark_9 : dcd cX7_mark 9 = some (.ifCond .lt 19, 12) := by decide +kernel
theorem dX7_mark_12 : dcd cX7_mark 12 = some (.iload_n 2, 13) := by decide +kernel
theorem dX7_mark_13 : dcd cX7_mark 13 = some (.bipush 9, 15) := by decide +kernel
theorem dX7_mark_15 : dcd cX7_mark 15 = some (.if_icmp .ge 13, 18) := by decide +kernel
theorem dX7_mark_18 : dcd cX7_mark 18 = some (.iload_n 3, 19) := by decide +kernel
theorem dX7_mark_19 : dcd cX7_mark 19 = some (.ifCond .lt 9, 22) := by decide +kernel
theorem dX7_mark_22 : dcd cX7_mark 22 = some (.iload_n 3, 23) := by decide +kernel
theorem dX7_mark_23 : dcd cX7_mark 23 = some (.bipush 99, 25) := by decide +kernel
theorem dX7_mark_25 : dcd cX7_mark 25 = some (.if_icmp .le 5, 28) := by decide +kernel
theorem dX7_mark_28 : dcd cX7_mark 28 = some (.iconst (-1), 29) := by decide +kernel
theorem dX7_mark_29 : dcd cX7_mark 29 = some (.ireturn, 30) := by decide +kernel
theorem dX7_mark_30 : dcd cX7_mark 30 = some (.aload_n 0, 31) := by decide +kernel
theorem dX7_mark_31 : dcd cX7_mark 31 = some (.getfield 57, 34) := by decide +kernel
theorem dX7_mark_34 : dcd cX7_mark 34 = some (.getfield 249, 37) := by decide +kernel
theorem dX7_mark_37 : dcd cX7_mark 37 = some (.bipush 60, 39) := by decide +kernel
theorem dX7_mark_39 : dcd cX7_mark 39 = some (.if_icmp .lt 6, 42) := by decide +kernel
theorem dX7_mark_42 : dcd cX7_mark 42 = some (.bipush (-3), 44) := by decide +kernel
theorem dX7_mark_44 : dcd cX7_mark 44 = some (.ireturn, 45) := by decide +kernel
theorem dX7_mark_45 : dcd cX7_mark 45 = some (.aload_n 0, 46) := by decide +kernel
theorem dX7_mark_46 : dcd cX7_mark 46 = some (.getfield 57, 49) := by decide +kernel
theorem dX7_mark_49 : dcd cX7_mark 49 = some (.iload_n 1, 50) := by decide +kernel
theorem dX7_mark_50 : dcd cX7_mark 50 = some (.iload_n 2, 51) := by decide +kernel
theorem dX7_mark_51 : dcd cX7_mark 51 = some (.iload_n 3, 52) := by decide +kernel
theorem dX7_mark_52 : dcd cX7_mark 52 = some (.invokevirtual 250, 55) := by decide +kernel
theorem dX7_mark_55 : dcd cX7_mark 55 = some (.aload_n 0, 56) := by decide +kernel
theorem dX7_mark_56 : dcd cX7_mark 56 = some (.getfield 57, 59) := by decide +kernel
theorem dX7_mark_59 : dcd cX7_mark 59 = some (.getfield 249, 62) := by decide +kernel
theorem dX7_mark_62 : dcd cX7_mark 62 = some (.ireturn, 63) := by decide +kernel
theorem dX7_parted_0 : dcd cX7_parted 0 = some (.aload_n 0, 1) := by decide +kernel
theorem dX7_parted_1 : dcd cX7_parted 1 = some (.iload_n 1, 2) := by decide +kernel
theorem dX7_parted_2 : dcd cX7_parted 2 = some (.invokevirtual 106, 5) := by decide +kernel
theorem dX7_parted_5 : dcd cX7_parted 5 = some (.ifCond .eq 23, 8) := by decide +kernel
theorem dX7_parted_8 : dcd cX7_parted 8 = some (.iload_n 2, 9) := by decide +kernel
theorem dX7_parted_9 : dcd cX7_parted 9 = some (.ifCond .lt 19, 12) := by decide +kernel
theorem dX7_parted_12 : dcd cX7_parted 12 = some (.iload_n 2, 13) := by decide +kernel
theorem dX7_parted_13 : dcd cX7_parted 13 = some (.iconst 1, 14) := by decide +kernel
theorem dX7_parted_14 : dcd cX7_parted 14 = some (.if_icmp .gt 14, 17) := by decide +kernel
theorem dX7_parted_17 : dcd cX7_parted 17 = some (.aload_n 0, 18) := by decide +kernel
theorem dX7_parted_18 : dcd cX7_parted 18 = some (.getfield 57, 21) := by decide +kernel
theorem dX7_parted_21 : dcd cX7_parted 21 = some (.iload_n 1, 22) := by decide +kernel
theorem dX7_parted_22 : dcd cX7_parted 22 = some (.invokevirtual 253, 25) := by decide +kernel
theorem dX7_parted_25 : dcd cX7_parted 25 = some (.ifCond .ne 7, 28) := by decide +kernel
theorem dX7_parted_28 : dcd cX7_parted 28 = some (.ldc_w 256, 31) := by decide +kernel
theorem dX7_parted_31 : dcd cX7_parted 31 = some (.ireturn, 32) := by decide +kernel
theorem dX7_parted_32 : dcd cX7_parted 32 = some (.aload_n 0, 33) := by decide +kernel
theorem dX7_parted_33 : dcd cX7_parted 33 = some (.getfield 57, 36) := by decide +kernel
theorem dX7_parted_36 : dcd cX7_parted 36 = some (.iload_n 1, 37) := by decide +kernel
theorem dX7_parted_37 : dcd cX7_parted 37 = some (.invokevirtual 257, 40) := by decide +kernel
theorem dX7_parted_40 : dcd cX7_parted 40 = some (.iload_n 2, 41) := by decide +kernel
theorem dX7_parted_41 : dcd cX7_parted 41 = some (.ifCond .ne 13, 44) := by decide +kernel
theorem dX7_parted_44 : dcd cX7_parted 44 = some (.aload_n 0, 45) := by decide +kernel
theorem dX7_parted_45 : dcd cX7_parted 45 = some (.getfield 57, 48) := by decide +kernel
theorem dX7_parted_48 : dcd cX7_parted 48 = some (.getfield 260, 51) := by decide +kernel
theorem dX7_parted_51 : dcd cX7_parted 51 = some (.goto 10, 54) := by decide +kernel
theorem dX7_parted_54 : dcd cX7_parted 54 = some (.aload_n 0, 55) := by decide +kernel
theorem dX7_parted_55 : dcd cX7_parted 55 = some (.getfield 57, 58) := by decide +kernel
theorem dX7_parted_58 : dcd cX7_parted 58 = some (.getfield 263, 61) := by decide +kernel
theorem dX7_parted_61 : dcd cX7_parted 61 = some (.l2i, 62) := by decide +kernel
theorem dX7_parted_62 : dcd cX7_parted 62 = some (.ireturn, 63) := by decide +kernel
theorem dX7_opener_0 : dcd cX7_opener 0 = some (.bipush (-9), 2) := by decide +kernel
theorem dX7_opener_2 : dcd cX7_opener 2 = some (.istore_n 1, 3) := by decide +kernel
theorem dX7_opener_3 : dcd cX7_opener 3 = some (.iconst 0, 4) := by decide +kernel
theorem dX7_opener_4 : dcd cX7_opener 4 = some (.istore_n 2, 5) := by decide +kernel
theorem dX7_opener_5 : dcd cX7_opener 5 = some (.iload_n 2, 6) := by decide +kernel
theorem dX7_opener_6 : dcd cX7_opener 6 = some (.aload_n 0, 7) := by decide +kernel
theorem dX7_opener_7 : dcd cX7_opener 7 = some (.getfield 19, 10) := by decide +kernel
theorem dX7_opener_10 : dcd cX7_opener 10 = some (.getfield 266, 13) := by decide +kernel
theorem dX7_opener_13 : dcd cX7_opener 13 = some (.if_icmp .ge 26, 16) := by decide +kernel
theorem dX7_opener_16 : dcd cX7_opener 16 = some (.iload_n 1, 17) := by decide +kernel
theorem dX7_opener_17 : dcd cX7_opener 17 = some (.bipush (-9), 19) := by decide +kernel
theorem dX7_opener_19 : dcd cX7_opener 19 = some (.if_icmp .eq 12, 22) := by decide +kernel
theorem dX7_opener_22 : dcd cX7_opener 22 = some (.aload_n 0, 23) := by decide +kernel
theorem dX7_opener_23 : dcd cX7_opener 23 = some (.iload_n 2, 24) := by decide +kernel
theorem dX7_opener_24 : dcd cX7_opener 24 = some (.iload_n 1, 25) := by decide +kernel
theorem dX7_opener_25 : dcd cX7_opener 25 = some (.invokevirtual 267, 28) := by decide +kernel
theorem dX7_opener_28 : dcd cX7_opener 28 = some (.ifCond .eq 5, 31) := by decide +kernel
theorem dX7_opener_31 : dcd cX7_opener 31 = some (.iload_n 2, 32) := by decide +kernel
theorem dX7_opener_32 : dcd cX7_opener 32 = some (.istore_n 1, 33) := by decide +kernel
theorem dX7_opener_33 : dcd cX7_opener 33 = some (.iinc 2 1, 36) := by decide +kernel
theorem dX7_opener_36 : dcd cX7_opener 36 = some (.goto (-31), 39) := by decide +kernel
theorem dX7_opener_39 : dcd cX7_opener 39 = some (.iload_n 1, 40) := by decide +kernel
theorem dX7_opener_40 : dcd cX7_opener 40 = some (.ireturn, 41) := by decide +kernel
theorem dX7_hold_0 : dcd cX7_hold 0 = some (.iload_n 1, 1) := by decide +kernel
theorem dX7_hold_1 : dcd cX7_hold 1 = some (.ifCond .lt 8, 4) := by decide +kernel
theorem dX7_hold_4 : dcd cX7_hold 4 = some (.iload_n 1, 5) := by decide +kernel
theorem dX7_hold_5 : dcd cX7_hold 5 = some (.iconst 1, 6) := by decide +kernel
theorem dX7_hold_6 : dcd cX7_hold 6 = some (.if_icmp .le 5, 9) := by decide +kernel
theorem dX7_hold_9 : dcd cX7_hold 9 = some (.iconst (-1), 10) := by decide +kernel
theorem dX7_hold_10 : dcd cX7_hold 10 = some (.ireturn, 11) := by decide +kernel
theorem dX7_hold_11 : dcd cX7_hold 11 = some (.aload_n 0, 12) := by decide +kernel
theorem dX7_hold_12 : dcd cX7_hold 12 = some (.getfield 29, 15) := by decide +kernel
theorem dX7_hold_15 : dcd cX7_hold 15 = some (.getfield 159, 18) := by decide +kernel
theorem dX7_hold_18 : dcd cX7_hold 18 = some (.ifCond .ne 6, 21) := by decide +kernel
theorem dX7_hold_21 : dcd cX7_hold 21 = some (.bipush (-2), 23) := by decide +kernel
theorem dX7_hold_23 : dcd cX7_hold 23 = some (.ireturn, 24) := by decide +kernel
theorem dX7_hold_24 : dcd cX7_hold 24 = some (.aload_n 0, 25) := by decide +kernel
theorem dX7_hold_25 : dcd cX7_hold 25 = some (.bipush (-9), 27) := by decide +kernel
theorem dX7_hold_27 : dcd cX7_hold 27 = some (.invokevirtual 218, 30) := by decide +kernel
theorem dX7_hold_30 : dcd cX7_hold 30 = some (.pop, 31) := by decide +kernel
theorem dX7_hold_31 : dcd cX7_hold 31 = some (.aload_n 0, 32) := by decide +kernel
theorem dX7_hold_32 : dcd cX7_hold 32 = some (.invokevirtual 270, 35) := by decide +kernel
theorem dX7_hold_35 : dcd cX7_hold 35 = some (.iconst 0, 36) := by decide +kernel
theorem dX7_hold_36 : dcd cX7_hold 36 = some (.istore_n 2, 37) := by decide +kernel
theorem dX7_hold_37 : dcd cX7_hold 37 = some (.iconst 0, 38) := by decide +kernel
theorem dX7_hold_38 : dcd cX7_hold 38 = some (.istore_n 3, 39) := by decide +kernel
theorem dX7_hold_39 : dcd cX7_hold 39 = some (.iconst 0, 40) := by decide +kernel
theorem dX7_hold_40 : dcd cX7_hold 40 = some (.istore 4, 42) := by decide +kernel
theorem dX7_hold_42 : dcd cX7_hold 42 = some (.iconst 0, 43) := by decide +kernel
theorem dX7_hold_43 : dcd cX7_hold 43 = some (.istore 5, 45) := by decide +kernel
theorem dX7_hold_45 : dcd cX7_hold 45 = some (.iload 5, 47) := by decide +kernel
theorem dX7_hold_47 : dcd cX7_hold 47 = some (.aload_n 0, 48) := by decide +kernel
theorem dX7_hold_48 : dcd cX7_hold 48 = some (.getfield 29, 51) := by decide +kernel
theorem dX7_hold_51 : dcd cX7_hold 51 = some (.getfield 159, 54) := by decide +kernel
theorem dX7_hold_54 : dcd cX7_hold 54 = some (.if_icmp .ge 57, 57) := by decide +kernel
theorem dX7_hold_57 : dcd cX7_hold 57 = some (.aload_n 0, 58) := by decide +kernel
theorem dX7_hold_58 : dcd cX7_hold 58 = some (.getfield 19, 61) := by decide +kernel
theorem dX7_hold_61 : dcd cX7_hold 61 = some (.getfield 110, 64) := by decide +kernel
theorem dX7_hold_64 : dcd cX7_hold 64 = some (.aload_n 0, 65) := by decide +kernel
theorem dX7_hold_65 : dcd cX7_hold 65 = some (.getfield 70, 68) := by decide +kernel
theorem dX7_hold_68 : dcd cX7_hold 68 = some (.iload 5, 70) := by decide +kernel
theorem dX7_hold_70 : dcd cX7_hold 70 = some (.iaload, 71) := by decide +kernel
theorem dX7_hold_71 : dcd cX7_hold 71 = some (.aaload, 72) := by decide +kernel
theorem dX7_hold_72 : dcd cX7_hold 72 = some (.astore 6, 74) := by decide +kernel
theorem dX7_hold_74 : dcd cX7_hold 74 = some (.iload_n 2, 75) := by decide +kernel
theorem dX7_hold_75 : dcd cX7_hold 75 = some (.aload 6, 77) := by decide +kernel
theorem dX7_hold_77 : dcd cX7_hold 77 = some (.getfield 117, 80) := by decide +kernel
theorem dX7_hold_80 : dcd cX7_hold 80 = some (.iadd, 81) := by decide +kernel
theorem dX7_hold_81 : dcd cX7_hold 81 = some (.istore_n 2, 82) := by decide +kernel
theorem dX7_hold_82 : dcd cX7_hold 82 = some (.iload_n 3, 83) := by decide +kernel
theorem dX7_hold_83 : dcd cX7_hold 83 = some (.aload 6, 85) := by decide +kernel
theorem dX7_hold_85 : dcd cX7_hold 85 = some (.getfield 138, 88) := by decide +kernel
theorem dX7_hold_88 : dcd cX7_hold 88 = some (.iload_n 2, 89) := by decide +kernel
theorem dX7_hold_89 : dcd cX7_hold 89 = some (.imul, 90) := by decide +kernel
theorem dX7_hold_90 : dcd cX7_hold 90 = some (.iadd, 91) := by decide +kernel
theorem dX7_hold_91 : dcd cX7_hold 91 = some (.istore_n 3, 92) := by decide +kernel
theorem dX7_hold_92 : dcd cX7_hold 92 = some (.iload 4, 94) := by decide +kernel
theorem dX7_hold_94 : dcd cX7_hold 94 = some (.bipush 10, 96) := by decide +kernel
theorem dX7_hold_96 : dcd cX7_hold 96 = some (.imul, 97) := by decide +kernel
theorem dX7_hold_97 : dcd cX7_hold 97 = some (.aload 6, 99) := by decide +kernel
theorem dX7_hold_99 : dcd cX7_hold 99 = some (.getfield 273, 102) := by decide +kernel
theorem dX7_hold_102 : dcd cX7_hold 102 = some (.iadd, 103) := by decide +kernel
theorem dX7_hold_103 : dcd cX7_hold 103 = some (.istore 4, 105) := by decide +kernel
theorem dX7_hold_105 : dcd cX7_hold 105 = some (.iinc 5 1, 108) := by decide +kernel
theorem dX7_hold_108 : dcd cX7_hold 108 = some (.goto (-63), 111) := by decide +kernel
theorem dX7_hold_111 : dcd cX7_hold 111 = some (.iload_n 1, 112) := by decide +kernel
theorem dX7_hold_112 : dcd cX7_hold 112 = some (.ifCond .ne 7, 115) := by decide +kernel
theorem dX7_hold_115 : dcd cX7_hold 115 = some (.iload_n 3, 116) := by decide +kernel
theorem dX7_hold_116 : dcd cX7_hold 116 = some (.goto 5, 119) := by decide +kernel
theorem dX7_hold_119 : dcd cX7_hold 119 = some (.iload 4, 121) := by decide +kernel
theorem dX7_hold_121 : dcd cX7_hold 121 = some (.ireturn, 122) := by decide +kernel
theorem dX7_drawn_0 : dcd cX7_drawn 0 = some (.aload_n 0, 1) := by decide +kernel
theorem dX7_drawn_1 : dcd cX7_drawn 1 = some (.getfield 29, 4) := by decide +kernel
theorem dX7_drawn_4 : dcd cX7_drawn 4 = some (.getfield 159, 7) := by decide +kernel
theorem dX7_drawn_7 : dcd cX7_drawn 7 = some (.ifCond .ne 6, 10) := by decide +kernel
theorem dX7_drawn_10 : dcd cX7_drawn 10 = some (.bipush (-2), 12) := by decide +kernel
theorem dX7_drawn_12 : dcd cX7_drawn 12 = some (.ireturn, 13) := by decide +kernel
theorem dX7_drawn_13 : dcd cX7_drawn 13 = some (.aload_n 0, 14) := by decide +kernel
theorem dX7_drawn_14 : dcd cX7_drawn 14 = some (.getfield 40, 17) := by decide +kernel
theorem dX7_drawn_17 : dcd cX7_drawn 17 = some (.aload_n 0, 18) := by decide +kernel
theorem dX7_drawn_18 : dcd cX7_drawn 18 = some (.getfield 29, 21) := by decide +kernel
theorem dX7_drawn_21 : dcd cX7_drawn 21 = some (.getfield 159, 24) := by decide +kernel
theorem dX7_drawn_24 : dcd cX7_drawn 24 = some (.aload_n 0, 25) := by decide +kernel
theorem dX7_drawn_25 : dcd cX7_drawn 25 = some (.getfield 29, 28) := by decide +kernel
theorem dX7_drawn_28 : dcd cX7_drawn 28 = some (.getfield 162, 31) := by decide +kernel
theorem dX7_drawn_31 : dcd cX7_drawn 31 = some (.invokevirtual 276, 34) := by decide +kernel
theorem dX7_drawn_34 : dcd cX7_drawn 34 = some (.iconst 0, 35) := by decide +kernel
theorem dX7_drawn_35 : dcd cX7_drawn 35 = some (.istore_n 1, 36) := by decide +kernel
theorem dX7_drawn_36 : dcd cX7_drawn 36 = some (.iload_n 1, 37) := by decide +kernel
theorem dX7_drawn_37 : dcd cX7_drawn 37 = some (.aload_n 0, 38) := by decide +kernel
theorem dX7_drawn_38 : dcd cX7_drawn 38 = some (.getfield 29, 41) := by decide +kernel
theorem dX7_drawn_41 : dcd cX7_drawn 41 = some (.getfield 159, 44) := by decide +kernel
theorem dX7_drawn_44 : dcd cX7_drawn 44 = some (.if_icmp .ge 51, 47) := by decide +kernel
theorem dX7_drawn_47 : dcd cX7_drawn 47 = some (.aload_n 0, 48) := by decide +kernel
theorem dX7_drawn_48 : dcd cX7_drawn 48 = some (.getfield 40, 51) := by decide +kernel
theorem dX7_drawn_51 : dcd cX7_drawn 51 = some (.iload_n 1, 52) := by decide +kernel
theorem dX7_drawn_52 : dcd cX7_drawn 52 = some (.aload_n 0, 53) := by decide +kernel
theorem dX7_drawn_53 : dcd cX7_drawn 53 = some (.getfield 19, 56) := by decide +kernel
theorem dX7_drawn_56 : dcd cX7_drawn 56 = some (.getfield 110, 59) := by decide +kernel
theorem dX7_drawn_59 : dcd cX7_drawn 59 = some (.aload_n 0, 60) := by decide +kernel
theorem dX7_drawn_60 : dcd cX7_drawn 60 = some (.getfield 29, 63) := by decide +kernel
theorem dX7_drawn_63 : dcd cX7_drawn 63 = some (.getfield 168, 66) := by decide +kernel
theorem dX7_drawn_66 : dcd cX7_drawn 66 = some (.iload_n 1, 67) := by decide +kernel
theorem dX7_drawn_67 : dcd cX7_drawn 67 = some (.iaload, 68) := by decide +kernel
theorem dX7_drawn_68 : dcd cX7_drawn 68 = some (.aaload, 69) := by decide +kernel
theorem dX7_drawn_69 : dcd cX7_drawn 69 = some (.invokevirtual 279, 72) := by decide +kernel
theorem dX7_drawn_72 : dcd cX7_drawn 72 = some (.aload_n 0, 73) := by decide +kernel
theorem dX7_drawn_73 : dcd cX7_drawn 73 = some (.getfield 40, 76) := by decide +kernel
theorem dX7_drawn_76 : dcd cX7_drawn 76 = some (.iload_n 1, 77) := by decide +kernel
theorem dX7_drawn_77 : dcd cX7_drawn 77 = some (.aload_n 0, 78) := by decide +kernel
theorem dX7_drawn_78 : dcd cX7_drawn 78 = some (.getfield 29, 81) := by decide +kernel
theorem dX7_drawn_81 : dcd cX7_drawn 81 = some (.invokevirtual 283, 84) := by decide +kernel
theorem dX7_drawn_84 : dcd cX7_drawn 84 = some (.iconst 2, 85) := by decide +kernel
theorem dX7_drawn_85 : dcd cX7_drawn 85 = some (.isub, 86) := by decide +kernel
theorem dX7_drawn_86 : dcd cX7_drawn 86 = some (.invokevirtual 286, 89) := by decide +kernel
theorem dX7_drawn_89 : dcd cX7_drawn 89 = some (.iinc 1 1, 92) := by decide +kernel
theorem dX7_drawn_92 : dcd cX7_drawn 92 = some (.goto (-56), 95) := by decide +kernel
theorem dX7_drawn_95 : dcd cX7_drawn 95 = some (.aload_n 0, 96) := by decide +kernel
theorem dX7_drawn_96 : dcd cX7_drawn 96 = some (.getfield 40, 99) := by decide +kernel
theorem dX7_drawn_99 : dcd cX7_drawn 99 = some (.invokevirtual 199, 102) := by decide +kernel
theorem dX7_drawn_102 : dcd cX7_drawn 102 = some (.ireturn, 103) := by decide +kernel
theorem dX7_lot_0 : dcd cX7_lot 0 = some (.aload_n 0, 1) := by decide +kernel
theorem dX7_lot_1 : dcd cX7_lot 1 = some (.getfield 29, 4) := by decide +kernel
theorem dX7_lot_4 : dcd cX7_lot 4 = some (.getfield 82, 7) := by decide +kernel
theorem dX7_lot_7 : dcd cX7_lot 7 = some (.istore_n 2, 8) := by decide +kernel
theorem dX7_lot_8 : dcd cX7_lot 8 = some (.aload_n 0, 9) := by decide +kernel
theorem dX7_lot_9 : dcd cX7_lot 9 = some (.getfield 29, 12) := by decide +kernel
theorem dX7_lot_12 : dcd cX7_lot 12 = some (.iload_n 1, 13) := by decide +kernel
theorem dX7_lot_13 : dcd cX7_lot 13 = some (.putfield 82, 16) := by decide +kernel
theorem dX7_lot_16 : dcd cX7_lot 16 = some (.iload_n 2, 17) := by decide +kernel
theorem dX7_lot_17 : dcd cX7_lot 17 = some (.ireturn, 18) := by decide +kernel
theorem dX7_rate_0 : dcd cX7_rate 0 = some (.aload_n 0, 1) := by decide +kernel
theorem dX7_rate_1 : dcd cX7_rate 1 = some (.iload_n 2, 2) := by decide +kernel
theorem dX7_rate_2 : dcd cX7_rate 2 = some (.invokevirtual 106, 5) := by decide +kernel
theorem dX7_rate_5 : dcd cX7_rate 5 = some (.ifCond .ne 7, 8) := by decide +kernel
theorem dX7_rate_8 : dcd cX7_rate 8 = some (.ldc_w 256, 11) := by decide +kernel
theorem dX7_rate_11 : dcd cX7_rate 11 = some (.ireturn, 12) := by decide +kernel
theorem dX7_rate_12 : dcd cX7_rate 12 = some (.aload_n 0, 13) := by decide +kernel
theorem dX7_rate_13 : dcd cX7_rate 13 = some (.getfield 19, 16) := by decide +kernel
theorem dX7_rate_16 : dcd cX7_rate 16 = some (.getfield 110, 19) := by decide +kernel
theorem dX7_rate_19 : dcd cX7_rate 19 = some (.iload_n 2, 20) := by decide +kernel
theorem dX7_rate_20 : dcd cX7_rate 20 = some (.aaload, 21) := by decide +kernel
theorem dX7_rate_21 : dcd cX7_rate 21 = some (.astore_n 3, 22) := by decide +kernel
theorem dX7_rate_22 : dcd cX7_rate 22 = some (.iload_n 1, 23) := by decide +kernel
theorem dX7_rate_23 : dcd cX7_rate 23 = some (.tableswitch 73 0 5 #[37, 43, 49, 55, 61, 67], 60) := by decide +kernel
theorem dX7_rate_60 : dcd cX7_rate 60 = some (.aload_n 0, 61) := by decide +kernel
theorem dX7_rate_61 : dcd cX7_rate 61 = some (.aload_n 3, 62) := by decide +kernel
theorem dX7_rate_62 : dcd cX7_rate 62 = some (.invokevirtual 289, 65) := by decide +kernel
theorem dX7_rate_65 : dcd cX7_rate 65 = some (.ireturn, 66) := by decide +kernel
theorem dX7_rate_66 : dcd cX7_rate 66 = some (.aload_n 0, 67) := by decide +kernel
theorem dX7_rate_67 : dcd cX7_rate 67 = some (.aload_n 3, 68) := by decide +kernel
theorem dX7_rate_68 : dcd cX7_rate 68 = some (.invokevirtual 293, 71) := by decide +kernel
theorem dX7_rate_71 : dcd cX7_rate 71 = some (.ireturn, 72) := by decide +kernel
theorem dX7_rate_72 : dcd cX7_rate 72 = some (.aload_n 0, 73) := by decide +kernel
theorem dX7_rate_73 : dcd cX7_rate 73 = some (.aload_n 3, 74) := by decide +kernel
theorem dX7_rate_74 : dcd cX7_rate 74 = some (.invokevirtual 296, 77) := by decide +kernel
theorem dX7_rate_77 : dcd cX7_rate 77 = some (.ireturn, 78) := by decide +kernel
theorem dX7_rate_78 : dcd cX7_rate 78 = some (.aload_n 0, 79) := by decide +kernel
theorem dX7_rate_79 : dcd cX7_rate 79 = some (.aload_n 3, 80) := by decide +kernel
theorem dX7_rate_80 : dcd cX7_rate 80 = some (.invokevirtual 299, 83) := by decide +kernel
theorem dX7_rate_83 : dcd cX7_rate 83 = some (.ireturn, 84) := by decide +kernel
theorem dX7_rate_84 : dcd cX7_rate 84 = some (.aload_n 0, 85) := by decide +kernel
theorem dX7_rate_85 : dcd cX7_rate 85 = some (.aload_n 3, 86) := by decide +kernel
theorem dX7_rate_86 : dcd cX7_rate 86 = some (.invokevirtual 302, 89) := by decide +kernel
theorem dX7_rate_89 : dcd cX7_rate 89 = some (.ireturn, 90) := by decide +kernel
theorem dX7_rate_90 : dcd cX7_rate 90 = some (.aload_n 0, 91) := by decide +kernel
theorem dX7_rate_91 : dcd cX7_rate 91 = some (.aload_n 3, 92) := by decide +kernel
theorem dX7_rate_92 : dcd cX7_rate 92 = some (.invokevirtual 305, 95) := by decide +kernel
theorem dX7_rate_95 : dcd cX7_rate 95 = some (.ireturn, 96) := by decide +kernel
theorem dX7_rate_96 : dcd cX7_rate 96 = some (.ldc_w 256, 99) := by decide +kernel
theorem dX7_rate_99 : dcd cX7_rate 99 = some (.ireturn, 100) := by decide +kernel
theorem dX7_keep_0 : dcd cX7_keep 0 = some (.iload_n 1, 1) := by decide +kernel
theorem dX7_keep_1 : dcd cX7_keep 1 = some (.ifCond .lt 8, 4) := by decide +kernel
theorem dX7_keep_4 : dcd cX7_keep 4 = some (.iload_n 1, 5) := by decide +kernel
theorem dX7_keep_5 : dcd cX7_keep 5 = some (.iconst 2, 6) := by decide +kernel
theorem dX7_keep_6 : dcd cX7_keep 6 = some (.if_icmp .lt 5, 9) := by decide +kernel
theorem dX7_keep_9 : dcd cX7_keep 9 = some (.iconst (-1), 10) := by decide +kernel
theorem dX7_keep_10 : dcd cX7_keep 10 = some (.ireturn, 11) := by decide +kernel
theorem dX7_keep_11 : dcd cX7_keep 11 = some (.aload_n 0, 12) := by decide +kernel
theorem dX7_keep_12 : dcd cX7_keep 12 = some (.getfield 33, 15) := by decide +kernel
theorem dX7_keep_15 : dcd cX7_keep 15 = some (.iload_n 1, 16) := by decide +kernel
theorem dX7_keep_16 : dcd cX7_keep 16 = some (.aaload, 17) := by decide +kernel
theorem dX7_keep_17 : dcd cX7_keep 17 = some (.aload_n 0, 18) := by decide +kernel
theorem dX7_keep_18 : dcd cX7_keep 18 = some (.getfield 29, 21) := by decide +kernel
theorem dX7_keep_21 : dcd cX7_keep 21 = some (.invokevirtual 308, 24) := by decide +kernel
theorem dX7_keep_24 : dcd cX7_keep 24 = some (.aload_n 0, 25) := by decide +kernel
theorem dX7_keep_25 : dcd cX7_keep 25 = some (.getfield 33, 28) := by decide +kernel
theorem dX7_keep_28 : dcd cX7_keep 28 = some (.iload_n 1, 29) := by decide +kernel
theorem dX7_keep_29 : dcd cX7_keep 29 = some (.aaload, 30) := by decide +kernel
theorem dX7_keep_30 : dcd cX7_keep 30 = some (.iconst 1, 31) := by decide +kernel
theorem dX7_keep_31 : dcd cX7_keep 31 = some (.putfield 103, 34) := by decide +kernel
theorem dX7_keep_34 : dcd cX7_keep 34 = some (.aload_n 0, 35) := by decide +kernel
theorem dX7_keep_35 : dcd cX7_keep 35 = some (.getfield 29, 38) := by decide +kernel
theorem dX7_keep_38 : dcd cX7_keep 38 = some (.getfield 159, 41) := by decide +kernel
theorem dX7_keep_41 : dcd cX7_keep 41 = some (.ireturn, 42) := by decide +kernel
theorem dX7_back_0 : dcd cX7_back 0 = some (.iload_n 1, 1) := by decide +kernel
theorem dX7_back_1 : dcd cX7_back 1 = some (.ifCond .lt 8, 4) := by decide +kernel
theorem dX7_back_4 : dcd cX7_back 4 = some (.iload_n 1, 5) := by decide +kernel
theorem dX7_back_5 : dcd cX7_back 5 = some (.iconst 2, 6) := by decide +kernel
theorem dX7_back_6 : dcd cX7_back 6 = some (.if_icmp .lt 5, 9) := by decide +kernel
theorem dX7_back_9 : dcd cX7_back 9 = some (.iconst (-1), 10) := by decide +kernel
theorem dX7_back_10 : dcd cX7_back 10 = some (.ireturn, 11) := by decide +kernel
theorem dX7_back_11 : dcd cX7_back 11 = some (.aload_n 0, 12) := by decide +kernel
theorem dX7_back_12 : dcd cX7_back 12 = some (.getfield 33, 15) := by decide +kernel
theorem dX7_back_15 : dcd cX7_back 15 = some (.iload_n 1, 16) := by decide +kernel
theorem dX7_back_16 : dcd cX7_back 16 = some (.aaload, 17) := by decide +kernel
theorem dX7_back_17 : dcd cX7_back 17 = some (.getfield 103, 20) := by decide +kernel
theorem dX7_back_20 : dcd cX7_back 20 = some (.ifCond .ne 6, 23) := by decide +kernel
theorem dX7_back_23 : dcd cX7_back 23 = some (.bipush (-2), 25) := by decide +kernel
theorem dX7_back_25 : dcd cX7_back 25 = some (.ireturn, 26) := by decide +kernel
theorem dX7_back_26 : dcd cX7_back 26 = some (.aload_n 0, 27) := by decide +kernel
theorem dX7_back_27 : dcd cX7_back 27 = some (.getfield 29, 30) := by decide +kernel
theorem dX7_back_30 : dcd cX7_back 30 = some (.aload_n 0, 31) := by decide +kernel
theorem dX7_back_31 : dcd cX7_back 31 = some (.getfield 33, 34) := by decide +kernel
theorem dX7_back_34 : dcd cX7_back 34 = some (.iload_n 1, 35) := by decide +kernel
theorem dX7_back_35 : dcd cX7_back 35 = some (.aaload, 36) := by decide +kernel
theorem dX7_back_36 : dcd cX7_back 36 = some (.invokevirtual 308, 39) := by decide +kernel
theorem dX7_back_39 : dcd cX7_back 39 = some (.aload_n 0, 40) := by decide +kernel
theorem dX7_back_40 : dcd cX7_back 40 = some (.iconst 0, 41) := by decide +kernel
theorem dX7_back_41 : dcd cX7_back 41 = some (.putfield 74, 44) := by decide +kernel
theorem dX7_back_44 : dcd cX7_back 44 = some (.aload_n 0, 45) := by decide +kernel
theorem dX7_back_45 : dcd cX7_back 45 = some (.getfield 29, 48) := by decide +kernel
theorem dX7_back_48 : dcd cX7_back 48 = some (.getfield 159, 51) := by decide +kernel
theorem dX7_back_51 : dcd cX7_back 51 = some (.ireturn, 52) := by decide +kernel
theorem dX7_count_0 : dcd cX7_count 0 = some (.iload_n 1, 1) := by decide +kernel
theorem dX7_count_1 : dcd cX7_count 1 = some (.tableswitch 75 0 4 #[35, 43, 51, 59, 67], 36) := by decide +kernel
theorem dX7_count_36 : dcd cX7_count 36 = some (.aload_n 0, 37) := by decide +kernel
theorem dX7_count_37 : dcd cX7_count 37 = some (.getfield 19, 40) := by decide +kernel
theorem dX7_count_40 : dcd cX7_count 40 = some (.getfield 266, 43) := by decide +kernel
theorem dX7_count_43 : dcd cX7_count 43 = some (.ireturn, 44) := by decide +kernel
theorem dX7_count_44 : dcd cX7_count 44 = some (.aload_n 0, 45) := by decide +kernel
theorem dX7_count_45 : dcd cX7_count 45 = some (.getfield 29, 48) := by decide +kernel
theorem dX7_count_48 : dcd cX7_count 48 = some (.getfield 159, 51) := by decide +kernel
theorem dX7_count_51 : dcd cX7_count 51 = some (.ireturn, 52) := by decide +kernel
theorem dX7_count_52 : dcd cX7_count 52 = some (.aload_n 0, 53) := by decide +kernel
theorem dX7_count_53 : dcd cX7_count 53 = some (.getfield 29, 56) := by decide +kernel
theorem dX7_count_56 : dcd cX7_count 56 = some (.getfield 162, 59) := by decide +kernel
theorem dX7_count_59 : dcd cX7_count 59 = some (.ireturn, 60) := by decide +kernel
theorem dX7_count_60 : dcd cX7_count 60 = some (.aload_n 0, 61) := by decide +kernel
theorem dX7_count_61 : dcd cX7_count 61 = some (.getfield 57, 64) := by decide +kernel
theorem dX7_count_64 : dcd cX7_count 64 = some (.getfield 249, 67) := by decide +kernel
theorem dX7_count_67 : dcd cX7_count 67 = some (.ireturn, 68) := by decide +kernel
theorem dX7_count_68 : dcd cX7_count 68 = some (.aload_n 0, 69) := by decide +kernel
theorem dX7_count_69 : dcd cX7_count 69 = some (.getfield 10, 72) := by decide +kernel
theorem dX7_count_72 : dcd cX7_count 72 = some (.getfield 86, 75) := by decide +kernel
theorem dX7_count_75 : dcd cX7_count 75 = some (.ireturn, 76) := by decide +kernel
theorem dX7_count_76 : dcd cX7_count 76 = some (.iconst (-1), 77) := by decide +kernel
theorem dX7_count_77 : dcd cX7_count 77 = some (.ireturn, 78) := by decide +kernel
theorem dX7_trace_0 : dcd cX7_trace 0 = some (.aload_n 0, 1) := by decide +kernel
theorem dX7_trace_1 : dcd cX7_trace 1 = some (.getfield 78, 4) := by decide +kernel
theorem dX7_trace_4 : dcd cX7_trace 4 = some (.lreturn, 5) := by decide +kernel
theorem dX7_isAct_0 : dcd cX7_isAct 0 = some (.iload_n 1, 1) := by decide +kernel
theorem dX7_isAct_1 : dcd cX7_isAct 1 = some (.ifCond .lt 18, 4) := by decide +kernel
theorem dX7_isAct_4 : dcd cX7_isAct 4 = some (.iload_n 1, 5) := by decide +kernel
theorem dX7_isAct_5 : dcd cX7_isAct 5 = some (.aload_n 0, 6) := by decide +kernel
theorem dX7_isAct_6 : dcd cX7_isAct 6 = some (.getfield 19, 9) := by decide +kernel
theorem dX7_isAct_9 : dcd cX7_isAct 9 = some (.getfield 266, 12) := by decide +kernel
theorem dX7_isAct_12 : dcd cX7_isAct 12 = some (.if_icmp .ge 7, 15) := by decide +kernel
theorem dX7_isAct_15 : dcd cX7_isAct 15 = some (.iconst 1, 16) := by decide +kernel
theorem dX7_isAct_16 : dcd cX7_isAct 16 = some (.goto 4, 19) := by decide +kernel
theorem dX7_isAct_19 : dcd cX7_isAct 19 = some (.iconst 0, 20) := by decide +kernel
theorem dX7_isAct_20 : dcd cX7_isAct 20 = some (.ireturn, 21) := by decide +kernel
theorem dX7_play_0 : dcd cX7_play 0 = some (.aload_n 0, 1) := by decide +kernel
theorem dX7_play_1 : dcd cX7_play 1 = some (.getfield 40, 4) := by decide +kernel
theorem dX7_play_4 : dcd cX7_play 4 = some (.aload_n 0, 5) := by decide +kernel
theorem dX7_play_5 : dcd cX7_play 5 = some (.getfield 29, 8) := by decide +kernel
theorem dX7_play_8 : dcd cX7_play 8 = some (.getfield 159, 11) := by decide +kernel
theorem dX7_play_11 : dcd cX7_play 11 = some (.iload_n 2, 12) := by decide +kernel
theorem dX7_play_12 : dcd cX7_play 12 = some (.invokevirtual 276, 15) := by decide +kernel
theorem dX7_play_15 : dcd cX7_play 15 = some (.iconst 0, 16) := by decide +kernel
theorem dX7_play_16 : dcd cX7_play 16 = some (.istore_n 3, 17) := by decide +kernel
theorem dX7_play_17 : dcd cX7_play 17 = some (.iload_n 3, 18) := by decide +kernel
theorem dX7_play_18 : dcd cX7_play 18 = some (.aload_n 0, 19) := by decide +kernel
theorem dX7_play_19 : dcd cX7_play 19 = some (.getfield 29, 22) := by decide +kernel
theorem dX7_play_22 : dcd cX7_play 22 = some (.getfield 159, 25) := by decide +kernel
theorem dX7_play_25 : dcd cX7_play 25 = some (.if_icmp .ge 37, 28) := by decide +kernel
theorem dX7_play_28 : dcd cX7_play 28 = some (.aload_n 0, 29) := by decide +kernel
theorem dX7_play_29 : dcd cX7_play 29 = some (.getfield 40, 32) := by decide +kernel
theorem dX7_play_32 : dcd cX7_play 32 = some (.iload_n 3, 33) := by decide +kernel
theorem dX7_play_33 : dcd cX7_play 33 = some (.aload_n 0, 34) := by decide +kernel
theorem dX7_play_34 : dcd cX7_play 34 = some (.getfield 19, 37) := by decide +kernel
theorem dX7_play_37 : dcd cX7_play 37 = some (.getfield 110, 40) := by decide +kernel
theorem dX7_play_40 : dcd cX7_play 40 = some (.aload_n 1, 41) := by decide +kernel
theorem dX7_play_41 : dcd cX7_play 41 = some (.iload_n 3, 42) := by decide +kernel
theorem dX7_play_42 : dcd cX7_play 42 = some (.iaload, 43) := by decide +kernel
theorem dX7_play_43 : dcd cX7_play 43 = some (.aaload, 44) := by decide +kernel
theorem dX7_play_44 : dcd cX7_play 44 = some (.invokevirtual 279, 47) := by decide +kernel
theorem dX7_play_47 : dcd cX7_play 47 = some (.aload_n 0, 48) := by decide +kernel
theorem dX7_play_48 : dcd cX7_play 48 = some (.getfield 40, 51) := by decide +kernel
theorem dX7_play_51 : dcd cX7_play 51 = some (.iload_n 3, 52) := by decide +kernel
theorem dX7_play_52 : dcd cX7_play 52 = some (.iconst 0, 53) := by decide +kernel
theorem dX7_play_53 : dcd cX7_play 53 = some (.invokevirtual 286, 56) := by decide +kernel
theorem dX7_play_56 : dcd cX7_play 56 = some (.iinc 3 1, 59) := by decide +kernel
theorem dX7_play_59 : dcd cX7_play 59 = some (.goto (-42), 62) := by decide +kernel
theorem dX7_play_62 : dcd cX7_play 62 = some (.return_, 63) := by decide +kernel
theorem dX7_playWithGuest_0 : dcd cX7_playWithGuest 0 = some (.aload_n 0, 1) := by decide +kernel
theorem dX7_playWithGuest_1 : dcd cX7_playWithGuest 1 = some (.getfield 29, 4) := by decide +kernel
theorem dX7_playWithGuest_4 : dcd cX7_playWithGuest 4 = some (.getfield 162, 7) := by decide +kernel
theorem dX7_playWithGuest_7 : dcd cX7_playWithGuest 7 = some (.iload_n 1, 8) := by decide +kernel
theorem dX7_playWithGuest_8 : dcd cX7_playWithGuest 8 = some (.if_icmp .le 15, 11) := by decide +kernel
theorem dX7_playWithGuest_11 : dcd cX7_playWithGuest 11 = some (.aload_n 0, 12) := by decide +kernel
theorem dX7_playWithGuest_12 : dcd cX7_playWithGuest 12 = some (.getfield 29, 15) := by decide +kernel
theorem dX7_playWithGuest_15 : dcd cX7_playWithGuest 15 = some (.getfield 162, 18) := by decide +kernel
theorem dX7_playWithGuest_18 : dcd cX7_playWithGuest 18 = some (.iconst 1, 19) := by decide +kernel
theorem dX7_playWithGuest_19 : dcd cX7_playWithGuest 19 = some (.iadd, 20) := by decide +kernel
theorem dX7_playWithGuest_20 : dcd cX7_playWithGuest 20 = some (.goto 10, 23) := by decide +kernel
theorem dX7_playWithGuest_23 : dcd cX7_playWithGuest 23 = some (.aload_n 0, 24) := by decide +kernel
theorem dX7_playWithGuest_24 : dcd cX7_playWithGuest 24 = some (.getfield 29, 27) := by decide +kernel
theorem dX7_playWithGuest_27 : dcd cX7_playWithGuest 27 = some (.getfield 162, 30) := by decide +kernel
theorem dX7_playWithGuest_30 : dcd cX7_playWithGuest 30 = some (.istore_n 2, 31) := by decide +kernel
theorem dX7_playWithGuest_31 : dcd cX7_playWithGuest 31 = some (.aload_n 0, 32) := by decide +kernel
theorem dX7_playWithGuest_32 : dcd cX7_playWithGuest 32 = some (.getfield 40, 35) := by decide +kernel
theorem dX7_playWithGuest_35 : dcd cX7_playWithGuest 35 = some (.aload_n 0, 36) := by decide +kernel
theorem dX7_playWithGuest_36 : dcd cX7_playWithGuest 36 = some (.getfield 29, 39) := by decide +kernel
theorem dX7_playWithGuest_39 : dcd cX7_playWithGuest 39 = some (.getfield 159, 42) := by decide +kernel
theorem dX7_playWithGuest_42 : dcd cX7_playWithGuest 42 = some (.iconst 1, 43) := by decide +kernel
theorem dX7_playWithGuest_43 : dcd cX7_playWithGuest 43 = some (.iadd, 44) := by decide +kernel
theorem dX7_playWithGuest_44 : dcd cX7_playWithGuest 44 = some (.iload_n 2, 45) := by decide +kernel
theorem dX7_playWithGuest_45 : dcd cX7_playWithGuest 45 = some (.invokevirtual 276, 48) := by decide +kernel
theorem dX7_playWithGuest_48 : dcd cX7_playWithGuest 48 = some (.iconst 0, 49) := by decide +kernel
theorem dX7_playWithGuest_49 : dcd cX7_playWithGuest 49 = some (.istore_n 3, 50) := by decide +kernel
theorem dX7_playWithGuest_50 : dcd cX7_playWithGuest 50 = some (.iload_n 3, 51) := by decide +kernel
theorem dX7_playWithGuest_51 : dcd cX7_playWithGuest 51 = some (.iload_n 1, 52) := by decide +kernel
theorem dX7_playWithGuest_52 : dcd cX7_playWithGuest 52 = some (.if_icmp .ge 43, 55) := by decide +kernel
theorem dX7_playWithGuest_55 : dcd cX7_playWithGuest 55 = some (.aload_n 0, 56) := by decide +kernel
theorem dX7_playWithGuest_56 : dcd cX7_playWithGuest 56 = some (.getfield 40, 59) := by decide +kernel
theorem dX7_playWithGuest_59 : dcd cX7_playWithGuest 59 = some (.iload_n 3, 60) := by decide +kernel
theorem dX7_playWithGuest_60 : dcd cX7_playWithGuest 60 = some (.aload_n 0, 61) := by decide +kernel
theorem dX7_playWithGuest_61 : dcd cX7_playWithGuest 61 = some (.getfield 19, 64) := by decide +kernel
theorem dX7_playWithGuest_64 : dcd cX7_playWithGuest 64 = some (.getfield 110, 67) := by decide +kernel
theorem dX7_playWithGuest_67 : dcd cX7_playWithGuest 67 = some (.aload_n 0, 68) := by decide +kernel
theorem dX7_playWithGuest_68 : dcd cX7_playWithGuest 68 = some (.getfield 29, 71) := by decide +kernel
theorem dX7_playWithGuest_71 : dcd cX7_playWithGuest 71 = some (.getfield 168, 74) := by decide +kernel
theorem dX7_playWithGuest_74 : dcd cX7_playWithGuest 74 = some (.iload_n 3, 75) := by decide +kernel
theorem dX7_playWithGuest_75 : dcd cX7_playWithGuest 75 = some (.iaload, 76) := by decide +kernel
theorem dX7_playWithGuest_76 : dcd cX7_playWithGuest 76 = some (.aaload, 77) := by decide +kernel
theorem dX7_playWithGuest_77 : dcd cX7_playWithGuest 77 = some (.invokevirtual 279, 80) := by decide +kernel
theorem dX7_playWithGuest_80 : dcd cX7_playWithGuest 80 = some (.aload_n 0, 81) := by decide +kernel
theorem dX7_playWithGuest_81 : dcd cX7_playWithGuest 81 = some (.getfield 40, 84) := by decide +kernel
theorem dX7_playWithGuest_84 : dcd cX7_playWithGuest 84 = some (.iload_n 3, 85) := by decide +kernel
theorem dX7_playWithGuest_85 : dcd cX7_playWithGuest 85 = some (.iconst 0, 86) := by decide +kernel
theorem dX7_playWithGuest_86 : dcd cX7_playWithGuest 86 = some (.invokevirtual 286, 89) := by decide +kernel
theorem dX7_playWithGuest_89 : dcd cX7_playWithGuest 89 = some (.iinc 3 1, 92) := by decide +kernel
theorem dX7_playWithGuest_92 : dcd cX7_playWithGuest 92 = some (.goto (-42), 95) := by decide +kernel
theorem dX7_playWithGuest_95 : dcd cX7_playWithGuest 95 = some (.aload_n 0, 96) := by decide +kernel
theorem dX7_playWithGuest_96 : dcd cX7_playWithGuest 96 = some (.getfield 40, 99) := by decide +kernel
theorem dX7_playWithGuest_99 : dcd cX7_playWithGuest 99 = some (.iload_n 1, 100) := by decide +kernel
theorem dX7_playWithGuest_100 : dcd cX7_playWithGuest 100 = some (.aload_n 0, 101) := by decide +kernel
theorem dX7_playWithGuest_101 : dcd cX7_playWithGuest 101 = some (.getfield 66, 104) := by decide +kernel
theorem dX7_playWithGuest_104 : dcd cX7_playWithGuest 104 = some (.invokevirtual 279, 107) := by decide +kernel
theorem dX7_playWithGuest_107 : dcd cX7_playWithGuest 107 = some (.aload_n 0, 108) := by decide +kernel
theorem dX7_playWithGuest_108 : dcd cX7_playWithGuest 108 = some (.getfield 40, 111) := by decide +kernel
theorem dX7_playWithGuest_111 : dcd cX7_playWithGuest 111 = some (.iload_n 1, 112) := by decide +kernel
theorem dX7_playWithGuest_112 : dcd cX7_playWithGuest 112 = some (.iconst 0, 113) := by decide +kernel
theorem dX7_playWithGuest_113 : dcd cX7_playWithGuest 113 = some (.invokevirtual 286, 116) := by decide +kernel
theorem dX7_playWithGuest_116 : dcd cX7_playWithGuest 116 = some (.iload_n 1, 117) := by decide +kernel
theorem dX7_playWithGuest_117 : dcd cX7_playWithGuest 117 = some (.istore_n 3, 118) := by decide +kernel
theorem dX7_playWithGuest_118 : dcd cX7_playWithGuest 118 = some (.iload_n 3, 119) := by decide +kernel
theorem dX7_playWithGuest_119 : dcd cX7_playWithGuest 119 = some (.aload_n 0, 120) := by decide +kernel
theorem dX7_playWithGuest_120 : dcd cX7_playWithGuest 120 = some (.getfield 29, 123) := by decide +kernel
theorem dX7_playWithGuest_123 : dcd cX7_playWithGuest 123 = some (.getfield 159, 126) := by decide +kernel
theorem dX7_playWithGuest_126 : dcd cX7_playWithGuest 126 = some (.if_icmp .ge 47, 129) := by decide +kernel
theorem dX7_playWithGuest_129 : dcd cX7_playWithGuest 129 = some (.aload_n 0, 130) := by decide +kernel
theorem dX7_playWithGuest_130 : dcd cX7_playWithGuest 130 = some (.getfield 40, 133) := by decide +kernel
theorem dX7_playWithGuest_133 : dcd cX7_playWithGuest 133 = some (.iload_n 3, 134) := by decide +kernel
theorem dX7_playWithGuest_134 : dcd cX7_playWithGuest 134 = some (.iconst 1, 135) := by decide +kernel
theorem dX7_playWithGuest_135 : dcd cX7_playWithGuest 135 = some (.iadd, 136) := by decide +kernel
theorem dX7_playWithGuest_136 : dcd cX7_playWithGuest 136 = some (.aload_n 0, 137) := by decide +kernel
theorem dX7_playWithGuest_137 : dcd cX7_playWithGuest 137 = some (.getfield 19, 140) := by decide +kernel
theorem dX7_playWithGuest_140 : dcd cX7_playWithGuest 140 = some (.getfield 110, 143) := by decide +kernel
theorem dX7_playWithGuest_143 : dcd cX7_playWithGuest 143 = some (.aload_n 0, 144) := by decide +kernel
theorem dX7_playWithGuest_144 : dcd cX7_playWithGuest 144 = some (.getfield 29, 147) := by decide +kernel
theorem dX7_playWithGuest_147 : dcd cX7_playWithGuest 147 = some (.getfield 168, 150) := by decide +kernel
theorem dX7_playWithGuest_150 : dcd cX7_playWithGuest 150 = some (.iload_n 3, 151) := by decide +kernel
theorem dX7_playWithGuest_151 : dcd cX7_playWithGuest 151 = some (.iaload, 152) := by decide +kernel
theorem dX7_playWithGuest_152 : dcd cX7_playWithGuest 152 = some (.aaload, 153) := by decide +kernel
theorem dX7_playWithGuest_153 : dcd cX7_playWithGuest 153 = some (.invokevirtual 279, 156) := by decide +kernel
theorem dX7_playWithGuest_156 : dcd cX7_playWithGuest 156 = some (.aload_n 0, 157) := by decide +kernel
theorem dX7_playWithGuest_157 : dcd cX7_playWithGuest 157 = some (.getfield 40, 160) := by decide +kernel
theorem dX7_playWithGuest_160 : dcd cX7_playWithGuest 160 = some (.iload_n 3, 161) := by decide +kernel
theorem dX7_playWithGuest_161 : dcd cX7_playWithGuest 161 = some (.iconst 1, 162) := by decide +kernel
theorem dX7_playWithGuest_162 : dcd cX7_playWithGuest 162 = some (.iadd, 163) := by decide +kernel
theorem dX7_playWithGuest_163 : dcd cX7_playWithGuest 163 = some (.iconst 0, 164) := by decide +kernel
theorem dX7_playWithGuest_164 : dcd cX7_playWithGuest 164 = some (.invokevirtual 286, 167) := by decide +kernel
theorem dX7_playWithGuest_167 : dcd cX7_playWithGuest 167 = some (.iinc 3 1, 170) := by decide +kernel
theorem dX7_playWithGuest_170 : dcd cX7_playWithGuest 170 = some (.goto (-52), 173) := by decide +kernel
theorem dX7_playWithGuest_173 : dcd cX7_playWithGuest 173 = some (.return_, 174) := by decide +kernel
theorem dX7_lineUp_0 : dcd cX7_lineUp 0 = some (.iconst 0, 1) := by decide +kernel
theorem dX7_lineUp_1 : dcd cX7_lineUp 1 = some (.istore_n 2, 2) := by decide +kernel
theorem dX7_lineUp_2 : dcd cX7_lineUp 2 = some (.iconst 0, 3) := by decide +kernel
theorem dX7_lineUp_3 : dcd cX7_lineUp 3 = some (.istore_n 3, 4) := by decide +kernel
theorem dX7_lineUp_4 : dcd cX7_lineUp 4 = some (.iload_n 3, 5) := by decide +kernel
theorem dX7_lineUp_5 : dcd cX7_lineUp 5 = some (.aload_n 0, 6) := by decide +kernel
theorem dX7_lineUp_6 : dcd cX7_lineUp 6 = some (.getfield 19, 9) := by decide +kernel
theorem dX7_lineUp_9 : dcd cX7_lineUp 9 = some (.getfield 266, 12) := by decide +kernel
theorem dX7_lineUp_12 : dcd cX7_lineUp 12 = some (.if_icmp .ge 37, 15) := by decide +kernel
theorem dX7_lineUp_15 : dcd cX7_lineUp 15 = some (.iload_n 3, 16) := by decide +kernel
theorem dX7_lineUp_16 : dcd cX7_lineUp 16 = some (.iload_n 1, 17) := by decide +kernel
theorem dX7_lineUp_17 : dcd cX7_lineUp 17 = some (.if_icmp .eq 26, 20) := by decide +kernel
theorem dX7_lineUp_20 : dcd cX7_lineUp 20 = some (.aload_n 0, 21) := by decide +kernel
theorem dX7_lineUp_21 : dcd cX7_lineUp 21 = some (.getfield 29, 24) := by decide +kernel
theorem dX7_lineUp_24 : dcd cX7_lineUp 24 = some (.iload_n 3, 25) := by decide +kernel
theorem dX7_lineUp_25 : dcd cX7_lineUp 25 = some (.invokevirtual 153, 28) := by decide +kernel
theorem dX7_lineUp_28 : dcd cX7_lineUp 28 = some (.bipush (-9), 30) := by decide +kernel
theorem dX7_lineUp_30 : dcd cX7_lineUp 30 = some (.if_icmp .eq 13, 33) := by decide +kernel
theorem dX7_lineUp_33 : dcd cX7_lineUp 33 = some (.aload_n 0, 34) := by decide +kernel
theorem dX7_lineUp_34 : dcd cX7_lineUp 34 = some (.getfield 70, 37) := by decide +kernel
theorem dX7_lineUp_37 : dcd cX7_lineUp 37 = some (.iload_n 2, 38) := by decide +kernel
theorem dX7_lineUp_38 : dcd cX7_lineUp 38 = some (.iload_n 3, 39) := by decide +kernel
theorem dX7_lineUp_39 : dcd cX7_lineUp 39 = some (.iastore, 40) := by decide +kernel
theorem dX7_lineUp_40 : dcd cX7_lineUp 40 = some (.iinc 2 1, 43) := by decide +kernel
theorem dX7_lineUp_43 : dcd cX7_lineUp 43 = some (.iinc 3 1, 46) := by decide +kernel
theorem dX7_lineUp_46 : dcd cX7_lineUp 46 = some (.goto (-42), 49) := by decide +kernel
theorem dX7_lineUp_49 : dcd cX7_lineUp 49 = some (.iload_n 2, 50) := by decide +kernel
theorem dX7_lineUp_50 : dcd cX7_lineUp 50 = some (.ireturn, 51) := by decide +kernel
theorem dX7_searchBest_0 : dcd cX7_searchBest 0 = some (.aload_n 0, 1) := by decide +kernel
theorem dX7_searchBest_1 : dcd cX7_searchBest 1 = some (.getfield 74, 4) := by decide +kernel
theorem dX7_searchBest_4 : dcd cX7_searchBest 4 = some (.ifCond .eq 4, 7) := by decide +kernel
theorem dX7_searchBest_7 : dcd cX7_searchBest 7 = some (.return_, 8) := by decide +kernel
theorem dX7_searchBest_8 : dcd cX7_searchBest 8 = some (.aload_n 0, 9) := by decide +kernel
theorem dX7_searchBest_9 : dcd cX7_searchBest 9 = some (.bipush (-9), 11) := by decide +kernel
theorem dX7_searchBest_11 : dcd cX7_searchBest 11 = some (.invokevirtual 218, 14) := by decide +kernel
theorem dX7_searchBest_14 : dcd cX7_searchBest 14 = some (.istore_n 1, 15) := by decide +kernel
theorem dX7_searchBest_15 : dcd cX7_searchBest 15 = some (.aload_n 0, 16) := by decide +kernel
theorem dX7_searchBest_16 : dcd cX7_searchBest 16 = some (.getfield 47, 19) := by decide +kernel
theorem dX7_searchBest_19 : dcd cX7_searchBest 19 = some (.iload_n 1, 20) := by decide +kernel
theorem dX7_searchBest_20 : dcd cX7_searchBest 20 = some (.invokevirtual 312, 23) := by decide +kernel
theorem dX7_searchBest_23 : dcd cX7_searchBest 23 = some (.iconst 0, 24) := by decide +kernel
theorem dX7_searchBest_24 : dcd cX7_searchBest 24 = some (.istore_n 2, 25) := by decide +kernel
theorem dX7_searchBest_25 : dcd cX7_searchBest 25 = some (.iload_n 2, 26) := by decide +kernel
theorem dX7_searchBest_26 : dcd cX7_searchBest 26 = some (.iload_n 1, 27) := by decide +kernel
theorem dX7_searchBest_27 : dcd cX7_searchBest 27 = some (.if_icmp .ge 43, 30) := by decide +kernel
theorem dX7_searchBest_30 : dcd cX7_searchBest 30 = some (.aload_n 0, 31) := by decide +kernel
theorem dX7_searchBest_31 : dcd cX7_searchBest 31 = some (.getfield 47, 34) := by decide +kernel
theorem dX7_searchBest_34 : dcd cX7_searchBest 34 = some (.getfield 315, 37) := by decide +kernel
theorem dX7_searchBest_37 : dcd cX7_searchBest 37 = some (.iload_n 2, 38) := by decide +kernel
theorem dX7_searchBest_38 : dcd cX7_searchBest 38 = some (.aload_n 0, 39) := by decide +kernel
theorem dX7_searchBest_39 : dcd cX7_searchBest 39 = some (.getfield 19, 42) := by decide +kernel
theorem dX7_searchBest_42 : dcd cX7_searchBest 42 = some (.getfield 110, 45) := by decide +kernel
theorem dX7_searchBest_45 : dcd cX7_searchBest 45 = some (.aload_n 0, 46) := by decide +kernel
theorem dX7_searchBest_46 : dcd cX7_searchBest 46 = some (.getfield 70, 49) := by decide +kernel
theorem dX7_searchBest_49 : dcd cX7_searchBest 49 = some (.iload_n 2, 50) := by decide +kernel
theorem dX7_searchBest_50 : dcd cX7_searchBest 50 = some (.iaload, 51) := by decide +kernel
theorem dX7_searchBest_51 : dcd cX7_searchBest 51 = some (.aaload, 52) := by decide +kernel
theorem dX7_searchBest_52 : dcd cX7_searchBest 52 = some (.aastore, 53) := by decide +kernel
theorem dX7_searchBest_53 : dcd cX7_searchBest 53 = some (.aload_n 0, 54) := by decide +kernel
theorem dX7_searchBest_54 : dcd cX7_searchBest 54 = some (.getfield 47, 57) := by decide +kernel
theorem dX7_searchBest_57 : dcd cX7_searchBest 57 = some (.getfield 318, 60) := by decide +kernel
theorem dX7_searchBest_60 : dcd cX7_searchBest 60 = some (.iload_n 2, 61) := by decide +kernel
theorem dX7_searchBest_61 : dcd cX7_searchBest 61 = some (.bipush (-9), 63) := by decide +kernel
theorem dX7_searchBest_63 : dcd cX7_searchBest 63 = some (.iastore, 64) := by decide +kernel
theorem dX7_searchBest_64 : dcd cX7_searchBest 64 = some (.iinc 2 1, 67) := by decide +kernel
theorem dX7_searchBest_67 : dcd cX7_searchBest 67 = some (.goto (-42), 70) := by decide +kernel
theorem dX7_searchBest_70 : dcd cX7_searchBest 70 = some (.iconst 0, 71) := by decide +kernel
theorem dX7_searchBest_71 : dcd cX7_searchBest 71 = some (.istore_n 2, 72) := by decide +kernel
theorem dX7_searchBest_72 : dcd cX7_searchBest 72 = some (.iload_n 2, 73) := by decide +kernel
theorem dX7_searchBest_73 : dcd cX7_searchBest 73 = some (.iload_n 1, 74) := by decide +kernel
theorem dX7_searchBest_74 : dcd cX7_searchBest 74 = some (.if_icmp .ge 29, 77) := by decide +kernel
theorem dX7_searchBest_77 : dcd cX7_searchBest 77 = some (.aload_n 0, 78) := by decide +kernel
theorem dX7_searchBest_78 : dcd cX7_searchBest 78 = some (.getfield 40, 81) := by decide +kernel
theorem dX7_searchBest_81 : dcd cX7_searchBest 81 = some (.iload_n 1, 82) := by decide +kernel
theorem dX7_searchBest_82 : dcd cX7_searchBest 82 = some (.iload_n 2, 83) := by decide +kernel
theorem dX7_searchBest_83 : dcd cX7_searchBest 83 = some (.invokevirtual 276, 86) := by decide +kernel
theorem dX7_searchBest_86 : dcd cX7_searchBest 86 = some (.aload_n 0, 87) := by decide +kernel
theorem dX7_searchBest_87 : dcd cX7_searchBest 87 = some (.getfield 47, 90) := by decide +kernel
theorem dX7_searchBest_90 : dcd cX7_searchBest 90 = some (.aload_n 0, 91) := by decide +kernel
theorem dX7_searchBest_91 : dcd cX7_searchBest 91 = some (.getfield 40, 94) := by decide +kernel
theorem dX7_searchBest_94 : dcd cX7_searchBest 94 = some (.invokevirtual 321, 97) := by decide +kernel
theorem dX7_searchBest_97 : dcd cX7_searchBest 97 = some (.iinc 2 1, 100) := by decide +kernel
theorem dX7_searchBest_100 : dcd cX7_searchBest 100 = some (.goto (-28), 103) := by decide +kernel
theorem dX7_searchBest_103 : dcd cX7_searchBest 103 = some (.aload_n 0, 104) := by decide +kernel
theorem dX7_searchBest_104 : dcd cX7_searchBest 104 = some (.iconst 1, 105) := by decide +kernel
theorem dX7_searchBest_105 : dcd cX7_searchBest 105 = some (.putfield 74, 108) := by decide +kernel
theorem dX7_searchBest_108 : dcd cX7_searchBest 108 = some (.return_, 109) := by decide +kernel
theorem dX7_searchWithout_0 : dcd cX7_searchWithout 0 = some (.aload_n 0, 1) := by decide +kernel
theorem dX7_searchWithout_1 : dcd cX7_searchWithout 1 = some (.iload_n 1, 2) := by decide +kernel
theorem dX7_searchWithout_2 : dcd cX7_searchWithout 2 = some (.invokevirtual 218, 5) := by decide +kernel
theorem dX7_searchWithout_5 : dcd cX7_searchWithout 5 = some (.istore_n 3, 6) := by decide +kernel
theorem dX7_searchWithout_6 : dcd cX7_searchWithout 6 = some (.aload_n 0, 7) := by decide +kernel
theorem dX7_searchWithout_7 : dcd cX7_searchWithout 7 = some (.getfield 51, 10) := by decide +kernel
theorem dX7_searchWithout_10 : dcd cX7_searchWithout 10 = some (.iload_n 3, 11) := by decide +kernel
theorem dX7_searchWithout_11 : dcd cX7_searchWithout 11 = some (.invokevirtual 312, 14) := by decide +kernel
theorem dX7_searchWithout_14 : dcd cX7_searchWithout 14 = some (.iconst 0, 15) := by decide +kernel
theorem dX7_searchWithout_15 : dcd cX7_searchWithout 15 = some (.istore 4, 17) := by decide +kernel
theorem dX7_searchWithout_17 : dcd cX7_searchWithout 17 = some (.iload 4, 19) := by decide +kernel
theorem dX7_searchWithout_19 : dcd cX7_searchWithout 19 = some (.iload_n 3, 20) := by decide +kernel
theorem dX7_searchWithout_20 : dcd cX7_searchWithout 20 = some (.if_icmp .ge 67, 23) := by decide +kernel
theorem dX7_searchWithout_23 : dcd cX7_searchWithout 23 = some (.aload_n 0, 24) := by decide +kernel
theorem dX7_searchWithout_24 : dcd cX7_searchWithout 24 = some (.getfield 51, 27) := by decide +kernel
theorem dX7_searchWithout_27 : dcd cX7_searchWithout 27 = some (.getfield 315, 30) := by decide +kernel
theorem dX7_searchWithout_30 : dcd cX7_searchWithout 30 = some (.iload 4, 32) := by decide +kernel
theorem dX7_searchWithout_32 : dcd cX7_searchWithout 32 = some (.aload_n 0, 33) := by decide +kernel
theorem dX7_searchWithout_33 : dcd cX7_searchWithout 33 = some (.getfield 19, 36) := by decide +kernel
theorem dX7_searchWithout_36 : dcd cX7_searchWithout 36 = some (.getfield 110, 39) := by decide +kernel
theorem dX7_searchWithout_39 : dcd cX7_searchWithout 39 = some (.aload_n 0, 40) := by decide +kernel
theorem dX7_searchWithout_40 : dcd cX7_searchWithout 40 = some (.getfield 70, 43) := by decide +kernel
theorem dX7_searchWithout_43 : dcd cX7_searchWithout 43 = some (.iload 4, 45) := by decide +kernel
theorem dX7_searchWithout_45 : dcd cX7_searchWithout 45 = some (.iaload, 46) := by decide +kernel
theorem dX7_searchWithout_46 : dcd cX7_searchWithout 46 = some (.aaload, 47) := by decide +kernel
theorem dX7_searchWithout_47 : dcd cX7_searchWithout 47 = some (.aastore, 48) := by decide +kernel
theorem dX7_searchWithout_48 : dcd cX7_searchWithout 48 = some (.aload_n 0, 49) := by decide +kernel
theorem dX7_searchWithout_49 : dcd cX7_searchWithout 49 = some (.getfield 51, 52) := by decide +kernel
theorem dX7_searchWithout_52 : dcd cX7_searchWithout 52 = some (.getfield 318, 55) := by decide +kernel
theorem dX7_searchWithout_55 : dcd cX7_searchWithout 55 = some (.iload 4, 57) := by decide +kernel
theorem dX7_searchWithout_57 : dcd cX7_searchWithout 57 = some (.aload_n 0, 58) := by decide +kernel
theorem dX7_searchWithout_58 : dcd cX7_searchWithout 58 = some (.getfield 29, 61) := by decide +kernel
theorem dX7_searchWithout_61 : dcd cX7_searchWithout 61 = some (.getfield 168, 64) := by decide +kernel
theorem dX7_searchWithout_64 : dcd cX7_searchWithout 64 = some (.iload 4, 66) := by decide +kernel
theorem dX7_searchWithout_66 : dcd cX7_searchWithout 66 = some (.iload_n 2, 67) := by decide +kernel
theorem dX7_searchWithout_67 : dcd cX7_searchWithout 67 = some (.if_icmp .ge 8, 70) := by decide +kernel
theorem dX7_searchWithout_70 : dcd cX7_searchWithout 70 = some (.iload 4, 72) := by decide +kernel
theorem dX7_searchWithout_72 : dcd cX7_searchWithout 72 = some (.goto 7, 75) := by decide +kernel
theorem dX7_searchWithout_75 : dcd cX7_searchWithout 75 = some (.iload 4, 77) := by decide +kernel
theorem dX7_searchWithout_77 : dcd cX7_searchWithout 77 = some (.iconst 1, 78) := by decide +kernel
theorem dX7_searchWithout_78 : dcd cX7_searchWithout 78 = some (.iadd, 79) := by decide +kernel
theorem dX7_searchWithout_79 : dcd cX7_searchWithout 79 = some (.iaload, 80) := by decide +kernel
theorem dX7_searchWithout_80 : dcd cX7_searchWithout 80 = some (.iastore, 81) := by decide +kernel
theorem dX7_searchWithout_81 : dcd cX7_searchWithout 81 = some (.iinc 4 1, 84) := by decide +kernel
theorem dX7_searchWithout_84 : dcd cX7_searchWithout 84 = some (.goto (-67), 87) := by decide +kernel
theorem dX7_searchWithout_87 : dcd cX7_searchWithout 87 = some (.iload_n 2, 88) := by decide +kernel
theorem dX7_searchWithout_88 : dcd cX7_searchWithout 88 = some (.aload_n 0, 89) := by decide +kernel
theorem dX7_searchWithout_89 : dcd cX7_searchWithout 89 = some (.getfield 29, 92) := by decide +kernel
theorem dX7_searchWithout_92 : dcd cX7_searchWithout 92 = some (.getfield 162, 95) := by decide +kernel
theorem dX7_searchWithout_95 : dcd cX7_searchWithout 95 = some (.if_icmp .ge 15, 98) := by decide +kernel
theorem dX7_searchWithout_98 : dcd cX7_searchWithout 98 = some (.aload_n 0, 99) := by decide +kernel
theorem dX7_searchWithout_99 : dcd cX7_searchWithout 99 = some (.getfield 29, 102) := by decide +kernel
theorem dX7_searchWithout_102 : dcd cX7_searchWithout 102 = some (.getfield 162, 105) := by decide +kernel
theorem dX7_searchWithout_105 : dcd cX7_searchWithout 105 = some (.iconst 1, 106) := by decide +kernel
theorem dX7_searchWithout_106 : dcd cX7_searchWithout 106 = some (.isub, 107) := by decide +kernel
theorem dX7_searchWithout_107 : dcd cX7_searchWithout 107 = some (.goto 10, 110) := by decide +kernel
theorem dX7_searchWithout_110 : dcd cX7_searchWithout 110 = some (.aload_n 0, 111) := by decide +kernel
theorem dX7_searchWithout_111 : dcd cX7_searchWithout 111 = some (.getfield 29, 114) := by decide +kernel
theorem dX7_searchWithout_114 : dcd cX7_searchWithout 114 = some (.getfield 162, 117) := by decide +kernel
theorem dX7_searchWithout_117 : dcd cX7_searchWithout 117 = some (.istore 4, 119) := by decide +kernel
theorem dX7_searchWithout_119 : dcd cX7_searchWithout 119 = some (.aload_n 0, 120) := by decide +kernel
theorem dX7_searchWithout_120 : dcd cX7_searchWithout 120 = some (.getfield 40, 123) := by decide +kernel
theorem dX7_searchWithout_123 : dcd cX7_searchWithout 123 = some (.iload_n 3, 124) := by decide +kernel
theorem dX7_searchWithout_124 : dcd cX7_searchWithout 124 = some (.iload 4, 126) := by decide +kernel
theorem dX7_searchWithout_126 : dcd cX7_searchWithout 126 = some (.iload_n 3, 127) := by decide +kernel
theorem dX7_searchWithout_127 : dcd cX7_searchWithout 127 = some (.if_icmp .ge 8, 130) := by decide +kernel
theorem dX7_searchWithout_130 : dcd cX7_searchWithout 130 = some (.iload 4, 132) := by decide +kernel
theorem dX7_searchWithout_132 : dcd cX7_searchWithout 132 = some (.goto 4, 135) := by decide +kernel
theorem dX7_searchWithout_135 : dcd cX7_searchWithout 135 = some (.iconst 0, 136) := by decide +kernel
theorem dX7_searchWithout_136 : dcd cX7_searchWithout 136 = some (.invokevirtual 276, 139) := by decide +kernel
theorem dX7_searchWithout_139 : dcd cX7_searchWithout 139 = some (.aload_n 0, 140) := by decide +kernel
theorem dX7_searchWithout_140 : dcd cX7_searchWithout 140 = some (.getfield 51, 143) := by decide +kernel
theorem dX7_searchWithout_143 : dcd cX7_searchWithout 143 = some (.aload_n 0, 144) := by decide +kernel
theorem dX7_searchWithout_144 : dcd cX7_searchWithout 144 = some (.getfield 40, 147) := by decide +kernel
theorem dX7_searchWithout_147 : dcd cX7_searchWithout 147 = some (.invokevirtual 321, 150) := by decide +kernel
theorem dX7_searchWithout_150 : dcd cX7_searchWithout 150 = some (.return_, 151) := by decide +kernel
theorem dX7_isHall_0 : dcd cX7_isHall 0 = some (.iload_n 2, 1) := by decide +kernel
theorem dX7_isHall_1 : dcd cX7_isHall 1 = some (.iload_n 1, 2) := by decide +kernel
theorem dX7_isHall_2 : dcd cX7_isHall 2 = some (.iconst (-1), 3) := by decide +kernel
theorem dX7_isHall_3 : dcd cX7_isHall 3 = some (.ixor, 4) := by decide +kernel
theorem dX7_isHall_4 : dcd cX7_isHall 4 = some (.iand, 5) := by decide +kernel
theorem dX7_isHall_5 : dcd cX7_isHall 5 = some (.istore_n 3, 6) := by decide +kernel
theorem dX7_isHall_6 : dcd cX7_isHall 6 = some (.iload_n 2, 7) := by decide +kernel
theorem dX7_isHall_7 : dcd cX7_isHall 7 = some (.iload_n 2, 8) := by decide +kernel
theorem dX7_isHall_8 : dcd cX7_isHall 8 = some (.ineg, 9) := by decide +kernel
theorem dX7_isHall_9 : dcd cX7_isHall 9 = some (.iand, 10) := by decide +kernel
theorem dX7_isHall_10 : dcd cX7_isHall 10 = some (.istore 4, 12) := by decide +kernel
theorem dX7_isHall_12 : dcd cX7_isHall 12 = some (.iload_n 1, 13) := by decide +kernel
theorem dX7_isHall_13 : dcd cX7_isHall 13 = some (.iload_n 2, 14) := by decide +kernel
theorem dX7_isHall_14 : dcd cX7_isHall 14 = some (.iconst (-1), 15) := by decide +kernel
theorem dX7_isHall_15 : dcd cX7_isHall 15 = some (.ixor, 16) := by decide +kernel
theorem dX7_isHall_16 : dcd cX7_isHall 16 = some (.iand, 17) := by decide +kernel
theorem dX7_isHall_17 : dcd cX7_isHall 17 = some (.ifCond .ne 10, 20) := by decide +kernel
theorem dX7_isHall_20 : dcd cX7_isHall 20 = some (.iload_n 1, 21) := by decide +kernel
theorem dX7_isHall_21 : dcd cX7_isHall 21 = some (.iload 4, 23) := by decide +kernel
theorem dX7_isHall_23 : dcd cX7_isHall 23 = some (.iand, 24) := by decide +kernel
theorem dX7_isHall_24 : dcd cX7_isHall 24 = some (.ifCond .ne 5, 27) := by decide +kernel
theorem dX7_isHall_27 : dcd cX7_isHall 27 = some (.iconst 0, 28) := by decide +kernel
theorem dX7_isHall_28 : dcd cX7_isHall 28 = some (.ireturn, 29) := by decide +kernel
theorem dX7_isHall_29 : dcd cX7_isHall 29 = some (.iload_n 1, 30) := by decide +kernel
theorem dX7_isHall_30 : dcd cX7_isHall 30 = some (.invokestatic 325, 33) := by decide +kernel
theorem dX7_isHall_33 : dcd cX7_isHall 33 = some (.iload_n 3, 34) := by decide +kernel
theorem dX7_isHall_34 : dcd cX7_isHall 34 = some (.invokestatic 325, 37) := by decide +kernel
theorem dX7_isHall_37 : dcd cX7_isHall 37 = some (.isub, 38) := by decide +kernel
theorem dX7_isHall_38 : dcd cX7_isHall 38 = some (.istore 5, 40) := by decide +kernel
theorem dX7_isHall_40 : dcd cX7_isHall 40 = some (.iload 5, 42) := by decide +kernel
theorem dX7_isHall_42 : dcd cX7_isHall 42 = some (.iconst (-1), 43) := by decide +kernel
theorem dX7_isHall_43 : dcd cX7_isHall 43 = some (.if_icmp .lt 29, 46) := by decide +kernel
theorem dX7_isHall_46 : dcd cX7_isHall 46 = some (.iload 5, 48) := by decide +kernel
theorem dX7_isHall_48 : dcd cX7_isHall 48 = some (.iconst 1, 49) := by decide +kernel
theorem dX7_isHall_49 : dcd cX7_isHall 49 = some (.if_icmp .gt 23, 52) := by decide +kernel
theorem dX7_isHall_52 : dcd cX7_isHall 52 = some (.aload_n 0, 53) := by decide +kernel
theorem dX7_isHall_53 : dcd cX7_isHall 53 = some (.iload_n 1, 54) := by decide +kernel
theorem dX7_isHall_54 : dcd cX7_isHall 54 = some (.invokevirtual 330, 57) := by decide +kernel
theorem dX7_isHall_57 : dcd cX7_isHall 57 = some (.ifCond .eq 15, 60) := by decide +kernel
theorem dX7_isHall_60 : dcd cX7_isHall 60 = some (.aload_n 0, 61) := by decide +kernel
theorem dX7_isHall_61 : dcd cX7_isHall 61 = some (.iload_n 3, 62) := by decide +kernel
theorem dX7_isHall_62 : dcd cX7_isHall 62 = some (.invokevirtual 330, 65) := by decide +kernel
theorem dX7_isHall_65 : dcd cX7_isHall 65 = some (.ifCond .eq 7, 68) := by decide +kernel
theorem dX7_isHall_68 : dcd cX7_isHall 68 = some (.iconst 1, 69) := by decide +kernel
theorem dX7_isHall_69 : dcd cX7_isHall 69 = some (.goto 4, 72) := by decide +kernel
theorem dX7_isHall_72 : dcd cX7_isHall 72 = some (.iconst 0, 73) := by decide +kernel
theorem dX7_isHall_73 : dcd cX7_isHall 73 = some (.ireturn, 74) := by decide +kernel
theorem dX7_hasOneOfAKind_0 : dcd cX7_hasOneOfAKind 0 = some (.iconst 0, 1) := by decide +kernel
theorem dX7_hasOneOfAKind_1 : dcd cX7_hasOneOfAKind 1 = some (.istore_n 2, 2) := by decide +kernel
theorem dX7_hasOneOfAKind_2 : dcd cX7_hasOneOfAKind 2 = some (.iconst 0, 3) := by decide +kernel
theorem dX7_hasOneOfAKind_3 : dcd cX7_hasOneOfAKind 3 = some (.istore_n 3, 4) := by decide +kernel
theorem dX7_hasOneOfAKind_4 : dcd cX7_hasOneOfAKind 4 = some (.iload_n 3, 5) := by decide +kernel
theorem dX7_hasOneOfAKind_5 : dcd cX7_hasOneOfAKind 5 = some (.aload_n 0, 6) := by decide +kernel
theorem dX7_hasOneOfAKind_6 : dcd cX7_hasOneOfAKind 6 = some (.getfield 19, 9) := by decide +kernel
theorem dX7_hasOneOfAKind_9 : dcd cX7_hasOneOfAKind 9 = some (.getfield 266, 12) := by decide +kernel
theorem dX7_hasOneOfAKind_12 : dcd cX7_hasOneOfAKind 12 = some (.if_icmp .ge 48, 15) := by decide +kernel
theorem dX7_hasOneOfAKind_15 : dcd cX7_hasOneOfAKind 15 = some (.iload_n 1, 16) := by decide +kernel
theorem dX7_hasOneOfAKind_16 : dcd cX7_hasOneOfAKind 16 = some (.iload_n 3, 17) := by decide +kernel
theorem dX7_hasOneOfAKind_17 : dcd cX7_hasOneOfAKind 17 = some (.ishr, 18) := by decide +kernel
theorem dX7_hasOneOfAKind_18 : dcd cX7_hasOneOfAKind 18 = some (.iconst 1, 19) := by decide +kernel
theorem dX7_hasOneOfAKind_19 : dcd cX7_hasOneOfAKind 19 = some (.iand, 20) := by decide +kernel
theorem dX7_hasOneOfAKind_20 : dcd cX7_hasOneOfAKind 20 = some (.iconst 1, 21) := by decide +kernel
theorem dX7_hasOneOfAKind_21 : dcd cX7_hasOneOfAKind 21 = some (.if_icmp .ne 33, 24) := by decide +kernel
theorem dX7_hasOneOfAKind_24 : dcd cX7_hasOneOfAKind 24 = some (.iconst 1, 25) := by decide +kernel
theorem dX7_hasOneOfAKind_25 : dcd cX7_hasOneOfAKind 25 = some (.aload_n 0, 26) := by decide +kernel
theorem dX7_hasOneOfAKind_26 : dcd cX7_hasOneOfAKind 26 = some (.getfield 19, 29) := by decide +kernel
theorem dX7_hasOneOfAKind_29 : dcd cX7_hasOneOfAKind 29 = some (.getfield 110, 32) := by decide +kernel
theorem dX7_hasOneOfAKind_32 : dcd cX7_hasOneOfAKind 32 = some (.iload_n 3, 33) := by decide +kernel
theorem dX7_hasOneOfAKind_33 : dcd cX7_hasOneOfAKind 33 = some (.aaload, 34) := by decide +kernel
theorem dX7_hasOneOfAKind_34 : dcd cX7_hasOneOfAKind 34 = some (.getfield 114, 37) := by decide +kernel
theorem dX7_hasOneOfAKind_37 : dcd cX7_hasOneOfAKind 37 = some (.ishl, 38) := by decide +kernel
theorem dX7_hasOneOfAKind_38 : dcd cX7_hasOneOfAKind 38 = some (.istore 4, 40) := by decide +kernel
theorem dX7_hasOneOfAKind_40 : dcd cX7_hasOneOfAKind 40 = some (.iload_n 2, 41) := by decide +kernel
theorem dX7_hasOneOfAKind_41 : dcd cX7_hasOneOfAKind 41 = some (.iload 4, 43) := by decide +kernel
theorem dX7_hasOneOfAKind_43 : dcd cX7_hasOneOfAKind 43 = some (.iand, 44) := by decide +kernel
theorem dX7_hasOneOfAKind_44 : dcd cX7_hasOneOfAKind 44 = some (.ifCond .eq 5, 47) := by decide +kernel
theorem dX7_hasOneOfAKind_47 : dcd cX7_hasOneOfAKind 47 = some (.iconst 0, 48) := by decide +kernel
theorem dX7_hasOneOfAKind_48 : dcd cX7_hasOneOfAKind 48 = some (.ireturn, 49) := by decide +kernel
theorem dX7_hasOneOfAKind_49 : dcd cX7_hasOneOfAKind 49 = some (.iload_n 2, 50) := by decide +kernel
theorem dX7_hasOneOfAKind_50 : dcd cX7_hasOneOfAKind 50 = some (.iload 4, 52) := by decide +kernel
theorem dX7_hasOneOfAKind_52 : dcd cX7_hasOneOfAKind 52 = some (.ior, 53) := by decide +kernel
theorem dX7_hasOneOfAKind_53 : dcd cX7_hasOneOfAKind 53 = some (.istore_n 2, 54) := by decide +kernel
theorem dX7_hasOneOfAKind_54 : dcd cX7_hasOneOfAKind 54 = some (.iinc 3 1, 57) := by decide +kernel
theorem dX7_hasOneOfAKind_57 : dcd cX7_hasOneOfAKind 57 = some (.goto (-53), 60) := by decide +kernel
theorem dX7_hasOneOfAKind_60 : dcd cX7_hasOneOfAKind 60 = some (.iconst 1, 61) := by decide +kernel
theorem dX7_hasOneOfAKind_61 : dcd cX7_hasOneOfAKind 61 = some (.ireturn, 62) := by decide +kernel
theorem dX7_apart_0 : dcd cX7_apart 0 = some (.iconst 0, 1) := by decide +kernel
theorem dX7_apart_1 : dcd cX7_apart 1 = some (.istore_n 3, 2) := by decide +kernel
theorem dX7_apart_2 : dcd cX7_apart 2 = some (.iconst 0, 3) := by decide +kernel
theorem dX7_apart_3 : dcd cX7_apart 3 = some (.istore 4, 5) := by decide +kernel
theorem dX7_apart_5 : dcd cX7_apart 5 = some (.iload 4, 7) := by decide +kernel
theorem dX7_apart_7 : dcd cX7_apart 7 = some (.aload_n 0, 8) := by decide +kernel
theorem dX7_apart_8 : dcd cX7_apart 8 = some (.getfield 19, 11) := by decide +kernel
theorem dX7_apart_11 : dcd cX7_apart 11 = some (.getfield 266, 14) := by decide +kernel
theorem dX7_apart_14 : dcd cX7_apart 14 = some (.if_icmp .ge 64, 17) := by decide +kernel
theorem dX7_apart_17 : dcd cX7_apart 17 = some (.iload_n 1, 18) := by decide +kernel
theorem dX7_apart_18 : dcd cX7_apart 18 = some (.iload 4, 20) := by decide +kernel
theorem dX7_apart_20 : dcd cX7_apart 20 = some (.ishr, 21) := by decide +kernel
theorem dX7_apart_21 : dcd cX7_apart 21 = some (.iconst 1, 22) := by decide +kernel
theorem dX7_apart_22 : dcd cX7_apart 22 = some (.iand, 23) := by decide +kernel
theorem dX7_apart_23 : dcd cX7_apart 23 = some (.iconst 1, 24) := by decide +kernel
theorem dX7_apart_24 : dcd cX7_apart 24 = some (.if_icmp .ne 22, 27) := by decide +kernel
theorem dX7_apart_27 : dcd cX7_apart 27 = some (.iload_n 3, 28) := by decide +kernel
theorem dX7_apart_28 : dcd cX7_apart 28 = some (.aload_n 0, 29) := by decide +kernel
theorem dX7_apart_29 : dcd cX7_apart 29 = some (.getfield 19, 32) := by decide +kernel
theorem dX7_apart_32 : dcd cX7_apart 32 = some (.getfield 110, 35) := by decide +kernel
theorem dX7_apart_35 : dcd cX7_apart 35 = some (.iload 4, 37) := by decide +kernel
theorem dX7_apart_37 : dcd cX7_apart 37 = some (.aaload, 38) := by decide +kernel
theorem dX7_apart_38 : dcd cX7_apart 38 = some (.getfield 120, 41) := by decide +kernel
theorem dX7_apart_41 : dcd cX7_apart 41 = some (.iadd, 42) := by decide +kernel
theorem dX7_apart_42 : dcd cX7_apart 42 = some (.istore_n 3, 43) := by decide +kernel
theorem dX7_apart_43 : dcd cX7_apart 43 = some (.goto 29, 46) := by decide +kernel
theorem dX7_apart_46 : dcd cX7_apart 46 = some (.iload_n 2, 47) := by decide +kernel
theorem dX7_apart_47 : dcd cX7_apart 47 = some (.iload 4, 49) := by decide +kernel
theorem dX7_apart_49 : dcd cX7_apart 49 = some (.ishr, 50) := by decide +kernel
theorem dX7_apart_50 : dcd cX7_apart 50 = some (.iconst 1, 51) := by decide +kernel
theorem dX7_apart_51 : dcd cX7_apart 51 = some (.iand, 52) := by decide +kernel
theorem dX7_apart_52 : dcd cX7_apart 52 = some (.iconst 1, 53) := by decide +kernel
theorem dX7_apart_53 : dcd cX7_apart 53 = some (.if_icmp .ne 19, 56) := by decide +kernel
theorem dX7_apart_56 : dcd cX7_apart 56 = some (.iload_n 3, 57) := by decide +kernel
theorem dX7_apart_57 : dcd cX7_apart 57 = some (.aload_n 0, 58) := by decide +kernel
theorem dX7_apart_58 : dcd cX7_apart 58 = some (.getfield 19, 61) := by decide +kernel
theorem dX7_apart_61 : dcd cX7_apart 61 = some (.getfield 110, 64) := by decide +kernel
theorem dX7_apart_64 : dcd cX7_apart 64 = some (.iload 4, 66) := by decide +kernel
theorem dX7_apart_66 : dcd cX7_apart 66 = some (.aaload, 67) := by decide +kernel
theorem dX7_apart_67 : dcd cX7_apart 67 = some (.getfield 120, 70) := by decide +kernel
theorem dX7_apart_70 : dcd cX7_apart 70 = some (.isub, 71) := by decide +kernel
theorem dX7_apart_71 : dcd cX7_apart 71 = some (.istore_n 3, 72) := by decide +kernel
theorem dX7_apart_72 : dcd cX7_apart 72 = some (.iinc 4 1, 75) := by decide +kernel
theorem dX7_apart_75 : dcd cX7_apart 75 = some (.goto (-70), 78) := by decide +kernel
theorem dX7_apart_78 : dcd cX7_apart 78 = some (.iload_n 3, 79) := by decide +kernel
theorem dX7_apart_79 : dcd cX7_apart 79 = some (.invokestatic 333, 82) := by decide +kernel
theorem dX7_apart_82 : dcd cX7_apart 82 = some (.ireturn, 83) := by decide +kernel
theorem dX7_opensAhead_0 : dcd cX7_opensAhead 0 = some (.aload_n 0, 1) := by decide +kernel
theorem dX7_opensAhead_1 : dcd cX7_opensAhead 1 = some (.getfield 57, 4) := by decide +kernel
theorem dX7_opensAhead_4 : dcd cX7_opensAhead 4 = some (.getfield 338, 7) := by decide +kernel
theorem dX7_opensAhead_7 : dcd cX7_opensAhead 7 = some (.iload_n 1, 8) := by decide +kernel
theorem dX7_opensAhead_8 : dcd cX7_opensAhead 8 = some (.bipush 9, 10) := by decide +kernel
theorem dX7_opensAhead_10 : dcd cX7_opensAhead 10 = some (.imul, 11) := by decide +kernel
theorem dX7_opensAhead_11 : dcd cX7_opensAhead 11 = some (.iaload, 12) := by decide +kernel
theorem dX7_opensAhead_12 : dcd cX7_opensAhead 12 = some (.aload_n 0, 13) := by decide +kernel
theorem dX7_opensAhead_13 : dcd cX7_opensAhead 13 = some (.getfield 57, 16) := by decide +kernel
theorem dX7_opensAhead_16 : dcd cX7_opensAhead 16 = some (.getfield 338, 19) := by decide +kernel
theorem dX7_opensAhead_19 : dcd cX7_opensAhead 19 = some (.iload_n 2, 20) := by decide +kernel
theorem dX7_opensAhead_20 : dcd cX7_opensAhead 20 = some (.bipush 9, 22) := by decide +kernel
theorem dX7_opensAhead_22 : dcd cX7_opensAhead 22 = some (.imul, 23) := by decide +kernel
theorem dX7_opensAhead_23 : dcd cX7_opensAhead 23 = some (.iaload, 24) := by decide +kernel
theorem dX7_opensAhead_24 : dcd cX7_opensAhead 24 = some (.isub, 25) := by decide +kernel
theorem dX7_opensAhead_25 : dcd cX7_opensAhead 25 = some (.istore_n 3, 26) := by decide +kernel
theorem dX7_opensAhead_26 : dcd cX7_opensAhead 26 = some (.iload_n 3, 27) := by decide +kernel
theorem dX7_opensAhead_27 : dcd cX7_opensAhead 27 = some (.ifCond .eq 13, 30) := by decide +kernel
theorem dX7_opensAhead_30 : dcd cX7_opensAhead 30 = some (.iload_n 3, 31) := by decide +kernel
theorem dX7_opensAhead_31 : dcd cX7_opensAhead 31 = some (.ifCond .ge 7, 34) := by decide +kernel
theorem dX7_opensAhead_34 : dcd cX7_opensAhead 34 = some (.iconst 1, 35) := by decide +kernel
theorem dX7_opensAhead_35 : dcd cX7_opensAhead 35 = some (.goto 4, 38) := by decide +kernel
theorem dX7_opensAhead_38 : dcd cX7_opensAhead 38 = some (.iconst 0, 39) := by decide +kernel
theorem dX7_opensAhead_39 : dcd cX7_opensAhead 39 = some (.ireturn, 40) := by decide +kernel
theorem dX7_opensAhead_40 : dcd cX7_opensAhead 40 = some (.aload_n 0, 41) := by decide +kernel
theorem dX7_opensAhead_41 : dcd cX7_opensAhead 41 = some (.getfield 19, 44) := by decide +kernel
theorem dX7_opensAhead_44 : dcd cX7_opensAhead 44 = some (.getfield 110, 47) := by decide +kernel
theorem dX7_opensAhead_47 : dcd cX7_opensAhead 47 = some (.iload_n 1, 48) := by decide +kernel
theorem dX7_opensAhead_48 : dcd cX7_opensAhead 48 = some (.aaload, 49) := by decide +kernel
theorem dX7_opensAhead_49 : dcd cX7_opensAhead 49 = some (.getfield 120, 52) := by decide +kernel
theorem dX7_opensAhead_52 : dcd cX7_opensAhead 52 = some (.aload_n 0, 53) := by decide +kernel
theorem dX7_opensAhead_53 : dcd cX7_opensAhead 53 = some (.getfield 19, 56) := by decide +kernel
theorem dX7_opensAhead_56 : dcd cX7_opensAhead 56 = some (.getfield 110, 59) := by decide +kernel
theorem dX7_opensAhead_59 : dcd cX7_opensAhead 59 = some (.iload_n 2, 60) := by decide +kernel
theorem dX7_opensAhead_60 : dcd cX7_opensAhead 60 = some (.aaload, 61) := by decide +kernel
theorem dX7_opensAhead_61 : dcd cX7_opensAhead 61 = some (.getfield 120, 64) := by decide +kernel
theorem dX7_opensAhead_64 : dcd cX7_opensAhead 64 = some (.if_icmp .ge 7, 67) := by decide +kernel
theorem dX7_opensAhead_67 : dcd cX7_opensAhead 67 = some (.iconst 1, 68) := by decide +kernel
theorem dX7_opensAhead_68 : dcd cX7_opensAhead 68 = some (.goto 4, 71) := by decide +kernel
theorem dX7_opensAhead_71 : dcd cX7_opensAhead 71 = some (.iconst 0, 72) := by decide +kernel
theorem dX7_opensAhead_72 : dcd cX7_opensAhead 72 = some (.ireturn, 73) := by decide +kernel
theorem dX7_sortByStrength_0 : dcd cX7_sortByStrength 0 = some (.iconst 1, 1) := by decide +kernel
theorem dX7_sortByStrength_1 : dcd cX7_sortByStrength 1 = some (.istore_n 1, 2) := by decide +kernel
theorem dX7_sortByStrength_2 : dcd cX7_sortByStrength 2 = some (.iload_n 1, 3) := by decide +kernel
theorem dX7_sortByStrength_3 : dcd cX7_sortByStrength 3 = some (.aload_n 0, 4) := by decide +kernel
theorem dX7_sortByStrength_4 : dcd cX7_sortByStrength 4 = some (.getfield 29, 7) := by decide +kernel
theorem dX7_sortByStrength_7 : dcd cX7_sortByStrength 7 = some (.getfield 159, 10) := by decide +kernel
theorem dX7_sortByStrength_10 : dcd cX7_sortByStrength 10 = some (.if_icmp .ge 47, 13) := by decide +kernel
theorem dX7_sortByStrength_13 : dcd cX7_sortByStrength 13 = some (.iload_n 1, 14) := by decide +kernel
theorem dX7_sortByStrength_14 : dcd cX7_sortByStrength 14 = some (.istore_n 2, 15) := by decide +kernel
theorem dX7_sortByStrength_15 : dcd cX7_sortByStrength 15 = some (.iload_n 2, 16) := by decide +kernel
theorem dX7_sortByStrength_16 : dcd cX7_sortByStrength 16 = some (.ifCond .le 35, 19) := by decide +kernel
theorem dX7_sortByStrength_19 : dcd cX7_sortByStrength 19 = some (.aload_n 0, 20) := by decide +kernel
theorem dX7_sortByStrength_20 : dcd cX7_sortByStrength 20 = some (.aload_n 0, 21) := by decide +kernel
theorem dX7_sortByStrength_21 : dcd cX7_sortByStrength 21 = some (.getfield 70, 24) := by decide +kernel
theorem dX7_sortByStrength_24 : dcd cX7_sortByStrength 24 = some (.iload_n 2, 25) := by decide +kernel
theorem dX7_sortByStrength_25 : dcd cX7_sortByStrength 25 = some (.iaload, 26) := by decide +kernel
theorem dX7_sortByStrength_26 : dcd cX7_sortByStrength 26 = some (.aload_n 0, 27) := by decide +kernel
theorem dX7_sortByStrength_27 : dcd cX7_sortByStrength 27 = some (.getfield 70, 30) := by decide +kernel
theorem dX7_sortByStrength_30 : dcd cX7_sortByStrength 30 = some (.iload_n 2, 31) := by decide +kernel
theorem dX7_sortByStrength_31 : dcd cX7_sortByStrength 31 = some (.iconst 1, 32) := by decide +kernel
theorem dX7_sortByStrength_32 : dcd cX7_sortByStrength 32 = some (.isub, 33) := by decide +kernel
theorem dX7_sortByStrength_33 : dcd cX7_sortByStrength 33 = some (.iaload, 34) := by decide +kernel
theorem dX7_sortByStrength_34 : dcd cX7_sortByStrength 34 = some (.invokevirtual 341, 37) := by decide +kernel
theorem dX7_sortByStrength_37 : dcd cX7_sortByStrength 37 = some (.ifCond .eq 14, 40) := by decide +kernel
theorem dX7_sortByStrength_40 : dcd cX7_sortByStrength 40 = some (.aload_n 0, 41) := by decide +kernel
theorem dX7_sortByStrength_41 : dcd cX7_sortByStrength 41 = some (.iload_n 2, 42) := by decide +kernel
theorem dX7_sortByStrength_42 : dcd cX7_sortByStrength 42 = some (.invokevirtual 344, 45) := by decide +kernel
theorem dX7_sortByStrength_45 : dcd cX7_sortByStrength 45 = some (.iinc 2 (-1), 48) := by decide +kernel
theorem dX7_sortByStrength_48 : dcd cX7_sortByStrength 48 = some (.goto (-33), 51) := by decide +kernel
theorem dX7_sortByStrength_51 : dcd cX7_sortByStrength 51 = some (.iinc 1 1, 54) := by decide +kernel
theorem dX7_sortByStrength_54 : dcd cX7_sortByStrength 54 = some (.goto (-52), 57) := by decide +kernel
theorem dX7_sortByStrength_57 : dcd cX7_sortByStrength 57 = some (.return_, 58) := by decide +kernel
theorem dX7_sortByFamilies_0 : dcd cX7_sortByFamilies 0 = some (.iconst 1, 1) := by decide +kernel
theorem dX7_sortByFamilies_1 : dcd cX7_sortByFamilies 1 = some (.istore_n 1, 2) := by decide +kernel
theorem dX7_sortByFamilies_2 : dcd cX7_sortByFamilies 2 = some (.iload_n 1, 3) := by decide +kernel
theorem dX7_sortByFamilies_3 : dcd cX7_sortByFamilies 3 = some (.aload_n 0, 4) := by decide +kernel
theorem dX7_sortByFamilies_4 : dcd cX7_sortByFamilies 4 = some (.getfield 29, 7) := by decide +kernel
theorem dX7_sortByFamilies_7 : dcd cX7_sortByFamilies 7 = some (.getfield 159, 10) := by decide +kernel
theorem dX7_sortByFamilies_10 : dcd cX7_sortByFamilies 10 = some (.if_icmp .ge 47, 13) := by decide +kernel
theorem dX7_sortByFamilies_13 : dcd cX7_sortByFamilies 13 = some (.iload_n 1, 14) := by decide +kernel
theorem dX7_sortByFamilies_14 : dcd cX7_sortByFamilies 14 = some (.istore_n 2, 15) := by decide +kernel
theorem dX7_sortByFamilies_15 : dcd cX7_sortByFamilies 15 = some (.iload_n 2, 16) := by decide +kernel
theorem dX7_sortByFamilies_16 : dcd cX7_sortByFamilies 16 = some (.ifCond .le 35, 19) := by decide +kernel
theorem dX7_sortByFamilies_19 : dcd cX7_sortByFamilies 19 = some (.aload_n 0, 20) := by decide +kernel
theorem dX7_sortByFamilies_20 : dcd cX7_sortByFamilies 20 = some (.aload_n 0, 21) := by decide +kernel
theorem dX7_sortByFamilies_21 : dcd cX7_sortByFamilies 21 = some (.getfield 70, 24) := by decide +kernel
theorem dX7_sortByFamilies_24 : dcd cX7_sortByFamilies 24 = some (.iload_n 2, 25) := by decide +kernel
theorem dX7_sortByFamilies_25 : dcd cX7_sortByFamilies 25 = some (.iaload, 26) := by decide +kernel
theorem dX7_sortByFamilies_26 : dcd cX7_sortByFamilies 26 = some (.aload_n 0, 27) := by decide +kernel
theorem dX7_sortByFamilies_27 : dcd cX7_sortByFamilies 27 = some (.getfield 70, 30) := by decide +kernel
theorem dX7_sortByFamilies_30 : dcd cX7_sortByFamilies 30 = some (.iload_n 2, 31) := by decide +kernel
theorem dX7_sortByFamilies_31 : dcd cX7_sortByFamilies 31 = some (.iconst 1, 32) := by decide +kernel
theorem dX7_sortByFamilies_32 : dcd cX7_sortByFamilies 32 = some (.isub, 33) := by decide +kernel
theorem dX7_sortByFamilies_33 : dcd cX7_sortByFamilies 33 = some (.iaload, 34) := by decide +kernel
theorem dX7_sortByFamilies_34 : dcd cX7_sortByFamilies 34 = some (.invokevirtual 347, 37) := by decide +kernel
theorem dX7_sortByFamilies_37 : dcd cX7_sortByFamilies 37 = some (.ifCond .eq 14, 40) := by decide +kernel
theorem dX7_sortByFamilies_40 : dcd cX7_sortByFamilies 40 = some (.aload_n 0, 41) := by decide +kernel
theorem dX7_sortByFamilies_41 : dcd cX7_sortByFamilies 41 = some (.iload_n 2, 42) := by decide +kernel
theorem dX7_sortByFamilies_42 : dcd cX7_sortByFamilies 42 = some (.invokevirtual 344, 45) := by decide +kernel
theorem dX7_sortByFamilies_45 : dcd cX7_sortByFamilies 45 = some (.iinc 2 (-1), 48) := by decide +kernel
theorem dX7_sortByFamilies_48 : dcd cX7_sortByFamilies 48 = some (.goto (-33), 51) := by decide +kernel
theorem dX7_sortByFamilies_51 : dcd cX7_sortByFamilies 51 = some (.iinc 1 1, 54) := by decide +kernel
theorem dX7_sortByFamilies_54 : dcd cX7_sortByFamilies 54 = some (.goto (-52), 57) := by decide +kernel
theorem dX7_sortByFamilies_57 : dcd cX7_sortByFamilies 57 = some (.return_, 58) := by decide +kernel
theorem dX7_isWeaker_0 : dcd cX7_isWeaker 0 = some (.aload_n 0, 1) := by decide +kernel
theorem dX7_isWeaker_1 : dcd cX7_isWeaker 1 = some (.getfield 19, 4) := by decide +kernel
theorem dX7_isWeaker_4 : dcd cX7_isWeaker 4 = some (.getfield 110, 7) := by decide +kernel
theorem dX7_isWeaker_7 : dcd cX7_isWeaker 7 = some (.iload_n 1, 8) := by decide +kernel
theorem dX7_isWeaker_8 : dcd cX7_isWeaker 8 = some (.aaload, 9) := by decide +kernel
theorem dX7_isWeaker_9 : dcd cX7_isWeaker 9 = some (.getfield 120, 12) := by decide +kernel
theorem dX7_isWeaker_12 : dcd cX7_isWeaker 12 = some (.aload_n 0, 13) := by decide +kernel
theorem dX7_isWeaker_13 : dcd cX7_isWeaker 13 = some (.getfield 19, 16) := by decide +kernel
theorem dX7_isWeaker_16 : dcd cX7_isWeaker 16 = some (.getfield 110, 19) := by decide +kernel
theorem dX7_isWeaker_19 : dcd cX7_isWeaker 19 = some (.iload_n 2, 20) := by decide +kernel
theorem dX7_isWeaker_20 : dcd cX7_isWeaker 20 = some (.aaload, 21) := by decide +kernel
theorem dX7_isWeaker_21 : dcd cX7_isWeaker 21 = some (.getfield 120, 24) := by decide +kernel
theorem dX7_isWeaker_24 : dcd cX7_isWeaker 24 = some (.if_icmp .ge 7, 27) := by decide +kernel
theorem dX7_isWeaker_27 : dcd cX7_isWeaker 27 = some (.iconst 1, 28) := by decide +kernel
theorem dX7_isWeaker_28 : dcd cX7_isWeaker 28 = some (.goto 4, 31) := by decide +kernel
theorem dX7_isWeaker_31 : dcd cX7_isWeaker 31 = some (.iconst 0, 32) := by decide +kernel
theorem dX7_isWeaker_32 : dcd cX7_isWeaker 32 = some (.ireturn, 33) := by decide +kernel
theorem dX7_holdsLess_0 : dcd cX7_holdsLess 0 = some (.aload_n 0, 1) := by decide +kernel
theorem dX7_holdsLess_1 : dcd cX7_holdsLess 1 = some (.getfield 19, 4) := by decide +kernel
theorem dX7_holdsLess_4 : dcd cX7_holdsLess 4 = some (.getfield 110, 7) := by decide +kernel
theorem dX7_holdsLess_7 : dcd cX7_holdsLess 7 = some (.iload_n 1, 8) := by decide +kernel
theorem dX7_holdsLess_8 : dcd cX7_holdsLess 8 = some (.aaload, 9) := by decide +kernel
theorem dX7_holdsLess_9 : dcd cX7_holdsLess 9 = some (.astore_n 3, 10) := by decide +kernel
theorem dX7_holdsLess_10 : dcd cX7_holdsLess 10 = some (.aload_n 0, 11) := by decide +kernel
theorem dX7_holdsLess_11 : dcd cX7_holdsLess 11 = some (.getfield 19, 14) := by decide +kernel
theorem dX7_holdsLess_14 : dcd cX7_holdsLess 14 = some (.getfield 110, 17) := by decide +kernel
theorem dX7_holdsLess_17 : dcd cX7_holdsLess 17 = some (.iload_n 2, 18) := by decide +kernel
theorem dX7_holdsLess_18 : dcd cX7_holdsLess 18 = some (.aaload, 19) := by decide +kernel
theorem dX7_holdsLess_19 : dcd cX7_holdsLess 19 = some (.astore 4, 21) := by decide +kernel
theorem dX7_holdsLess_21 : dcd cX7_holdsLess 21 = some (.aload_n 3, 22) := by decide +kernel
theorem dX7_holdsLess_22 : dcd cX7_holdsLess 22 = some (.getfield 138, 25) := by decide +kernel
theorem dX7_holdsLess_25 : dcd cX7_holdsLess 25 = some (.aload 4, 27) := by decide +kernel
theorem dX7_holdsLess_27 : dcd cX7_holdsLess 27 = some (.getfield 117, 30) := by decide +kernel
theorem dX7_holdsLess_30 : dcd cX7_holdsLess 30 = some (.imul, 31) := by decide +kernel
theorem dX7_holdsLess_31 : dcd cX7_holdsLess 31 = some (.aload 4, 33) := by decide +kernel
theorem dX7_holdsLess_33 : dcd cX7_holdsLess 33 = some (.getfield 138, 36) := by decide +kernel
theorem dX7_holdsLess_36 : dcd cX7_holdsLess 36 = some (.aload_n 3, 37) := by decide +kernel
theorem dX7_holdsLess_37 : dcd cX7_holdsLess 37 = some (.getfield 117, 40) := by decide +kernel
theorem dX7_holdsLess_40 : dcd cX7_holdsLess 40 = some (.imul, 41) := by decide +kernel
theorem dX7_holdsLess_41 : dcd cX7_holdsLess 41 = some (.if_icmp .ge 7, 44) := by decide +kernel
theorem dX7_holdsLess_44 : dcd cX7_holdsLess 44 = some (.iconst 1, 45) := by decide +kernel
theorem dX7_holdsLess_45 : dcd cX7_holdsLess 45 = some (.goto 4, 48) := by decide +kernel
theorem dX7_holdsLess_48 : dcd cX7_holdsLess 48 = some (.iconst 0, 49) := by decide +kernel
theorem dX7_holdsLess_49 : dcd cX7_holdsLess 49 = some (.ireturn, 50) := by decide +kernel
theorem dX7_swapAhead_0 : dcd cX7_swapAhead 0 = some (.aload_n 0, 1) := by decide +kernel
theorem dX7_swapAhead_1 : dcd cX7_swapAhead 1 = some (.getfield 70, 4) := by decide +kernel
theorem dX7_swapAhead_4 : dcd cX7_swapAhead 4 = some (.iload_n 1, 5) := by decide +kernel
theorem dX7_swapAhead_5 : dcd cX7_swapAhead 5 = some (.iaload, 6) := by decide +kernel
theorem dX7_swapAhead_6 : dcd cX7_swapAhead 6 = some (.istore_n 2, 7) := by decide +kernel
theorem dX7_swapAhead_7 : dcd cX7_swapAhead 7 = some (.aload_n 0, 8) := by decide +kernel
theorem dX7_swapAhead_8 : dcd cX7_swapAhead 8 = some (.getfield 70, 11) := by decide +kernel
theorem dX7_swapAhead_11 : dcd cX7_swapAhead 11 = some (.iload_n 1, 12) := by decide +kernel
theorem dX7_swapAhead_12 : dcd cX7_swapAhead 12 = some (.aload_n 0, 13) := by decide +kernel
theorem dX7_swapAhead_13 : dcd cX7_swapAhead 13 = some (.getfield 70, 16) := by decide +kernel
theorem dX7_swapAhead_16 : dcd cX7_swapAhead 16 = some (.iload_n 1, 17) := by decide +kernel
theorem dX7_swapAhead_17 : dcd cX7_swapAhead 17 = some (.iconst 1, 18) := by decide +kernel
theorem dX7_swapAhead_18 : dcd cX7_swapAhead 18 = some (.isub, 19) := by decide +kernel
theorem dX7_swapAhead_19 : dcd cX7_swapAhead 19 = some (.iaload, 20) := by decide +kernel
theorem dX7_swapAhead_20 : dcd cX7_swapAhead 20 = some (.iastore, 21) := by decide +kernel
theorem dX7_swapAhead_21 : dcd cX7_swapAhead 21 = some (.aload_n 0, 22) := by decide +kernel
theorem dX7_swapAhead_22 : dcd cX7_swapAhead 22 = some (.getfield 70, 25) := by decide +kernel
theorem dX7_swapAhead_25 : dcd cX7_swapAhead 25 = some (.iload_n 1, 26) := by decide +kernel
theorem dX7_swapAhead_26 : dcd cX7_swapAhead 26 = some (.iconst 1, 27) := by decide +kernel
theorem dX7_swapAhead_27 : dcd cX7_swapAhead 27 = some (.isub, 28) := by decide +kernel
theorem dX7_swapAhead_28 : dcd cX7_swapAhead 28 = some (.iload_n 2, 29) := by decide +kernel
theorem dX7_swapAhead_29 : dcd cX7_swapAhead 29 = some (.iastore, 30) := by decide +kernel
theorem dX7_swapAhead_30 : dcd cX7_swapAhead 30 = some (.return_, 31) := by decide +kernel
theorem dX7_ratePlace_0 : dcd cX7_ratePlace 0 = some (.aload_n 0, 1) := by decide +kernel
theorem dX7_ratePlace_1 : dcd cX7_ratePlace 1 = some (.dup, 2) := by decide +kernel
theorem dX7_ratePlace_2 : dcd cX7_ratePlace 2 = some (.getfield 78, 5) := by decide +kernel
theorem dX7_ratePlace_5 : dcd cX7_ratePlace 5 = some (.lconst 1, 6) := by decide +kernel
theorem dX7_ratePlace_6 : dcd cX7_ratePlace 6 = some (.ladd, 7) := by decide +kernel
theorem dX7_ratePlace_7 : dcd cX7_ratePlace 7 = some (.putfield 78, 10) := by decide +kernel
theorem dX7_ratePlace_10 : dcd cX7_ratePlace 10 = some (.aload_n 1, 11) := by decide +kernel
theorem dX7_ratePlace_11 : dcd cX7_ratePlace 11 = some (.getfield 120, 14) := by decide +kernel
theorem dX7_ratePlace_14 : dcd cX7_ratePlace 14 = some (.ireturn, 15) := by decide +kernel
theorem dX7_rateOpening_0 : dcd cX7_rateOpening 0 = some (.aload_n 0, 1) := by decide +kernel
theorem dX7_rateOpening_1 : dcd cX7_rateOpening 1 = some (.dup, 2) := by decide +kernel
theorem dX7_rateOpening_2 : dcd cX7_rateOpening 2 = some (.getfield 78, 5) := by decide +kernel
theorem dX7_rateOpening_5 : dcd cX7_rateOpening 5 = some (.ldc2_w 350, 8) := by decide +kernel
theorem dX7_rateOpening_8 : dcd cX7_rateOpening 8 = some (.ladd, 9) := by decide +kernel
theorem dX7_rateOpening_9 : dcd cX7_rateOpening 9 = some (.putfield 78, 12) := by decide +kernel
theorem dX7_rateOpening_12 : dcd cX7_rateOpening 12 = some (.aload_n 0, 13) := by decide +kernel
theorem dX7_rateOpening_13 : dcd cX7_rateOpening 13 = some (.aload_n 1, 14) := by decide +kernel
theorem dX7_rateOpening_14 : dcd cX7_rateOpening 14 = some (.invokevirtual 289, 17) := by decide +kernel
theorem dX7_rateOpening_17 : dcd cX7_rateOpening 17 = some (.aload_n 0, 18) := by decide +kernel
theorem dX7_rateOpening_18 : dcd cX7_rateOpening 18 = some (.getfield 40, 21) := by decide +kernel
theorem dX7_rateOpening_21 : dcd cX7_rateOpening 21 = some (.getfield 150, 24) := by decide +kernel
theorem dX7_rateOpening_24 : dcd cX7_rateOpening 24 = some (.iconst 4, 25) := by decide +kernel
theorem dX7_rateOpening_25 : dcd cX7_rateOpening 25 = some (.iaload, 26) := by decide +kernel
theorem dX7_rateOpening_26 : dcd cX7_rateOpening 26 = some (.iadd, 27) := by decide +kernel
theorem dX7_rateOpening_27 : dcd cX7_rateOpening 27 = some (.ireturn, 28) := by decide +kernel
theorem dX7_rateFrontCloth_0 : dcd cX7_rateFrontCloth 0 = some (.aload_n 0, 1) := by decide +kernel
theorem dX7_rateFrontCloth_1 : dcd cX7_rateFrontCloth 1 = some (.dup, 2) := by decide +kernel
theorem dX7_rateFrontCloth_2 : dcd cX7_rateFrontCloth 2 = some (.getfield 78, 5) := by decide +kernel
theorem dX7_rateFrontCloth_5 : dcd cX7_rateFrontCloth 5 = some (.ldc2_w 352, 8) := by decide +kernel
theorem dX7_rateFrontCloth_8 : dcd cX7_rateFrontCloth 8 = some (.ladd, 9) := by decide +kernel
theorem dX7_rateFrontCloth_9 : dcd cX7_rateFrontCloth 9 = some (.putfield 78, 12) := by decide +kernel
theorem dX7_rateFrontCloth_12 : dcd cX7_rateFrontCloth 12 = some (.aload_n 0, 13) := by decide +kernel
theorem dX7_rateFrontCloth_13 : dcd cX7_rateFrontCloth 13 = some (.aload_n 1, 14) := by decide +kernel
theorem dX7_rateFrontCloth_14 : dcd cX7_rateFrontCloth 14 = some (.invokevirtual 289, 17) := by decide +kernel
theorem dX7_rateFrontCloth_17 : dcd cX7_rateFrontCloth 17 = some (.aload_n 1, 18) := by decide +kernel
theorem dX7_rateFrontCloth_18 : dcd cX7_rateFrontCloth 18 = some (.getfield 117, 21) := by decide +kernel
theorem dX7_rateFrontCloth_21 : dcd cX7_rateFrontCloth 21 = some (.iadd, 22) := by decide +kernel
theorem dX7_rateFrontCloth_22 : dcd cX7_rateFrontCloth 22 = some (.ireturn, 23) := by decide +kernel
theorem dX7_rateSecond_0 : dcd cX7_rateSecond 0 = some (.aload_n 0, 1) := by decide +kernel
theorem dX7_rateSecond_1 : dcd cX7_rateSecond 1 = some (.dup, 2) := by decide +kernel
theorem dX7_rateSecond_2 : dcd cX7_rateSecond 2 = some (.getfield 78, 5) := by decide +kernel
theorem dX7_rateSecond_5 : dcd cX7_rateSecond 5 = some (.ldc2_w 354, 8) := by decide +kernel
theorem dX7_rateSecond_8 : dcd cX7_rateSecond 8 = some (.ladd, 9) := by decide +kernel
theorem dX7_rateSecond_9 : dcd cX7_rateSecond 9 = some (.putfield 78, 12) := by decide +kernel
theorem dX7_rateSecond_12 : dcd cX7_rateSecond 12 = some (.iconst 2, 13) := by decide +kernel
theorem dX7_rateSecond_13 : dcd cX7_rateSecond 13 = some (.aload_n 0, 14) := by decide +kernel
theorem dX7_rateSecond_14 : dcd cX7_rateSecond 14 = some (.aload_n 1, 15) := by decide +kernel
theorem dX7_rateSecond_15 : dcd cX7_rateSecond 15 = some (.invokevirtual 293, 18) := by decide +kernel
theorem dX7_rateSecond_18 : dcd cX7_rateSecond 18 = some (.imul, 19) := by decide +kernel
theorem dX7_rateSecond_19 : dcd cX7_rateSecond 19 = some (.ireturn, 20) := by decide +kernel
theorem dX7_rateDraw_0 : dcd cX7_rateDraw 0 = some (.aload_n 0, 1) := by decide +kernel
theorem dX7_rateDraw_1 : dcd cX7_rateDraw 1 = some (.dup, 2) := by decide +kernel
theorem dX7_rateDraw_2 : dcd cX7_rateDraw 2 = some (.getfield 78, 5) := by decide +kernel
theorem dX7_rateDraw_5 : dcd cX7_rateDraw 5 = some (.ldc2_w 356, 8) := by decide +kernel
theorem dX7_rateDraw_8 : dcd cX7_rateDraw 8 = some (.ladd, 9) := by decide +kernel
theorem dX7_rateDraw_9 : dcd cX7_rateDraw 9 = some (.putfield 78, 12) := by decide +kernel
theorem dX7_rateDraw_12 : dcd cX7_rateDraw 12 = some (.aload_n 0, 13) := by decide +kernel
theorem dX7_rateDraw_13 : dcd cX7_rateDraw 13 = some (.aload_n 1, 14) := by decide +kernel
theorem dX7_rateDraw_14 : dcd cX7_rateDraw 14 = some (.invokevirtual 305, 17) := by decide +kernel
theorem dX7_rateDraw_17 : dcd cX7_rateDraw 17 = some (.aload_n 1, 18) := by decide +kernel
theorem dX7_rateDraw_18 : dcd cX7_rateDraw 18 = some (.getfield 138, 21) := by decide +kernel
theorem dX7_rateDraw_21 : dcd cX7_rateDraw 21 = some (.iadd, 22) := by decide +kernel
theorem dX7_rateDraw_22 : dcd cX7_rateDraw 22 = some (.ireturn, 23) := by decide +kernel
theorem dX7_rateClosing_0 : dcd cX7_rateClosing 0 = some (.aload_n 0, 1) := by decide +kernel
theorem dX7_rateClosing_1 : dcd cX7_rateClosing 1 = some (.dup, 2) := by decide +kernel
theorem dX7_rateClosing_2 : dcd cX7_rateClosing 2 = some (.getfield 78, 5) := by decide +kernel
theorem dX7_rateClosing_5 : dcd cX7_rateClosing 5 = some (.ldc2_w 358, 8) := by decide +kernel
theorem dX7_rateClosing_8 : dcd cX7_rateClosing 8 = some (.ladd, 9) := by decide +kernel
theorem dX7_rateClosing_9 : dcd cX7_rateClosing 9 = some (.putfield 78, 12) := by decide +kernel
theorem dX7_rateClosing_12 : dcd cX7_rateClosing 12 = some (.aload_n 0, 13) := by decide +kernel
theorem dX7_rateClosing_13 : dcd cX7_rateClosing 13 = some (.aload_n 1, 14) := by decide +kernel
theorem dX7_rateClosing_14 : dcd cX7_rateClosing 14 = some (.invokevirtual 289, 17) := by decide +kernel
theorem dX7_rateClosing_17 : dcd cX7_rateClosing 17 = some (.aload_n 1, 18) := by decide +kernel
theorem dX7_rateClosing_18 : dcd cX7_rateClosing 18 = some (.getfield 126, 21) := by decide +kernel
theorem dX7_rateClosing_21 : dcd cX7_rateClosing 21 = some (.aload_n 1, 22) := by decide +kernel
theorem dX7_rateClosing_22 : dcd cX7_rateClosing 22 = some (.getfield 129, 25) := by decide +kernel
theorem dX7_rateClosing_25 : dcd cX7_rateClosing 25 = some (.iadd, 26) := by decide +kernel
theorem dX7_rateClosing_26 : dcd cX7_rateClosing 26 = some (.isub, 27) := by decide +kernel
theorem dX7_rateClosing_27 : dcd cX7_rateClosing 27 = some (.ireturn, 28) := by decide +kernel
theorem dX8_init_0 : dcd cX8_init 0 = some (.aload_n 0, 1) := by decide +kernel
theorem dX8_init_1 : dcd cX8_init 1 = some (.invokespecial 1, 4) := by decide +kernel
theorem dX8_init_4 : dcd cX8_init 4 = some (.aload_n 0, 5) := by decide +kernel
theorem dX8_init_5 : dcd cX8_init 5 = some (.sipush 400, 8) := by decide +kernel
theorem dX8_init_8 : dcd cX8_init 8 = some (.newarray .int, 10) := by decide +kernel
theorem dX8_init_10 : dcd cX8_init 10 = some (.putfield 7, 13) := by decide +kernel
theorem dX8_init_13 : dcd cX8_init 13 = some (.aload_n 0, 14) := by decide +kernel
theorem dX8_init_14 : dcd cX8_init 14 = some (.sipush 180, 17) := by decide +kernel
theorem dX8_init_17 : dcd cX8_init 17 = some (.newarray .int, 19) := by decide +kernel
theorem dX8_init_19 : dcd cX8_init 19 = some (.putfield 13, 22) := by decide +kernel
theorem dX8_init_22 : dcd cX8_init 22 = some (.aload_n 0, 23) := by decide +kernel
theorem dX8_init_23 : dcd cX8_init 23 = some (.bipush 8, 25) := by decide +kernel
theorem dX8_init_25 : dcd cX8_init 25 = some (.newarray .int, 27) := by decide +kernel
theorem dX8_init_27 : dcd cX8_init 27 = some (.putfield 16, 30) := by decide +kernel
theorem dX8_init_30 : dcd cX8_init 30 = some (.aload_n 0, 31) := by decide +kernel
theorem dX8_init_31 : dcd cX8_init 31 = some (.bipush 9, 33) := by decide +kernel
theorem dX8_init_33 : dcd cX8_init 33 = some (.newarray .int, 35) := by decide +kernel
theorem dX8_init_35 : dcd cX8_init 35 = some (.putfield 19, 38) := by decide +kernel
theorem dX8_init_38 : dcd cX8_init 38 = some (.aload_n 0, 39) := by decide +kernel
theorem dX8_init_39 : dcd cX8_init 39 = some (.bipush 12, 41) := by decide +kernel
theorem dX8_init_41 : dcd cX8_init 41 = some (.newarray .int, 43) := by decide +kernel
theorem dX8_init_43 : dcd cX8_init 43 = some (.putfield 22, 46) := by decide +kernel
theorem dX8_init_46 : dcd cX8_init 46 = some (.aload_n 0, 47) := by decide +kernel
theorem dX8_init_47 : dcd cX8_init 47 = some (.bipush 24, 49) := by decide +kernel
theorem dX8_init_49 : dcd cX8_init 49 = some (.newarray .int, 51) := by decide +kernel
theorem dX8_init_51 : dcd cX8_init 51 = some (.putfield 25, 54) := by decide +kernel
theorem dX8_init_54 : dcd cX8_init 54 = some (.aload_n 0, 55) := by decide +kernel
theorem dX8_init_55 : dcd cX8_init 55 = some (.iconst 2, 56) := by decide +kernel
theorem dX8_init_56 : dcd cX8_init 56 = some (.newarray .boolean, 58) := by decide +kernel
theorem dX8_init_58 : dcd cX8_init 58 = some (.putfield 28, 61) := by decide +kernel
theorem dX8_init_61 : dcd cX8_init 61 = some (.aload_n 0, 62) := by decide +kernel
theorem dX8_init_62 : dcd cX8_init 62 = some (.bipush 10, 64) := by decide +kernel
theorem dX8_init_64 : dcd cX8_init 64 = some (.newarray .int, 66) := by decide +kernel
theorem dX8_init_66 : dcd cX8_init 66 = some (.putfield 32, 69) := by decide +kernel
theorem dX8_init_69 : dcd cX8_init 69 = some (.aload_n 0, 70) := by decide +kernel
theorem dX8_init_70 : dcd cX8_init 70 = some (.bipush 10, 72) := by decide +kernel
theorem dX8_init_72 : dcd cX8_init 72 = some (.newarray .int, 74) := by decide +kernel
theorem dX8_init_74 : dcd cX8_init 74 = some (.putfield 35, 77) := by decide +kernel
theorem dX8_init_77 : dcd cX8_init 77 = some (.aload_n 0, 78) := by decide +kernel
theorem dX8_init_78 : dcd cX8_init 78 = some (.bipush 10, 80) := by decide +kernel
theorem dX8_init_80 : dcd cX8_init 80 = some (.newarray .int, 82) := by decide +kernel
theorem dX8_init_82 : dcd cX8_init 82 = some (.putfield 38, 85) := by decide +kernel
theorem dX8_init_85 : dcd cX8_init 85 = some (.aload_n 0, 86) := by decide +kernel
theorem dX8_init_86 : dcd cX8_init 86 = some (.bipush 10, 88) := by decide +kernel
theorem dX8_init_88 : dcd cX8_init 88 = some (.newarray .int, 90) := by decide +kernel
theorem dX8_init_90 : dcd cX8_init 90 = some (.putfield 41, 93) := by decide +kernel
theorem dX8_init_93 : dcd cX8_init 93 = some (.aload_n 0, 94) := by decide +kernel
theorem dX8_init_94 : dcd cX8_init 94 = some (.bipush 10, 96) := by decide +kernel
theorem dX8_init_96 : dcd cX8_init 96 = some (.newarray .int, 98) := by decide +kernel
theorem dX8_init_98 : dcd cX8_init 98 = some (.putfield 44, 101) := by decide +kernel
theorem dX8_init_101 : dcd cX8_init 101 = some (.aload_n 0, 102) := by decide +kernel
theorem dX8_init_102 : dcd cX8_init 102 = some (.bipush 10, 104) := by decide +kernel
theorem dX8_init_104 : dcd cX8_init 104 = some (.newarray .int, 106) := by decide +kernel
theorem dX8_init_106 : dcd cX8_init 106 = some (.putfield 47, 109) := by decide +kernel
theorem dX8_init_109 : dcd cX8_init 109 = some (.aload_n 0, 110) := by decide +kernel
theorem dX8_init_110 : dcd cX8_init 110 = some (.bipush 10, 112) := by decide +kernel
theorem dX8_init_112 : dcd cX8_init 112 = some (.newarray .int, 114) := by decide +kernel
theorem dX8_init_114 : dcd cX8_init 114 = some (.putfield 50, 117) := by decide +kernel
theorem dX8_init_117 : dcd cX8_init 117 = some (.aload_n 0, 118) := by decide +kernel
theorem dX8_init_118 : dcd cX8_init 118 = some (.bipush 60, 120) := by decide +kernel
theorem dX8_init_120 : dcd cX8_init 120 = some (.newarray .int, 122) := by decide +kernel
theorem dX8_init_122 : dcd cX8_init 122 = some (.putfield 53, 125) := by decide +kernel
theorem dX8_init_125 : dcd cX8_init 125 = some (.aload_n 0, 126) := by decide +kernel
theorem dX8_init_126 : dcd cX8_init 126 = some (.bipush 60, 128) := by decide +kernel
theorem dX8_init_128 : dcd cX8_init 128 = some (.newarray .int, 130) := by decide +kernel
theorem dX8_init_130 : dcd cX8_init 130 = some (.putfield 56, 133) := by decide +kernel
theorem dX8_init_133 : dcd cX8_init 133 = some (.aload_n 0, 134) := by decide +kernel
theorem dX8_init_134 : dcd cX8_init 134 = some (.bipush 60, 136) := by decide +kernel
theorem dX8_init_136 : dcd cX8_init 136 = some (.newarray .int, 138) := by decide +kernel
theorem dX8_init_138 : dcd cX8_init 138 = some (.putfield 59, 141) := by decide +kernel
theorem dX8_init_141 : dcd cX8_init 141 = some (.aload_n 0, 142) := by decide +kernel
theorem dX8_init_142 : dcd cX8_init 142 = some (.bipush 10, 144) := by decide +kernel
theorem dX8_init_144 : dcd cX8_init 144 = some (.newarray .int, 146) := by decide +kernel
theorem dX8_init_146 : dcd cX8_init 146 = some (.putfield 62, 149) := by decide +kernel
theorem dX8_init_149 : dcd cX8_init 149 = some (.aload_n 0, 150) := by decide +kernel
theorem dX8_init_150 : dcd cX8_init 150 = some (.sipush 512, 153) := by decide +kernel
theorem dX8_init_153 : dcd cX8_init 153 = some (.newarray .int, 155) := by decide +kernel
theorem dX8_init_155 : dcd cX8_init 155 = some (.putfield 65, 158) := by decide +kernel
theorem dX8_init_158 : dcd cX8_init 158 = some (.aload_n 0, 159) := by decide +kernel
theorem dX8_init_159 : dcd cX8_init 159 = some (.getfield 16, 162) := by decide +kernel
theorem dX8_init_162 : dcd cX8_init 162 = some (.iconst 0, 163) := by decide +kernel
theorem dX8_init_163 : dcd cX8_init 163 = some (.iconst 2, 164) := by decide +kernel
theorem dX8_init_164 : dcd cX8_init 164 = some (.iastore, 165) := by decide +kernel
theorem dX8_init_165 : dcd cX8_init 165 = some (.aload_n 0, 166) := by decide +kernel
theorem dX8_init_166 : dcd cX8_init 166 = some (.getfield 16, 169) := by decide +kernel
theorem dX8_init_169 : dcd cX8_init 169 = some (.iconst 1, 170) := by decide +kernel
theorem dX8_init_170 : dcd cX8_init 170 = some (.sipush 180, 173) := by decide +kernel
theorem dX8_init_173 : dcd cX8_init 173 = some (.iastore, 174) := by decide +kernel
theorem dX8_init_174 : dcd cX8_init 174 = some (.aload_n 0, 175) := by decide +kernel
theorem dX8_init_175 : dcd cX8_init 175 = some (.getfield 16, 178) := by decide +kernel
theorem dX8_init_178 : dcd cX8_init 178 = some (.iconst 2, 179) := by decide +kernel
theorem dX8_init_179 : dcd cX8_init 179 = some (.bipush 10, 181) := by decide +kernel
theorem dX8_init_181 : dcd cX8_init 181 = some (.iastore, 182) := by decide +kernel
theorem dX8_init_182 : dcd cX8_init 182 = some (.aload_n 0, 183) := by decide +kernel
theorem dX8_init_183 : dcd cX8_init 183 = some (.getfield 16, 186) := by decide +kernel
theorem dX8_init_186 : dcd cX8_init 186 = some (.iconst 3, 187) := by decide +kernel
theorem dX8_init_187 : dcd cX8_init 187 = some (.iconst 2, 188) := by decide +kernel
theorem dX8_init_188 : dcd cX8_init 188 = some (.iastore, 189) := by decide +kernel
theorem dX8_init_189 : dcd cX8_init 189 = some (.aload_n 0, 190) := by decide +kernel
theorem dX8_init_190 : dcd cX8_init 190 = some (.getfield 16, 193) := by decide +kernel
theorem dX8_init_193 : dcd cX8_init 193 = some (.iconst 4, 194) := by decide +kernel
theorem dX8_init_194 : dcd cX8_init 194 = some (.iconst 5, 195) := by decide +kernel
theorem dX8_init_195 : dcd cX8_init 195 = some (.iastore, 196) := by decide +kernel
theorem dX8_init_196 : dcd cX8_init 196 = some (.aload_n 0, 197) := by decide +kernel
theorem dX8_init_197 : dcd cX8_init 197 = some (.getfield 16, 200) := by decide +kernel
theorem dX8_init_200 : dcd cX8_init 200 = some (.iconst 5, 201) := by decide +kernel
theorem dX8_init_201 : dcd cX8_init 201 = some (.iconst 1, 202) := by decide +kernel
theorem dX8_init_202 : dcd cX8_init 202 = some (.iastore, 203) := by decide +kernel
theorem dX8_init_203 : dcd cX8_init 203 = some (.aload_n 0, 204) := by decide +kernel
theorem dX8_init_204 : dcd cX8_init 204 = some (.getfield 16, 207) := by decide +kernel
theorem dX8_init_207 : dcd cX8_init 207 = some (.bipush 6, 209) := by decide +kernel
theorem dX8_init_209 : dcd cX8_init 209 = some (.bipush 20, 211) := by decide +kernel
theorem dX8_init_211 : dcd cX8_init 211 = some (.iastore, 212) := by decide +kernel
theorem dX8_init_212 : dcd cX8_init 212 = some (.aload_n 0, 213) := by decide +kernel
theorem dX8_init_213 : dcd cX8_init 213 = some (.getfield 16, 216) := by decide +kernel
theorem dX8_init_216 : dcd cX8_init 216 = some (.bipush 7, 218) := by decide +kernel
theorem dX8_init_218 : dcd cX8_init 218 = some (.sipush 400, 221) := by decide +kernel
theorem dX8_init_221 : dcd cX8_init 221 = some (.iastore, 222) := by decide +kernel
theorem dX8_init_222 : dcd cX8_init 222 = some (.aload_n 0, 223) := by decide +kernel
theorem dX8_init_223 : dcd cX8_init 223 = some (.getfield 22, 226) := by decide +kernel
theorem dX8_init_226 : dcd cX8_init 226 = some (.iconst 2, 227) := by decide +kernel
theorem dX8_init_227 : dcd cX8_init 227 = some (.iconst 1, 228) := by decide +kernel
theorem dX8_init_228 : dcd cX8_init 228 = some (.iastore, 229) := by decide +kernel
theorem dX8_init_229 : dcd cX8_init 229 = some (.return_, 230) := by decide +kernel
theorem dX8_in_0 : dcd cX8_in 0 = some (.iload_n 0, 1) := by decide +kernel
theorem dX8_in_1 : dcd cX8_in 1 = some (.iload_n 1, 2) := by decide +kernel
theorem dX8_in_2 : dcd cX8_in 2 = some (.if_icmp .lt 12, 5) := by decide +kernel
theorem dX8_in_5 : dcd cX8_in 5 = some (.iload_n 0, 6) := by decide +kernel
theorem dX8_in_6 : dcd cX8_in 6 = some (.iload_n 2, 7) := by decide +kernel
theorem dX8_in_7 : dcd cX8_in 7 = some (.if_icmp .gt 7, 10) := by decide +kernel
theorem dX8_in_10 : dcd cX8_in 10 = some (.iconst 1, 11) := by decide +kernel
theorem dX8_in_11 : dcd cX8_in 11 = some (.goto 4, 14) := by decide +kernel
theorem dX8_in_14 : dcd cX8_in 14 = some (.iconst 0, 15) := by decide +kernel
theorem dX8_in_15 : dcd cX8_in 15 = some (.ireturn, 16) := by decide +kernel
theorem dX8_of_0 : dcd cX8_of 0 = some (.aload_n 0, 1) := by decide +kernel
theorem dX8_of_1 : dcd cX8_of 1 = some (.getfield 13, 4) := by decide +kernel
theorem dX8_of_4 : dcd cX8_of 4 = some (.bipush 9, 6) := by decide +kernel
theorem dX8_of_6 : dcd cX8_of 6 = some (.iload_n 1, 7) := by decide +kernel
theorem dX8_of_7 : dcd cX8_of 7 = some (.imul, 8) := by decide +kernel
theorem dX8_of_8 : dcd cX8_of 8 = some (.iload_n 2, 9) := by decide +kernel
theorem dX8_of_9 : dcd cX8_of 9 = some (.iadd, 10) := by decide +kernel
theorem dX8_of_10 : dcd cX8_of 10 = some (.iaload, 11) := by decide +kernel
theorem dX8_of_11 : dcd cX8_of 11 = some (.ireturn, 12) := by decide +kernel
theorem dX8_type_0 : dcd cX8_type 0 = some (.aload_n 0, 1) := by decide +kernel
theorem dX8_type_1 : dcd cX8_type 1 = some (.iconst 0, 2) := by decide +kernel
theorem dX8_type_2 : dcd cX8_type 2 = some (.putfield 68, 5) := by decide +kernel
theorem dX8_type_5 : dcd cX8_type 5 = some (.iload_n 3, 6) := by decide +kernel
theorem dX8_type_6 : dcd cX8_type 6 = some (.iconst 1, 7) := by decide +kernel
theorem dX8_type_7 : dcd cX8_type 7 = some (.bipush 8, 9) := by decide +kernel
theorem dX8_type_9 : dcd cX8_type 9 = some (.invokestatic 72, 12) := by decide +kernel
theorem dX8_type_12 : dcd cX8_type 12 = some (.ifCond .ne 5, 15) := by decide +kernel
theorem dX8_type_15 : dcd cX8_type 15 = some (.iconst (-1), 16) := by decide +kernel
theorem dX8_type_16 : dcd cX8_type 16 = some (.ireturn, 17) := by decide +kernel
theorem dX8_type_17 : dcd cX8_type 17 = some (.aload_n 0, 18) := by decide +kernel
theorem dX8_type_18 : dcd cX8_type 18 = some (.getfield 76, 21) := by decide +kernel
theorem dX8_type_21 : dcd cX8_type 21 = some (.iload_n 3, 22) := by decide +kernel
theorem dX8_type_22 : dcd cX8_type 22 = some (.iadd, 23) := by decide +kernel
theorem dX8_type_23 : dcd cX8_type 23 = some (.sipush 400, 26) := by decide +kernel
theorem dX8_type_26 : dcd cX8_type 26 = some (.if_icmp .le 6, 29) := by decide +kernel
theorem dX8_type_29 : dcd cX8_type 29 = some (.bipush (-3), 31) := by decide +kernel
theorem dX8_type_31 : dcd cX8_type 31 = some (.ireturn, 32) := by decide +kernel
theorem dX8_type_32 : dcd cX8_type 32 = some (.iload_n 3, 33) := by decide +kernel
theorem dX8_type_33 : dcd cX8_type 33 = some (.iconst 1, 34) := by decide +kernel
theorem dX8_type_34 : dcd cX8_type 34 = some (.isub, 35) := by decide +kernel
theorem dX8_type_35 : dcd cX8_type 35 = some (.istore 4, 37) := by decide +kernel
theorem dX8_type_37 : dcd cX8_type 37 = some (.iload 4, 39) := by decide +kernel
theorem dX8_type_39 : dcd cX8_type 39 = some (.ifCond .lt 40, 42) := by decide +kernel
theorem dX8_type_42 : dcd cX8_type 42 = some (.aload_n 0, 43) := by decide +kernel
theorem dX8_type_43 : dcd cX8_type 43 = some (.getfield 7, 46) := by decide +kernel
theorem dX8_type_46 : dcd cX8_type 46 = some (.aload_n 0, 47) := by decide +kernel
theorem dX8_type_47 : dcd cX8_type 47 = some (.getfield 76, 50) := by decide +kernel
theorem dX8_type_50 : dcd cX8_type 50 = some (.lload_n 1, 51) := by decide +kernel
theorem dX8_type_51 : dcd cX8_type 51 = some (.bipush 8, 53) := by decide +kernel
theorem dX8_type_53 : dcd cX8_type 53 = some (.iload 4, 55) := by decide +kernel
theorem dX8_type_55 : dcd cX8_type 55 = some (.imul, 56) := by decide +kernel
theorem dX8_type_56 : dcd cX8_type 56 = some (.lshr, 57) := by decide +kernel
theorem dX8_type_57 : dcd cX8_type 57 = some (.ldc2_w 79, 60) := by decide +kernel
theorem dX8_type_60 : dcd cX8_type 60 = some (.land, 61) := by decide +kernel
theorem dX8_type_61 : dcd cX8_type 61 = some (.l2i, 62) := by decide +kernel
theorem dX8_type_62 : dcd cX8_type 62 = some (.iastore, 63) := by decide +kernel
theorem dX8_type_63 : dcd cX8_type 63 = some (.aload_n 0, 64) := by decide +kernel
theorem dX8_type_64 : dcd cX8_type 64 = some (.dup, 65) := by decide +kernel
theorem dX8_type_65 : dcd cX8_type 65 = some (.getfield 76, 68) := by decide +kernel
theorem dX8_type_68 : dcd cX8_type 68 = some (.iconst 1, 69) := by decide +kernel
theorem dX8_type_69 : dcd cX8_type 69 = some (.iadd, 70) := by decide +kernel
theorem dX8_type_70 : dcd cX8_type 70 = some (.putfield 76, 73) := by decide +kernel
theorem dX8_type_73 : dcd cX8_type 73 = some (.iinc 4 (-1), 76) := by decide +kernel
theorem dX8_type_76 : dcd cX8_type 76 = some (.goto (-39), 79) := by decide +kernel
theorem dX8_type_79 : dcd cX8_type 79 = some (.aload_n 0, 80) := by decide +kernel
theorem dX8_type_80 : dcd cX8_type 80 = some (.getfield 76, 83) := by decide +kernel
theorem dX8_type_83 : dcd cX8_type 83 = some (.ireturn, 84) := by decide +kernel
theorem dX8_clear_0 : dcd cX8_clear 0 = some (.aload_n 0, 1) := by decide +kernel
theorem dX8_clear_1 : dcd cX8_clear 1 = some (.iconst 0, 2) := by decide +kernel
theorem dX8_clear_2 : dcd cX8_clear 2 = some (.putfield 68, 5) := by decide +kernel
theorem dX8_clear_5 : dcd cX8_clear 5 = some (.aload_n 0, 6) := by decide +kernel
theorem dX8_clear_6 : dcd cX8_clear 6 = some (.getfield 76, 9) := by decide +kernel
theorem dX8_clear_9 : dcd cX8_clear 9 = some (.istore_n 1, 10) := by decide +kernel
theorem dX8_clear_10 : dcd cX8_clear 10 = some (.aload_n 0, 11) := by decide +kernel
theorem dX8_clear_11 : dcd cX8_clear 11 = some (.iconst 0, 12) := by decide +kernel
theorem dX8_clear_12 : dcd cX8_clear 12 = some (.putfield 76, 15) := by decide +kernel
theorem dX8_clear_15 : dcd cX8_clear 15 = some (.iload_n 1, 16) := by decide +kernel
theorem dX8_clear_16 : dcd cX8_clear 16 = some (.ireturn, 17) := by decide +kernel
theorem dX8_byteAt_0 : dcd cX8_byteAt 0 = some (.iload_n 1, 1) := by decide +kernel
theorem dX8_byteAt_1 : dcd cX8_byteAt 1 = some (.aload_n 0, 2) := by decide +kernel
theorem dX8_byteAt_2 : dcd cX8_byteAt 2 = some (.getfield 76, 5) := by decide +kernel
theorem dX8_byteAt_5 : dcd cX8_byteAt 5 = some (.if_icmp .ge 12, 8) := by decide +kernel
theorem dX8_byteAt_8 : dcd cX8_byteAt 8 = some (.aload_n 0, 9) := by decide +kernel
theorem dX8_byteAt_9 : dcd cX8_byteAt 9 = some (.getfield 7, 12) := by decide +kernel
theorem dX8_byteAt_12 : dcd cX8_byteAt 12 = some (.iload_n 1, 13) := by decide +kernel
theorem dX8_byteAt_13 : dcd cX8_byteAt 13 = some (.iaload, 14) := by decide +kernel
theorem dX8_byteAt_14 : dcd cX8_byteAt 14 = some (.goto 4, 17) := by decide +kernel
theorem dX8_byteAt_17 : dcd cX8_byteAt 17 = some (.iconst (-1), 18) := by decide +kernel
theorem dX8_byteAt_18 : dcd cX8_byteAt 18 = some (.ireturn, 19) := by decide +kernel
theorem dX8_add_0 : dcd cX8_add 0 = some (.iload_n 2, 1) := by decide +kernel
theorem dX8_add_1 : dcd cX8_add 1 = some (.ifCond .ne 7, 4) := by decide +kernel
theorem dX8_add_4 : dcd cX8_add 4 = some (.lload_n 0, 5) := by decide +kernel
theorem dX8_add_5 : dcd cX8_add 5 = some (.goto 11, 8) := by decide +kernel
theorem dX8_add_8 : dcd cX8_add 8 = some (.ldc2_w 81, 11) := by decide +kernel
theorem dX8_add_11 : dcd cX8_add 11 = some (.lload_n 0, 12) := by decide +kernel
theorem dX8_add_12 : dcd cX8_add 12 = some (.lmul, 13) := by decide +kernel
theorem dX8_add_13 : dcd cX8_add 13 = some (.iload_n 2, 14) := by decide +kernel
theorem dX8_add_14 : dcd cX8_add 14 = some (.i2l, 15) := by decide +kernel
theorem dX8_add_15 : dcd cX8_add 15 = some (.ladd, 16) := by decide +kernel
theorem dX8_add_16 : dcd cX8_add 16 = some (.lreturn, 17) := by decide +kernel
theorem dX8_word_0 : dcd cX8_word 0 = some (.lconst 0, 1) := by decide +kernel
theorem dX8_word_1 : dcd cX8_word 1 = some (.iload_n 0, 2) := by decide +kernel
theorem dX8_word_2 : dcd cX8_word 2 = some (.invokestatic 83, 5) := by decide +kernel
theorem dX8_word_5 : dcd cX8_word 5 = some (.iload_n 1, 6) := by decide +kernel
theorem dX8_word_6 : dcd cX8_word 6 = some (.invokestatic 83, 9) := by decide +kernel
theorem dX8_word_9 : dcd cX8_word 9 = some (.iload_n 2, 10) := by decide +kernel
theorem dX8_word_10 : dcd cX8_word 10 = some (.invokestatic 83, 13) := by decide +kernel
theorem dX8_word_13 : dcd cX8_word 13 = some (.iload_n 3, 14) := by decide +kernel
theorem dX8_word_14 : dcd cX8_word 14 = some (.invokestatic 83, 17) := by decide +kernel
theorem dX8_word_17 : dcd cX8_word 17 = some (.iload 4, 19) := by decide +kernel
theorem dX8_word_19 : dcd cX8_word 19 = some (.invokestatic 83, 22) := by decide +kernel
theorem dX8_word_22 : dcd cX8_word 22 = some (.lreturn, 23) := by decide +kernel
theorem dX8_wordOf_0 : dcd cX8_wordOf 0 = some (.lload_n 0, 1) := by decide +kernel
theorem dX8_wordOf_1 : dcd cX8_wordOf 1 = some (.bipush 97, 3) := by decide +kernel
theorem dX8_wordOf_3 : dcd cX8_wordOf 3 = some (.bipush 99, 5) := by decide +kernel
theorem dX8_wordOf_5 : dcd cX8_wordOf 5 = some (.bipush 116, 7) := by decide +kernel
theorem dX8_wordOf_7 : dcd cX8_wordOf 7 = some (.iconst 0, 8) := by decide +kernel
theorem dX8_wordOf_8 : dcd cX8_wordOf 8 = some (.iconst 0, 9) := by decide +kernel
theorem dX8_wordOf_9 : dcd cX8_wordOf 9 = some (.invokestatic 87, 12) := by decide +kernel
theorem dX8_wordOf_12 : dcd cX8_wordOf 12 = some (.lcmp, 13) := by decide +kernel
theorem dX8_wordOf_13 : dcd cX8_wordOf 13 = some (.ifCond .ne 7, 16) := by decide +kernel
theorem dX8_wordOf_16 : dcd cX8_wordOf 16 = some (.iconst 0, 17) := by decide +kernel
theorem dX8_wordOf_17 : dcd cX8_wordOf 17 = some (.goto 67, 20) := by decide +kernel
theorem dX8_wordOf_20 : dcd cX8_wordOf 20 = some (.lload_n 0, 21) := by decide +kernel
theorem dX8_wordOf_21 : dcd cX8_wordOf 21 = some (.bipush 102, 23) := by decide +kernel
theorem dX8_wordOf_23 : dcd cX8_wordOf 23 = some (.bipush 114, 25) := by decide +kernel
theorem dX8_wordOf_25 : dcd cX8_wordOf 25 = some (.bipush 111, 27) := by decide +kernel
theorem dX8_wordOf_27 : dcd cX8_wordOf 27 = some (.bipush 110, 29) := by decide +kernel
theorem dX8_wordOf_29 : dcd cX8_wordOf 29 = some (.bipush 116, 31) := by decide +kernel
theorem dX8_wordOf_31 : dcd cX8_wordOf 31 = some (.invokestatic 87, 34) := by decide +kernel
theorem dX8_wordOf_34 : dcd cX8_wordOf 34 = some (.lcmp, 35) := by decide +kernel
theorem dX8_wordOf_35 : dcd cX8_wordOf 35 = some (.ifCond .ne 7, 38) := by decide +kernel
theorem dX8_wordOf_38 : dcd cX8_wordOf 38 = some (.iconst 1, 39) := by decide +kernel
theorem dX8_wordOf_39 : dcd cX8_wordOf 39 = some (.goto 45, 42) := by decide +kernel
theorem dX8_wordOf_42 : dcd cX8_wordOf 42 = some (.lload_n 0, 43) := by decide +kernel
theorem dX8_wordOf_43 : dcd cX8_wordOf 43 = some (.bipush 115, 45) := by decide +kernel
theorem dX8_wordOf_45 : dcd cX8_wordOf 45 = some (.bipush 101, 47) := by decide +kernel
theorem dX8_wordOf_47 : dcd cX8_wordOf 47 = some (.bipush 116, 49) := by decide +kernel
theorem dX8_wordOf_49 : dcd cX8_wordOf 49 = some (.iconst 0, 50) := by decide +kernel
theorem dX8_wordOf_50 : dcd cX8_wordOf 50 = some (.iconst 0, 51) := by decide +kernel
theorem dX8_wordOf_51 : dcd cX8_wordOf 51 = some (.invokestatic 87, 54) := by decide +kernel
theorem dX8_wordOf_54 : dcd cX8_wordOf 54 = some (.lcmp, 55) := by decide +kernel
theorem dX8_wordOf_55 : dcd cX8_wordOf 55 = some (.ifCond .ne 7, 58) := by decide +kernel
theorem dX8_wordOf_58 : dcd cX8_wordOf 58 = some (.iconst 2, 59) := by decide +kernel
theorem dX8_wordOf_59 : dcd cX8_wordOf 59 = some (.goto 25, 62) := by decide +kernel
theorem dX8_wordOf_62 : dcd cX8_wordOf 62 = some (.lload_n 0, 63) := by decide +kernel
theorem dX8_wordOf_63 : dcd cX8_wordOf 63 = some (.bipush 115, 65) := by decide +kernel
theorem dX8_wordOf_65 : dcd cX8_wordOf 65 = some (.bipush 97, 67) := by decide +kernel
theorem dX8_wordOf_67 : dcd cX8_wordOf 67 = some (.bipush 100, 69) := by decide +kernel
theorem dX8_wordOf_69 : dcd cX8_wordOf 69 = some (.iconst 0, 70) := by decide +kernel
theorem dX8_wordOf_70 : dcd cX8_wordOf 70 = some (.iconst 0, 71) := by decide +kernel
theorem dX8_wordOf_71 : dcd cX8_wordOf 71 = some (.invokestatic 87, 74) := by decide +kernel
theorem dX8_wordOf_74 : dcd cX8_wordOf 74 = some (.lcmp, 75) := by decide +kernel
theorem dX8_wordOf_75 : dcd cX8_wordOf 75 = some (.ifCond .ne 7, 78) := by decide +kernel
theorem dX8_wordOf_78 : dcd cX8_wordOf 78 = some (.iconst 3, 79) := by decide +kernel
theorem dX8_wordOf_79 : dcd cX8_wordOf 79 = some (.goto 5, 82) := by decide +kernel
theorem dX8_wordOf_82 : dcd cX8_wordOf 82 = some (.bipush (-9), 84) := by decide +kernel
theorem dX8_wordOf_84 : dcd cX8_wordOf 84 = some (.istore_n 2, 85) := by decide +kernel
theorem dX8_wordOf_85 : dcd cX8_wordOf 85 = some (.iload_n 2, 86) := by decide +kernel
theorem dX8_wordOf_86 : dcd cX8_wordOf 86 = some (.bipush (-9), 88) := by decide +kernel
theorem dX8_wordOf_88 : dcd cX8_wordOf 88 = some (.if_icmp .eq 7, 91) := by decide +kernel
theorem dX8_wordOf_91 : dcd cX8_wordOf 91 = some (.iload_n 2, 92) := by decide +kernel
theorem dX8_wordOf_92 : dcd cX8_wordOf 92 = some (.goto 70, 95) := by decide +kernel
theorem dX8_wordOf_95 : dcd cX8_wordOf 95 = some (.lload_n 0, 96) := by decide +kernel
theorem dX8_wordOf_96 : dcd cX8_wordOf 96 = some (.bipush 108, 98) := by decide +kernel
theorem dX8_wordOf_98 : dcd cX8_wordOf 98 = some (.bipush 111, 100) := by decide +kernel
theorem dX8_wordOf_100 : dcd cX8_wordOf 100 = some (.bipush 117, 102) := by decide +kernel
theorem dX8_wordOf_102 : dcd cX8_wordOf 102 = some (.bipush 100, 104) := by decide +kernel
theorem dX8_wordOf_104 : dcd cX8_wordOf 104 = some (.iconst 0, 105) := by decide +kernel
theorem dX8_wordOf_105 : dcd cX8_wordOf 105 = some (.invokestatic 87, 108) := by decide +kernel
theorem dX8_wordOf_108 : dcd cX8_wordOf 108 = some (.lcmp, 109) := by decide +kernel
theorem dX8_wordOf_109 : dcd cX8_wordOf 109 = some (.ifCond .ne 7, 112) := by decide +kernel
theorem dX8_wordOf_112 : dcd cX8_wordOf 112 = some (.iconst 4, 113) := by decide +kernel
theorem dX8_wordOf_113 : dcd cX8_wordOf 113 = some (.goto 49, 116) := by decide +kernel
theorem dX8_wordOf_116 : dcd cX8_wordOf 116 = some (.lload_n 0, 117) := by decide +kernel
theorem dX8_wordOf_117 : dcd cX8_wordOf 117 = some (.bipush 116, 119) := by decide +kernel
theorem dX8_wordOf_119 : dcd cX8_wordOf 119 = some (.bipush 114, 121) := by decide +kernel
theorem dX8_wordOf_121 : dcd cX8_wordOf 121 = some (.bipush 97, 123) := by decide +kernel
theorem dX8_wordOf_123 : dcd cX8_wordOf 123 = some (.bipush 105, 125) := by decide +kernel
theorem dX8_wordOf_125 : dcd cX8_wordOf 125 = some (.bipush 110, 127) := by decide +kernel
theorem dX8_wordOf_127 : dcd cX8_wordOf 127 = some (.invokestatic 87, 130) := by decide +kernel
theorem dX8_wordOf_130 : dcd cX8_wordOf 130 = some (.lcmp, 131) := by decide +kernel
theorem dX8_wordOf_131 : dcd cX8_wordOf 131 = some (.ifCond .ne 7, 134) := by decide +kernel
theorem dX8_wordOf_134 : dcd cX8_wordOf 134 = some (.iconst 5, 135) := by decide +kernel
theorem dX8_wordOf_135 : dcd cX8_wordOf 135 = some (.goto 27, 138) := by decide +kernel
theorem dX8_wordOf_138 : dcd cX8_wordOf 138 = some (.lload_n 0, 139) := by decide +kernel
theorem dX8_wordOf_139 : dcd cX8_wordOf 139 = some (.bipush 102, 141) := by decide +kernel
theorem dX8_wordOf_141 : dcd cX8_wordOf 141 = some (.bipush 101, 143) := by decide +kernel
theorem dX8_wordOf_143 : dcd cX8_wordOf 143 = some (.bipush 117, 145) := by decide +kernel
theorem dX8_wordOf_145 : dcd cX8_wordOf 145 = some (.bipush 100, 147) := by decide +kernel
theorem dX8_wordOf_147 : dcd cX8_wordOf 147 = some (.iconst 0, 148) := by decide +kernel
theorem dX8_wordOf_148 : dcd cX8_wordOf 148 = some (.invokestatic 87, 151) := by decide +kernel
theorem dX8_wordOf_151 : dcd cX8_wordOf 151 = some (.lcmp, 152) := by decide +kernel
theorem dX8_wordOf_152 : dcd cX8_wordOf 152 = some (.ifCond .ne 8, 155) := by decide +kernel
theorem dX8_wordOf_155 : dcd cX8_wordOf 155 = some (.bipush 6, 157) := by decide +kernel
theorem dX8_wordOf_157 : dcd cX8_wordOf 157 = some (.goto 5, 160) := by decide +kernel
theorem dX8_wordOf_160 : dcd cX8_wordOf 160 = some (.bipush (-9), 162) := by decide +kernel
theorem dX8_wordOf_162 : dcd cX8_wordOf 162 = some (.ireturn, 163) := by decide +kernel
theorem dX8_advances_0 : dcd cX8_advances 0 = some (.aload_n 0, 1) := by decide +kernel
theorem dX8_advances_1 : dcd cX8_advances 1 = some (.aload_n 0, 2) := by decide +kernel
theorem dX8_advances_2 : dcd cX8_advances 2 = some (.getfield 91, 5) := by decide +kernel
theorem dX8_advances_5 : dcd cX8_advances 5 = some (.invokevirtual 94, 8) := by decide +kernel
theorem dX8_advances_8 : dcd cX8_advances 8 = some (.bipush 32, 10) := by decide +kernel
theorem dX8_advances_10 : dcd cX8_advances 10 = some (.if_icmp .ne 16, 13) := by decide +kernel
theorem dX8_advances_13 : dcd cX8_advances 13 = some (.aload_n 0, 14) := by decide +kernel
theorem dX8_advances_14 : dcd cX8_advances 14 = some (.dup, 15) := by decide +kernel
theorem dX8_advances_15 : dcd cX8_advances 15 = some (.getfield 91, 18) := by decide +kernel
theorem dX8_advances_18 : dcd cX8_advances 18 = some (.iconst 1, 19) := by decide +kernel
theorem dX8_advances_19 : dcd cX8_advances 19 = some (.iadd, 20) := by decide +kernel
theorem dX8_advances_20 : dcd cX8_advances 20 = some (.putfield 91, 23) := by decide +kernel
theorem dX8_advances_23 : dcd cX8_advances 23 = some (.goto (-23), 26) := by decide +kernel
theorem dX8_advances_26 : dcd cX8_advances 26 = some (.aload_n 0, 27) := by decide +kernel
theorem dX8_advances_27 : dcd cX8_advances 27 = some (.aload_n 0, 28) := by decide +kernel
theorem dX8_advances_28 : dcd cX8_advances 28 = some (.getfield 91, 31) := by decide +kernel
theorem dX8_advances_31 : dcd cX8_advances 31 = some (.putfield 98, 34) := by decide +kernel
theorem dX8_advances_34 : dcd cX8_advances 34 = some (.aload_n 0, 35) := by decide +kernel
theorem dX8_advances_35 : dcd cX8_advances 35 = some (.aload_n 0, 36) := by decide +kernel
theorem dX8_advances_36 : dcd cX8_advances 36 = some (.getfield 91, 39) := by decide +kernel
theorem dX8_advances_39 : dcd cX8_advances 39 = some (.invokevirtual 94, 42) := by decide +kernel
theorem dX8_advances_42 : dcd cX8_advances 42 = some (.istore_n 1, 43) := by decide +kernel
theorem dX8_advances_43 : dcd cX8_advances 43 = some (.iload_n 1, 44) := by decide +kernel
theorem dX8_advances_44 : dcd cX8_advances 44 = some (.ifCond .ge 11, 47) := by decide +kernel
theorem dX8_advances_47 : dcd cX8_advances 47 = some (.aload_n 0, 48) := by decide +kernel
theorem dX8_advances_48 : dcd cX8_advances 48 = some (.iconst 0, 49) := by decide +kernel
theorem dX8_advances_49 : dcd cX8_advances 49 = some (.putfield 101, 52) := by decide +kernel
theorem dX8_advances_52 : dcd cX8_advances 52 = some (.goto 260, 55) := by decide +kernel
theorem dX8_advances_55 : dcd cX8_advances 55 = some (.iload_n 1, 56) := by decide +kernel
theorem dX8_advances_56 : dcd cX8_advances 56 = some (.bipush 97, 58) := by decide +kernel
theorem dX8_advances_58 : dcd cX8_advances 58 = some (.bipush 122, 60) := by decide +kernel
theorem dX8_advances_60 : dcd cX8_advances 60 = some (.invokestatic 72, 63) := by decide +kernel
theorem dX8_advances_63 : dcd cX8_advances 63 = some (.ifCond .eq 96, 66) := by decide +kernel
theorem dX8_advances_66 : dcd cX8_advances 66 = some (.lconst 0, 67) := by decide +kernel
theorem dX8_advances_67 : dcd cX8_advances 67 = some (.lstore_n 2, 68) := by decide +kernel
theorem dX8_advances_68 : dcd cX8_advances 68 = some (.aload_n 0, 69) := by decide +kernel
theorem dX8_advances_69 : dcd cX8_advances 69 = some (.aload_n 0, 70) := by decide +kernel
theorem dX8_advances_70 : dcd cX8_advances 70 = some (.getfield 91, 73) := by decide +kernel
theorem dX8_advances_73 : dcd cX8_advances 73 = some (.invokevirtual 94, 76) := by decide +kernel
theorem dX8_advances_76 : dcd cX8_advances 76 = some (.bipush 97, 78) := by decide +kernel
theorem dX8_advances_78 : dcd cX8_advances 78 = some (.bipush 122, 80) := by decide +kernel
theorem dX8_advances_80 : dcd cX8_advances 80 = some (.invokestatic 72, 83) := by decide +kernel
theorem dX8_advances_83 : dcd cX8_advances 83 = some (.ifCond .eq 47, 86) := by decide +kernel
theorem dX8_advances_86 : dcd cX8_advances 86 = some (.aload_n 0, 87) := by decide +kernel
theorem dX8_advances_87 : dcd cX8_advances 87 = some (.getfield 91, 90) := by decide +kernel
theorem dX8_advances_90 : dcd cX8_advances 90 = some (.aload_n 0, 91) := by decide +kernel
theorem dX8_advances_91 : dcd cX8_advances 91 = some (.getfield 98, 94) := by decide +kernel
theorem dX8_advances_94 : dcd cX8_advances 94 = some (.isub, 95) := by decide +kernel
theorem dX8_advances_95 : dcd cX8_advances 95 = some (.bipush 6, 97) := by decide +kernel
theorem dX8_advances_97 : dcd cX8_advances 97 = some (.if_icmp .ge 18, 100) := by decide +kernel
theorem dX8_advances_100 : dcd cX8_advances 100 = some (.lload_n 2, 101) := by decide +kernel
theorem dX8_advances_101 : dcd cX8_advances 101 = some (.aload_n 0, 102) := by decide +kernel
theorem dX8_advances_102 : dcd cX8_advances 102 = some (.aload_n 0, 103) := by decide +kernel
theorem dX8_advances_103 : dcd cX8_advances 103 = some (.getfield 91, 106) := by decide +kernel
theorem dX8_advances_106 : dcd cX8_advances 106 = some (.invokevirtual 94, 109) := by decide +kernel
theorem dX8_advances_109 : dcd cX8_advances 109 = some (.invokestatic 83, 112) := by decide +kernel
theorem dX8_advances_112 : dcd cX8_advances 112 = some (.goto 4, 115) := by decide +kernel
