theorem dX0_init_0 : decode cX0_init 0 = .ok (.aload_n 0, 1) := by decide +kernel
theorem dX0_init_1 : decode cX0_init 1 = .ok (.invokespecial 3, 3) := by decide +kernel
theorem dX0_init_4 : decode cX0_init 4 = .ok (.aload_n 0, 1) := by decide +kernel
theorem dX0_init_5 : decode cX0_init 5 = .ok (.bipush 101, 2) := by decide +kernel
theorem dX0_init_7 : decode cX0_init 7 = .ok (.newarray .int, 2) := by decide +kernel
theorem dX0_init_9 : decode cX0_init 9 = .ok (.putfield 9, 3) := by decide +kernel
theorem dX0_init_12 : decode cX0_init 12 = .ok (.return_, 1) := by decide +kernel
theorem dX0_isAhead_0 : decode cX0_isAhead 0 = .ok (.iload_n 1, 1) := by decide +kernel
theorem dX0_isAhead_1 : decode cX0_isAhead 1 = .ok (.aload_n 0, 1) := by decide +kernel
theorem dX0_isAhead_2 : decode cX0_isAhead 2 = .ok (.getfield 15, 3) := by decide +kernel
theorem dX0_isAhead_5 : decode cX0_isAhead 5 = .ok (.if_icmp .lt 14, 3) := by decide +kernel
theorem dX0_isAhead_8 : decode cX0_isAhead 8 = .ok (.iload_n 1, 1) := by decide +kernel
theorem dX0_isAhead_9 : decode cX0_isAhead 9 = .ok (.sipush 1200, 3) := by decide +kernel
theorem dX0_isAhead_12 : decode cX0_isAhead 12 = .ok (.if_icmp .gt 7, 3) := by decide +kernel
theorem dX0_isAhead_15 : decode cX0_isAhead 15 = .ok (.iconst 1, 1) := by decide +kernel
theorem dX0_isAhead_16 : decode cX0_isAhead 16 = .ok (.goto 4, 3) := by decide +kernel
theorem dX0_isAhead_19 : decode cX0_isAhead 19 = .ok (.iconst 0, 1) := by decide +kernel
theorem dX0_isAhead_20 : decode cX0_isAhead 20 = .ok (.ireturn, 1) := by decide +kernel
theorem dX0_hasFrost_0 : decode cX0_hasFrost 0 = .ok (.aload_n 0, 1) := by decide +kernel
theorem dX0_hasFrost_1 : decode cX0_hasFrost 1 = .ok (.getfield 19, 3) := by decide +kernel
theorem dX0_hasFrost_4 : decode cX0_hasFrost 4 = .ok (.aload_n 0, 1) := by decide +kernel
theorem dX0_hasFrost_5 : decode cX0_hasFrost 5 = .ok (.getfield 9, 3) := by decide +kernel
theorem dX0_hasFrost_8 : decode cX0_hasFrost 8 = .ok (.iload_n 1, 1) := by decide +kernel
theorem dX0_hasFrost_9 : decode cX0_hasFrost 9 = .ok (.bipush 12, 2) := by decide +kernel
theorem dX0_hasFrost_11 : decode cX0_hasFrost 11 = .ok (.idiv, 1) := by decide +kernel
theorem dX0_hasFrost_12 : decode cX0_hasFrost 12 = .ok (.iaload, 1) := by decide +kernel
theorem dX0_hasFrost_13 : decode cX0_hasFrost 13 = .ok (.ior, 1) := by decide +kernel
theorem dX0_hasFrost_14 : decode cX0_hasFrost 14 = .ok (.iconst 1, 1) := by decide +kernel
theorem dX0_hasFrost_15 : decode cX0_hasFrost 15 = .ok (.iload_n 1, 1) := by decide +kernel
theorem dX0_hasFrost_16 : decode cX0_hasFrost 16 = .ok (.bipush 12, 2) := by decide +kernel
theorem dX0_hasFrost_18 : decode cX0_hasFrost 18 = .ok (.irem, 1) := by decide +kernel
theorem dX0_hasFrost_19 : decode cX0_hasFrost 19 = .ok (.ishl, 1) := by decide +kernel
theorem dX0_hasFrost_20 : decode cX0_hasFrost 20 = .ok (.iand, 1) := by decide +kernel
theorem dX0_hasFrost_21 : decode cX0_hasFrost 21 = .ok (.ifCond .eq 7, 3) := by decide +kernel
theorem dX0_hasFrost_24 : decode cX0_hasFrost 24 = .ok (.iconst 1, 1) := by decide +kernel
theorem dX0_hasFrost_25 : decode cX0_hasFrost 25 = .ok (.goto 4, 3) := by decide +kernel
theorem dX0_hasFrost_28 : decode cX0_hasFrost 28 = .ok (.iconst 0, 1) := by decide +kernel
theorem dX0_hasFrost_29 : decode cX0_hasFrost 29 = .ok (.ireturn, 1) := by decide +kernel
theorem dX0_makeBitter_0 : decode cX0_makeBitter 0 = .ok (.iconst 1, 1) := by decide +kernel
theorem dX0_makeBitter_1 : decode cX0_makeBitter 1 = .ok (.iload_n 1, 1) := by decide +kernel
theorem dX0_makeBitter_2 : decode cX0_makeBitter 2 = .ok (.bipush 12, 2) := by decide +kernel
theorem dX0_makeBitter_4 : decode cX0_makeBitter 4 = .ok (.irem, 1) := by decide +kernel
theorem dX0_makeBitter_5 : decode cX0_makeBitter 5 = .ok (.ishl, 1) := by decide +kernel
theorem dX0_makeBitter_6 : decode cX0_makeBitter 6 = .ok (.istore_n 2, 1) := by decide +kernel
theorem dX0_makeBitter_7 : decode cX0_makeBitter 7 = .ok (.aload_n 0, 1) := by decide +kernel
theorem dX0_makeBitter_8 : decode cX0_makeBitter 8 = .ok (.getfield 9, 3) := by decide +kernel
theorem dX0_makeBitter_11 : decode cX0_makeBitter 11 = .ok (.iload_n 1, 1) := by decide +kernel
theorem dX0_makeBitter_12 : decode cX0_makeBitter 12 = .ok (.bipush 12, 2) := by decide +kernel
theorem dX0_makeBitter_14 : decode cX0_makeBitter 14 = .ok (.idiv, 1) := by decide +kernel
theorem dX0_makeBitter_15 : decode cX0_makeBitter 15 = .ok (.iaload, 1) := by decide +kernel
theorem dX0_makeBitter_16 : decode cX0_makeBitter 16 = .ok (.iload_n 2, 1) := by decide +kernel
theorem dX0_makeBitter_17 : decode cX0_makeBitter 17 = .ok (.iand, 1) := by decide +kernel
theorem dX0_makeBitter_18 : decode cX0_makeBitter 18 = .ok (.ifCond .eq 7, 3) := by decide +kernel
theorem dX0_makeBitter_21 : decode cX0_makeBitter 21 = .ok (.iconst 1, 1) := by decide +kernel
theorem dX0_makeBitter_22 : decode cX0_makeBitter 22 = .ok (.goto 4, 3) := by decide +kernel
theorem dX0_makeBitter_25 : decode cX0_makeBitter 25 = .ok (.iconst 0, 1) := by decide +kernel
theorem dX0_makeBitter_26 : decode cX0_makeBitter 26 = .ok (.istore_n 3, 1) := by decide +kernel
theorem dX0_makeBitter_27 : decode cX0_makeBitter 27 = .ok (.aload_n 0, 1) := by decide +kernel
theorem dX0_makeBitter_28 : decode cX0_makeBitter 28 = .ok (.getfield 9, 3) := by decide +kernel
theorem dX0_makeBitter_31 : decode cX0_makeBitter 31 = .ok (.iload_n 1, 1) := by decide +kernel
theorem dX0_makeBitter_32 : decode cX0_makeBitter 32 = .ok (.bipush 12, 2) := by decide +kernel
theorem dX0_makeBitter_34 : decode cX0_makeBitter 34 = .ok (.idiv, 1) := by decide +kernel
theorem dX0_makeBitter_35 : decode cX0_makeBitter 35 = .ok (.dup2, 1) := by decide +kernel
theorem dX0_makeBitter_36 : decode cX0_makeBitter 36 = .ok (.iaload, 1) := by decide +kernel
theorem dX0_makeBitter_37 : decode cX0_makeBitter 37 = .ok (.iload_n 2, 1) := by decide +kernel
theorem dX0_makeBitter_38 : decode cX0_makeBitter 38 = .ok (.ior, 1) := by decide +kernel
theorem dX0_makeBitter_39 : decode cX0_makeBitter 39 = .ok (.iastore, 1) := by decide +kernel
theorem dX0_makeBitter_40 : decode cX0_makeBitter 40 = .ok (.iload_n 3, 1) := by decide +kernel
theorem dX0_makeBitter_41 : decode cX0_makeBitter 41 = .ok (.ifCond .ne 7, 3) := by decide +kernel
theorem dX0_makeBitter_44 : decode cX0_makeBitter 44 = .ok (.iconst 1, 1) := by decide +kernel
theorem dX0_makeBitter_45 : decode cX0_makeBitter 45 = .ok (.goto 4, 3) := by decide +kernel
theorem dX0_makeBitter_48 : decode cX0_makeBitter 48 = .ok (.iconst 0, 1) := by decide +kernel
theorem dX0_makeBitter_49 : decode cX0_makeBitter 49 = .ok (.ireturn, 1) := by decide +kernel
theorem dX0_pass_0 : decode cX0_pass 0 = .ok (.iconst 0, 1) := by decide +kernel
theorem dX0_pass_1 : decode cX0_pass 1 = .ok (.istore_n 2, 1) := by decide +kernel
theorem dX0_pass_2 : decode cX0_pass 2 = .ok (.iconst 0, 1) := by decide +kernel
theorem dX0_pass_3 : decode cX0_pass 3 = .ok (.istore_n 3, 1) := by decide +kernel
theorem dX0_pass_4 : decode cX0_pass 4 = .ok (.iload_n 3, 1) := by decide +kernel
theorem dX0_pass_5 : decode cX0_pass 5 = .ok (.iload_n 1, 1) := by decide +kernel
theorem dX0_pass_6 : decode cX0_pass 6 = .ok (.if_icmp .ge 33, 3) := by decide +kernel
theorem dX0_pass_9 : decode cX0_pass 9 = .ok (.aload_n 0, 1) := by decide +kernel
theorem dX0_pass_10 : decode cX0_pass 10 = .ok (.aload_n 0, 1) := by decide +kernel
theorem dX0_pass_11 : decode cX0_pass 11 = .ok (.getfield 15, 3) := by decide +kernel
theorem dX0_pass_14 : decode cX0_pass 14 = .ok (.invokevirtual 22, 3) := by decide +kernel
theorem dX0_pass_17 : decode cX0_pass 17 = .ok (.ifCond .ne 6, 3) := by decide +kernel
theorem dX0_pass_20 : decode cX0_pass 20 = .ok (.iinc 2 1, 3) := by decide +kernel
theorem dX0_pass_23 : decode cX0_pass 23 = .ok (.aload_n 0, 1) := by decide +kernel
theorem dX0_pass_24 : decode cX0_pass 24 = .ok (.dup, 1) := by decide +kernel
theorem dX0_pass_25 : decode cX0_pass 25 = .ok (.getfield 15, 3) := by decide +kernel
theorem dX0_pass_28 : decode cX0_pass 28 = .ok (.iconst 1, 1) := by decide +kernel
theorem dX0_pass_29 : decode cX0_pass 29 = .ok (.iadd, 1) := by decide +kernel
theorem dX0_pass_30 : decode cX0_pass 30 = .ok (.putfield 15, 3) := by decide +kernel
theorem dX0_pass_33 : decode cX0_pass 33 = .ok (.iinc 3 1, 3) := by decide +kernel
theorem dX0_pass_36 : decode cX0_pass 36 = .ok (.goto (-32), 3) := by decide +kernel
theorem dX0_pass_39 : decode cX0_pass 39 = .ok (.iload_n 2, 1) := by decide +kernel
theorem dX0_pass_40 : decode cX0_pass 40 = .ok (.ireturn, 1) := by decide +kernel
theorem dX1_init_0 : decode cX1_init 0 = .ok (.aload_n 0, 1) := by decide +kernel
theorem dX1_init_1 : decode cX1_init 1 = .ok (.invokespecial 1, 3) := by decide +kernel
theorem dX1_init_4 : decode cX1_init 4 = .ok (.aload_n 0, 1) := by decide +kernel
theorem dX1_init_5 : decode cX1_init 5 = .ok (.iload_n 1, 1) := by decide +kernel
theorem dX1_init_6 : decode cX1_init 6 = .ok (.putfield 7, 3) := by decide +kernel
theorem dX1_init_9 : decode cX1_init 9 = .ok (.aload_n 0, 1) := by decide +kernel
theorem dX1_init_10 : decode cX1_init 10 = .ok (.aload_n 2, 1) := by decide +kernel
theorem dX1_init_11 : decode cX1_init 11 = .ok (.putfield 13, 3) := by decide +kernel
theorem dX1_init_14 : decode cX1_init 14 = .ok (.aload_n 0, 1) := by decide +kernel
theorem dX1_init_15 : decode cX1_init 15 = .ok (.iload_n 1, 1) := by decide +kernel
theorem dX1_init_16 : decode cX1_init 16 = .ok (.putfield 17, 3) := by decide +kernel
theorem dX1_init_19 : decode cX1_init 19 = .ok (.return_, 1) := by decide +kernel
theorem dX2_init_0 : decode cX2_init 0 = .ok (.aload_n 0, 1) := by decide +kernel
theorem dX2_init_1 : decode cX2_init 1 = .ok (.invokespecial 3, 3) := by decide +kernel
theorem dX2_init_4 : decode cX2_init 4 = .ok (.aload_n 0, 1) := by decide +kernel
theorem dX2_init_5 : decode cX2_init 5 = .ok (.iconst 4, 1) := by decide +kernel
theorem dX2_init_6 : decode cX2_init 6 = .ok (.newarray .int, 2) := by decide +kernel
theorem dX2_init_8 : decode cX2_init 8 = .ok (.dup, 1) := by decide +kernel
theorem dX2_init_9 : decode cX2_init 9 = .ok (.iconst 0, 1) := by decide +kernel
theorem dX2_init_10 : decode cX2_init 10 = .ok (.ldc 9, 2) := by decide +kernel
theorem dX2_init_12 : decode cX2_init 12 = .ok (.iastore, 1) := by decide +kernel
theorem dX2_init_13 : decode cX2_init 13 = .ok (.dup, 1) := by decide +kernel
theorem dX2_init_14 : decode cX2_init 14 = .ok (.iconst 1, 1) := by decide +kernel
theorem dX2_init_15 : decode cX2_init 15 = .ok (.iconst 0, 1) := by decide +kernel
theorem dX2_init_16 : decode cX2_init 16 = .ok (.iastore, 1) := by decide +kernel
theorem dX2_init_17 : decode cX2_init 17 = .ok (.dup, 1) := by decide +kernel
theorem dX2_init_18 : decode cX2_init 18 = .ok (.iconst 2, 1) := by decide +kernel
theorem dX2_init_19 : decode cX2_init 19 = .ok (.bipush 50, 2) := by decide +kernel
theorem dX2_init_21 : decode cX2_init 21 = .ok (.iastore, 1) := by decide +kernel
theorem dX2_init_22 : decode cX2_init 22 = .ok (.dup, 1) := by decide +kernel
theorem dX2_init_23 : decode cX2_init 23 = .ok (.iconst 3, 1) := by decide +kernel
theorem dX2_init_24 : decode cX2_init 24 = .ok (.iconst 3, 1) := by decide +kernel
theorem dX2_init_25 : decode cX2_init 25 = .ok (.iastore, 1) := by decide +kernel
theorem dX2_init_26 : decode cX2_init 26 = .ok (.putfield 10, 3) := by decide +kernel
theorem dX2_init_29 : decode cX2_init 29 = .ok (.aload_n 0, 1) := by decide +kernel
theorem dX2_init_30 : decode cX2_init 30 = .ok (.iconst 4, 1) := by decide +kernel
theorem dX2_init_31 : decode cX2_init 31 = .ok (.newarray .int, 2) := by decide +kernel
theorem dX2_init_33 : decode cX2_init 33 = .ok (.putfield 16, 3) := by decide +kernel
theorem dX2_init_36 : decode cX2_init 36 = .ok (.aload_n 0, 1) := by decide +kernel
theorem dX2_init_37 : decode cX2_init 37 = .ok (.iconst 4, 1) := by decide +kernel
theorem dX2_init_38 : decode cX2_init 38 = .ok (.newarray .int, 2) := by decide +kernel
theorem dX2_init_40 : decode cX2_init 40 = .ok (.putfield 19, 3) := by decide +kernel
theorem dX2_init_43 : decode cX2_init 43 = .ok (.aload_n 0, 1) := by decide +kernel
theorem dX2_init_44 : decode cX2_init 44 = .ok (.bipush 30, 2) := by decide +kernel
theorem dX2_init_46 : decode cX2_init 46 = .ok (.newarray .int, 2) := by decide +kernel
theorem dX2_init_48 : decode cX2_init 48 = .ok (.putfield 22, 3) := by decide +kernel
theorem dX2_init_51 : decode cX2_init 51 = .ok (.aload_n 0, 1) := by decide +kernel
theorem dX2_init_52 : decode cX2_init 52 = .ok (.iload_n 1, 1) := by decide +kernel
theorem dX2_init_53 : decode cX2_init 53 = .ok (.putfield 25, 3) := by decide +kernel
theorem dX2_init_56 : decode cX2_init 56 = .ok (.aload_n 0, 1) := by decide +kernel
theorem dX2_init_57 : decode cX2_init 57 = .ok (.iload_n 2, 1) := by decide +kernel
theorem dX2_init_58 : decode cX2_init 58 = .ok (.putfield 29, 3) := by decide +kernel
theorem dX2_init_61 : decode cX2_init 61 = .ok (.aload_n 0, 1) := by decide +kernel
theorem dX2_init_62 : decode cX2_init 62 = .ok (.iload_n 2, 1) := by decide +kernel
theorem dX2_init_63 : decode cX2_init 63 = .ok (.putfield 32, 3) := by decide +kernel
theorem dX2_init_66 : decode cX2_init 66 = .ok (.aload_n 0, 1) := by decide +kernel
theorem dX2_init_67 : decode cX2_init 67 = .ok (.iload_n 3, 1) := by decide +kernel
theorem dX2_init_68 : decode cX2_init 68 = .ok (.putfield 35, 3) := by decide +kernel
theorem dX2_init_71 : decode cX2_init 71 = .ok (.aload_n 0, 1) := by decide +kernel
theorem dX2_init_72 : decode cX2_init 72 = .ok (.iload 4, 2) := by decide +kernel
theorem dX2_init_74 : decode cX2_init 74 = .ok (.putfield 38, 3) := by decide +kernel
theorem dX2_init_77 : decode cX2_init 77 = .ok (.return_, 1) := by decide +kernel
theorem dX2_isBegun_0 : decode cX2_isBegun 0 = .ok (.aload_n 0, 1) := by decide +kernel
theorem dX2_isBegun_1 : decode cX2_isBegun 1 = .ok (.getfield 41, 3) := by decide +kernel
theorem dX2_isBegun_4 : decode cX2_isBegun 4 = .ok (.ifCond .le 7, 3) := by decide +kernel
theorem dX2_isBegun_7 : decode cX2_isBegun 7 = .ok (.iconst 1, 1) := by decide +kernel
theorem dX2_isBegun_8 : decode cX2_isBegun 8 = .ok (.goto 4, 3) := by decide +kernel
theorem dX2_isBegun_11 : decode cX2_isBegun 11 = .ok (.iconst 0, 1) := by decide +kernel
theorem dX2_isBegun_12 : decode cX2_isBegun 12 = .ok (.ireturn, 1) := by decide +kernel
theorem dX2_isWhole_0 : decode cX2_isWhole 0 = .ok (.aload_n 0, 1) := by decide +kernel
theorem dX2_isWhole_1 : decode cX2_isWhole 1 = .ok (.getfield 41, 3) := by decide +kernel
theorem dX2_isWhole_4 : decode cX2_isWhole 4 = .ok (.aload_n 0, 1) := by decide +kernel
theorem dX2_isWhole_5 : decode cX2_isWhole 5 = .ok (.getfield 32, 3) := by decide +kernel
theorem dX2_isWhole_8 : decode cX2_isWhole 8 = .ok (.if_icmp .lt 7, 3) := by decide +kernel
theorem dX2_isWhole_11 : decode cX2_isWhole 11 = .ok (.iconst 1, 1) := by decide +kernel
theorem dX2_isWhole_12 : decode cX2_isWhole 12 = .ok (.goto 4, 3) := by decide +kernel
theorem dX2_isWhole_15 : decode cX2_isWhole 15 = .ok (.iconst 0, 1) := by decide +kernel
theorem dX2_isWhole_16 : decode cX2_isWhole 16 = .ok (.ireturn, 1) := by decide +kernel
theorem dX2_isOnCentring_0 : decode cX2_isOnCentring 0 = .ok (.aload_n 0, 1) := by decide +kernel
theorem dX2_isOnCentring_1 : decode cX2_isOnCentring 1 = .ok (.getfield 25, 3) := by decide +kernel
theorem dX2_isOnCentring_4 : decode cX2_isOnCentring 4 = .ok (.iconst 1, 1) := by decide +kernel
theorem dX2_isOnCentring_5 : decode cX2_isOnCentring 5 = .ok (.if_icmp .ne 21, 3) := by decide +kernel
theorem dX2_isOnCentring_8 : decode cX2_isOnCentring 8 = .ok (.aload_n 0, 1) := by decide +kernel
theorem dX2_isOnCentring_9 : decode cX2_isOnCentring 9 = .ok (.invokevirtual 44, 3) := by decide +kernel
theorem dX2_isOnCentring_12 : decode cX2_isOnCentring 12 = .ok (.ifCond .eq 14, 3) := by decide +kernel
theorem dX2_isOnCentring_15 : decode cX2_isOnCentring 15 = .ok (.aload_n 0, 1) := by decide +kernel
theorem dX2_isOnCentring_16 : decode cX2_isOnCentring 16 = .ok (.getfield 48, 3) := by decide +kernel
theorem dX2_isOnCentring_19 : decode cX2_isOnCentring 19 = .ok (.ifCond .ne 7, 3) := by decide +kernel
theorem dX2_isOnCentring_22 : decode cX2_isOnCentring 22 = .ok (.iconst 1, 1) := by decide +kernel
theorem dX2_isOnCentring_23 : decode cX2_isOnCentring 23 = .ok (.goto 4, 3) := by decide +kernel
theorem dX2_isOnCentring_26 : decode cX2_isOnCentring 26 = .ok (.iconst 0, 1) := by decide +kernel
theorem dX2_isOnCentring_27 : decode cX2_isOnCentring 27 = .ok (.ireturn, 1) := by decide +kernel
theorem dX2_standOn_0 : decode cX2_standOn 0 = .ok (.iload_n 1, 1) := by decide +kernel
theorem dX2_standOn_1 : decode cX2_standOn 1 = .ok (.ifCond .lt 32, 3) := by decide +kernel
theorem dX2_standOn_4 : decode cX2_standOn 4 = .ok (.iload_n 1, 1) := by decide +kernel
theorem dX2_standOn_5 : decode cX2_standOn 5 = .ok (.iconst 4, 1) := by decide +kernel
theorem dX2_standOn_6 : decode cX2_standOn 6 = .ok (.if_icmp .ge 27, 3) := by decide +kernel
theorem dX2_standOn_9 : decode cX2_standOn 9 = .ok (.iload_n 2, 1) := by decide +kernel
theorem dX2_standOn_10 : decode cX2_standOn 10 = .ok (.ifCond .lt 23, 3) := by decide +kernel
theorem dX2_standOn_13 : decode cX2_standOn 13 = .ok (.iload_n 2, 1) := by decide +kernel
theorem dX2_standOn_14 : decode cX2_standOn 14 = .ok (.bipush 40, 2) := by decide +kernel
theorem dX2_standOn_16 : decode cX2_standOn 16 = .ok (.if_icmp .ge 17, 3) := by decide +kernel
theorem dX2_standOn_19 : decode cX2_standOn 19 = .ok (.aload_n 0, 1) := by decide +kernel
theorem dX2_standOn_20 : decode cX2_standOn 20 = .ok (.getfield 16, 3) := by decide +kernel
theorem dX2_standOn_23 : decode cX2_standOn 23 = .ok (.iload_n 1, 1) := by decide +kernel
theorem dX2_standOn_24 : decode cX2_standOn 24 = .ok (.iload_n 2, 1) := by decide +kernel
theorem dX2_standOn_25 : decode cX2_standOn 25 = .ok (.iastore, 1) := by decide +kernel
theorem dX2_standOn_26 : decode cX2_standOn 26 = .ok (.aload_n 0, 1) := by decide +kernel
theorem dX2_standOn_27 : decode cX2_standOn 27 = .ok (.getfield 19, 3) := by decide +kernel
theorem dX2_standOn_30 : decode cX2_standOn 30 = .ok (.iload_n 1, 1) := by decide +kernel
theorem dX2_standOn_31 : decode cX2_standOn 31 = .ok (.iload_n 3, 1) := by decide +kernel
theorem dX2_standOn_32 : decode cX2_standOn 32 = .ok (.iastore, 1) := by decide +kernel
theorem dX2_standOn_33 : decode cX2_standOn 33 = .ok (.return_, 1) := by decide +kernel
theorem dX2_takeCourse_0 : decode cX2_takeCourse 0 = .ok (.aload_n 0, 1) := by decide +kernel
theorem dX2_takeCourse_1 : decode cX2_takeCourse 1 = .ok (.getfield 41, 3) := by decide +kernel
theorem dX2_takeCourse_4 : decode cX2_takeCourse 4 = .ok (.bipush 30, 2) := by decide +kernel
theorem dX2_takeCourse_6 : decode cX2_takeCourse 6 = .ok (.if_icmp .ge 28, 3) := by decide +kernel
theorem dX2_takeCourse_9 : decode cX2_takeCourse 9 = .ok (.aload_n 0, 1) := by decide +kernel
theorem dX2_takeCourse_10 : decode cX2_takeCourse 10 = .ok (.getfield 22, 3) := by decide +kernel
theorem dX2_takeCourse_13 : decode cX2_takeCourse 13 = .ok (.aload_n 0, 1) := by decide +kernel
theorem dX2_takeCourse_14 : decode cX2_takeCourse 14 = .ok (.getfield 41, 3) := by decide +kernel
theorem dX2_takeCourse_17 : decode cX2_takeCourse 17 = .ok (.iload_n 1, 1) := by decide +kernel
theorem dX2_takeCourse_18 : decode cX2_takeCourse 18 = .ok (.iastore, 1) := by decide +kernel
theorem dX2_takeCourse_19 : decode cX2_takeCourse 19 = .ok (.aload_n 0, 1) := by decide +kernel
theorem dX2_takeCourse_20 : decode cX2_takeCourse 20 = .ok (.dup, 1) := by decide +kernel
theorem dX2_takeCourse_21 : decode cX2_takeCourse 21 = .ok (.getfield 41, 3) := by decide +kernel
theorem dX2_takeCourse_24 : decode cX2_takeCourse 24 = .ok (.iconst 1, 1) := by decide +kernel
theorem dX2_takeCourse_25 : decode cX2_takeCourse 25 = .ok (.iadd, 1) := by decide +kernel
theorem dX2_takeCourse_26 : decode cX2_takeCourse 26 = .ok (.putfield 41, 3) := by decide +kernel
theorem dX2_takeCourse_29 : decode cX2_takeCourse 29 = .ok (.aload_n 0, 1) := by decide +kernel
theorem dX2_takeCourse_30 : decode cX2_takeCourse 30 = .ok (.iconst 0, 1) := by decide +kernel
theorem dX2_takeCourse_31 : decode cX2_takeCourse 31 = .ok (.putfield 52, 3) := by decide +kernel
theorem dX2_takeCourse_34 : decode cX2_takeCourse 34 = .ok (.return_, 1) := by decide +kernel
theorem dX2_laidTill_0 : decode cX2_laidTill 0 = .ok (.iconst 0, 1) := by decide +kernel
theorem dX2_laidTill_1 : decode cX2_laidTill 1 = .ok (.istore_n 2, 1) := by decide +kernel
theorem dX2_laidTill_2 : decode cX2_laidTill 2 = .ok (.iconst 0, 1) := by decide +kernel
theorem dX2_laidTill_3 : decode cX2_laidTill 3 = .ok (.istore_n 3, 1) := by decide +kernel
theorem dX2_laidTill_4 : decode cX2_laidTill 4 = .ok (.iload_n 3, 1) := by decide +kernel
theorem dX2_laidTill_5 : decode cX2_laidTill 5 = .ok (.aload_n 0, 1) := by decide +kernel
theorem dX2_laidTill_6 : decode cX2_laidTill 6 = .ok (.getfield 41, 3) := by decide +kernel
theorem dX2_laidTill_9 : decode cX2_laidTill 9 = .ok (.if_icmp .ge 28, 3) := by decide +kernel
theorem dX2_laidTill_12 : decode cX2_laidTill 12 = .ok (.iload_n 3, 1) := by decide +kernel
theorem dX2_laidTill_13 : decode cX2_laidTill 13 = .ok (.bipush 30, 2) := by decide +kernel
theorem dX2_laidTill_15 : decode cX2_laidTill 15 = .ok (.if_icmp .ge 22, 3) := by decide +kernel
theorem dX2_laidTill_18 : decode cX2_laidTill 18 = .ok (.aload_n 0, 1) := by decide +kernel
theorem dX2_laidTill_19 : decode cX2_laidTill 19 = .ok (.getfield 22, 3) := by decide +kernel
theorem dX2_laidTill_22 : decode cX2_laidTill 22 = .ok (.iload_n 3, 1) := by decide +kernel
theorem dX2_laidTill_23 : decode cX2_laidTill 23 = .ok (.iaload, 1) := by decide +kernel
theorem dX2_laidTill_24 : decode cX2_laidTill 24 = .ok (.iload_n 1, 1) := by decide +kernel
theorem dX2_laidTill_25 : decode cX2_laidTill 25 = .ok (.if_icmp .gt 6, 3) := by decide +kernel
theorem dX2_laidTill_28 : decode cX2_laidTill 28 = .ok (.iinc 2 1, 3) := by decide +kernel
theorem dX2_laidTill_31 : decode cX2_laidTill 31 = .ok (.iinc 3 1, 3) := by decide +kernel
theorem dX2_laidTill_34 : decode cX2_laidTill 34 = .ok (.goto (-30), 3) := by decide +kernel
theorem dX2_laidTill_37 : decode cX2_laidTill 37 = .ok (.iload_n 2, 1) := by decide +kernel
theorem dX2_laidTill_38 : decode cX2_laidTill 38 = .ok (.ireturn, 1) := by decide +kernel
theorem dX2_portion_0 : decode cX2_portion 0 = .ok (.iload_n 2, 1) := by decide +kernel
theorem dX2_portion_1 : decode cX2_portion 1 = .ok (.ifCond .le 15, 3) := by decide +kernel
theorem dX2_portion_4 : decode cX2_portion 4 = .ok (.iload_n 1, 1) := by decide +kernel
theorem dX2_portion_5 : decode cX2_portion 5 = .ok (.aload_n 0, 1) := by decide +kernel
theorem dX2_portion_6 : decode cX2_portion 6 = .ok (.getfield 19, 3) := by decide +kernel
theorem dX2_portion_9 : decode cX2_portion 9 = .ok (.iload_n 2, 1) := by decide +kernel
theorem dX2_portion_10 : decode cX2_portion 10 = .ok (.iaload, 1) := by decide +kernel
theorem dX2_portion_11 : decode cX2_portion 11 = .ok (.imul, 1) := by decide +kernel
theorem dX2_portion_12 : decode cX2_portion 12 = .ok (.bipush 12, 2) := by decide +kernel
theorem dX2_portion_14 : decode cX2_portion 14 = .ok (.idiv, 1) := by decide +kernel
theorem dX2_portion_15 : decode cX2_portion 15 = .ok (.ireturn, 1) := by decide +kernel
theorem dX2_portion_16 : decode cX2_portion 16 = .ok (.iload_n 1, 1) := by decide +kernel
theorem dX2_portion_17 : decode cX2_portion 17 = .ok (.istore_n 3, 1) := by decide +kernel
theorem dX2_portion_18 : decode cX2_portion 18 = .ok (.iconst 1, 1) := by decide +kernel
theorem dX2_portion_19 : decode cX2_portion 19 = .ok (.istore 4, 2) := by decide +kernel
theorem dX2_portion_21 : decode cX2_portion 21 = .ok (.iload 4, 2) := by decide +kernel
theorem dX2_portion_23 : decode cX2_portion 23 = .ok (.aload_n 0, 1) := by decide +kernel
theorem dX2_portion_24 : decode cX2_portion 24 = .ok (.getfield 55, 3) := by decide +kernel
theorem dX2_portion_27 : decode cX2_portion 27 = .ok (.if_icmp .ge 24, 3) := by decide +kernel
theorem dX2_portion_30 : decode cX2_portion 30 = .ok (.iload_n 3, 1) := by decide +kernel
theorem dX2_portion_31 : decode cX2_portion 31 = .ok (.iload_n 1, 1) := by decide +kernel
theorem dX2_portion_32 : decode cX2_portion 32 = .ok (.aload_n 0, 1) := by decide +kernel
theorem dX2_portion_33 : decode cX2_portion 33 = .ok (.getfield 19, 3) := by decide +kernel
theorem dX2_portion_36 : decode cX2_portion 36 = .ok (.iload 4, 2) := by decide +kernel
theorem dX2_portion_38 : decode cX2_portion 38 = .ok (.iaload, 1) := by decide +kernel
theorem dX2_portion_39 : decode cX2_portion 39 = .ok (.imul, 1) := by decide +kernel
theorem dX2_portion_40 : decode cX2_portion 40 = .ok (.bipush 12, 2) := by decide +kernel
theorem dX2_portion_42 : decode cX2_portion 42 = .ok (.idiv, 1) := by decide +kernel
theorem dX2_portion_43 : decode cX2_portion 43 = .ok (.isub, 1) := by decide +kernel
theorem dX2_portion_44 : decode cX2_portion 44 = .ok (.istore_n 3, 1) := by decide +kernel
theorem dX2_portion_45 : decode cX2_portion 45 = .ok (.iinc 4 1, 3) := by decide +kernel
theorem dX2_portion_48 : decode cX2_portion 48 = .ok (.goto (-27), 3) := by decide +kernel
theorem dX2_portion_51 : decode cX2_portion 51 = .ok (.iload_n 3, 1) := by decide +kernel
theorem dX2_portion_52 : decode cX2_portion 52 = .ok (.ireturn, 1) := by decide +kernel
theorem dX2_heaviestWay_0 : decode cX2_heaviestWay 0 = .ok (.iconst 0, 1) := by decide +kernel
theorem dX2_heaviestWay_1 : decode cX2_heaviestWay 1 = .ok (.istore_n 2, 1) := by decide +kernel
theorem dX2_heaviestWay_2 : decode cX2_heaviestWay 2 = .ok (.iconst 1, 1) := by decide +kernel
theorem dX2_heaviestWay_3 : decode cX2_heaviestWay 3 = .ok (.istore_n 3, 1) := by decide +kernel
theorem dX2_heaviestWay_4 : decode cX2_heaviestWay 4 = .ok (.iload_n 3, 1) := by decide +kernel
theorem dX2_heaviestWay_5 : decode cX2_heaviestWay 5 = .ok (.aload_n 0, 1) := by decide +kernel
theorem dX2_heaviestWay_6 : decode cX2_heaviestWay 6 = .ok (.getfield 55, 3) := by decide +kernel
theorem dX2_heaviestWay_9 : decode cX2_heaviestWay 9 = .ok (.if_icmp .ge 26, 3) := by decide +kernel
theorem dX2_heaviestWay_12 : decode cX2_heaviestWay 12 = .ok (.aload_n 0, 1) := by decide +kernel
theorem dX2_heaviestWay_13 : decode cX2_heaviestWay 13 = .ok (.iload_n 1, 1) := by decide +kernel
theorem dX2_heaviestWay_14 : decode cX2_heaviestWay 14 = .ok (.iload_n 3, 1) := by decide +kernel
theorem dX2_heaviestWay_15 : decode cX2_heaviestWay 15 = .ok (.invokevirtual 58, 3) := by decide +kernel
theorem dX2_heaviestWay_18 : decode cX2_heaviestWay 18 = .ok (.aload_n 0, 1) := by decide +kernel
theorem dX2_heaviestWay_19 : decode cX2_heaviestWay 19 = .ok (.iload_n 1, 1) := by decide +kernel
theorem dX2_heaviestWay_20 : decode cX2_heaviestWay 20 = .ok (.iload_n 2, 1) := by decide +kernel
theorem dX2_heaviestWay_21 : decode cX2_heaviestWay 21 = .ok (.invokevirtual 58, 3) := by decide +kernel
theorem dX2_heaviestWay_24 : decode cX2_heaviestWay 24 = .ok (.if_icmp .le 5, 3) := by decide +kernel
theorem dX2_heaviestWay_27 : decode cX2_heaviestWay 27 = .ok (.iload_n 3, 1) := by decide +kernel
theorem dX2_heaviestWay_28 : decode cX2_heaviestWay 28 = .ok (.istore_n 2, 1) := by decide +kernel
theorem dX2_heaviestWay_29 : decode cX2_heaviestWay 29 = .ok (.iinc 3 1, 3) := by decide +kernel
theorem dX2_heaviestWay_32 : decode cX2_heaviestWay 32 = .ok (.goto (-28), 3) := by decide +kernel
theorem dX2_heaviestWay_35 : decode cX2_heaviestWay 35 = .ok (.iload_n 2, 1) := by decide +kernel
theorem dX2_heaviestWay_36 : decode cX2_heaviestWay 36 = .ok (.ireturn, 1) := by decide +kernel
theorem dX2_markSupports_0 : decode cX2_markSupports 0 = .ok (.iconst 0, 1) := by decide +kernel
theorem dX2_markSupports_1 : decode cX2_markSupports 1 = .ok (.istore_n 2, 1) := by decide +kernel
theorem dX2_markSupports_2 : decode cX2_markSupports 2 = .ok (.iload_n 2, 1) := by decide +kernel
theorem dX2_markSupports_3 : decode cX2_markSupports 3 = .ok (.aload_n 0, 1) := by decide +kernel
theorem dX2_markSupports_4 : decode cX2_markSupports 4 = .ok (.getfield 55, 3) := by decide +kernel
theorem dX2_markSupports_7 : decode cX2_markSupports 7 = .ok (.if_icmp .ge 18, 3) := by decide +kernel
theorem dX2_markSupports_10 : decode cX2_markSupports 10 = .ok (.aload_n 1, 1) := by decide +kernel
theorem dX2_markSupports_11 : decode cX2_markSupports 11 = .ok (.aload_n 0, 1) := by decide +kernel
theorem dX2_markSupports_12 : decode cX2_markSupports 12 = .ok (.getfield 16, 3) := by decide +kernel
theorem dX2_markSupports_15 : decode cX2_markSupports 15 = .ok (.iload_n 2, 1) := by decide +kernel
theorem dX2_markSupports_16 : decode cX2_markSupports 16 = .ok (.iaload, 1) := by decide +kernel
theorem dX2_markSupports_17 : decode cX2_markSupports 17 = .ok (.iconst 1, 1) := by decide +kernel
theorem dX2_markSupports_18 : decode cX2_markSupports 18 = .ok (.iastore, 1) := by decide +kernel
theorem dX2_markSupports_19 : decode cX2_markSupports 19 = .ok (.iinc 2 1, 3) := by decide +kernel
theorem dX2_markSupports_22 : decode cX2_markSupports 22 = .ok (.goto (-20), 3) := by decide +kernel
theorem dX2_markSupports_25 : decode cX2_markSupports 25 = .ok (.return_, 1) := by decide +kernel
theorem dX2_standsOn_0 : decode cX2_standsOn 0 = .ok (.iconst 0, 1) := by decide +kernel
theorem dX2_standsOn_1 : decode cX2_standsOn 1 = .ok (.istore_n 2, 1) := by decide +kernel
theorem dX2_standsOn_2 : decode cX2_standsOn 2 = .ok (.iload_n 2, 1) := by decide +kernel
theorem dX2_standsOn_3 : decode cX2_standsOn 3 = .ok (.aload_n 0, 1) := by decide +kernel
theorem dX2_standsOn_4 : decode cX2_standsOn 4 = .ok (.getfield 55, 3) := by decide +kernel
theorem dX2_standsOn_7 : decode cX2_standsOn 7 = .ok (.if_icmp .ge 21, 3) := by decide +kernel
theorem dX2_standsOn_10 : decode cX2_standsOn 10 = .ok (.aload_n 0, 1) := by decide +kernel
theorem dX2_standsOn_11 : decode cX2_standsOn 11 = .ok (.getfield 16, 3) := by decide +kernel
theorem dX2_standsOn_14 : decode cX2_standsOn 14 = .ok (.iload_n 2, 1) := by decide +kernel
theorem dX2_standsOn_15 : decode cX2_standsOn 15 = .ok (.iaload, 1) := by decide +kernel
theorem dX2_standsOn_16 : decode cX2_standsOn 16 = .ok (.iload_n 1, 1) := by decide +kernel
theorem dX2_standsOn_17 : decode cX2_standsOn 17 = .ok (.if_icmp .ne 5, 3) := by decide +kernel
theorem dX2_standsOn_20 : decode cX2_standsOn 20 = .ok (.iconst 1, 1) := by decide +kernel
theorem dX2_standsOn_21 : decode cX2_standsOn 21 = .ok (.ireturn, 1) := by decide +kernel
theorem dX2_standsOn_22 : decode cX2_standsOn 22 = .ok (.iinc 2 1, 3) := by decide +kernel
theorem dX2_standsOn_25 : decode cX2_standsOn 25 = .ok (.goto (-23), 3) := by decide +kernel
theorem dX2_standsOn_28 : decode cX2_standsOn 28 = .ok (.iconst 0, 1) := by decide +kernel
theorem dX2_standsOn_29 : decode cX2_standsOn 29 = .ok (.ireturn, 1) := by decide +kernel
theorem dX3_init_0 : decode cX3_init 0 = .ok (.aload_n 0, 1) := by decide +kernel
theorem dX3_init_1 : decode cX3_init 1 = .ok (.invokespecial 3, 3) := by decide +kernel
theorem dX3_init_4 : decode cX3_init 4 = .ok (.aload_n 0, 1) := by decide +kernel
theorem dX3_init_5 : decode cX3_init 5 = .ok (.bipush 40, 2) := by decide +kernel
theorem dX3_init_7 : decode cX3_init 7 = .ok (.anewarray 9, 3) := by decide +kernel
theorem dX3_init_10 : decode cX3_init 10 = .ok (.putfield 11, 3) := by decide +kernel
theorem dX3_init_13 : decode cX3_init 13 = .ok (.aload_n 0, 1) := by decide +kernel
theorem dX3_init_14 : decode cX3_init 14 = .ok (.bipush 61, 2) := by decide +kernel
theorem dX3_init_16 : decode cX3_init 16 = .ok (.newarray .int, 2) := by decide +kernel
theorem dX3_init_18 : decode cX3_init 18 = .ok (.putfield 17, 3) := by decide +kernel
theorem dX3_init_21 : decode cX3_init 21 = .ok (.aload_n 0, 1) := by decide +kernel
theorem dX3_init_22 : decode cX3_init 22 = .ok (.bipush 61, 2) := by decide +kernel
theorem dX3_init_24 : decode cX3_init 24 = .ok (.newarray .int, 2) := by decide +kernel
theorem dX3_init_26 : decode cX3_init 26 = .ok (.putfield 21, 3) := by decide +kernel
theorem dX3_init_29 : decode cX3_init 29 = .ok (.aload_n 0, 1) := by decide +kernel
theorem dX3_init_30 : decode cX3_init 30 = .ok (.bipush 61, 2) := by decide +kernel
theorem dX3_init_32 : decode cX3_init 32 = .ok (.newarray .int, 2) := by decide +kernel
theorem dX3_init_34 : decode cX3_init 34 = .ok (.putfield 24, 3) := by decide +kernel
theorem dX3_init_37 : decode cX3_init 37 = .ok (.aload_n 0, 1) := by decide +kernel
theorem dX3_init_38 : decode cX3_init 38 = .ok (.iconst 4, 1) := by decide +kernel
theorem dX3_init_39 : decode cX3_init 39 = .ok (.newarray .int, 2) := by decide +kernel
theorem dX3_init_41 : decode cX3_init 41 = .ok (.putfield 27, 3) := by decide +kernel
theorem dX3_init_44 : decode cX3_init 44 = .ok (.return_, 1) := by decide +kernel
theorem dX3_find_0 : decode cX3_find 0 = .ok (.iload_n 1, 1) := by decide +kernel
theorem dX3_find_1 : decode cX3_find 1 = .ok (.ifCond .lt 20, 3) := by decide +kernel
theorem dX3_find_4 : decode cX3_find 4 = .ok (.iload_n 1, 1) := by decide +kernel
theorem dX3_find_5 : decode cX3_find 5 = .ok (.aload_n 0, 1) := by decide +kernel
theorem dX3_find_6 : decode cX3_find 6 = .ok (.getfield 30, 3) := by decide +kernel
theorem dX3_find_9 : decode cX3_find 9 = .ok (.if_icmp .ge 12, 3) := by decide +kernel
theorem dX3_find_12 : decode cX3_find 12 = .ok (.aload_n 0, 1) := by decide +kernel
theorem dX3_find_13 : decode cX3_find 13 = .ok (.getfield 11, 3) := by decide +kernel
theorem dX3_find_16 : decode cX3_find 16 = .ok (.iload_n 1, 1) := by decide +kernel
theorem dX3_find_17 : decode cX3_find 17 = .ok (.aaload, 1) := by decide +kernel
theorem dX3_find_18 : decode cX3_find 18 = .ok (.goto 4, 3) := by decide +kernel
theorem dX3_find_21 : decode cX3_find 21 = .ok (.aconst_null, 1) := by decide +kernel
theorem dX3_find_22 : decode cX3_find 22 = .ok (.areturn, 1) := by decide +kernel
theorem dX3_add_0 : decode cX3_add 0 = .ok (.aload_n 0, 1) := by decide +kernel
theorem dX3_add_1 : decode cX3_add 1 = .ok (.getfield 30, 3) := by decide +kernel
theorem dX3_add_4 : decode cX3_add 4 = .ok (.bipush 40, 2) := by decide +kernel
theorem dX3_add_6 : decode cX3_add 6 = .ok (.if_icmp .lt 6, 3) := by decide +kernel
theorem dX3_add_9 : decode cX3_add 9 = .ok (.bipush (-3), 2) := by decide +kernel
theorem dX3_add_11 : decode cX3_add 11 = .ok (.ireturn, 1) := by decide +kernel
theorem dX3_add_12 : decode cX3_add 12 = .ok (.aload_n 0, 1) := by decide +kernel
theorem dX3_add_13 : decode cX3_add 13 = .ok (.getfield 11, 3) := by decide +kernel
theorem dX3_add_16 : decode cX3_add 16 = .ok (.aload_n 0, 1) := by decide +kernel
theorem dX3_add_17 : decode cX3_add 17 = .ok (.getfield 30, 3) := by decide +kernel
theorem dX3_add_20 : decode cX3_add 20 = .ok (.aload_n 1, 1) := by decide +kernel
theorem dX3_add_21 : decode cX3_add 21 = .ok (.aastore, 1) := by decide +kernel
theorem dX3_add_22 : decode cX3_add 22 = .ok (.aload_n 0, 1) := by decide +kernel
theorem dX3_add_23 : decode cX3_add 23 = .ok (.dup, 1) := by decide +kernel
theorem dX3_add_24 : decode cX3_add 24 = .ok (.getfield 30, 3) := by decide +kernel
theorem dX3_add_27 : decode cX3_add 27 = .ok (.iconst 1, 1) := by decide +kernel
theorem dX3_add_28 : decode cX3_add 28 = .ok (.iadd, 1) := by decide +kernel
theorem dX3_add_29 : decode cX3_add 29 = .ok (.putfield 30, 3) := by decide +kernel
theorem dX3_add_32 : decode cX3_add 32 = .ok (.aload_n 0, 1) := by decide +kernel
theorem dX3_add_33 : decode cX3_add 33 = .ok (.getfield 30, 3) := by decide +kernel
theorem dX3_add_36 : decode cX3_add 36 = .ok (.iconst 1, 1) := by decide +kernel
theorem dX3_add_37 : decode cX3_add 37 = .ok (.isub, 1) := by decide +kernel
theorem dX3_add_38 : decode cX3_add 38 = .ok (.ireturn, 1) := by decide +kernel
theorem dX3_readSupports_0 : decode cX3_readSupports 0 = .ok (.aload_n 0, 1) := by decide +kernel
theorem dX3_readSupports_1 : decode cX3_readSupports 1 = .ok (.getfield 27, 3) := by decide +kernel
theorem dX3_readSupports_4 : decode cX3_readSupports 4 = .ok (.iconst 0, 1) := by decide +kernel
theorem dX3_readSupports_5 : decode cX3_readSupports 5 = .ok (.iload_n 2, 1) := by decide +kernel
theorem dX3_readSupports_6 : decode cX3_readSupports 6 = .ok (.iastore, 1) := by decide +kernel
theorem dX3_readSupports_7 : decode cX3_readSupports 7 = .ok (.aload_n 0, 1) := by decide +kernel
theorem dX3_readSupports_8 : decode cX3_readSupports 8 = .ok (.getfield 27, 3) := by decide +kernel
theorem dX3_readSupports_11 : decode cX3_readSupports 11 = .ok (.iconst 1, 1) := by decide +kernel
theorem dX3_readSupports_12 : decode cX3_readSupports 12 = .ok (.iload_n 3, 1) := by decide +kernel
theorem dX3_readSupports_13 : decode cX3_readSupports 13 = .ok (.iastore, 1) := by decide +kernel
theorem dX3_readSupports_14 : decode cX3_readSupports 14 = .ok (.aload_n 0, 1) := by decide +kernel
theorem dX3_readSupports_15 : decode cX3_readSupports 15 = .ok (.getfield 27, 3) := by decide +kernel
theorem dX3_readSupports_18 : decode cX3_readSupports 18 = .ok (.iconst 2, 1) := by decide +kernel
theorem dX3_readSupports_19 : decode cX3_readSupports 19 = .ok (.iload 4, 2) := by decide +kernel
theorem dX3_readSupports_21 : decode cX3_readSupports 21 = .ok (.iastore, 1) := by decide +kernel
theorem dX3_readSupports_22 : decode cX3_readSupports 22 = .ok (.aload_n 0, 1) := by decide +kernel
theorem dX3_readSupports_23 : decode cX3_readSupports 23 = .ok (.getfield 27, 3) := by decide +kernel
theorem dX3_readSupports_26 : decode cX3_readSupports 26 = .ok (.iconst 3, 1) := by decide +kernel
theorem dX3_readSupports_27 : decode cX3_readSupports 27 = .ok (.iload 5, 2) := by decide +kernel
theorem dX3_readSupports_29 : decode cX3_readSupports 29 = .ok (.iastore, 1) := by decide +kernel
theorem dX3_readSupports_30 : decode cX3_readSupports 30 = .ok (.iconst 0, 1) := by decide +kernel
theorem dX3_readSupports_31 : decode cX3_readSupports 31 = .ok (.istore 6, 2) := by decide +kernel
theorem dX3_readSupports_33 : decode cX3_readSupports 33 = .ok (.iload 6, 2) := by decide +kernel
theorem dX3_readSupports_35 : decode cX3_readSupports 35 = .ok (.iconst 4, 1) := by decide +kernel
theorem dX3_readSupports_36 : decode cX3_readSupports 36 = .ok (.if_icmp .ge 20, 3) := by decide +kernel
theorem dX3_readSupports_39 : decode cX3_readSupports 39 = .ok (.aload_n 0, 1) := by decide +kernel
theorem dX3_readSupports_40 : decode cX3_readSupports 40 = .ok (.getfield 27, 3) := by decide +kernel
theorem dX3_readSupports_43 : decode cX3_readSupports 43 = .ok (.iload 6, 2) := by decide +kernel
theorem dX3_readSupports_45 : decode cX3_readSupports 45 = .ok (.iaload, 1) := by decide +kernel
theorem dX3_readSupports_46 : decode cX3_readSupports 46 = .ok (.iconst (-1), 1) := by decide +kernel
theorem dX3_readSupports_47 : decode cX3_readSupports 47 = .ok (.if_icmp .eq 9, 3) := by decide +kernel
theorem dX3_readSupports_50 : decode cX3_readSupports 50 = .ok (.iinc 6 1, 3) := by decide +kernel
theorem dX3_readSupports_53 : decode cX3_readSupports 53 = .ok (.goto (-20), 3) := by decide +kernel
theorem dX3_readSupports_56 : decode cX3_readSupports 56 = .ok (.iload 6, 2) := by decide +kernel
theorem dX3_readSupports_58 : decode cX3_readSupports 58 = .ok (.istore 7, 2) := by decide +kernel
theorem dX3_readSupports_60 : decode cX3_readSupports 60 = .ok (.iload 7, 2) := by decide +kernel
theorem dX3_readSupports_62 : decode cX3_readSupports 62 = .ok (.iconst 4, 1) := by decide +kernel
theorem dX3_readSupports_63 : decode cX3_readSupports 63 = .ok (.if_icmp .ge 22, 3) := by decide +kernel
theorem dX3_readSupports_66 : decode cX3_readSupports 66 = .ok (.aload_n 0, 1) := by decide +kernel
theorem dX3_readSupports_67 : decode cX3_readSupports 67 = .ok (.getfield 27, 3) := by decide +kernel
theorem dX3_readSupports_70 : decode cX3_readSupports 70 = .ok (.iload 7, 2) := by decide +kernel
theorem dX3_readSupports_72 : decode cX3_readSupports 72 = .ok (.iaload, 1) := by decide +kernel
theorem dX3_readSupports_73 : decode cX3_readSupports 73 = .ok (.iconst (-1), 1) := by decide +kernel
theorem dX3_readSupports_74 : decode cX3_readSupports 74 = .ok (.if_icmp .eq 5, 3) := by decide +kernel
theorem dX3_readSupports_77 : decode cX3_readSupports 77 = .ok (.iconst (-1), 1) := by decide +kernel
theorem dX3_readSupports_78 : decode cX3_readSupports 78 = .ok (.ireturn, 1) := by decide +kernel
theorem dX3_readSupports_79 : decode cX3_readSupports 79 = .ok (.iinc 7 1, 3) := by decide +kernel
theorem dX3_readSupports_82 : decode cX3_readSupports 82 = .ok (.goto (-22), 3) := by decide +kernel
theorem dX3_readSupports_85 : decode cX3_readSupports 85 = .ok (.iconst 0, 1) := by decide +kernel
theorem dX3_readSupports_86 : decode cX3_readSupports 86 = .ok (.istore 7, 2) := by decide +kernel
theorem dX3_readSupports_88 : decode cX3_readSupports 88 = .ok (.iconst 0, 1) := by decide +kernel
theorem dX3_readSupports_89 : decode cX3_readSupports 89 = .ok (.istore 8, 2) := by decide +kernel
theorem dX3_readSupports_91 : decode cX3_readSupports 91 = .ok (.iload 8, 2) := by decide +kernel
theorem dX3_readSupports_93 : decode cX3_readSupports 93 = .ok (.iload 6, 2) := by decide +kernel
theorem dX3_readSupports_95 : decode cX3_readSupports 95 = .ok (.if_icmp .ge 49, 3) := by decide +kernel
theorem dX3_readSupports_98 : decode cX3_readSupports 98 = .ok (.iload_n 1, 1) := by decide +kernel
theorem dX3_readSupports_99 : decode cX3_readSupports 99 = .ok (.aload_n 0, 1) := by decide +kernel
theorem dX3_readSupports_100 : decode cX3_readSupports 100 = .ok (.getfield 27, 3) := by decide +kernel
theorem dX3_readSupports_103 : decode cX3_readSupports 103 = .ok (.iload 8, 2) := by decide +kernel
theorem dX3_readSupports_105 : decode cX3_readSupports 105 = .ok (.iaload, 1) := by decide +kernel
theorem dX3_readSupports_106 : decode cX3_readSupports 106 = .ok (.invokestatic 34, 3) := by decide +kernel
theorem dX3_readSupports_109 : decode cX3_readSupports 109 = .ok (.ifCond .eq 12, 3) := by decide +kernel
theorem dX3_readSupports_112 : decode cX3_readSupports 112 = .ok (.aload_n 0, 1) := by decide +kernel
theorem dX3_readSupports_113 : decode cX3_readSupports 113 = .ok (.iload 8, 2) := by decide +kernel
theorem dX3_readSupports_115 : decode cX3_readSupports 115 = .ok (.invokevirtual 38, 3) := by decide +kernel
theorem dX3_readSupports_118 : decode cX3_readSupports 118 = .ok (.ifCond .eq 5, 3) := by decide +kernel
theorem dX3_readSupports_121 : decode cX3_readSupports 121 = .ok (.iconst (-1), 1) := by decide +kernel
theorem dX3_readSupports_122 : decode cX3_readSupports 122 = .ok (.ireturn, 1) := by decide +kernel
theorem dX3_readSupports_123 : decode cX3_readSupports 123 = .ok (.iload 7, 2) := by decide +kernel
theorem dX3_readSupports_125 : decode cX3_readSupports 125 = .ok (.aload_n 0, 1) := by decide +kernel
theorem dX3_readSupports_126 : decode cX3_readSupports 126 = .ok (.getfield 27, 3) := by decide +kernel
theorem dX3_readSupports_129 : decode cX3_readSupports 129 = .ok (.iload 8, 2) := by decide +kernel
theorem dX3_readSupports_131 : decode cX3_readSupports 131 = .ok (.iaload, 1) := by decide +kernel
theorem dX3_readSupports_132 : decode cX3_readSupports 132 = .ok (.bipush 100, 2) := by decide +kernel
theorem dX3_readSupports_134 : decode cX3_readSupports 134 = .ok (.irem, 1) := by decide +kernel
theorem dX3_readSupports_135 : decode cX3_readSupports 135 = .ok (.iadd, 1) := by decide +kernel
theorem dX3_readSupports_136 : decode cX3_readSupports 136 = .ok (.istore 7, 2) := by decide +kernel
theorem dX3_readSupports_138 : decode cX3_readSupports 138 = .ok (.iinc 8 1, 3) := by decide +kernel
theorem dX3_readSupports_141 : decode cX3_readSupports 141 = .ok (.goto (-50), 3) := by decide +kernel
theorem dX3_readSupports_144 : decode cX3_readSupports 144 = .ok (.iload 6, 2) := by decide +kernel
theorem dX3_readSupports_146 : decode cX3_readSupports 146 = .ok (.ifCond .eq 10, 3) := by decide +kernel
theorem dX3_readSupports_149 : decode cX3_readSupports 149 = .ok (.iload 7, 2) := by decide +kernel
theorem dX3_readSupports_151 : decode cX3_readSupports 151 = .ok (.bipush 12, 2) := by decide +kernel
theorem dX3_readSupports_153 : decode cX3_readSupports 153 = .ok (.if_icmp .ne 8, 3) := by decide +kernel
theorem dX3_readSupports_156 : decode cX3_readSupports 156 = .ok (.iload 6, 2) := by decide +kernel
theorem dX3_readSupports_158 : decode cX3_readSupports 158 = .ok (.goto 4, 3) := by decide +kernel
theorem dX3_readSupports_161 : decode cX3_readSupports 161 = .ok (.iconst (-1), 1) := by decide +kernel
theorem dX3_readSupports_162 : decode cX3_readSupports 162 = .ok (.ireturn, 1) := by decide +kernel
theorem dX3_isSupportFor_0 : decode cX3_isSupportFor 0 = .ok (.iload_n 1, 1) := by decide +kernel
theorem dX3_isSupportFor_1 : decode cX3_isSupportFor 1 = .ok (.bipush 100, 2) := by decide +kernel
theorem dX3_isSupportFor_3 : decode cX3_isSupportFor 3 = .ok (.irem, 1) := by decide +kernel
theorem dX3_isSupportFor_4 : decode cX3_isSupportFor 4 = .ok (.istore_n 2, 1) := by decide +kernel
theorem dX3_isSupportFor_5 : decode cX3_isSupportFor 5 = .ok (.iload_n 1, 1) := by decide +kernel
theorem dX3_isSupportFor_6 : decode cX3_isSupportFor 6 = .ok (.ifCond .lt 26, 3) := by decide +kernel
theorem dX3_isSupportFor_9 : decode cX3_isSupportFor 9 = .ok (.iload_n 1, 1) := by decide +kernel
theorem dX3_isSupportFor_10 : decode cX3_isSupportFor 10 = .ok (.bipush 100, 2) := by decide +kernel
theorem dX3_isSupportFor_12 : decode cX3_isSupportFor 12 = .ok (.idiv, 1) := by decide +kernel
theorem dX3_isSupportFor_13 : decode cX3_isSupportFor 13 = .ok (.iload_n 0, 1) := by decide +kernel
theorem dX3_isSupportFor_14 : decode cX3_isSupportFor 14 = .ok (.if_icmp .ge 18, 3) := by decide +kernel
theorem dX3_isSupportFor_17 : decode cX3_isSupportFor 17 = .ok (.iload_n 2, 1) := by decide +kernel
theorem dX3_isSupportFor_18 : decode cX3_isSupportFor 18 = .ok (.iconst 1, 1) := by decide +kernel
theorem dX3_isSupportFor_19 : decode cX3_isSupportFor 19 = .ok (.if_icmp .lt 13, 3) := by decide +kernel
theorem dX3_isSupportFor_22 : decode cX3_isSupportFor 22 = .ok (.iload_n 2, 1) := by decide +kernel
theorem dX3_isSupportFor_23 : decode cX3_isSupportFor 23 = .ok (.bipush 12, 2) := by decide +kernel
theorem dX3_isSupportFor_25 : decode cX3_isSupportFor 25 = .ok (.if_icmp .gt 7, 3) := by decide +kernel
theorem dX3_isSupportFor_28 : decode cX3_isSupportFor 28 = .ok (.iconst 1, 1) := by decide +kernel
theorem dX3_isSupportFor_29 : decode cX3_isSupportFor 29 = .ok (.goto 4, 3) := by decide +kernel
theorem dX3_isSupportFor_32 : decode cX3_isSupportFor 32 = .ok (.iconst 0, 1) := by decide +kernel
theorem dX3_isSupportFor_33 : decode cX3_isSupportFor 33 = .ok (.ireturn, 1) := by decide +kernel
theorem dX3_isReadBefore_0 : decode cX3_isReadBefore 0 = .ok (.iconst 0, 1) := by decide +kernel
theorem dX3_isReadBefore_1 : decode cX3_isReadBefore 1 = .ok (.istore_n 2, 1) := by decide +kernel
theorem dX3_isReadBefore_2 : decode cX3_isReadBefore 2 = .ok (.iload_n 2, 1) := by decide +kernel
theorem dX3_isReadBefore_3 : decode cX3_isReadBefore 3 = .ok (.iload_n 1, 1) := by decide +kernel
theorem dX3_isReadBefore_4 : decode cX3_isReadBefore 4 = .ok (.if_icmp .ge 32, 3) := by decide +kernel
theorem dX3_isReadBefore_7 : decode cX3_isReadBefore 7 = .ok (.aload_n 0, 1) := by decide +kernel
theorem dX3_isReadBefore_8 : decode cX3_isReadBefore 8 = .ok (.getfield 27, 3) := by decide +kernel
theorem dX3_isReadBefore_11 : decode cX3_isReadBefore 11 = .ok (.iload_n 2, 1) := by decide +kernel
theorem dX3_isReadBefore_12 : decode cX3_isReadBefore 12 = .ok (.iaload, 1) := by decide +kernel
theorem dX3_isReadBefore_13 : decode cX3_isReadBefore 13 = .ok (.bipush 100, 2) := by decide +kernel
theorem dX3_isReadBefore_15 : decode cX3_isReadBefore 15 = .ok (.idiv, 1) := by decide +kernel
theorem dX3_isReadBefore_16 : decode cX3_isReadBefore 16 = .ok (.aload_n 0, 1) := by decide +kernel
theorem dX3_isReadBefore_17 : decode cX3_isReadBefore 17 = .ok (.getfield 27, 3) := by decide +kernel
theorem dX3_isReadBefore_20 : decode cX3_isReadBefore 20 = .ok (.iload_n 1, 1) := by decide +kernel
theorem dX3_isReadBefore_21 : decode cX3_isReadBefore 21 = .ok (.iaload, 1) := by decide +kernel
theorem dX3_isReadBefore_22 : decode cX3_isReadBefore 22 = .ok (.bipush 100, 2) := by decide +kernel
theorem dX3_isReadBefore_24 : decode cX3_isReadBefore 24 = .ok (.idiv, 1) := by decide +kernel
theorem dX3_isReadBefore_25 : decode cX3_isReadBefore 25 = .ok (.if_icmp .ne 5, 3) := by decide +kernel
theorem dX3_isReadBefore_28 : decode cX3_isReadBefore 28 = .ok (.iconst 1, 1) := by decide +kernel
theorem dX3_isReadBefore_29 : decode cX3_isReadBefore 29 = .ok (.ireturn, 1) := by decide +kernel
theorem dX3_isReadBefore_30 : decode cX3_isReadBefore 30 = .ok (.iinc 2 1, 3) := by decide +kernel
theorem dX3_isReadBefore_33 : decode cX3_isReadBefore 33 = .ok (.goto (-31), 3) := by decide +kernel
theorem dX3_isReadBefore_36 : decode cX3_isReadBefore 36 = .ok (.iconst 0, 1) := by decide +kernel
theorem dX3_isReadBefore_37 : decode cX3_isReadBefore 37 = .ok (.ireturn, 1) := by decide +kernel
theorem dX3_setSupports_0 : decode cX3_setSupports 0 = .ok (.iconst 0, 1) := by decide +kernel
theorem dX3_setSupports_1 : decode cX3_setSupports 1 = .ok (.istore_n 3, 1) := by decide +kernel
theorem dX3_setSupports_2 : decode cX3_setSupports 2 = .ok (.iload_n 3, 1) := by decide +kernel
theorem dX3_setSupports_3 : decode cX3_setSupports 3 = .ok (.iload_n 2, 1) := by decide +kernel
theorem dX3_setSupports_4 : decode cX3_setSupports 4 = .ok (.if_icmp .ge 37, 3) := by decide +kernel
theorem dX3_setSupports_7 : decode cX3_setSupports 7 = .ok (.iload_n 3, 1) := by decide +kernel
theorem dX3_setSupports_8 : decode cX3_setSupports 8 = .ok (.iconst 4, 1) := by decide +kernel
theorem dX3_setSupports_9 : decode cX3_setSupports 9 = .ok (.if_icmp .ge 32, 3) := by decide +kernel
theorem dX3_setSupports_12 : decode cX3_setSupports 12 = .ok (.aload_n 1, 1) := by decide +kernel
theorem dX3_setSupports_13 : decode cX3_setSupports 13 = .ok (.iload_n 3, 1) := by decide +kernel
theorem dX3_setSupports_14 : decode cX3_setSupports 14 = .ok (.aload_n 0, 1) := by decide +kernel
theorem dX3_setSupports_15 : decode cX3_setSupports 15 = .ok (.getfield 27, 3) := by decide +kernel
theorem dX3_setSupports_18 : decode cX3_setSupports 18 = .ok (.iload_n 3, 1) := by decide +kernel
theorem dX3_setSupports_19 : decode cX3_setSupports 19 = .ok (.iaload, 1) := by decide +kernel
theorem dX3_setSupports_20 : decode cX3_setSupports 20 = .ok (.bipush 100, 2) := by decide +kernel
theorem dX3_setSupports_22 : decode cX3_setSupports 22 = .ok (.idiv, 1) := by decide +kernel
theorem dX3_setSupports_23 : decode cX3_setSupports 23 = .ok (.aload_n 0, 1) := by decide +kernel
theorem dX3_setSupports_24 : decode cX3_setSupports 24 = .ok (.getfield 27, 3) := by decide +kernel
theorem dX3_setSupports_27 : decode cX3_setSupports 27 = .ok (.iload_n 3, 1) := by decide +kernel
theorem dX3_setSupports_28 : decode cX3_setSupports 28 = .ok (.iaload, 1) := by decide +kernel
theorem dX3_setSupports_29 : decode cX3_setSupports 29 = .ok (.bipush 100, 2) := by decide +kernel
theorem dX3_setSupports_31 : decode cX3_setSupports 31 = .ok (.irem, 1) := by decide +kernel
theorem dX3_setSupports_32 : decode cX3_setSupports 32 = .ok (.invokevirtual 42, 3) := by decide +kernel
theorem dX3_setSupports_35 : decode cX3_setSupports 35 = .ok (.iinc 3 1, 3) := by decide +kernel
theorem dX3_setSupports_38 : decode cX3_setSupports 38 = .ok (.goto (-36), 3) := by decide +kernel
theorem dX3_setSupports_41 : decode cX3_setSupports 41 = .ok (.aload_n 1, 1) := by decide +kernel
theorem dX3_setSupports_42 : decode cX3_setSupports 42 = .ok (.iload_n 2, 1) := by decide +kernel
theorem dX3_setSupports_43 : decode cX3_setSupports 43 = .ok (.putfield 46, 3) := by decide +kernel
theorem dX3_setSupports_46 : decode cX3_setSupports 46 = .ok (.return_, 1) := by decide +kernel
theorem dX3_keepEdition_0 : decode cX3_keepEdition 0 = .ok (.aload_n 0, 1) := by decide +kernel
theorem dX3_keepEdition_1 : decode cX3_keepEdition 1 = .ok (.getfield 49, 3) := by decide +kernel
theorem dX3_keepEdition_4 : decode cX3_keepEdition 4 = .ok (.bipush 60, 2) := by decide +kernel
theorem dX3_keepEdition_6 : decode cX3_keepEdition 6 = .ok (.if_icmp .lt 6, 3) := by decide +kernel
theorem dX3_keepEdition_9 : decode cX3_keepEdition 9 = .ok (.bipush (-3), 2) := by decide +kernel
theorem dX3_keepEdition_11 : decode cX3_keepEdition 11 = .ok (.ireturn, 1) := by decide +kernel
theorem dX3_keepEdition_12 : decode cX3_keepEdition 12 = .ok (.aload_n 0, 1) := by decide +kernel
theorem dX3_keepEdition_13 : decode cX3_keepEdition 13 = .ok (.dup, 1) := by decide +kernel
theorem dX3_keepEdition_14 : decode cX3_keepEdition 14 = .ok (.getfield 49, 3) := by decide +kernel
theorem dX3_keepEdition_17 : decode cX3_keepEdition 17 = .ok (.iconst 1, 1) := by decide +kernel
theorem dX3_keepEdition_18 : decode cX3_keepEdition 18 = .ok (.iadd, 1) := by decide +kernel
theorem dX3_keepEdition_19 : decode cX3_keepEdition 19 = .ok (.putfield 49, 3) := by decide +kernel
theorem dX3_keepEdition_22 : decode cX3_keepEdition 22 = .ok (.aload_n 0, 1) := by decide +kernel
theorem dX3_keepEdition_23 : decode cX3_keepEdition 23 = .ok (.getfield 17, 3) := by decide +kernel
theorem dX3_keepEdition_26 : decode cX3_keepEdition 26 = .ok (.aload_n 0, 1) := by decide +kernel
theorem dX3_keepEdition_27 : decode cX3_keepEdition 27 = .ok (.getfield 49, 3) := by decide +kernel
theorem dX3_keepEdition_30 : decode cX3_keepEdition 30 = .ok (.iload_n 1, 1) := by decide +kernel
theorem dX3_keepEdition_31 : decode cX3_keepEdition 31 = .ok (.iastore, 1) := by decide +kernel
theorem dX3_keepEdition_32 : decode cX3_keepEdition 32 = .ok (.aload_n 0, 1) := by decide +kernel
theorem dX3_keepEdition_33 : decode cX3_keepEdition 33 = .ok (.getfield 21, 3) := by decide +kernel
theorem dX3_keepEdition_36 : decode cX3_keepEdition 36 = .ok (.aload_n 0, 1) := by decide +kernel
theorem dX3_keepEdition_37 : decode cX3_keepEdition 37 = .ok (.getfield 49, 3) := by decide +kernel
theorem dX3_keepEdition_40 : decode cX3_keepEdition 40 = .ok (.iload_n 2, 1) := by decide +kernel
theorem dX3_keepEdition_41 : decode cX3_keepEdition 41 = .ok (.iastore, 1) := by decide +kernel
theorem dX3_keepEdition_42 : decode cX3_keepEdition 42 = .ok (.aload_n 0, 1) := by decide +kernel
theorem dX3_keepEdition_43 : decode cX3_keepEdition 43 = .ok (.getfield 24, 3) := by decide +kernel
theorem dX3_keepEdition_46 : decode cX3_keepEdition 46 = .ok (.aload_n 0, 1) := by decide +kernel
theorem dX3_keepEdition_47 : decode cX3_keepEdition 47 = .ok (.getfield 49, 3) := by decide +kernel
theorem dX3_keepEdition_50 : decode cX3_keepEdition 50 = .ok (.aload_n 0, 1) := by decide +kernel
theorem dX3_keepEdition_51 : decode cX3_keepEdition 51 = .ok (.getfield 30, 3) := by decide +kernel
theorem dX3_keepEdition_54 : decode cX3_keepEdition 54 = .ok (.iastore, 1) := by decide +kernel
theorem dX3_keepEdition_55 : decode cX3_keepEdition 55 = .ok (.aload_n 0, 1) := by decide +kernel
theorem dX3_keepEdition_56 : decode cX3_keepEdition 56 = .ok (.getfield 49, 3) := by decide +kernel
theorem dX3_keepEdition_59 : decode cX3_keepEdition 59 = .ok (.ireturn, 1) := by decide +kernel
theorem dX3_coursesIn_0 : decode cX3_coursesIn 0 = .ok (.aload_n 0, 1) := by decide +kernel
theorem dX3_coursesIn_1 : decode cX3_coursesIn 1 = .ok (.iload_n 2, 1) := by decide +kernel
theorem dX3_coursesIn_2 : decode cX3_coursesIn 2 = .ok (.invokevirtual 52, 3) := by decide +kernel
theorem dX3_coursesIn_5 : decode cX3_coursesIn 5 = .ok (.astore_n 3, 1) := by decide +kernel
theorem dX3_coursesIn_6 : decode cX3_coursesIn 6 = .ok (.aload_n 3, 1) := by decide +kernel
theorem dX3_coursesIn_7 : decode cX3_coursesIn 7 = .ok (.ifnull 15, 3) := by decide +kernel
theorem dX3_coursesIn_10 : decode cX3_coursesIn 10 = .ok (.iload_n 1, 1) := by decide +kernel
theorem dX3_coursesIn_11 : decode cX3_coursesIn 11 = .ok (.ifCond .lt 11, 3) := by decide +kernel
theorem dX3_coursesIn_14 : decode cX3_coursesIn 14 = .ok (.iload_n 1, 1) := by decide +kernel
theorem dX3_coursesIn_15 : decode cX3_coursesIn 15 = .ok (.aload_n 0, 1) := by decide +kernel
theorem dX3_coursesIn_16 : decode cX3_coursesIn 16 = .ok (.getfield 49, 3) := by decide +kernel
theorem dX3_coursesIn_19 : decode cX3_coursesIn 19 = .ok (.if_icmp .le 5, 3) := by decide +kernel
theorem dX3_coursesIn_22 : decode cX3_coursesIn 22 = .ok (.iconst (-1), 1) := by decide +kernel
theorem dX3_coursesIn_23 : decode cX3_coursesIn 23 = .ok (.ireturn, 1) := by decide +kernel
theorem dX3_coursesIn_24 : decode cX3_coursesIn 24 = .ok (.iload_n 1, 1) := by decide +kernel
theorem dX3_coursesIn_25 : decode cX3_coursesIn 25 = .ok (.ifCond .le 15, 3) := by decide +kernel
theorem dX3_coursesIn_28 : decode cX3_coursesIn 28 = .ok (.iload_n 2, 1) := by decide +kernel
theorem dX3_coursesIn_29 : decode cX3_coursesIn 29 = .ok (.aload_n 0, 1) := by decide +kernel
theorem dX3_coursesIn_30 : decode cX3_coursesIn 30 = .ok (.getfield 24, 3) := by decide +kernel
theorem dX3_coursesIn_33 : decode cX3_coursesIn 33 = .ok (.iload_n 1, 1) := by decide +kernel
theorem dX3_coursesIn_34 : decode cX3_coursesIn 34 = .ok (.iaload, 1) := by decide +kernel
theorem dX3_coursesIn_35 : decode cX3_coursesIn 35 = .ok (.if_icmp .lt 5, 3) := by decide +kernel
theorem dX3_coursesIn_38 : decode cX3_coursesIn 38 = .ok (.iconst (-1), 1) := by decide +kernel
theorem dX3_coursesIn_39 : decode cX3_coursesIn 39 = .ok (.ireturn, 1) := by decide +kernel
theorem dX3_coursesIn_40 : decode cX3_coursesIn 40 = .ok (.iload_n 1, 1) := by decide +kernel
theorem dX3_coursesIn_41 : decode cX3_coursesIn 41 = .ok (.istore 4, 2) := by decide +kernel
theorem dX3_coursesIn_43 : decode cX3_coursesIn 43 = .ok (.iload 4, 2) := by decide +kernel
theorem dX3_coursesIn_45 : decode cX3_coursesIn 45 = .ok (.ifCond .le 28, 3) := by decide +kernel
theorem dX3_coursesIn_48 : decode cX3_coursesIn 48 = .ok (.aload_n 0, 1) := by decide +kernel
theorem dX3_coursesIn_49 : decode cX3_coursesIn 49 = .ok (.getfield 17, 3) := by decide +kernel
theorem dX3_coursesIn_52 : decode cX3_coursesIn 52 = .ok (.iload 4, 2) := by decide +kernel
theorem dX3_coursesIn_54 : decode cX3_coursesIn 54 = .ok (.iaload, 1) := by decide +kernel
theorem dX3_coursesIn_55 : decode cX3_coursesIn 55 = .ok (.iload_n 2, 1) := by decide +kernel
theorem dX3_coursesIn_56 : decode cX3_coursesIn 56 = .ok (.if_icmp .ne 11, 3) := by decide +kernel
theorem dX3_coursesIn_59 : decode cX3_coursesIn 59 = .ok (.aload_n 0, 1) := by decide +kernel
theorem dX3_coursesIn_60 : decode cX3_coursesIn 60 = .ok (.getfield 21, 3) := by decide +kernel
theorem dX3_coursesIn_63 : decode cX3_coursesIn 63 = .ok (.iload 4, 2) := by decide +kernel
theorem dX3_coursesIn_65 : decode cX3_coursesIn 65 = .ok (.iaload, 1) := by decide +kernel
theorem dX3_coursesIn_66 : decode cX3_coursesIn 66 = .ok (.ireturn, 1) := by decide +kernel
theorem dX3_coursesIn_67 : decode cX3_coursesIn 67 = .ok (.iinc 4 (-1), 3) := by decide +kernel
theorem dX3_coursesIn_70 : decode cX3_coursesIn 70 = .ok (.goto (-27), 3) := by decide +kernel
theorem dX3_coursesIn_73 : decode cX3_coursesIn 73 = .ok (.aload_n 3, 1) := by decide +kernel
theorem dX3_coursesIn_74 : decode cX3_coursesIn 74 = .ok (.getfield 56, 3) := by decide +kernel
theorem dX3_coursesIn_77 : decode cX3_coursesIn 77 = .ok (.ireturn, 1) := by decide +kernel
theorem dX3_isReadyBelow_0 : decode cX3_isReadyBelow 0 = .ok (.iconst 0, 1) := by decide +kernel
theorem dX3_isReadyBelow_1 : decode cX3_isReadyBelow 1 = .ok (.istore_n 2, 1) := by decide +kernel
theorem dX3_isReadyBelow_2 : decode cX3_isReadyBelow 2 = .ok (.iload_n 2, 1) := by decide +kernel
theorem dX3_isReadyBelow_3 : decode cX3_isReadyBelow 3 = .ok (.aload_n 1, 1) := by decide +kernel
theorem dX3_isReadyBelow_4 : decode cX3_isReadyBelow 4 = .ok (.getfield 46, 3) := by decide +kernel
theorem dX3_isReadyBelow_7 : decode cX3_isReadyBelow 7 = .ok (.if_icmp .ge 40, 3) := by decide +kernel
theorem dX3_isReadyBelow_10 : decode cX3_isReadyBelow 10 = .ok (.aload_n 0, 1) := by decide +kernel
theorem dX3_isReadyBelow_11 : decode cX3_isReadyBelow 11 = .ok (.aload_n 1, 1) := by decide +kernel
theorem dX3_isReadyBelow_12 : decode cX3_isReadyBelow 12 = .ok (.getfield 59, 3) := by decide +kernel
theorem dX3_isReadyBelow_15 : decode cX3_isReadyBelow 15 = .ok (.iload_n 2, 1) := by decide +kernel
theorem dX3_isReadyBelow_16 : decode cX3_isReadyBelow 16 = .ok (.iaload, 1) := by decide +kernel
theorem dX3_isReadyBelow_17 : decode cX3_isReadyBelow 17 = .ok (.invokevirtual 52, 3) := by decide +kernel
theorem dX3_isReadyBelow_20 : decode cX3_isReadyBelow 20 = .ok (.astore_n 3, 1) := by decide +kernel
theorem dX3_isReadyBelow_21 : decode cX3_isReadyBelow 21 = .ok (.aload_n 3, 1) := by decide +kernel
theorem dX3_isReadyBelow_22 : decode cX3_isReadyBelow 22 = .ok (.ifnull 17, 3) := by decide +kernel
theorem dX3_isReadyBelow_25 : decode cX3_isReadyBelow 25 = .ok (.aload_n 3, 1) := by decide +kernel
theorem dX3_isReadyBelow_26 : decode cX3_isReadyBelow 26 = .ok (.invokevirtual 62, 3) := by decide +kernel
theorem dX3_isReadyBelow_29 : decode cX3_isReadyBelow 29 = .ok (.ifCond .eq 10, 3) := by decide +kernel
theorem dX3_isReadyBelow_32 : decode cX3_isReadyBelow 32 = .ok (.aload_n 3, 1) := by decide +kernel
theorem dX3_isReadyBelow_33 : decode cX3_isReadyBelow 33 = .ok (.invokevirtual 66, 3) := by decide +kernel
theorem dX3_isReadyBelow_36 : decode cX3_isReadyBelow 36 = .ok (.ifCond .eq 5, 3) := by decide +kernel
theorem dX3_isReadyBelow_39 : decode cX3_isReadyBelow 39 = .ok (.iconst 0, 1) := by decide +kernel
theorem dX3_isReadyBelow_40 : decode cX3_isReadyBelow 40 = .ok (.ireturn, 1) := by decide +kernel
theorem dX3_isReadyBelow_41 : decode cX3_isReadyBelow 41 = .ok (.iinc 2 1, 3) := by decide +kernel
theorem dX3_isReadyBelow_44 : decode cX3_isReadyBelow 44 = .ok (.goto (-42), 3) := by decide +kernel
theorem dX3_isReadyBelow_47 : decode cX3_isReadyBelow 47 = .ok (.iconst 1, 1) := by decide +kernel
theorem dX3_isReadyBelow_48 : decode cX3_isReadyBelow 48 = .ok (.ireturn, 1) := by decide +kernel
theorem dX3_ageAll_0 : decode cX3_ageAll 0 = .ok (.iconst 0, 1) := by decide +kernel
theorem dX3_ageAll_1 : decode cX3_ageAll 1 = .ok (.istore_n 2, 1) := by decide +kernel
theorem dX3_ageAll_2 : decode cX3_ageAll 2 = .ok (.iload_n 2, 1) := by decide +kernel
theorem dX3_ageAll_3 : decode cX3_ageAll 3 = .ok (.aload_n 0, 1) := by decide +kernel
theorem dX3_ageAll_4 : decode cX3_ageAll 4 = .ok (.getfield 30, 3) := by decide +kernel
theorem dX3_ageAll_7 : decode cX3_ageAll 7 = .ok (.if_icmp .ge 36, 3) := by decide +kernel
theorem dX3_ageAll_10 : decode cX3_ageAll 10 = .ok (.aload_n 0, 1) := by decide +kernel
theorem dX3_ageAll_11 : decode cX3_ageAll 11 = .ok (.iload_n 2, 1) := by decide +kernel
theorem dX3_ageAll_12 : decode cX3_ageAll 12 = .ok (.invokevirtual 52, 3) := by decide +kernel
theorem dX3_ageAll_15 : decode cX3_ageAll 15 = .ok (.astore_n 3, 1) := by decide +kernel
theorem dX3_ageAll_16 : decode cX3_ageAll 16 = .ok (.aload_n 3, 1) := by decide +kernel
theorem dX3_ageAll_17 : decode cX3_ageAll 17 = .ok (.ifnull 20, 3) := by decide +kernel
theorem dX3_ageAll_20 : decode cX3_ageAll 20 = .ok (.aload_n 3, 1) := by decide +kernel
theorem dX3_ageAll_21 : decode cX3_ageAll 21 = .ok (.invokevirtual 69, 3) := by decide +kernel
theorem dX3_ageAll_24 : decode cX3_ageAll 24 = .ok (.ifCond .eq 13, 3) := by decide +kernel
theorem dX3_ageAll_27 : decode cX3_ageAll 27 = .ok (.aload_n 3, 1) := by decide +kernel
theorem dX3_ageAll_28 : decode cX3_ageAll 28 = .ok (.dup, 1) := by decide +kernel
theorem dX3_ageAll_29 : decode cX3_ageAll 29 = .ok (.getfield 72, 3) := by decide +kernel
theorem dX3_ageAll_32 : decode cX3_ageAll 32 = .ok (.iload_n 1, 1) := by decide +kernel
theorem dX3_ageAll_33 : decode cX3_ageAll 33 = .ok (.iadd, 1) := by decide +kernel
theorem dX3_ageAll_34 : decode cX3_ageAll 34 = .ok (.putfield 72, 3) := by decide +kernel
theorem dX3_ageAll_37 : decode cX3_ageAll 37 = .ok (.iinc 2 1, 3) := by decide +kernel
theorem dX3_ageAll_40 : decode cX3_ageAll 40 = .ok (.goto (-38), 3) := by decide +kernel
theorem dX3_ageAll_43 : decode cX3_ageAll 43 = .ok (.return_, 1) := by decide +kernel
theorem dX3_countBorneBy_0 : decode cX3_countBorneBy 0 = .ok (.iconst 0, 1) := by decide +kernel
theorem dX3_countBorneBy_1 : decode cX3_countBorneBy 1 = .ok (.istore_n 2, 1) := by decide +kernel
theorem dX3_countBorneBy_2 : decode cX3_countBorneBy 2 = .ok (.iconst 0, 1) := by decide +kernel
theorem dX3_countBorneBy_3 : decode cX3_countBorneBy 3 = .ok (.istore_n 3, 1) := by decide +kernel
theorem dX3_countBorneBy_4 : decode cX3_countBorneBy 4 = .ok (.iload_n 3, 1) := by decide +kernel
theorem dX3_countBorneBy_5 : decode cX3_countBorneBy 5 = .ok (.aload_n 0, 1) := by decide +kernel
theorem dX3_countBorneBy_6 : decode cX3_countBorneBy 6 = .ok (.getfield 30, 3) := by decide +kernel
theorem dX3_countBorneBy_9 : decode cX3_countBorneBy 9 = .ok (.if_icmp .ge 33, 3) := by decide +kernel
theorem dX3_countBorneBy_12 : decode cX3_countBorneBy 12 = .ok (.aload_n 0, 1) := by decide +kernel
theorem dX3_countBorneBy_13 : decode cX3_countBorneBy 13 = .ok (.iload_n 3, 1) := by decide +kernel
theorem dX3_countBorneBy_14 : decode cX3_countBorneBy 14 = .ok (.invokevirtual 52, 3) := by decide +kernel
theorem dX3_countBorneBy_17 : decode cX3_countBorneBy 17 = .ok (.astore 4, 2) := by decide +kernel
theorem dX3_countBorneBy_19 : decode cX3_countBorneBy 19 = .ok (.aload 4, 2) := by decide +kernel
theorem dX3_countBorneBy_21 : decode cX3_countBorneBy 21 = .ok (.ifnull 15, 3) := by decide +kernel
theorem dX3_countBorneBy_24 : decode cX3_countBorneBy 24 = .ok (.aload 4, 2) := by decide +kernel
theorem dX3_countBorneBy_26 : decode cX3_countBorneBy 26 = .ok (.iload_n 1, 1) := by decide +kernel
theorem dX3_countBorneBy_27 : decode cX3_countBorneBy 27 = .ok (.invokevirtual 75, 3) := by decide +kernel
theorem dX3_countBorneBy_30 : decode cX3_countBorneBy 30 = .ok (.ifCond .eq 6, 3) := by decide +kernel
theorem dX3_countBorneBy_33 : decode cX3_countBorneBy 33 = .ok (.iinc 2 1, 3) := by decide +kernel
theorem dX3_countBorneBy_36 : decode cX3_countBorneBy 36 = .ok (.iinc 3 1, 3) := by decide +kernel
theorem dX3_countBorneBy_39 : decode cX3_countBorneBy 39 = .ok (.goto (-35), 3) := by decide +kernel
theorem dX3_countBorneBy_42 : decode cX3_countBorneBy 42 = .ok (.iload_n 2, 1) := by decide +kernel
theorem dX3_countBorneBy_43 : decode cX3_countBorneBy 43 = .ok (.ireturn, 1) := by decide +kernel
theorem dX3_countLaid_0 : decode cX3_countLaid 0 = .ok (.iconst 0, 1) := by decide +kernel
theorem dX3_countLaid_1 : decode cX3_countLaid 1 = .ok (.istore_n 1, 1) := by decide +kernel
theorem dX3_countLaid_2 : decode cX3_countLaid 2 = .ok (.iconst 0, 1) := by decide +kernel
theorem dX3_countLaid_3 : decode cX3_countLaid 3 = .ok (.istore_n 2, 1) := by decide +kernel
theorem dX3_countLaid_4 : decode cX3_countLaid 4 = .ok (.iload_n 2, 1) := by decide +kernel
theorem dX3_countLaid_5 : decode cX3_countLaid 5 = .ok (.aload_n 0, 1) := by decide +kernel
theorem dX3_countLaid_6 : decode cX3_countLaid 6 = .ok (.getfield 30, 3) := by decide +kernel
theorem dX3_countLaid_9 : decode cX3_countLaid 9 = .ok (.if_icmp .ge 26, 3) := by decide +kernel
theorem dX3_countLaid_12 : decode cX3_countLaid 12 = .ok (.aload_n 0, 1) := by decide +kernel
theorem dX3_countLaid_13 : decode cX3_countLaid 13 = .ok (.iload_n 2, 1) := by decide +kernel
theorem dX3_countLaid_14 : decode cX3_countLaid 14 = .ok (.invokevirtual 52, 3) := by decide +kernel
theorem dX3_countLaid_17 : decode cX3_countLaid 17 = .ok (.astore_n 3, 1) := by decide +kernel
theorem dX3_countLaid_18 : decode cX3_countLaid 18 = .ok (.aload_n 3, 1) := by decide +kernel
theorem dX3_countLaid_19 : decode cX3_countLaid 19 = .ok (.ifnull 10, 3) := by decide +kernel
theorem dX3_countLaid_22 : decode cX3_countLaid 22 = .ok (.iload_n 1, 1) := by decide +kernel
theorem dX3_countLaid_23 : decode cX3_countLaid 23 = .ok (.aload_n 3, 1) := by decide +kernel
theorem dX3_countLaid_24 : decode cX3_countLaid 24 = .ok (.getfield 78, 3) := by decide +kernel
theorem dX3_countLaid_27 : decode cX3_countLaid 27 = .ok (.iadd, 1) := by decide +kernel
theorem dX3_countLaid_28 : decode cX3_countLaid 28 = .ok (.istore_n 1, 1) := by decide +kernel
theorem dX3_countLaid_29 : decode cX3_countLaid 29 = .ok (.iinc 2 1, 3) := by decide +kernel
theorem dX3_countLaid_32 : decode cX3_countLaid 32 = .ok (.goto (-28), 3) := by decide +kernel
theorem dX3_countLaid_35 : decode cX3_countLaid 35 = .ok (.iload_n 1, 1) := by decide +kernel
theorem dX3_countLaid_36 : decode cX3_countLaid 36 = .ok (.ireturn, 1) := by decide +kernel
theorem dX4_init_0 : decode cX4_init 0 = .ok (.aload_n 0, 1) := by decide +kernel
theorem dX4_init_1 : decode cX4_init 1 = .ok (.invokespecial 3, 3) := by decide +kernel
theorem dX4_init_4 : decode cX4_init 4 = .ok (.aload_n 0, 1) := by decide +kernel
theorem dX4_init_5 : decode cX4_init 5 = .ok (.ldc 9, 2) := by decide +kernel
theorem dX4_init_7 : decode cX4_init 7 = .ok (.invokevirtual 11, 3) := by decide +kernel
theorem dX4_init_10 : decode cX4_init 10 = .ok (.newarray .int, 2) := by decide +kernel
theorem dX4_init_12 : decode cX4_init 12 = .ok (.putfield 17, 3) := by decide +kernel
theorem dX4_init_15 : decode cX4_init 15 = .ok (.aload_n 0, 1) := by decide +kernel
theorem dX4_init_16 : decode cX4_init 16 = .ok (.bipush 100, 2) := by decide +kernel
theorem dX4_init_18 : decode cX4_init 18 = .ok (.newarray .int, 2) := by decide +kernel
theorem dX4_init_20 : decode cX4_init 20 = .ok (.putfield 23, 3) := by decide +kernel
theorem dX4_init_23 : decode cX4_init 23 = .ok (.return_, 1) := by decide +kernel
theorem dX4_nameNoPart_0 : decode cX4_nameNoPart 0 = .ok (.aload_n 0, 1) := by decide +kernel
theorem dX4_nameNoPart_1 : decode cX4_nameNoPart 1 = .ok (.getfield 17, 3) := by decide +kernel
theorem dX4_nameNoPart_4 : decode cX4_nameNoPart 4 = .ok (.iconst 0, 1) := by decide +kernel
theorem dX4_nameNoPart_5 : decode cX4_nameNoPart 5 = .ok (.iconst 0, 1) := by decide +kernel
theorem dX4_nameNoPart_6 : decode cX4_nameNoPart 6 = .ok (.iastore, 1) := by decide +kernel
theorem dX4_nameNoPart_7 : decode cX4_nameNoPart 7 = .ok (.aload_n 0, 1) := by decide +kernel
theorem dX4_nameNoPart_8 : decode cX4_nameNoPart 8 = .ok (.getfield 17, 3) := by decide +kernel
theorem dX4_nameNoPart_11 : decode cX4_nameNoPart 11 = .ok (.iconst 1, 1) := by decide +kernel
theorem dX4_nameNoPart_12 : decode cX4_nameNoPart 12 = .ok (.iconst 0, 1) := by decide +kernel
theorem dX4_nameNoPart_13 : decode cX4_nameNoPart 13 = .ok (.iastore, 1) := by decide +kernel
theorem dX4_nameNoPart_14 : decode cX4_nameNoPart 14 = .ok (.aload_n 0, 1) := by decide +kernel
theorem dX4_nameNoPart_15 : decode cX4_nameNoPart 15 = .ok (.getfield 17, 3) := by decide +kernel
theorem dX4_nameNoPart_18 : decode cX4_nameNoPart 18 = .ok (.iconst 2, 1) := by decide +kernel
theorem dX4_nameNoPart_19 : decode cX4_nameNoPart 19 = .ok (.iconst 0, 1) := by decide +kernel
theorem dX4_nameNoPart_20 : decode cX4_nameNoPart 20 = .ok (.iastore, 1) := by decide +kernel
theorem dX4_nameNoPart_21 : decode cX4_nameNoPart 21 = .ok (.aload_n 0, 1) := by decide +kernel
theorem dX4_nameNoPart_22 : decode cX4_nameNoPart 22 = .ok (.getfield 17, 3) := by decide +kernel
theorem dX4_nameNoPart_25 : decode cX4_nameNoPart 25 = .ok (.iconst 3, 1) := by decide +kernel
theorem dX4_nameNoPart_26 : decode cX4_nameNoPart 26 = .ok (.iconst 0, 1) := by decide +kernel
theorem dX4_nameNoPart_27 : decode cX4_nameNoPart 27 = .ok (.iastore, 1) := by decide +kernel
theorem dX4_nameNoPart_28 : decode cX4_nameNoPart 28 = .ok (.return_, 1) := by decide +kernel
theorem dX4_namePart_0 : decode cX4_namePart 0 = .ok (.aload_n 0, 1) := by decide +kernel
theorem dX4_namePart_1 : decode cX4_namePart 1 = .ok (.getfield 17, 3) := by decide +kernel
theorem dX4_namePart_4 : decode cX4_namePart 4 = .ok (.iconst 0, 1) := by decide +kernel
theorem dX4_namePart_5 : decode cX4_namePart 5 = .ok (.iload_n 1, 1) := by decide +kernel
theorem dX4_namePart_6 : decode cX4_namePart 6 = .ok (.iastore, 1) := by decide +kernel
theorem dX4_namePart_7 : decode cX4_namePart 7 = .ok (.aload_n 0, 1) := by decide +kernel
theorem dX4_namePart_8 : decode cX4_namePart 8 = .ok (.getfield 17, 3) := by decide +kernel
theorem dX4_namePart_11 : decode cX4_namePart 11 = .ok (.iconst 1, 1) := by decide +kernel
theorem dX4_namePart_12 : decode cX4_namePart 12 = .ok (.aload_n 2, 1) := by decide +kernel
theorem dX4_namePart_13 : decode cX4_namePart 13 = .ok (.getfield 26, 3) := by decide +kernel
theorem dX4_namePart_16 : decode cX4_namePart 16 = .ok (.iastore, 1) := by decide +kernel
theorem dX4_namePart_17 : decode cX4_namePart 17 = .ok (.aload_n 0, 1) := by decide +kernel
theorem dX4_namePart_18 : decode cX4_namePart 18 = .ok (.getfield 17, 3) := by decide +kernel
theorem dX4_namePart_21 : decode cX4_namePart 21 = .ok (.iconst 2, 1) := by decide +kernel
theorem dX4_namePart_22 : decode cX4_namePart 22 = .ok (.aload_n 2, 1) := by decide +kernel
theorem dX4_namePart_23 : decode cX4_namePart 23 = .ok (.getfield 32, 3) := by decide +kernel
theorem dX4_namePart_26 : decode cX4_namePart 26 = .ok (.iastore, 1) := by decide +kernel
theorem dX4_namePart_27 : decode cX4_namePart 27 = .ok (.aload_n 0, 1) := by decide +kernel
theorem dX4_namePart_28 : decode cX4_namePart 28 = .ok (.getfield 17, 3) := by decide +kernel
theorem dX4_namePart_31 : decode cX4_namePart 31 = .ok (.iconst 3, 1) := by decide +kernel
theorem dX4_namePart_32 : decode cX4_namePart 32 = .ok (.aload_n 2, 1) := by decide +kernel
theorem dX4_namePart_33 : decode cX4_namePart 33 = .ok (.getfield 35, 3) := by decide +kernel
theorem dX4_namePart_36 : decode cX4_namePart 36 = .ok (.iastore, 1) := by decide +kernel
theorem dX4_namePart_37 : decode cX4_namePart 37 = .ok (.return_, 1) := by decide +kernel
theorem dX4_nameMonth_0 : decode cX4_nameMonth 0 = .ok (.aload_n 0, 1) := by decide +kernel
theorem dX4_nameMonth_1 : decode cX4_nameMonth 1 = .ok (.getfield 17, 3) := by decide +kernel
theorem dX4_nameMonth_4 : decode cX4_nameMonth 4 = .ok (.iconst 4, 1) := by decide +kernel
theorem dX4_nameMonth_5 : decode cX4_nameMonth 5 = .ok (.iload_n 1, 1) := by decide +kernel
theorem dX4_nameMonth_6 : decode cX4_nameMonth 6 = .ok (.bipush 12, 2) := by decide +kernel
theorem dX4_nameMonth_8 : decode cX4_nameMonth 8 = .ok (.irem, 1) := by decide +kernel
theorem dX4_nameMonth_9 : decode cX4_nameMonth 9 = .ok (.iastore, 1) := by decide +kernel
theorem dX4_nameMonth_10 : decode cX4_nameMonth 10 = .ok (.aload_n 0, 1) := by decide +kernel
theorem dX4_nameMonth_11 : decode cX4_nameMonth 11 = .ok (.getfield 17, 3) := by decide +kernel
theorem dX4_nameMonth_14 : decode cX4_nameMonth 14 = .ok (.iconst 5, 1) := by decide +kernel
theorem dX4_nameMonth_15 : decode cX4_nameMonth 15 = .ok (.iload_n 1, 1) := by decide +kernel
theorem dX4_nameMonth_16 : decode cX4_nameMonth 16 = .ok (.bipush 12, 2) := by decide +kernel
theorem dX4_nameMonth_18 : decode cX4_nameMonth 18 = .ok (.idiv, 1) := by decide +kernel
theorem dX4_nameMonth_19 : decode cX4_nameMonth 19 = .ok (.iastore, 1) := by decide +kernel
theorem dX4_nameMonth_20 : decode cX4_nameMonth 20 = .ok (.aload_n 0, 1) := by decide +kernel
theorem dX4_nameMonth_21 : decode cX4_nameMonth 21 = .ok (.getfield 17, 3) := by decide +kernel
theorem dX4_nameMonth_24 : decode cX4_nameMonth 24 = .ok (.bipush 6, 2) := by decide +kernel
theorem dX4_nameMonth_26 : decode cX4_nameMonth 26 = .ok (.iload_n 2, 1) := by decide +kernel
theorem dX4_nameMonth_27 : decode cX4_nameMonth 27 = .ok (.ifCond .eq 7, 3) := by decide +kernel
theorem dX4_nameMonth_30 : decode cX4_nameMonth 30 = .ok (.iconst 1, 1) := by decide +kernel
theorem dX4_nameMonth_31 : decode cX4_nameMonth 31 = .ok (.goto 4, 3) := by decide +kernel
theorem dX4_nameMonth_34 : decode cX4_nameMonth 34 = .ok (.iconst 0, 1) := by decide +kernel
theorem dX4_nameMonth_35 : decode cX4_nameMonth 35 = .ok (.iastore, 1) := by decide +kernel
theorem dX4_nameMonth_36 : decode cX4_nameMonth 36 = .ok (.aload_n 0, 1) := by decide +kernel
theorem dX4_nameMonth_37 : decode cX4_nameMonth 37 = .ok (.getfield 17, 3) := by decide +kernel
theorem dX4_nameMonth_40 : decode cX4_nameMonth 40 = .ok (.bipush 7, 2) := by decide +kernel
theorem dX4_nameMonth_42 : decode cX4_nameMonth 42 = .ok (.iload_n 3, 1) := by decide +kernel
theorem dX4_nameMonth_43 : decode cX4_nameMonth 43 = .ok (.iastore, 1) := by decide +kernel
theorem dX4_nameMonth_44 : decode cX4_nameMonth 44 = .ok (.return_, 1) := by decide +kernel
theorem dX4_endOf_0 : decode cX4_endOf 0 = .ok (.aload_n 1, 1) := by decide +kernel
theorem dX4_endOf_1 : decode cX4_endOf 1 = .ok (.getfield 38, 3) := by decide +kernel
theorem dX4_endOf_4 : decode cX4_endOf 4 = .ok (.ifnonnull 7, 3) := by decide +kernel
theorem dX4_endOf_7 : decode cX4_endOf 7 = .ok (.iconst 1, 1) := by decide +kernel
theorem dX4_endOf_8 : decode cX4_endOf 8 = .ok (.goto 11, 3) := by decide +kernel
theorem dX4_endOf_11 : decode cX4_endOf 11 = .ok (.aload_n 0, 1) := by decide +kernel
theorem dX4_endOf_12 : decode cX4_endOf 12 = .ok (.aload_n 1, 1) := by decide +kernel
theorem dX4_endOf_13 : decode cX4_endOf 13 = .ok (.getfield 38, 3) := by decide +kernel
theorem dX4_endOf_16 : decode cX4_endOf 16 = .ok (.invokevirtual 44, 3) := by decide +kernel
theorem dX4_endOf_19 : decode cX4_endOf 19 = .ok (.ireturn, 1) := by decide +kernel
theorem dX4_valueOf_0 : decode cX4_valueOf 0 = .ok (.aload_n 1, 1) := by decide +kernel
theorem dX4_valueOf_1 : decode cX4_valueOf 1 = .ok (.ifnonnull 5, 3) := by decide +kernel
theorem dX4_valueOf_4 : decode cX4_valueOf 4 = .ok (.iconst 0, 1) := by decide +kernel
theorem dX4_valueOf_5 : decode cX4_valueOf 5 = .ok (.ireturn, 1) := by decide +kernel
theorem dX4_valueOf_6 : decode cX4_valueOf 6 = .ok (.iconst 0, 1) := by decide +kernel
theorem dX4_valueOf_7 : decode cX4_valueOf 7 = .ok (.istore_n 2, 1) := by decide +kernel
theorem dX4_valueOf_8 : decode cX4_valueOf 8 = .ok (.aload_n 1, 1) := by decide +kernel
theorem dX4_valueOf_9 : decode cX4_valueOf 9 = .ok (.getfield 48, 3) := by decide +kernel
theorem dX4_valueOf_12 : decode cX4_valueOf 12 = .ok (.arraylength, 1) := by decide +kernel
theorem dX4_valueOf_13 : decode cX4_valueOf 13 = .ok (.iconst 1, 1) := by decide +kernel
theorem dX4_valueOf_14 : decode cX4_valueOf 14 = .ok (.isub, 1) := by decide +kernel
theorem dX4_valueOf_15 : decode cX4_valueOf 15 = .ok (.istore_n 3, 1) := by decide +kernel
theorem dX4_valueOf_16 : decode cX4_valueOf 16 = .ok (.iload_n 3, 1) := by decide +kernel
theorem dX4_valueOf_17 : decode cX4_valueOf 17 = .ok (.ifCond .lt 127, 3) := by decide +kernel
theorem dX4_valueOf_20 : decode cX4_valueOf 20 = .ok (.aload_n 1, 1) := by decide +kernel
theorem dX4_valueOf_21 : decode cX4_valueOf 21 = .ok (.getfield 48, 3) := by decide +kernel
theorem dX4_valueOf_24 : decode cX4_valueOf 24 = .ok (.iload_n 3, 1) := by decide +kernel
theorem dX4_valueOf_25 : decode cX4_valueOf 25 = .ok (.iaload, 1) := by decide +kernel
theorem dX4_valueOf_26 : decode cX4_valueOf 26 = .ok (.istore 4, 2) := by decide +kernel
theorem dX4_valueOf_28 : decode cX4_valueOf 28 = .ok (.iload 4, 2) := by decide +kernel
theorem dX4_valueOf_30 : decode cX4_valueOf 30 = .ok (.invokestatic 53, 3) := by decide +kernel
theorem dX4_valueOf_33 : decode cX4_valueOf 33 = .ok (.ifCond .ne 27, 3) := by decide +kernel
theorem dX4_valueOf_36 : decode cX4_valueOf 36 = .ok (.iload_n 2, 1) := by decide +kernel
theorem dX4_valueOf_37 : decode cX4_valueOf 37 = .ok (.bipush 100, 2) := by decide +kernel
theorem dX4_valueOf_39 : decode cX4_valueOf 39 = .ok (.if_icmp .ge 99, 3) := by decide +kernel
theorem dX4_valueOf_42 : decode cX4_valueOf 42 = .ok (.aload_n 0, 1) := by decide +kernel
theorem dX4_valueOf_43 : decode cX4_valueOf 43 = .ok (.getfield 23, 3) := by decide +kernel
theorem dX4_valueOf_46 : decode cX4_valueOf 46 = .ok (.iload_n 2, 1) := by decide +kernel
theorem dX4_valueOf_47 : decode cX4_valueOf 47 = .ok (.aload_n 0, 1) := by decide +kernel
theorem dX4_valueOf_48 : decode cX4_valueOf 48 = .ok (.iload 4, 2) := by decide +kernel
theorem dX4_valueOf_50 : decode cX4_valueOf 50 = .ok (.invokevirtual 57, 3) := by decide +kernel
theorem dX4_valueOf_53 : decode cX4_valueOf 53 = .ok (.iastore, 1) := by decide +kernel
theorem dX4_valueOf_54 : decode cX4_valueOf 54 = .ok (.iinc 2 1, 3) := by decide +kernel
theorem dX4_valueOf_57 : decode cX4_valueOf 57 = .ok (.goto 81, 3) := by decide +kernel
theorem dX4_valueOf_60 : decode cX4_valueOf 60 = .ok (.iload 4, 2) := by decide +kernel
theorem dX4_valueOf_62 : decode cX4_valueOf 62 = .ok (.bipush (-33), 2) := by decide +kernel
theorem dX4_valueOf_64 : decode cX4_valueOf 64 = .ok (.if_icmp .ne 38, 3) := by decide +kernel
theorem dX4_valueOf_67 : decode cX4_valueOf 67 = .ok (.iload_n 2, 1) := by decide +kernel
theorem dX4_valueOf_68 : decode cX4_valueOf 68 = .ok (.iconst 1, 1) := by decide +kernel
theorem dX4_valueOf_69 : decode cX4_valueOf 69 = .ok (.if_icmp .lt 69, 3) := by decide +kernel
theorem dX4_valueOf_72 : decode cX4_valueOf 72 = .ok (.aload_n 0, 1) := by decide +kernel
theorem dX4_valueOf_73 : decode cX4_valueOf 73 = .ok (.getfield 23, 3) := by decide +kernel
theorem dX4_valueOf_76 : decode cX4_valueOf 76 = .ok (.iload_n 2, 1) := by decide +kernel
theorem dX4_valueOf_77 : decode cX4_valueOf 77 = .ok (.iconst 1, 1) := by decide +kernel
theorem dX4_valueOf_78 : decode cX4_valueOf 78 = .ok (.isub, 1) := by decide +kernel
theorem dX4_valueOf_79 : decode cX4_valueOf 79 = .ok (.aload_n 0, 1) := by decide +kernel
theorem dX4_valueOf_80 : decode cX4_valueOf 80 = .ok (.getfield 23, 3) := by decide +kernel
theorem dX4_valueOf_83 : decode cX4_valueOf 83 = .ok (.iload_n 2, 1) := by decide +kernel
theorem dX4_valueOf_84 : decode cX4_valueOf 84 = .ok (.iconst 1, 1) := by decide +kernel
theorem dX4_valueOf_85 : decode cX4_valueOf 85 = .ok (.isub, 1) := by decide +kernel
theorem dX4_valueOf_86 : decode cX4_valueOf 86 = .ok (.iaload, 1) := by decide +kernel
theorem dX4_valueOf_87 : decode cX4_valueOf 87 = .ok (.ifCond .ne 7, 3) := by decide +kernel
theorem dX4_valueOf_90 : decode cX4_valueOf 90 = .ok (.iconst 1, 1) := by decide +kernel
theorem dX4_valueOf_91 : decode cX4_valueOf 91 = .ok (.goto 4, 3) := by decide +kernel
theorem dX4_valueOf_94 : decode cX4_valueOf 94 = .ok (.iconst 0, 1) := by decide +kernel
theorem dX4_valueOf_95 : decode cX4_valueOf 95 = .ok (.invokestatic 61, 3) := by decide +kernel
theorem dX4_valueOf_98 : decode cX4_valueOf 98 = .ok (.iastore, 1) := by decide +kernel
theorem dX4_valueOf_99 : decode cX4_valueOf 99 = .ok (.goto 39, 3) := by decide +kernel
theorem dX4_valueOf_102 : decode cX4_valueOf 102 = .ok (.iload_n 2, 1) := by decide +kernel
theorem dX4_valueOf_103 : decode cX4_valueOf 103 = .ok (.iconst 2, 1) := by decide +kernel
theorem dX4_valueOf_104 : decode cX4_valueOf 104 = .ok (.if_icmp .lt 34, 3) := by decide +kernel
theorem dX4_valueOf_107 : decode cX4_valueOf 107 = .ok (.iinc 2 (-1), 3) := by decide +kernel
theorem dX4_valueOf_110 : decode cX4_valueOf 110 = .ok (.aload_n 0, 1) := by decide +kernel
theorem dX4_valueOf_111 : decode cX4_valueOf 111 = .ok (.getfield 23, 3) := by decide +kernel
theorem dX4_valueOf_114 : decode cX4_valueOf 114 = .ok (.iload_n 2, 1) := by decide +kernel
theorem dX4_valueOf_115 : decode cX4_valueOf 115 = .ok (.iconst 1, 1) := by decide +kernel
theorem dX4_valueOf_116 : decode cX4_valueOf 116 = .ok (.isub, 1) := by decide +kernel
theorem dX4_valueOf_117 : decode cX4_valueOf 117 = .ok (.iload 4, 2) := by decide +kernel
theorem dX4_valueOf_119 : decode cX4_valueOf 119 = .ok (.ineg, 1) := by decide +kernel
theorem dX4_valueOf_120 : decode cX4_valueOf 120 = .ok (.aload_n 0, 1) := by decide +kernel
theorem dX4_valueOf_121 : decode cX4_valueOf 121 = .ok (.getfield 23, 3) := by decide +kernel
theorem dX4_valueOf_124 : decode cX4_valueOf 124 = .ok (.iload_n 2, 1) := by decide +kernel
theorem dX4_valueOf_125 : decode cX4_valueOf 125 = .ok (.iaload, 1) := by decide +kernel
theorem dX4_valueOf_126 : decode cX4_valueOf 126 = .ok (.aload_n 0, 1) := by decide +kernel
theorem dX4_valueOf_127 : decode cX4_valueOf 127 = .ok (.getfield 23, 3) := by decide +kernel
theorem dX4_valueOf_130 : decode cX4_valueOf 130 = .ok (.iload_n 2, 1) := by decide +kernel
theorem dX4_valueOf_131 : decode cX4_valueOf 131 = .ok (.iconst 1, 1) := by decide +kernel
theorem dX4_valueOf_132 : decode cX4_valueOf 132 = .ok (.isub, 1) := by decide +kernel
theorem dX4_valueOf_133 : decode cX4_valueOf 133 = .ok (.iaload, 1) := by decide +kernel
theorem dX4_valueOf_134 : decode cX4_valueOf 134 = .ok (.invokestatic 65, 3) := by decide +kernel
theorem dX4_valueOf_137 : decode cX4_valueOf 137 = .ok (.iastore, 1) := by decide +kernel
theorem dX4_valueOf_138 : decode cX4_valueOf 138 = .ok (.iinc 3 (-1), 3) := by decide +kernel
theorem dX4_valueOf_141 : decode cX4_valueOf 141 = .ok (.goto (-125), 3) := by decide +kernel
theorem dX4_valueOf_144 : decode cX4_valueOf 144 = .ok (.iload_n 2, 1) := by decide +kernel
theorem dX4_valueOf_145 : decode cX4_valueOf 145 = .ok (.ifCond .le 14, 3) := by decide +kernel
theorem dX4_valueOf_148 : decode cX4_valueOf 148 = .ok (.aload_n 0, 1) := by decide +kernel
theorem dX4_valueOf_149 : decode cX4_valueOf 149 = .ok (.getfield 23, 3) := by decide +kernel
theorem dX4_valueOf_152 : decode cX4_valueOf 152 = .ok (.iload_n 2, 1) := by decide +kernel
theorem dX4_valueOf_153 : decode cX4_valueOf 153 = .ok (.iconst 1, 1) := by decide +kernel
theorem dX4_valueOf_154 : decode cX4_valueOf 154 = .ok (.isub, 1) := by decide +kernel
theorem dX4_valueOf_155 : decode cX4_valueOf 155 = .ok (.iaload, 1) := by decide +kernel
theorem dX4_valueOf_156 : decode cX4_valueOf 156 = .ok (.goto 4, 3) := by decide +kernel
theorem dX4_valueOf_159 : decode cX4_valueOf 159 = .ok (.iconst 0, 1) := by decide +kernel
theorem dX4_valueOf_160 : decode cX4_valueOf 160 = .ok (.ireturn, 1) := by decide +kernel
theorem dX4_isSign_0 : decode cX4_isSign 0 = .ok (.iload_n 0, 1) := by decide +kernel
theorem dX4_isSign_1 : decode cX4_isSign 1 = .ok (.ifCond .ge 18, 3) := by decide +kernel
theorem dX4_isSign_4 : decode cX4_isSign 4 = .ok (.ldc 69, 2) := by decide +kernel
theorem dX4_isSign_6 : decode cX4_isSign 6 = .ok (.iload_n 0, 1) := by decide +kernel
theorem dX4_isSign_7 : decode cX4_isSign 7 = .ok (.ineg, 1) := by decide +kernel
theorem dX4_isSign_8 : decode cX4_isSign 8 = .ok (.i2c, 1) := by decide +kernel
theorem dX4_isSign_9 : decode cX4_isSign 9 = .ok (.invokevirtual 71, 3) := by decide +kernel
theorem dX4_isSign_12 : decode cX4_isSign 12 = .ok (.ifCond .lt 7, 3) := by decide +kernel
theorem dX4_isSign_15 : decode cX4_isSign 15 = .ok (.iconst 1, 1) := by decide +kernel
theorem dX4_isSign_16 : decode cX4_isSign 16 = .ok (.goto 4, 3) := by decide +kernel
theorem dX4_isSign_19 : decode cX4_isSign 19 = .ok (.iconst 0, 1) := by decide +kernel
theorem dX4_isSign_20 : decode cX4_isSign 20 = .ok (.ireturn, 1) := by decide +kernel
theorem dX4_meaningOf_0 : decode cX4_meaningOf 0 = .ok (.iload_n 1, 1) := by decide +kernel
theorem dX4_meaningOf_1 : decode cX4_meaningOf 1 = .ok (.ifCond .lt 5, 3) := by decide +kernel
theorem dX4_meaningOf_4 : decode cX4_meaningOf 4 = .ok (.iload_n 1, 1) := by decide +kernel
theorem dX4_meaningOf_5 : decode cX4_meaningOf 5 = .ok (.ireturn, 1) := by decide +kernel
theorem dX4_meaningOf_6 : decode cX4_meaningOf 6 = .ok (.ldc 9, 2) := by decide +kernel
theorem dX4_meaningOf_8 : decode cX4_meaningOf 8 = .ok (.iload_n 1, 1) := by decide +kernel
theorem dX4_meaningOf_9 : decode cX4_meaningOf 9 = .ok (.ineg, 1) := by decide +kernel
theorem dX4_meaningOf_10 : decode cX4_meaningOf 10 = .ok (.i2c, 1) := by decide +kernel
theorem dX4_meaningOf_11 : decode cX4_meaningOf 11 = .ok (.invokevirtual 71, 3) := by decide +kernel
theorem dX4_meaningOf_14 : decode cX4_meaningOf 14 = .ok (.istore_n 2, 1) := by decide +kernel
theorem dX4_meaningOf_15 : decode cX4_meaningOf 15 = .ok (.iload_n 2, 1) := by decide +kernel
theorem dX4_meaningOf_16 : decode cX4_meaningOf 16 = .ok (.ifCond .ge 7, 3) := by decide +kernel
theorem dX4_meaningOf_19 : decode cX4_meaningOf 19 = .ok (.iconst 0, 1) := by decide +kernel
theorem dX4_meaningOf_20 : decode cX4_meaningOf 20 = .ok (.goto 9, 3) := by decide +kernel
theorem dX4_meaningOf_23 : decode cX4_meaningOf 23 = .ok (.aload_n 0, 1) := by decide +kernel
theorem dX4_meaningOf_24 : decode cX4_meaningOf 24 = .ok (.getfield 17, 3) := by decide +kernel
theorem dX4_meaningOf_27 : decode cX4_meaningOf 27 = .ok (.iload_n 2, 1) := by decide +kernel
theorem dX4_meaningOf_28 : decode cX4_meaningOf 28 = .ok (.iaload, 1) := by decide +kernel
theorem dX4_meaningOf_29 : decode cX4_meaningOf 29 = .ok (.ireturn, 1) := by decide +kernel
theorem dX4_truth_0 : decode cX4_truth 0 = .ok (.iload_n 0, 1) := by decide +kernel
theorem dX4_truth_1 : decode cX4_truth 1 = .ok (.ifCond .eq 7, 3) := by decide +kernel
theorem dX4_truth_4 : decode cX4_truth 4 = .ok (.iconst 1, 1) := by decide +kernel
theorem dX4_truth_5 : decode cX4_truth 5 = .ok (.goto 4, 3) := by decide +kernel
theorem dX4_truth_8 : decode cX4_truth 8 = .ok (.iconst 0, 1) := by decide +kernel
theorem dX4_truth_9 : decode cX4_truth 9 = .ok (.ireturn, 1) := by decide +kernel
theorem dX4_join_0 : decode cX4_join 0 = .ok (.iload_n 0, 1) := by decide +kernel
theorem dX4_join_1 : decode cX4_join 1 = .ok (.lookupswitch 163 #[(38, 129), (42, 83), (43, 75), (45, 79), (60, 87), (61, 101), (62, 115), (124, 146)], 75) := by decide +kernel
theorem dX4_join_76 : decode cX4_join 76 = .ok (.iload_n 1, 1) := by decide +kernel
theorem dX4_join_77 : decode cX4_join 77 = .ok (.iload_n 2, 1) := by decide +kernel
theorem dX4_join_78 : decode cX4_join 78 = .ok (.iadd, 1) := by decide +kernel
theorem dX4_join_79 : decode cX4_join 79 = .ok (.ireturn, 1) := by decide +kernel
theorem dX4_join_80 : decode cX4_join 80 = .ok (.iload_n 1, 1) := by decide +kernel
theorem dX4_join_81 : decode cX4_join 81 = .ok (.iload_n 2, 1) := by decide +kernel
theorem dX4_join_82 : decode cX4_join 82 = .ok (.isub, 1) := by decide +kernel
theorem dX4_join_83 : decode cX4_join 83 = .ok (.ireturn, 1) := by decide +kernel
theorem dX4_join_84 : decode cX4_join 84 = .ok (.iload_n 1, 1) := by decide +kernel
theorem dX4_join_85 : decode cX4_join 85 = .ok (.iload_n 2, 1) := by decide +kernel
theorem dX4_join_86 : decode cX4_join 86 = .ok (.imul, 1) := by decide +kernel
theorem dX4_join_87 : decode cX4_join 87 = .ok (.ireturn, 1) := by decide +kernel
theorem dX4_join_88 : decode cX4_join 88 = .ok (.iload_n 1, 1) := by decide +kernel
theorem dX4_join_89 : decode cX4_join 89 = .ok (.iload_n 2, 1) := by decide +kernel
theorem dX4_join_90 : decode cX4_join 90 = .ok (.if_icmp .ge 7, 3) := by decide +kernel
theorem dX4_join_93 : decode cX4_join 93 = .ok (.iconst 1, 1) := by decide +kernel
theorem dX4_join_94 : decode cX4_join 94 = .ok (.goto 4, 3) := by decide +kernel
theorem dX4_join_97 : decode cX4_join 97 = .ok (.iconst 0, 1) := by decide +kernel
theorem dX4_join_98 : decode cX4_join 98 = .ok (.invokestatic 61, 3) := by decide +kernel
theorem dX4_join_101 : decode cX4_join 101 = .ok (.ireturn, 1) := by decide +kernel
theorem dX4_join_102 : decode cX4_join 102 = .ok (.iload_n 1, 1) := by decide +kernel
theorem dX4_join_103 : decode cX4_join 103 = .ok (.iload_n 2, 1) := by decide +kernel
theorem dX4_join_104 : decode cX4_join 104 = .ok (.if_icmp .ne 7, 3) := by decide +kernel
theorem dX4_join_107 : decode cX4_join 107 = .ok (.iconst 1, 1) := by decide +kernel
theorem dX4_join_108 : decode cX4_join 108 = .ok (.goto 4, 3) := by decide +kernel
theorem dX4_join_111 : decode cX4_join 111 = .ok (.iconst 0, 1) := by decide +kernel
theorem dX4_join_112 : decode cX4_join 112 = .ok (.invokestatic 61, 3) := by decide +kernel
theorem dX4_join_115 : decode cX4_join 115 = .ok (.ireturn, 1) := by decide +kernel
theorem dX4_join_116 : decode cX4_join 116 = .ok (.iload_n 1, 1) := by decide +kernel
theorem dX4_join_117 : decode cX4_join 117 = .ok (.iload_n 2, 1) := by decide +kernel
theorem dX4_join_118 : decode cX4_join 118 = .ok (.if_icmp .le 7, 3) := by decide +kernel
theorem dX4_join_121 : decode cX4_join 121 = .ok (.iconst 1, 1) := by decide +kernel
theorem dX4_join_122 : decode cX4_join 122 = .ok (.goto 4, 3) := by decide +kernel
theorem dX4_join_125 : decode cX4_join 125 = .ok (.iconst 0, 1) := by decide +kernel
theorem dX4_join_126 : decode cX4_join 126 = .ok (.invokestatic 61, 3) := by decide +kernel
theorem dX4_join_129 : decode cX4_join 129 = .ok (.ireturn, 1) := by decide +kernel
theorem dX4_join_130 : decode cX4_join 130 = .ok (.iload_n 1, 1) := by decide +kernel
theorem dX4_join_131 : decode cX4_join 131 = .ok (.ifCond .eq 11, 3) := by decide +kernel
theorem dX4_join_134 : decode cX4_join 134 = .ok (.iload_n 2, 1) := by decide +kernel
theorem dX4_join_135 : decode cX4_join 135 = .ok (.ifCond .eq 7, 3) := by decide +kernel
theorem dX4_join_138 : decode cX4_join 138 = .ok (.iconst 1, 1) := by decide +kernel
theorem dX4_join_139 : decode cX4_join 139 = .ok (.goto 4, 3) := by decide +kernel
theorem dX4_join_142 : decode cX4_join 142 = .ok (.iconst 0, 1) := by decide +kernel
theorem dX4_join_143 : decode cX4_join 143 = .ok (.invokestatic 61, 3) := by decide +kernel
theorem dX4_join_146 : decode cX4_join 146 = .ok (.ireturn, 1) := by decide +kernel
theorem dX4_join_147 : decode cX4_join 147 = .ok (.iload_n 1, 1) := by decide +kernel
theorem dX4_join_148 : decode cX4_join 148 = .ok (.ifCond .ne 7, 3) := by decide +kernel
theorem dX4_join_151 : decode cX4_join 151 = .ok (.iload_n 2, 1) := by decide +kernel
theorem dX4_join_152 : decode cX4_join 152 = .ok (.ifCond .eq 7, 3) := by decide +kernel
theorem dX4_join_155 : decode cX4_join 155 = .ok (.iconst 1, 1) := by decide +kernel
theorem dX4_join_156 : decode cX4_join 156 = .ok (.goto 4, 3) := by decide +kernel
theorem dX4_join_159 : decode cX4_join 159 = .ok (.iconst 0, 1) := by decide +kernel
theorem dX4_join_160 : decode cX4_join 160 = .ok (.invokestatic 61, 3) := by decide +kernel
theorem dX4_join_163 : decode cX4_join 163 = .ok (.ireturn, 1) := by decide +kernel
theorem dX4_join_164 : decode cX4_join 164 = .ok (.iconst 0, 1) := by decide +kernel
theorem dX4_join_165 : decode cX4_join 165 = .ok (.ireturn, 1) := by decide +kernel
theorem dX5_init_0 : decode cX5_init 0 = .ok (.aload_n 0, 1) := by decide +kernel
theorem dX5_init_1 : decode cX5_init 1 = .ok (.invokespecial 3, 3) := by decide +kernel
theorem dX5_init_4 : decode cX5_init 4 = .ok (.aload_n 0, 1) := by decide +kernel
theorem dX5_init_5 : decode cX5_init 5 = .ok (.bipush 40, 2) := by decide +kernel
theorem dX5_init_7 : decode cX5_init 7 = .ok (.newarray .int, 2) := by decide +kernel
theorem dX5_init_9 : decode cX5_init 9 = .ok (.putfield 9, 3) := by decide +kernel
theorem dX5_init_12 : decode cX5_init 12 = .ok (.aload_n 0, 1) := by decide +kernel
theorem dX5_init_13 : decode cX5_init 13 = .ok (.bipush 40, 2) := by decide +kernel
theorem dX5_init_15 : decode cX5_init 15 = .ok (.newarray .int, 2) := by decide +kernel
theorem dX5_init_17 : decode cX5_init 17 = .ok (.putfield 15, 3) := by decide +kernel
theorem dX5_init_20 : decode cX5_init 20 = .ok (.return_, 1) := by decide +kernel
theorem dX5_weigh_0 : decode cX5_weigh 0 = .ok (.aload_n 0, 1) := by decide +kernel
theorem dX5_weigh_1 : decode cX5_weigh 1 = .ok (.getfield 9, 3) := by decide +kernel
theorem dX5_weigh_4 : decode cX5_weigh 4 = .ok (.iconst 0, 1) := by decide +kernel
theorem dX5_weigh_5 : decode cX5_weigh 5 = .ok (.invokestatic 18, 3) := by decide +kernel
theorem dX5_weigh_8 : decode cX5_weigh 8 = .ok (.aload_n 0, 1) := by decide +kernel
theorem dX5_weigh_9 : decode cX5_weigh 9 = .ok (.getfield 15, 3) := by decide +kernel
theorem dX5_weigh_12 : decode cX5_weigh 12 = .ok (.iconst 0, 1) := by decide +kernel
theorem dX5_weigh_13 : decode cX5_weigh 13 = .ok (.invokestatic 18, 3) := by decide +kernel
theorem dX5_weigh_16 : decode cX5_weigh 16 = .ok (.aload_n 1, 1) := by decide +kernel
theorem dX5_weigh_17 : decode cX5_weigh 17 = .ok (.getfield 24, 3) := by decide +kernel
theorem dX5_weigh_20 : decode cX5_weigh 20 = .ok (.iconst 1, 1) := by decide +kernel
theorem dX5_weigh_21 : decode cX5_weigh 21 = .ok (.isub, 1) := by decide +kernel
theorem dX5_weigh_22 : decode cX5_weigh 22 = .ok (.istore_n 2, 1) := by decide +kernel
theorem dX5_weigh_23 : decode cX5_weigh 23 = .ok (.iload_n 2, 1) := by decide +kernel
theorem dX5_weigh_24 : decode cX5_weigh 24 = .ok (.ifCond .lt 66, 3) := by decide +kernel
theorem dX5_weigh_27 : decode cX5_weigh 27 = .ok (.aload_n 1, 1) := by decide +kernel
theorem dX5_weigh_28 : decode cX5_weigh 28 = .ok (.iload_n 2, 1) := by decide +kernel
theorem dX5_weigh_29 : decode cX5_weigh 29 = .ok (.invokevirtual 30, 3) := by decide +kernel
theorem dX5_weigh_32 : decode cX5_weigh 32 = .ok (.astore_n 3, 1) := by decide +kernel
theorem dX5_weigh_33 : decode cX5_weigh 33 = .ok (.aload_n 3, 1) := by decide +kernel
theorem dX5_weigh_34 : decode cX5_weigh 34 = .ok (.ifnull 50, 3) := by decide +kernel
theorem dX5_weigh_37 : decode cX5_weigh 37 = .ok (.aload_n 0, 1) := by decide +kernel
theorem dX5_weigh_38 : decode cX5_weigh 38 = .ok (.getfield 9, 3) := by decide +kernel
theorem dX5_weigh_41 : decode cX5_weigh 41 = .ok (.iload_n 2, 1) := by decide +kernel
theorem dX5_weigh_42 : decode cX5_weigh 42 = .ok (.dup2, 1) := by decide +kernel
theorem dX5_weigh_43 : decode cX5_weigh 43 = .ok (.iaload, 1) := by decide +kernel
theorem dX5_weigh_44 : decode cX5_weigh 44 = .ok (.aload_n 3, 1) := by decide +kernel
theorem dX5_weigh_45 : decode cX5_weigh 45 = .ok (.getfield 34, 3) := by decide +kernel
theorem dX5_weigh_48 : decode cX5_weigh 48 = .ok (.aload_n 3, 1) := by decide +kernel
theorem dX5_weigh_49 : decode cX5_weigh 49 = .ok (.getfield 39, 3) := by decide +kernel
theorem dX5_weigh_52 : decode cX5_weigh 52 = .ok (.imul, 1) := by decide +kernel
theorem dX5_weigh_53 : decode cX5_weigh 53 = .ok (.iadd, 1) := by decide +kernel
theorem dX5_weigh_54 : decode cX5_weigh 54 = .ok (.iastore, 1) := by decide +kernel
theorem dX5_weigh_55 : decode cX5_weigh 55 = .ok (.aload_n 3, 1) := by decide +kernel
theorem dX5_weigh_56 : decode cX5_weigh 56 = .ok (.invokevirtual 42, 3) := by decide +kernel
theorem dX5_weigh_59 : decode cX5_weigh 59 = .ok (.ifCond .ne 25, 3) := by decide +kernel
theorem dX5_weigh_62 : decode cX5_weigh 62 = .ok (.aload_n 0, 1) := by decide +kernel
theorem dX5_weigh_63 : decode cX5_weigh 63 = .ok (.aload_n 3, 1) := by decide +kernel
theorem dX5_weigh_64 : decode cX5_weigh 64 = .ok (.aload_n 0, 1) := by decide +kernel
theorem dX5_weigh_65 : decode cX5_weigh 65 = .ok (.getfield 9, 3) := by decide +kernel
theorem dX5_weigh_68 : decode cX5_weigh 68 = .ok (.iload_n 2, 1) := by decide +kernel
theorem dX5_weigh_69 : decode cX5_weigh 69 = .ok (.iaload, 1) := by decide +kernel
theorem dX5_weigh_70 : decode cX5_weigh 70 = .ok (.invokevirtual 46, 3) := by decide +kernel
theorem dX5_weigh_73 : decode cX5_weigh 73 = .ok (.aload_n 0, 1) := by decide +kernel
theorem dX5_weigh_74 : decode cX5_weigh 74 = .ok (.aload_n 3, 1) := by decide +kernel
theorem dX5_weigh_75 : decode cX5_weigh 75 = .ok (.aload_n 0, 1) := by decide +kernel
theorem dX5_weigh_76 : decode cX5_weigh 76 = .ok (.getfield 9, 3) := by decide +kernel
theorem dX5_weigh_79 : decode cX5_weigh 79 = .ok (.iload_n 2, 1) := by decide +kernel
theorem dX5_weigh_80 : decode cX5_weigh 80 = .ok (.iaload, 1) := by decide +kernel
theorem dX5_weigh_81 : decode cX5_weigh 81 = .ok (.invokevirtual 50, 3) := by decide +kernel
theorem dX5_weigh_84 : decode cX5_weigh 84 = .ok (.iinc 2 (-1), 3) := by decide +kernel
theorem dX5_weigh_87 : decode cX5_weigh 87 = .ok (.goto (-64), 3) := by decide +kernel
theorem dX5_weigh_90 : decode cX5_weigh 90 = .ok (.return_, 1) := by decide +kernel
theorem dX5_passDown_0 : decode cX5_passDown 0 = .ok (.iconst 0, 1) := by decide +kernel
theorem dX5_passDown_1 : decode cX5_passDown 1 = .ok (.istore_n 3, 1) := by decide +kernel
theorem dX5_passDown_2 : decode cX5_passDown 2 = .ok (.iload_n 3, 1) := by decide +kernel
theorem dX5_passDown_3 : decode cX5_passDown 3 = .ok (.aload_n 1, 1) := by decide +kernel
theorem dX5_passDown_4 : decode cX5_passDown 4 = .ok (.getfield 53, 3) := by decide +kernel
theorem dX5_passDown_7 : decode cX5_passDown 7 = .ok (.if_icmp .ge 29, 3) := by decide +kernel
theorem dX5_passDown_10 : decode cX5_passDown 10 = .ok (.aload_n 0, 1) := by decide +kernel
theorem dX5_passDown_11 : decode cX5_passDown 11 = .ok (.getfield 9, 3) := by decide +kernel
theorem dX5_passDown_14 : decode cX5_passDown 14 = .ok (.aload_n 1, 1) := by decide +kernel
theorem dX5_passDown_15 : decode cX5_passDown 15 = .ok (.getfield 56, 3) := by decide +kernel
theorem dX5_passDown_18 : decode cX5_passDown 18 = .ok (.iload_n 3, 1) := by decide +kernel
theorem dX5_passDown_19 : decode cX5_passDown 19 = .ok (.iaload, 1) := by decide +kernel
theorem dX5_passDown_20 : decode cX5_passDown 20 = .ok (.dup2, 1) := by decide +kernel
theorem dX5_passDown_21 : decode cX5_passDown 21 = .ok (.iaload, 1) := by decide +kernel
theorem dX5_passDown_22 : decode cX5_passDown 22 = .ok (.aload_n 1, 1) := by decide +kernel
theorem dX5_passDown_23 : decode cX5_passDown 23 = .ok (.iload_n 2, 1) := by decide +kernel
theorem dX5_passDown_24 : decode cX5_passDown 24 = .ok (.iload_n 3, 1) := by decide +kernel
theorem dX5_passDown_25 : decode cX5_passDown 25 = .ok (.invokevirtual 59, 3) := by decide +kernel
theorem dX5_passDown_28 : decode cX5_passDown 28 = .ok (.iadd, 1) := by decide +kernel
theorem dX5_passDown_29 : decode cX5_passDown 29 = .ok (.iastore, 1) := by decide +kernel
theorem dX5_passDown_30 : decode cX5_passDown 30 = .ok (.iinc 3 1, 3) := by decide +kernel
theorem dX5_passDown_33 : decode cX5_passDown 33 = .ok (.goto (-31), 3) := by decide +kernel
theorem dX5_passDown_36 : decode cX5_passDown 36 = .ok (.return_, 1) := by decide +kernel
theorem dX5_pushAside_0 : decode cX5_pushAside 0 = .ok (.aload_n 1, 1) := by decide +kernel
theorem dX5_pushAside_1 : decode cX5_pushAside 1 = .ok (.getfield 63, 3) := by decide +kernel
theorem dX5_pushAside_4 : decode cX5_pushAside 4 = .ok (.iconst 1, 1) := by decide +kernel
theorem dX5_pushAside_5 : decode cX5_pushAside 5 = .ok (.if_icmp .ne 60, 3) := by decide +kernel
theorem dX5_pushAside_8 : decode cX5_pushAside 8 = .ok (.aload_n 1, 1) := by decide +kernel
theorem dX5_pushAside_9 : decode cX5_pushAside 9 = .ok (.invokevirtual 66, 3) := by decide +kernel
theorem dX5_pushAside_12 : decode cX5_pushAside 12 = .ok (.ifCond .eq 53, 3) := by decide +kernel
theorem dX5_pushAside_15 : decode cX5_pushAside 15 = .ok (.aload_n 1, 1) := by decide +kernel
theorem dX5_pushAside_16 : decode cX5_pushAside 16 = .ok (.getfield 53, 3) := by decide +kernel
theorem dX5_pushAside_19 : decode cX5_pushAside 19 = .ok (.iconst 2, 1) := by decide +kernel
theorem dX5_pushAside_20 : decode cX5_pushAside 20 = .ok (.if_icmp .lt 45, 3) := by decide +kernel
theorem dX5_pushAside_23 : decode cX5_pushAside 23 = .ok (.iload_n 2, 1) := by decide +kernel
theorem dX5_pushAside_24 : decode cX5_pushAside 24 = .ok (.aload_n 1, 1) := by decide +kernel
theorem dX5_pushAside_25 : decode cX5_pushAside 25 = .ok (.getfield 69, 3) := by decide +kernel
theorem dX5_pushAside_28 : decode cX5_pushAside 28 = .ok (.iconst 2, 1) := by decide +kernel
theorem dX5_pushAside_29 : decode cX5_pushAside 29 = .ok (.iaload, 1) := by decide +kernel
theorem dX5_pushAside_30 : decode cX5_pushAside 30 = .ok (.imul, 1) := by decide +kernel
theorem dX5_pushAside_31 : decode cX5_pushAside 31 = .ok (.bipush 100, 2) := by decide +kernel
theorem dX5_pushAside_33 : decode cX5_pushAside 33 = .ok (.idiv, 1) := by decide +kernel
theorem dX5_pushAside_34 : decode cX5_pushAside 34 = .ok (.istore_n 3, 1) := by decide +kernel
theorem dX5_pushAside_35 : decode cX5_pushAside 35 = .ok (.aload_n 0, 1) := by decide +kernel
theorem dX5_pushAside_36 : decode cX5_pushAside 36 = .ok (.getfield 15, 3) := by decide +kernel
theorem dX5_pushAside_39 : decode cX5_pushAside 39 = .ok (.aload_n 1, 1) := by decide +kernel
theorem dX5_pushAside_40 : decode cX5_pushAside 40 = .ok (.getfield 56, 3) := by decide +kernel
theorem dX5_pushAside_43 : decode cX5_pushAside 43 = .ok (.iconst 0, 1) := by decide +kernel
theorem dX5_pushAside_44 : decode cX5_pushAside 44 = .ok (.iaload, 1) := by decide +kernel
theorem dX5_pushAside_45 : decode cX5_pushAside 45 = .ok (.dup2, 1) := by decide +kernel
theorem dX5_pushAside_46 : decode cX5_pushAside 46 = .ok (.iaload, 1) := by decide +kernel
theorem dX5_pushAside_47 : decode cX5_pushAside 47 = .ok (.iload_n 3, 1) := by decide +kernel
theorem dX5_pushAside_48 : decode cX5_pushAside 48 = .ok (.isub, 1) := by decide +kernel
theorem dX5_pushAside_49 : decode cX5_pushAside 49 = .ok (.iastore, 1) := by decide +kernel
theorem dX5_pushAside_50 : decode cX5_pushAside 50 = .ok (.aload_n 0, 1) := by decide +kernel
theorem dX5_pushAside_51 : decode cX5_pushAside 51 = .ok (.getfield 15, 3) := by decide +kernel
theorem dX5_pushAside_54 : decode cX5_pushAside 54 = .ok (.aload_n 1, 1) := by decide +kernel
theorem dX5_pushAside_55 : decode cX5_pushAside 55 = .ok (.getfield 56, 3) := by decide +kernel
theorem dX5_pushAside_58 : decode cX5_pushAside 58 = .ok (.iconst 1, 1) := by decide +kernel
theorem dX5_pushAside_59 : decode cX5_pushAside 59 = .ok (.iaload, 1) := by decide +kernel
theorem dX5_pushAside_60 : decode cX5_pushAside 60 = .ok (.dup2, 1) := by decide +kernel
theorem dX5_pushAside_61 : decode cX5_pushAside 61 = .ok (.iaload, 1) := by decide +kernel
theorem dX5_pushAside_62 : decode cX5_pushAside 62 = .ok (.iload_n 3, 1) := by decide +kernel
theorem dX5_pushAside_63 : decode cX5_pushAside 63 = .ok (.iadd, 1) := by decide +kernel
theorem dX5_pushAside_64 : decode cX5_pushAside 64 = .ok (.iastore, 1) := by decide +kernel
theorem dX5_pushAside_65 : decode cX5_pushAside 65 = .ok (.return_, 1) := by decide +kernel
theorem dX5_leastFalling_0 : decode cX5_leastFalling 0 = .ok (.aload_n 0, 1) := by decide +kernel
theorem dX5_leastFalling_1 : decode cX5_leastFalling 1 = .ok (.aload_n 1, 1) := by decide +kernel
theorem dX5_leastFalling_2 : decode cX5_leastFalling 2 = .ok (.invokevirtual 72, 3) := by decide +kernel
theorem dX5_leastFalling_5 : decode cX5_leastFalling 5 = .ok (.iconst 0, 1) := by decide +kernel
theorem dX5_leastFalling_6 : decode cX5_leastFalling 6 = .ok (.istore_n 2, 1) := by decide +kernel
theorem dX5_leastFalling_7 : decode cX5_leastFalling 7 = .ok (.iload_n 2, 1) := by decide +kernel
theorem dX5_leastFalling_8 : decode cX5_leastFalling 8 = .ok (.aload_n 1, 1) := by decide +kernel
theorem dX5_leastFalling_9 : decode cX5_leastFalling 9 = .ok (.getfield 24, 3) := by decide +kernel
theorem dX5_leastFalling_12 : decode cX5_leastFalling 12 = .ok (.if_icmp .ge 87, 3) := by decide +kernel
theorem dX5_leastFalling_15 : decode cX5_leastFalling 15 = .ok (.aload_n 1, 1) := by decide +kernel
theorem dX5_leastFalling_16 : decode cX5_leastFalling 16 = .ok (.iload_n 2, 1) := by decide +kernel
theorem dX5_leastFalling_17 : decode cX5_leastFalling 17 = .ok (.invokevirtual 30, 3) := by decide +kernel
theorem dX5_leastFalling_20 : decode cX5_leastFalling 20 = .ok (.astore_n 3, 1) := by decide +kernel
theorem dX5_leastFalling_21 : decode cX5_leastFalling 21 = .ok (.aload_n 3, 1) := by decide +kernel
theorem dX5_leastFalling_22 : decode cX5_leastFalling 22 = .ok (.ifnull 71, 3) := by decide +kernel
theorem dX5_leastFalling_25 : decode cX5_leastFalling 25 = .ok (.aload_n 3, 1) := by decide +kernel
theorem dX5_leastFalling_26 : decode cX5_leastFalling 26 = .ok (.invokevirtual 66, 3) := by decide +kernel
theorem dX5_leastFalling_29 : decode cX5_leastFalling 29 = .ok (.ifCond .eq 64, 3) := by decide +kernel
theorem dX5_leastFalling_32 : decode cX5_leastFalling 32 = .ok (.aload_n 3, 1) := by decide +kernel
theorem dX5_leastFalling_33 : decode cX5_leastFalling 33 = .ok (.invokevirtual 42, 3) := by decide +kernel
theorem dX5_leastFalling_36 : decode cX5_leastFalling 36 = .ok (.ifCond .ne 57, 3) := by decide +kernel
theorem dX5_leastFalling_39 : decode cX5_leastFalling 39 = .ok (.aload_n 0, 1) := by decide +kernel
theorem dX5_leastFalling_40 : decode cX5_leastFalling 40 = .ok (.getfield 9, 3) := by decide +kernel
theorem dX5_leastFalling_43 : decode cX5_leastFalling 43 = .ok (.iload_n 2, 1) := by decide +kernel
theorem dX5_leastFalling_44 : decode cX5_leastFalling 44 = .ok (.iaload, 1) := by decide +kernel
theorem dX5_leastFalling_45 : decode cX5_leastFalling 45 = .ok (.aload_n 3, 1) := by decide +kernel
theorem dX5_leastFalling_46 : decode cX5_leastFalling 46 = .ok (.getfield 69, 3) := by decide +kernel
theorem dX5_leastFalling_49 : decode cX5_leastFalling 49 = .ok (.iconst 0, 1) := by decide +kernel
theorem dX5_leastFalling_50 : decode cX5_leastFalling 50 = .ok (.iaload, 1) := by decide +kernel
theorem dX5_leastFalling_51 : decode cX5_leastFalling 51 = .ok (.if_icmp .le 5, 3) := by decide +kernel
theorem dX5_leastFalling_54 : decode cX5_leastFalling 54 = .ok (.iload_n 2, 1) := by decide +kernel
theorem dX5_leastFalling_55 : decode cX5_leastFalling 55 = .ok (.ireturn, 1) := by decide +kernel
theorem dX5_leastFalling_56 : decode cX5_leastFalling 56 = .ok (.aload_n 0, 1) := by decide +kernel
theorem dX5_leastFalling_57 : decode cX5_leastFalling 57 = .ok (.getfield 15, 3) := by decide +kernel
theorem dX5_leastFalling_60 : decode cX5_leastFalling 60 = .ok (.iload_n 2, 1) := by decide +kernel
theorem dX5_leastFalling_61 : decode cX5_leastFalling 61 = .ok (.iaload, 1) := by decide +kernel
theorem dX5_leastFalling_62 : decode cX5_leastFalling 62 = .ok (.invokestatic 76, 3) := by decide +kernel
theorem dX5_leastFalling_65 : decode cX5_leastFalling 65 = .ok (.aload_n 3, 1) := by decide +kernel
theorem dX5_leastFalling_66 : decode cX5_leastFalling 66 = .ok (.getfield 69, 3) := by decide +kernel
theorem dX5_leastFalling_69 : decode cX5_leastFalling 69 = .ok (.iconst 1, 1) := by decide +kernel
theorem dX5_leastFalling_70 : decode cX5_leastFalling 70 = .ok (.iaload, 1) := by decide +kernel
theorem dX5_leastFalling_71 : decode cX5_leastFalling 71 = .ok (.aload_n 3, 1) := by decide +kernel
theorem dX5_leastFalling_72 : decode cX5_leastFalling 72 = .ok (.getfield 82, 3) := by decide +kernel
theorem dX5_leastFalling_75 : decode cX5_leastFalling 75 = .ok (.iadd, 1) := by decide +kernel
theorem dX5_leastFalling_76 : decode cX5_leastFalling 76 = .ok (.aload_n 0, 1) := by decide +kernel
theorem dX5_leastFalling_77 : decode cX5_leastFalling 77 = .ok (.getfield 9, 3) := by decide +kernel
theorem dX5_leastFalling_80 : decode cX5_leastFalling 80 = .ok (.iload_n 2, 1) := by decide +kernel
theorem dX5_leastFalling_81 : decode cX5_leastFalling 81 = .ok (.iaload, 1) := by decide +kernel
theorem dX5_leastFalling_82 : decode cX5_leastFalling 82 = .ok (.iconst 4, 1) := by decide +kernel
theorem dX5_leastFalling_83 : decode cX5_leastFalling 83 = .ok (.idiv, 1) := by decide +kernel
theorem dX5_leastFalling_84 : decode cX5_leastFalling 84 = .ok (.iadd, 1) := by decide +kernel
theorem dX5_leastFalling_85 : decode cX5_leastFalling 85 = .ok (.if_icmp .le 8, 3) := by decide +kernel
theorem dX5_leastFalling_88 : decode cX5_leastFalling 88 = .ok (.iload_n 2, 1) := by decide +kernel
theorem dX5_leastFalling_89 : decode cX5_leastFalling 89 = .ok (.bipush 100, 2) := by decide +kernel
theorem dX5_leastFalling_91 : decode cX5_leastFalling 91 = .ok (.iadd, 1) := by decide +kernel
theorem dX5_leastFalling_92 : decode cX5_leastFalling 92 = .ok (.ireturn, 1) := by decide +kernel
theorem dX5_leastFalling_93 : decode cX5_leastFalling 93 = .ok (.iinc 2 1, 3) := by decide +kernel
theorem dX5_leastFalling_96 : decode cX5_leastFalling 96 = .ok (.goto (-89), 3) := by decide +kernel
theorem dX5_leastFalling_99 : decode cX5_leastFalling 99 = .ok (.bipush (-5), 2) := by decide +kernel
theorem dX5_leastFalling_101 : decode cX5_leastFalling 101 = .ok (.ireturn, 1) := by decide +kernel
theorem dX6_init_0 : decode cX6_init 0 = .ok (.aload_n 0, 1) := by decide +kernel
theorem dX6_init_1 : decode cX6_init 1 = .ok (.invokespecial 3, 3) := by decide +kernel
theorem dX6_init_4 : decode cX6_init 4 = .ok (.aload_n 0, 1) := by decide +kernel
theorem dX6_init_5 : decode cX6_init 5 = .ok (.bipush 100, 2) := by decide +kernel
theorem dX6_init_7 : decode cX6_init 7 = .ok (.newarray .int, 2) := by decide +kernel
theorem dX6_init_9 : decode cX6_init 9 = .ok (.putfield 9, 3) := by decide +kernel
theorem dX6_init_12 : decode cX6_init 12 = .ok (.aload_n 0, 1) := by decide +kernel
theorem dX6_init_13 : decode cX6_init 13 = .ok (.bipush 100, 2) := by decide +kernel
theorem dX6_init_15 : decode cX6_init 15 = .ok (.newarray .int, 2) := by decide +kernel
theorem dX6_init_17 : decode cX6_init 17 = .ok (.putfield 15, 3) := by decide +kernel
theorem dX6_init_20 : decode cX6_init 20 = .ok (.aload_n 0, 1) := by decide +kernel
theorem dX6_init_21 : decode cX6_init 21 = .ok (.bipush 20, 2) := by decide +kernel
theorem dX6_init_23 : decode cX6_init 23 = .ok (.newarray .int, 2) := by decide +kernel
theorem dX6_init_25 : decode cX6_init 25 = .ok (.putfield 18, 3) := by decide +kernel
theorem dX6_init_28 : decode cX6_init 28 = .ok (.return_, 1) := by decide +kernel
theorem dX6_take_0 : decode cX6_take 0 = .ok (.iconst 0, 1) := by decide +kernel
theorem dX6_take_1 : decode cX6_take 1 = .ok (.istore_n 3, 1) := by decide +kernel
theorem dX6_take_2 : decode cX6_take 2 = .ok (.iload_n 3, 1) := by decide +kernel
theorem dX6_take_3 : decode cX6_take 3 = .ok (.iload_n 1, 1) := by decide +kernel
theorem dX6_take_4 : decode cX6_take 4 = .ok (.if_icmp .ge 47, 3) := by decide +kernel
theorem dX6_take_7 : decode cX6_take 7 = .ok (.aload_n 0, 1) := by decide +kernel
theorem dX6_take_8 : decode cX6_take 8 = .ok (.getfield 21, 3) := by decide +kernel
theorem dX6_take_11 : decode cX6_take 11 = .ok (.bipush 100, 2) := by decide +kernel
theorem dX6_take_13 : decode cX6_take 13 = .ok (.if_icmp .ge 38, 3) := by decide +kernel
theorem dX6_take_16 : decode cX6_take 16 = .ok (.aload_n 0, 1) := by decide +kernel
theorem dX6_take_17 : decode cX6_take 17 = .ok (.getfield 9, 3) := by decide +kernel
theorem dX6_take_20 : decode cX6_take 20 = .ok (.aload_n 0, 1) := by decide +kernel
theorem dX6_take_21 : decode cX6_take 21 = .ok (.getfield 21, 3) := by decide +kernel
theorem dX6_take_24 : decode cX6_take 24 = .ok (.iload_n 2, 1) := by decide +kernel
theorem dX6_take_25 : decode cX6_take 25 = .ok (.bipush 8, 2) := by decide +kernel
theorem dX6_take_27 : decode cX6_take 27 = .ok (.iload_n 3, 1) := by decide +kernel
theorem dX6_take_28 : decode cX6_take 28 = .ok (.imul, 1) := by decide +kernel
theorem dX6_take_29 : decode cX6_take 29 = .ok (.ishr, 1) := by decide +kernel
theorem dX6_take_30 : decode cX6_take 30 = .ok (.sipush 255, 3) := by decide +kernel
theorem dX6_take_33 : decode cX6_take 33 = .ok (.iand, 1) := by decide +kernel
theorem dX6_take_34 : decode cX6_take 34 = .ok (.iastore, 1) := by decide +kernel
theorem dX6_take_35 : decode cX6_take 35 = .ok (.aload_n 0, 1) := by decide +kernel
theorem dX6_take_36 : decode cX6_take 36 = .ok (.dup, 1) := by decide +kernel
theorem dX6_take_37 : decode cX6_take 37 = .ok (.getfield 21, 3) := by decide +kernel
theorem dX6_take_40 : decode cX6_take 40 = .ok (.iconst 1, 1) := by decide +kernel
theorem dX6_take_41 : decode cX6_take 41 = .ok (.iadd, 1) := by decide +kernel
theorem dX6_take_42 : decode cX6_take 42 = .ok (.putfield 21, 3) := by decide +kernel
theorem dX6_take_45 : decode cX6_take 45 = .ok (.iinc 3 1, 3) := by decide +kernel
theorem dX6_take_48 : decode cX6_take 48 = .ok (.goto (-46), 3) := by decide +kernel
theorem dX6_take_51 : decode cX6_take 51 = .ok (.return_, 1) := by decide +kernel
theorem dX6_asText_0 : decode cX6_asText 0 = .ok (.new 25, 3) := by decide +kernel
theorem dX6_asText_3 : decode cX6_asText 3 = .ok (.dup, 1) := by decide +kernel
theorem dX6_asText_4 : decode cX6_asText 4 = .ok (.aload_n 0, 1) := by decide +kernel
theorem dX6_asText_5 : decode cX6_asText 5 = .ok (.getfield 15, 3) := by decide +kernel
theorem dX6_asText_8 : decode cX6_asText 8 = .ok (.aload_n 0, 1) := by decide +kernel
theorem dX6_asText_9 : decode cX6_asText 9 = .ok (.getfield 27, 3) := by decide +kernel
theorem dX6_asText_12 : decode cX6_asText 12 = .ok (.invokestatic 30, 3) := by decide +kernel
theorem dX6_asText_15 : decode cX6_asText 15 = .ok (.invokespecial 36, 3) := by decide +kernel
theorem dX6_asText_18 : decode cX6_asText 18 = .ok (.areturn, 1) := by decide +kernel
theorem dX6_read_0 : decode cX6_read 0 = .ok (.aload_n 0, 1) := by decide +kernel
theorem dX6_read_1 : decode cX6_read 1 = .ok (.iconst 0, 1) := by decide +kernel
theorem dX6_read_2 : decode cX6_read 2 = .ok (.putfield 27, 3) := by decide +kernel
theorem dX6_read_5 : decode cX6_read 5 = .ok (.aload_n 0, 1) := by decide +kernel
theorem dX6_read_6 : decode cX6_read 6 = .ok (.iconst 0, 1) := by decide +kernel
theorem dX6_read_7 : decode cX6_read 7 = .ok (.putfield 39, 3) := by decide +kernel
theorem dX6_read_10 : decode cX6_read 10 = .ok (.iconst 0, 1) := by decide +kernel
theorem dX6_read_11 : decode cX6_read 11 = .ok (.istore_n 1, 1) := by decide +kernel
theorem dX6_read_12 : decode cX6_read 12 = .ok (.iconst 0, 1) := by decide +kernel
theorem dX6_read_13 : decode cX6_read 13 = .ok (.istore_n 2, 1) := by decide +kernel
theorem dX6_read_14 : decode cX6_read 14 = .ok (.iconst 0, 1) := by decide +kernel
theorem dX6_read_15 : decode cX6_read 15 = .ok (.istore_n 3, 1) := by decide +kernel
theorem dX6_read_16 : decode cX6_read 16 = .ok (.iload_n 3, 1) := by decide +kernel
theorem dX6_read_17 : decode cX6_read 17 = .ok (.bipush 100, 2) := by decide +kernel
theorem dX6_read_19 : decode cX6_read 19 = .ok (.if_icmp .ge 90, 3) := by decide +kernel
theorem dX6_read_22 : decode cX6_read 22 = .ok (.iload_n 2, 1) := by decide +kernel
theorem dX6_read_23 : decode cX6_read 23 = .ok (.aload_n 0, 1) := by decide +kernel
theorem dX6_read_24 : decode cX6_read 24 = .ok (.getfield 21, 3) := by decide +kernel
theorem dX6_read_27 : decode cX6_read 27 = .ok (.if_icmp .ge 82, 3) := by decide +kernel
theorem dX6_read_30 : decode cX6_read 30 = .ok (.iload_n 1, 1) := by decide +kernel
theorem dX6_read_31 : decode cX6_read 31 = .ok (.ifCond .eq 5, 3) := by decide +kernel
theorem dX6_read_34 : decode cX6_read 34 = .ok (.iload_n 2, 1) := by decide +kernel
theorem dX6_read_35 : decode cX6_read 35 = .ok (.ireturn, 1) := by decide +kernel
theorem dX6_read_36 : decode cX6_read 36 = .ok (.ldc 42, 2) := by decide +kernel
theorem dX6_read_38 : decode cX6_read 38 = .ok (.aload_n 0, 1) := by decide +kernel
theorem dX6_read_39 : decode cX6_read 39 = .ok (.getfield 9, 3) := by decide +kernel
theorem dX6_read_42 : decode cX6_read 42 = .ok (.iload_n 2, 1) := by decide +kernel
theorem dX6_read_43 : decode cX6_read 43 = .ok (.iaload, 1) := by decide +kernel
theorem dX6_read_44 : decode cX6_read 44 = .ok (.i2c, 1) := by decide +kernel
theorem dX6_read_45 : decode cX6_read 45 = .ok (.invokevirtual 44, 3) := by decide +kernel
theorem dX6_read_48 : decode cX6_read 48 = .ok (.ifCond .lt 30, 3) := by decide +kernel
theorem dX6_read_51 : decode cX6_read 51 = .ok (.aload_n 0, 1) := by decide +kernel
theorem dX6_read_52 : decode cX6_read 52 = .ok (.getfield 39, 3) := by decide +kernel
theorem dX6_read_55 : decode cX6_read 55 = .ok (.bipush 20, 2) := by decide +kernel
theorem dX6_read_57 : decode cX6_read 57 = .ok (.if_icmp .lt 5, 3) := by decide +kernel
theorem dX6_read_60 : decode cX6_read 60 = .ok (.iload_n 2, 1) := by decide +kernel
theorem dX6_read_61 : decode cX6_read 61 = .ok (.ireturn, 1) := by decide +kernel
theorem dX6_read_62 : decode cX6_read 62 = .ok (.aload_n 0, 1) := by decide +kernel
theorem dX6_read_63 : decode cX6_read 63 = .ok (.aload_n 0, 1) := by decide +kernel
theorem dX6_read_64 : decode cX6_read 64 = .ok (.getfield 9, 3) := by decide +kernel
theorem dX6_read_67 : decode cX6_read 67 = .ok (.iload_n 2, 1) := by decide +kernel
theorem dX6_read_68 : decode cX6_read 68 = .ok (.iaload, 1) := by decide +kernel
theorem dX6_read_69 : decode cX6_read 69 = .ok (.invokevirtual 50, 3) := by decide +kernel
theorem dX6_read_72 : decode cX6_read 72 = .ok (.iinc 2 1, 3) := by decide +kernel
theorem dX6_read_75 : decode cX6_read 75 = .ok (.goto 28, 3) := by decide +kernel
theorem dX6_read_78 : decode cX6_read 78 = .ok (.aload_n 0, 1) := by decide +kernel
theorem dX6_read_79 : decode cX6_read 79 = .ok (.iload_n 2, 1) := by decide +kernel
theorem dX6_read_80 : decode cX6_read 80 = .ok (.invokevirtual 54, 3) := by decide +kernel
theorem dX6_read_83 : decode cX6_read 83 = .ok (.istore 4, 2) := by decide +kernel
theorem dX6_read_85 : decode cX6_read 85 = .ok (.iload 4, 2) := by decide +kernel
theorem dX6_read_87 : decode cX6_read 87 = .ok (.ifCond .ge 8, 3) := by decide +kernel
theorem dX6_read_90 : decode cX6_read 90 = .ok (.iconst (-1), 1) := by decide +kernel
theorem dX6_read_91 : decode cX6_read 91 = .ok (.iload 4, 2) := by decide +kernel
theorem dX6_read_93 : decode cX6_read 93 = .ok (.isub, 1) := by decide +kernel
theorem dX6_read_94 : decode cX6_read 94 = .ok (.ireturn, 1) := by decide +kernel
theorem dX6_read_95 : decode cX6_read 95 = .ok (.aload_n 0, 1) := by decide +kernel
theorem dX6_read_96 : decode cX6_read 96 = .ok (.invokevirtual 57, 3) := by decide +kernel
theorem dX6_read_99 : decode cX6_read 99 = .ok (.istore_n 1, 1) := by decide +kernel
theorem dX6_read_100 : decode cX6_read 100 = .ok (.iload 4, 2) := by decide +kernel
theorem dX6_read_102 : decode cX6_read 102 = .ok (.istore_n 2, 1) := by decide +kernel
theorem dX6_read_103 : decode cX6_read 103 = .ok (.iinc 3 1, 3) := by decide +kernel
theorem dX6_read_106 : decode cX6_read 106 = .ok (.goto (-90), 3) := by decide +kernel
theorem dX6_read_109 : decode cX6_read 109 = .ok (.iload_n 1, 1) := by decide +kernel
theorem dX6_read_110 : decode cX6_read 110 = .ok (.ifCond .eq 7, 3) := by decide +kernel
theorem dX6_read_113 : decode cX6_read 113 = .ok (.iconst (-1), 1) := by decide +kernel
theorem dX6_read_114 : decode cX6_read 114 = .ok (.goto 7, 3) := by decide +kernel
theorem dX6_read_117 : decode cX6_read 117 = .ok (.aload_n 0, 1) := by decide +kernel
theorem dX6_read_118 : decode cX6_read 118 = .ok (.getfield 21, 3) := by decide +kernel
theorem dX6_read_121 : decode cX6_read 121 = .ok (.ireturn, 1) := by decide +kernel
theorem dX6_openSign_0 : decode cX6_openSign 0 = .ok (.aload_n 0, 1) := by decide +kernel
theorem dX6_openSign_1 : decode cX6_openSign 1 = .ok (.getfield 18, 3) := by decide +kernel
theorem dX6_openSign_4 : decode cX6_openSign 4 = .ok (.aload_n 0, 1) := by decide +kernel
theorem dX6_openSign_5 : decode cX6_openSign 5 = .ok (.getfield 39, 3) := by decide +kernel
theorem dX6_openSign_8 : decode cX6_openSign 8 = .ok (.iload_n 1, 1) := by decide +kernel
theorem dX6_openSign_9 : decode cX6_openSign 9 = .ok (.bipush 33, 2) := by decide +kernel
theorem dX6_openSign_11 : decode cX6_openSign 11 = .ok (.if_icmp .ne 7, 3) := by decide +kernel
theorem dX6_openSign_14 : decode cX6_openSign 14 = .ok (.iconst 1, 1) := by decide +kernel
theorem dX6_openSign_15 : decode cX6_openSign 15 = .ok (.goto 4, 3) := by decide +kernel
theorem dX6_openSign_18 : decode cX6_openSign 18 = .ok (.iconst 2, 1) := by decide +kernel
theorem dX6_openSign_19 : decode cX6_openSign 19 = .ok (.iastore, 1) := by decide +kernel
theorem dX6_openSign_20 : decode cX6_openSign 20 = .ok (.aload_n 0, 1) := by decide +kernel
theorem dX6_openSign_21 : decode cX6_openSign 21 = .ok (.dup, 1) := by decide +kernel
theorem dX6_openSign_22 : decode cX6_openSign 22 = .ok (.getfield 39, 3) := by decide +kernel
theorem dX6_openSign_25 : decode cX6_openSign 25 = .ok (.iconst 1, 1) := by decide +kernel
theorem dX6_openSign_26 : decode cX6_openSign 26 = .ok (.iadd, 1) := by decide +kernel
theorem dX6_openSign_27 : decode cX6_openSign 27 = .ok (.putfield 39, 3) := by decide +kernel
theorem dX6_openSign_30 : decode cX6_openSign 30 = .ok (.aload_n 0, 1) := by decide +kernel
theorem dX6_openSign_31 : decode cX6_openSign 31 = .ok (.iload_n 1, 1) := by decide +kernel
theorem dX6_openSign_32 : decode cX6_openSign 32 = .ok (.ineg, 1) := by decide +kernel
theorem dX6_openSign_33 : decode cX6_openSign 33 = .ok (.invokevirtual 61, 3) := by decide +kernel
theorem dX6_openSign_36 : decode cX6_openSign 36 = .ok (.return_, 1) := by decide +kernel
theorem dX6_closeSigns_0 : decode cX6_closeSigns 0 = .ok (.aload_n 0, 1) := by decide +kernel
theorem dX6_closeSigns_1 : decode cX6_closeSigns 1 = .ok (.getfield 39, 3) := by decide +kernel
theorem dX6_closeSigns_4 : decode cX6_closeSigns 4 = .ok (.ifCond .le 47, 3) := by decide +kernel
theorem dX6_closeSigns_7 : decode cX6_closeSigns 7 = .ok (.aload_n 0, 1) := by decide +kernel
theorem dX6_closeSigns_8 : decode cX6_closeSigns 8 = .ok (.getfield 18, 3) := by decide +kernel
theorem dX6_closeSigns_11 : decode cX6_closeSigns 11 = .ok (.aload_n 0, 1) := by decide +kernel
theorem dX6_closeSigns_12 : decode cX6_closeSigns 12 = .ok (.getfield 39, 3) := by decide +kernel
theorem dX6_closeSigns_15 : decode cX6_closeSigns 15 = .ok (.iconst 1, 1) := by decide +kernel
theorem dX6_closeSigns_16 : decode cX6_closeSigns 16 = .ok (.isub, 1) := by decide +kernel
theorem dX6_closeSigns_17 : decode cX6_closeSigns 17 = .ok (.dup2, 1) := by decide +kernel
theorem dX6_closeSigns_18 : decode cX6_closeSigns 18 = .ok (.iaload, 1) := by decide +kernel
theorem dX6_closeSigns_19 : decode cX6_closeSigns 19 = .ok (.iconst 1, 1) := by decide +kernel
theorem dX6_closeSigns_20 : decode cX6_closeSigns 20 = .ok (.isub, 1) := by decide +kernel
theorem dX6_closeSigns_21 : decode cX6_closeSigns 21 = .ok (.iastore, 1) := by decide +kernel
theorem dX6_closeSigns_22 : decode cX6_closeSigns 22 = .ok (.aload_n 0, 1) := by decide +kernel
theorem dX6_closeSigns_23 : decode cX6_closeSigns 23 = .ok (.getfield 18, 3) := by decide +kernel
theorem dX6_closeSigns_26 : decode cX6_closeSigns 26 = .ok (.aload_n 0, 1) := by decide +kernel
theorem dX6_closeSigns_27 : decode cX6_closeSigns 27 = .ok (.getfield 39, 3) := by decide +kernel
theorem dX6_closeSigns_30 : decode cX6_closeSigns 30 = .ok (.iconst 1, 1) := by decide +kernel
theorem dX6_closeSigns_31 : decode cX6_closeSigns 31 = .ok (.isub, 1) := by decide +kernel
theorem dX6_closeSigns_32 : decode cX6_closeSigns 32 = .ok (.iaload, 1) := by decide +kernel
theorem dX6_closeSigns_33 : decode cX6_closeSigns 33 = .ok (.ifCond .le 5, 3) := by decide +kernel
theorem dX6_closeSigns_36 : decode cX6_closeSigns 36 = .ok (.iconst 0, 1) := by decide +kernel
theorem dX6_closeSigns_37 : decode cX6_closeSigns 37 = .ok (.ireturn, 1) := by decide +kernel
theorem dX6_closeSigns_38 : decode cX6_closeSigns 38 = .ok (.aload_n 0, 1) := by decide +kernel
theorem dX6_closeSigns_39 : decode cX6_closeSigns 39 = .ok (.dup, 1) := by decide +kernel
theorem dX6_closeSigns_40 : decode cX6_closeSigns 40 = .ok (.getfield 39, 3) := by decide +kernel
theorem dX6_closeSigns_43 : decode cX6_closeSigns 43 = .ok (.iconst 1, 1) := by decide +kernel
theorem dX6_closeSigns_44 : decode cX6_closeSigns 44 = .ok (.isub, 1) := by decide +kernel
theorem dX6_closeSigns_45 : decode cX6_closeSigns 45 = .ok (.putfield 39, 3) := by decide +kernel
theorem dX6_closeSigns_48 : decode cX6_closeSigns 48 = .ok (.goto (-48), 3) := by decide +kernel
theorem dX6_closeSigns_51 : decode cX6_closeSigns 51 = .ok (.iconst 1, 1) := by decide +kernel
theorem dX6_closeSigns_52 : decode cX6_closeSigns 52 = .ok (.ireturn, 1) := by decide +kernel
theorem dX6_readLeaf_0 : decode cX6_readLeaf 0 = .ok (.aload_n 0, 1) := by decide +kernel
theorem dX6_readLeaf_1 : decode cX6_readLeaf 1 = .ok (.getfield 9, 3) := by decide +kernel
theorem dX6_readLeaf_4 : decode cX6_readLeaf 4 = .ok (.iload_n 1, 1) := by decide +kernel
theorem dX6_readLeaf_5 : decode cX6_readLeaf 5 = .ok (.iaload, 1) := by decide +kernel
theorem dX6_readLeaf_6 : decode cX6_readLeaf 6 = .ok (.istore_n 2, 1) := by decide +kernel
theorem dX6_readLeaf_7 : decode cX6_readLeaf 7 = .ok (.iload_n 2, 1) := by decide +kernel
theorem dX6_readLeaf_8 : decode cX6_readLeaf 8 = .ok (.bipush 35, 2) := by decide +kernel
theorem dX6_readLeaf_10 : decode cX6_readLeaf 10 = .ok (.if_icmp .ne 11, 3) := by decide +kernel
theorem dX6_readLeaf_13 : decode cX6_readLeaf 13 = .ok (.aload_n 0, 1) := by decide +kernel
theorem dX6_readLeaf_14 : decode cX6_readLeaf 14 = .ok (.iload_n 1, 1) := by decide +kernel
theorem dX6_readLeaf_15 : decode cX6_readLeaf 15 = .ok (.iconst 1, 1) := by decide +kernel
theorem dX6_readLeaf_16 : decode cX6_readLeaf 16 = .ok (.iadd, 1) := by decide +kernel
theorem dX6_readLeaf_17 : decode cX6_readLeaf 17 = .ok (.invokevirtual 64, 3) := by decide +kernel
theorem dX6_readLeaf_20 : decode cX6_readLeaf 20 = .ok (.ireturn, 1) := by decide +kernel
theorem dX6_readLeaf_21 : decode cX6_readLeaf 21 = .ok (.iload_n 2, 1) := by decide +kernel
theorem dX6_readLeaf_22 : decode cX6_readLeaf 22 = .ok (.invokestatic 67, 3) := by decide +kernel
theorem dX6_readLeaf_25 : decode cX6_readLeaf 25 = .ok (.ifCond .eq 15, 3) := by decide +kernel
theorem dX6_readLeaf_28 : decode cX6_readLeaf 28 = .ok (.aload_n 0, 1) := by decide +kernel
theorem dX6_readLeaf_29 : decode cX6_readLeaf 29 = .ok (.iload_n 2, 1) := by decide +kernel
theorem dX6_readLeaf_30 : decode cX6_readLeaf 30 = .ok (.bipush 48, 2) := by decide +kernel
theorem dX6_readLeaf_32 : decode cX6_readLeaf 32 = .ok (.isub, 1) := by decide +kernel
theorem dX6_readLeaf_33 : decode cX6_readLeaf 33 = .ok (.invokevirtual 61, 3) := by decide +kernel
theorem dX6_readLeaf_36 : decode cX6_readLeaf 36 = .ok (.iload_n 1, 1) := by decide +kernel
theorem dX6_readLeaf_37 : decode cX6_readLeaf 37 = .ok (.iconst 1, 1) := by decide +kernel
theorem dX6_readLeaf_38 : decode cX6_readLeaf 38 = .ok (.iadd, 1) := by decide +kernel
theorem dX6_readLeaf_39 : decode cX6_readLeaf 39 = .ok (.ireturn, 1) := by decide +kernel
theorem dX6_readLeaf_40 : decode cX6_readLeaf 40 = .ok (.ldc 71, 2) := by decide +kernel
theorem dX6_readLeaf_42 : decode cX6_readLeaf 42 = .ok (.iload_n 2, 1) := by decide +kernel
theorem dX6_readLeaf_43 : decode cX6_readLeaf 43 = .ok (.i2c, 1) := by decide +kernel
theorem dX6_readLeaf_44 : decode cX6_readLeaf 44 = .ok (.invokevirtual 44, 3) := by decide +kernel
theorem dX6_readLeaf_47 : decode cX6_readLeaf 47 = .ok (.ifCond .lt 13, 3) := by decide +kernel
theorem dX6_readLeaf_50 : decode cX6_readLeaf 50 = .ok (.aload_n 0, 1) := by decide +kernel
theorem dX6_readLeaf_51 : decode cX6_readLeaf 51 = .ok (.iload_n 2, 1) := by decide +kernel
theorem dX6_readLeaf_52 : decode cX6_readLeaf 52 = .ok (.ineg, 1) := by decide +kernel
theorem dX6_readLeaf_53 : decode cX6_readLeaf 53 = .ok (.invokevirtual 61, 3) := by decide +kernel
theorem dX6_readLeaf_56 : decode cX6_readLeaf 56 = .ok (.iload_n 1, 1) := by decide +kernel
theorem dX6_readLeaf_57 : decode cX6_readLeaf 57 = .ok (.iconst 1, 1) := by decide +kernel
theorem dX6_readLeaf_58 : decode cX6_readLeaf 58 = .ok (.iadd, 1) := by decide +kernel
theorem dX6_readLeaf_59 : decode cX6_readLeaf 59 = .ok (.ireturn, 1) := by decide +kernel
theorem dX6_readLeaf_60 : decode cX6_readLeaf 60 = .ok (.iconst (-1), 1) := by decide +kernel
theorem dX6_readLeaf_61 : decode cX6_readLeaf 61 = .ok (.iload_n 1, 1) := by decide +kernel
theorem dX6_readLeaf_62 : decode cX6_readLeaf 62 = .ok (.isub, 1) := by decide +kernel
theorem dX6_readLeaf_63 : decode cX6_readLeaf 63 = .ok (.ireturn, 1) := by decide +kernel
theorem dX6_readNumber_0 : decode cX6_readNumber 0 = .ok (.iconst 0, 1) := by decide +kernel
theorem dX6_readNumber_1 : decode cX6_readNumber 1 = .ok (.istore_n 2, 1) := by decide +kernel
theorem dX6_readNumber_2 : decode cX6_readNumber 2 = .ok (.iload_n 1, 1) := by decide +kernel
theorem dX6_readNumber_3 : decode cX6_readNumber 3 = .ok (.istore_n 3, 1) := by decide +kernel
theorem dX6_readNumber_4 : decode cX6_readNumber 4 = .ok (.iload_n 3, 1) := by decide +kernel
theorem dX6_readNumber_5 : decode cX6_readNumber 5 = .ok (.aload_n 0, 1) := by decide +kernel
theorem dX6_readNumber_6 : decode cX6_readNumber 6 = .ok (.getfield 21, 3) := by decide +kernel
theorem dX6_readNumber_9 : decode cX6_readNumber 9 = .ok (.if_icmp .ge 43, 3) := by decide +kernel
theorem dX6_readNumber_12 : decode cX6_readNumber 12 = .ok (.iload_n 3, 1) := by decide +kernel
theorem dX6_readNumber_13 : decode cX6_readNumber 13 = .ok (.iload_n 1, 1) := by decide +kernel
theorem dX6_readNumber_14 : decode cX6_readNumber 14 = .ok (.iconst 5, 1) := by decide +kernel
theorem dX6_readNumber_15 : decode cX6_readNumber 15 = .ok (.iadd, 1) := by decide +kernel
theorem dX6_readNumber_16 : decode cX6_readNumber 16 = .ok (.if_icmp .ge 36, 3) := by decide +kernel
theorem dX6_readNumber_19 : decode cX6_readNumber 19 = .ok (.aload_n 0, 1) := by decide +kernel
theorem dX6_readNumber_20 : decode cX6_readNumber 20 = .ok (.getfield 9, 3) := by decide +kernel
theorem dX6_readNumber_23 : decode cX6_readNumber 23 = .ok (.iload_n 3, 1) := by decide +kernel
theorem dX6_readNumber_24 : decode cX6_readNumber 24 = .ok (.iaload, 1) := by decide +kernel
theorem dX6_readNumber_25 : decode cX6_readNumber 25 = .ok (.invokestatic 67, 3) := by decide +kernel
theorem dX6_readNumber_28 : decode cX6_readNumber 28 = .ok (.ifCond .eq 24, 3) := by decide +kernel
theorem dX6_readNumber_31 : decode cX6_readNumber 31 = .ok (.bipush 10, 2) := by decide +kernel
theorem dX6_readNumber_33 : decode cX6_readNumber 33 = .ok (.iload_n 2, 1) := by decide +kernel
theorem dX6_readNumber_34 : decode cX6_readNumber 34 = .ok (.imul, 1) := by decide +kernel
theorem dX6_readNumber_35 : decode cX6_readNumber 35 = .ok (.aload_n 0, 1) := by decide +kernel
theorem dX6_readNumber_36 : decode cX6_readNumber 36 = .ok (.getfield 9, 3) := by decide +kernel
theorem dX6_readNumber_39 : decode cX6_readNumber 39 = .ok (.iload_n 3, 1) := by decide +kernel
theorem dX6_readNumber_40 : decode cX6_readNumber 40 = .ok (.iaload, 1) := by decide +kernel
theorem dX6_readNumber_41 : decode cX6_readNumber 41 = .ok (.iadd, 1) := by decide +kernel
theorem dX6_readNumber_42 : decode cX6_readNumber 42 = .ok (.bipush 48, 2) := by decide +kernel
theorem dX6_readNumber_44 : decode cX6_readNumber 44 = .ok (.isub, 1) := by decide +kernel
theorem dX6_readNumber_45 : decode cX6_readNumber 45 = .ok (.istore_n 2, 1) := by decide +kernel
theorem dX6_readNumber_46 : decode cX6_readNumber 46 = .ok (.iinc 3 1, 3) := by decide +kernel
theorem dX6_readNumber_49 : decode cX6_readNumber 49 = .ok (.goto (-45), 3) := by decide +kernel
theorem dX6_readNumber_52 : decode cX6_readNumber 52 = .ok (.iload_n 3, 1) := by decide +kernel
theorem dX6_readNumber_53 : decode cX6_readNumber 53 = .ok (.aload_n 0, 1) := by decide +kernel
theorem dX6_readNumber_54 : decode cX6_readNumber 54 = .ok (.getfield 21, 3) := by decide +kernel
theorem dX6_readNumber_57 : decode cX6_readNumber 57 = .ok (.if_icmp .ge 21, 3) := by decide +kernel
theorem dX6_readNumber_60 : decode cX6_readNumber 60 = .ok (.iload_n 3, 1) := by decide +kernel
theorem dX6_readNumber_61 : decode cX6_readNumber 61 = .ok (.iload_n 1, 1) := by decide +kernel
theorem dX6_readNumber_62 : decode cX6_readNumber 62 = .ok (.iconst 2, 1) := by decide +kernel
theorem dX6_readNumber_63 : decode cX6_readNumber 63 = .ok (.iadd, 1) := by decide +kernel
theorem dX6_readNumber_64 : decode cX6_readNumber 64 = .ok (.if_icmp .lt 14, 3) := by decide +kernel
theorem dX6_readNumber_67 : decode cX6_readNumber 67 = .ok (.aload_n 0, 1) := by decide +kernel
theorem dX6_readNumber_68 : decode cX6_readNumber 68 = .ok (.getfield 9, 3) := by decide +kernel
theorem dX6_readNumber_71 : decode cX6_readNumber 71 = .ok (.iload_n 3, 1) := by decide +kernel
theorem dX6_readNumber_72 : decode cX6_readNumber 72 = .ok (.iaload, 1) := by decide +kernel
theorem dX6_readNumber_73 : decode cX6_readNumber 73 = .ok (.bipush 32, 2) := by decide +kernel
theorem dX6_readNumber_75 : decode cX6_readNumber 75 = .ok (.if_icmp .eq 7, 3) := by decide +kernel
theorem dX6_readNumber_78 : decode cX6_readNumber 78 = .ok (.iconst (-1), 1) := by decide +kernel
theorem dX6_readNumber_79 : decode cX6_readNumber 79 = .ok (.iload_n 3, 1) := by decide +kernel
theorem dX6_readNumber_80 : decode cX6_readNumber 80 = .ok (.isub, 1) := by decide +kernel
theorem dX6_readNumber_81 : decode cX6_readNumber 81 = .ok (.ireturn, 1) := by decide +kernel
theorem dX6_readNumber_82 : decode cX6_readNumber 82 = .ok (.aload_n 0, 1) := by decide +kernel
theorem dX6_readNumber_83 : decode cX6_readNumber 83 = .ok (.iload_n 2, 1) := by decide +kernel
theorem dX6_readNumber_84 : decode cX6_readNumber 84 = .ok (.invokevirtual 61, 3) := by decide +kernel
theorem dX6_readNumber_87 : decode cX6_readNumber 87 = .ok (.iload_n 3, 1) := by decide +kernel
theorem dX6_readNumber_88 : decode cX6_readNumber 88 = .ok (.iconst 1, 1) := by decide +kernel
theorem dX6_readNumber_89 : decode cX6_readNumber 89 = .ok (.iadd, 1) := by decide +kernel
theorem dX6_readNumber_90 : decode cX6_readNumber 90 = .ok (.ireturn, 1) := by decide +kernel
theorem dX6_keep_0 : decode cX6_keep 0 = .ok (.aload_n 0, 1) := by decide +kernel
theorem dX6_keep_1 : decode cX6_keep 1 = .ok (.getfield 27, 3) := by decide +kernel
theorem dX6_keep_4 : decode cX6_keep 4 = .ok (.bipush 100, 2) := by decide +kernel
theorem dX6_keep_6 : decode cX6_keep 6 = .ok (.if_icmp .ge 23, 3) := by decide +kernel
theorem dX6_keep_9 : decode cX6_keep 9 = .ok (.aload_n 0, 1) := by decide +kernel
theorem dX6_keep_10 : decode cX6_keep 10 = .ok (.getfield 15, 3) := by decide +kernel
theorem dX6_keep_13 : decode cX6_keep 13 = .ok (.aload_n 0, 1) := by decide +kernel
theorem dX6_keep_14 : decode cX6_keep 14 = .ok (.getfield 27, 3) := by decide +kernel
theorem dX6_keep_17 : decode cX6_keep 17 = .ok (.iload_n 1, 1) := by decide +kernel
theorem dX6_keep_18 : decode cX6_keep 18 = .ok (.iastore, 1) := by decide +kernel
theorem dX6_keep_19 : decode cX6_keep 19 = .ok (.aload_n 0, 1) := by decide +kernel
theorem dX6_keep_20 : decode cX6_keep 20 = .ok (.dup, 1) := by decide +kernel
theorem dX6_keep_21 : decode cX6_keep 21 = .ok (.getfield 27, 3) := by decide +kernel
theorem dX6_keep_24 : decode cX6_keep 24 = .ok (.iconst 1, 1) := by decide +kernel
theorem dX6_keep_25 : decode cX6_keep 25 = .ok (.iadd, 1) := by decide +kernel
theorem dX6_keep_26 : decode cX6_keep 26 = .ok (.putfield 27, 3) := by decide +kernel
theorem dX6_keep_29 : decode cX6_keep 29 = .ok (.return_, 1) := by decide +kernel
theorem dX6_isDigit_0 : decode cX6_isDigit 0 = .ok (.iload_n 0, 1) := by decide +kernel
theorem dX6_isDigit_1 : decode cX6_isDigit 1 = .ok (.bipush 48, 2) := by decide +kernel
theorem dX6_isDigit_3 : decode cX6_isDigit 3 = .ok (.if_icmp .lt 13, 3) := by decide +kernel
theorem dX6_isDigit_6 : decode cX6_isDigit 6 = .ok (.iload_n 0, 1) := by decide +kernel
theorem dX6_isDigit_7 : decode cX6_isDigit 7 = .ok (.bipush 57, 2) := by decide +kernel
theorem dX6_isDigit_9 : decode cX6_isDigit 9 = .ok (.if_icmp .gt 7, 3) := by decide +kernel
theorem dX6_isDigit_12 : decode cX6_isDigit 12 = .ok (.iconst 1, 1) := by decide +kernel
theorem dX6_isDigit_13 : decode cX6_isDigit 13 = .ok (.goto 4, 3) := by decide +kernel
theorem dX6_isDigit_16 : decode cX6_isDigit 16 = .ok (.iconst 0, 1) := by decide +kernel
theorem dX6_isDigit_17 : decode cX6_isDigit 17 = .ok (.ireturn, 1) := by decide +kernel
theorem dX7_init_0 : decode cX7_init 0 = .ok (.aload_n 0, 1) := by decide +kernel
theorem dX7_init_1 : decode cX7_init 1 = .ok (.invokespecial 1, 3) := by decide +kernel
theorem dX7_init_4 : decode cX7_init 4 = .ok (.aload_n 0, 1) := by decide +kernel
theorem dX7_init_5 : decode cX7_init 5 = .ok (.aload_n 1, 1) := by decide +kernel
theorem dX7_init_6 : decode cX7_init 6 = .ok (.putfield 7, 3) := by decide +kernel
theorem dX7_init_9 : decode cX7_init 9 = .ok (.return_, 1) := by decide +kernel
theorem dX8_init_0 : decode cX8_init 0 = .ok (.aload_n 0, 1) := by decide +kernel
theorem dX8_init_1 : decode cX8_init 1 = .ok (.invokespecial 1, 3) := by decide +kernel
theorem dX8_init_4 : decode cX8_init 4 = .ok (.aload_n 0, 1) := by decide +kernel
theorem dX8_init_5 : decode cX8_init 5 = .ok (.new 7, 3) := by decide +kernel
theorem dX8_init_8 : decode cX8_init 8 = .ok (.dup, 1) := by decide +kernel
theorem dX8_init_9 : decode cX8_init 9 = .ok (.invokespecial 9, 3) := by decide +kernel
theorem dX8_init_12 : decode cX8_init 12 = .ok (.putfield 10, 3) := by decide +kernel
theorem dX8_init_15 : decode cX8_init 15 = .ok (.aload_n 0, 1) := by decide +kernel
theorem dX8_init_16 : decode cX8_init 16 = .ok (.new 16, 3) := by decide +kernel
theorem dX8_init_19 : decode cX8_init 19 = .ok (.dup, 1) := by decide +kernel
theorem dX8_init_20 : decode cX8_init 20 = .ok (.invokespecial 18, 3) := by decide +kernel
theorem dX8_init_23 : decode cX8_init 23 = .ok (.putfield 19, 3) := by decide +kernel
theorem dX8_init_26 : decode cX8_init 26 = .ok (.aload_n 0, 1) := by decide +kernel
theorem dX8_init_27 : decode cX8_init 27 = .ok (.new 23, 3) := by decide +kernel
theorem dX8_init_30 : decode cX8_init 30 = .ok (.dup, 1) := by decide +kernel
theorem dX8_init_31 : decode cX8_init 31 = .ok (.invokespecial 25, 3) := by decide +kernel
theorem dX8_init_34 : decode cX8_init 34 = .ok (.putfield 26, 3) := by decide +kernel
theorem dX8_init_37 : decode cX8_init 37 = .ok (.aload_n 0, 1) := by decide +kernel
theorem dX8_init_38 : decode cX8_init 38 = .ok (.new 30, 3) := by decide +kernel
theorem dX8_init_41 : decode cX8_init 41 = .ok (.dup, 1) := by decide +kernel
theorem dX8_init_42 : decode cX8_init 42 = .ok (.invokespecial 32, 3) := by decide +kernel
theorem dX8_init_45 : decode cX8_init 45 = .ok (.putfield 33, 3) := by decide +kernel
theorem dX8_init_48 : decode cX8_init 48 = .ok (.aload_n 0, 1) := by decide +kernel
theorem dX8_init_49 : decode cX8_init 49 = .ok (.new 37, 3) := by decide +kernel
theorem dX8_init_52 : decode cX8_init 52 = .ok (.dup, 1) := by decide +kernel
theorem dX8_init_53 : decode cX8_init 53 = .ok (.invokespecial 39, 3) := by decide +kernel
theorem dX8_init_56 : decode cX8_init 56 = .ok (.putfield 40, 3) := by decide +kernel
theorem dX8_init_59 : decode cX8_init 59 = .ok (.aload_n 0, 1) := by decide +kernel
theorem dX8_init_60 : decode cX8_init 60 = .ok (.bipush 30, 2) := by decide +kernel
theorem dX8_init_62 : decode cX8_init 62 = .ok (.anewarray 44, 3) := by decide +kernel
theorem dX8_init_65 : decode cX8_init 65 = .ok (.putfield 46, 3) := by decide +kernel
theorem dX8_init_68 : decode cX8_init 68 = .ok (.aload_n 0, 1) := by decide +kernel
theorem dX8_init_69 : decode cX8_init 69 = .ok (.bipush 20, 2) := by decide +kernel
theorem dX8_init_71 : decode cX8_init 71 = .ok (.anewarray 50, 3) := by decide +kernel
theorem dX8_init_74 : decode cX8_init 74 = .ok (.putfield 52, 3) := by decide +kernel
theorem dX8_init_77 : decode cX8_init 77 = .ok (.aload_n 0, 1) := by decide +kernel
theorem dX8_init_78 : decode cX8_init 78 = .ok (.bipush 20, 2) := by decide +kernel
theorem dX8_init_80 : decode cX8_init 80 = .ok (.newarray .int, 2) := by decide +kernel
theorem dX8_init_82 : decode cX8_init 82 = .ok (.putfield 56, 3) := by decide +kernel
theorem dX8_init_85 : decode cX8_init 85 = .ok (.aload_n 0, 1) := by decide +kernel
theorem dX8_init_86 : decode cX8_init 86 = .ok (.bipush 40, 2) := by decide +kernel
theorem dX8_init_88 : decode cX8_init 88 = .ok (.newarray .int, 2) := by decide +kernel
theorem dX8_init_90 : decode cX8_init 90 = .ok (.putfield 60, 3) := by decide +kernel
theorem dX8_init_93 : decode cX8_init 93 = .ok (.return_, 1) := by decide +kernel
theorem dX8_part_0 : decode cX8_part 0 = .ok (.iload_n 1, 1) := by decide +kernel
theorem dX8_part_1 : decode cX8_part 1 = .ok (.iload_n 2, 1) := by decide +kernel
theorem dX8_part_2 : decode cX8_part 2 = .ok (.iload_n 3, 1) := by decide +kernel
theorem dX8_part_3 : decode cX8_part 3 = .ok (.invokestatic 63, 3) := by decide +kernel
theorem dX8_part_6 : decode cX8_part 6 = .ok (.ifCond .ne 5, 3) := by decide +kernel
theorem dX8_part_9 : decode cX8_part 9 = .ok (.iconst (-1), 1) := by decide +kernel
theorem dX8_part_10 : decode cX8_part 10 = .ok (.ireturn, 1) := by decide +kernel
theorem dX8_part_11 : decode cX8_part 11 = .ok (.aload_n 0, 1) := by decide +kernel
theorem dX8_part_12 : decode cX8_part 12 = .ok (.getfield 10, 3) := by decide +kernel
theorem dX8_part_15 : decode cX8_part 15 = .ok (.getfield 67, 3) := by decide +kernel
theorem dX8_part_18 : decode cX8_part 18 = .ok (.bipush 40, 2) := by decide +kernel
theorem dX8_part_20 : decode cX8_part 20 = .ok (.if_icmp .lt 6, 3) := by decide +kernel
theorem dX8_part_23 : decode cX8_part 23 = .ok (.bipush (-3), 2) := by decide +kernel
theorem dX8_part_25 : decode cX8_part 25 = .ok (.ireturn, 1) := by decide +kernel
theorem dX8_part_26 : decode cX8_part 26 = .ok (.aload_n 0, 1) := by decide +kernel
theorem dX8_part_27 : decode cX8_part 27 = .ok (.getfield 10, 3) := by decide +kernel
theorem dX8_part_30 : decode cX8_part 30 = .ok (.new 71, 3) := by decide +kernel
theorem dX8_part_33 : decode cX8_part 33 = .ok (.dup, 1) := by decide +kernel
theorem dX8_part_34 : decode cX8_part 34 = .ok (.iconst 0, 1) := by decide +kernel
theorem dX8_part_35 : decode cX8_part 35 = .ok (.iload_n 1, 1) := by decide +kernel
theorem dX8_part_36 : decode cX8_part 36 = .ok (.iload_n 2, 1) := by decide +kernel
theorem dX8_part_37 : decode cX8_part 37 = .ok (.iload_n 3, 1) := by decide +kernel
theorem dX8_part_38 : decode cX8_part 38 = .ok (.invokespecial 73, 3) := by decide +kernel
theorem dX8_part_41 : decode cX8_part 41 = .ok (.invokevirtual 76, 3) := by decide +kernel
theorem dX8_part_44 : decode cX8_part 44 = .ok (.ireturn, 1) := by decide +kernel
theorem dX8_arch_0 : decode cX8_arch 0 = .ok (.iload_n 1, 1) := by decide +kernel
theorem dX8_arch_1 : decode cX8_arch 1 = .ok (.iload_n 2, 1) := by decide +kernel
theorem dX8_arch_2 : decode cX8_arch 2 = .ok (.iload_n 3, 1) := by decide +kernel
theorem dX8_arch_3 : decode cX8_arch 3 = .ok (.invokestatic 63, 3) := by decide +kernel
theorem dX8_arch_6 : decode cX8_arch 6 = .ok (.ifCond .eq 34, 3) := by decide +kernel
theorem dX8_arch_9 : decode cX8_arch 9 = .ok (.iload 4, 2) := by decide +kernel
theorem dX8_arch_11 : decode cX8_arch 11 = .ok (.iload 5, 2) := by decide +kernel
theorem dX8_arch_13 : decode cX8_arch 13 = .ok (.if_icmp .eq 27, 3) := by decide +kernel
theorem dX8_arch_16 : decode cX8_arch 16 = .ok (.aload_n 0, 1) := by decide +kernel
theorem dX8_arch_17 : decode cX8_arch 17 = .ok (.getfield 10, 3) := by decide +kernel
theorem dX8_arch_20 : decode cX8_arch 20 = .ok (.iload 4, 2) := by decide +kernel
theorem dX8_arch_22 : decode cX8_arch 22 = .ok (.invokevirtual 80, 3) := by decide +kernel
theorem dX8_arch_25 : decode cX8_arch 25 = .ok (.ifnull 15, 3) := by decide +kernel
theorem dX8_arch_28 : decode cX8_arch 28 = .ok (.aload_n 0, 1) := by decide +kernel
theorem dX8_arch_29 : decode cX8_arch 29 = .ok (.getfield 10, 3) := by decide +kernel
theorem dX8_arch_32 : decode cX8_arch 32 = .ok (.iload 5, 2) := by decide +kernel
theorem dX8_arch_34 : decode cX8_arch 34 = .ok (.invokevirtual 80, 3) := by decide +kernel
theorem dX8_arch_37 : decode cX8_arch 37 = .ok (.ifnonnull 5, 3) := by decide +kernel
theorem dX8_arch_40 : decode cX8_arch 40 = .ok (.iconst (-1), 1) := by decide +kernel
theorem dX8_arch_41 : decode cX8_arch 41 = .ok (.ireturn, 1) := by decide +kernel
theorem dX8_arch_42 : decode cX8_arch 42 = .ok (.aload_n 0, 1) := by decide +kernel
theorem dX8_arch_43 : decode cX8_arch 43 = .ok (.getfield 10, 3) := by decide +kernel
theorem dX8_arch_46 : decode cX8_arch 46 = .ok (.getfield 67, 3) := by decide +kernel
theorem dX8_arch_49 : decode cX8_arch 49 = .ok (.bipush 40, 2) := by decide +kernel
theorem dX8_arch_51 : decode cX8_arch 51 = .ok (.if_icmp .lt 6, 3) := by decide +kernel
theorem dX8_arch_54 : decode cX8_arch 54 = .ok (.bipush (-3), 2) := by decide +kernel
theorem dX8_arch_56 : decode cX8_arch 56 = .ok (.ireturn, 1) := by decide +kernel
theorem dX8_arch_57 : decode cX8_arch 57 = .ok (.new 71, 3) := by decide +kernel
theorem dX8_arch_60 : decode cX8_arch 60 = .ok (.dup, 1) := by decide +kernel
theorem dX8_arch_61 : decode cX8_arch 61 = .ok (.iconst 1, 1) := by decide +kernel
theorem dX8_arch_62 : decode cX8_arch 62 = .ok (.iload_n 1, 1) := by decide +kernel
theorem dX8_arch_63 : decode cX8_arch 63 = .ok (.iload_n 2, 1) := by decide +kernel
theorem dX8_arch_64 : decode cX8_arch 64 = .ok (.iload_n 3, 1) := by decide +kernel
theorem dX8_arch_65 : decode cX8_arch 65 = .ok (.invokespecial 73, 3) := by decide +kernel
theorem dX8_arch_68 : decode cX8_arch 68 = .ok (.astore 6, 2) := by decide +kernel
theorem dX8_arch_70 : decode cX8_arch 70 = .ok (.aload 6, 2) := by decide +kernel
theorem dX8_arch_72 : decode cX8_arch 72 = .ok (.iconst 0, 1) := by decide +kernel
theorem dX8_arch_73 : decode cX8_arch 73 = .ok (.iload 4, 2) := by decide +kernel
theorem dX8_arch_75 : decode cX8_arch 75 = .ok (.bipush 6, 2) := by decide +kernel
theorem dX8_arch_77 : decode cX8_arch 77 = .ok (.invokevirtual 84, 3) := by decide +kernel
theorem dX8_arch_80 : decode cX8_arch 80 = .ok (.aload 6, 2) := by decide +kernel
theorem dX8_arch_82 : decode cX8_arch 82 = .ok (.iconst 1, 1) := by decide +kernel
theorem dX8_arch_83 : decode cX8_arch 83 = .ok (.iload 5, 2) := by decide +kernel
theorem dX8_arch_85 : decode cX8_arch 85 = .ok (.bipush 6, 2) := by decide +kernel
theorem dX8_arch_87 : decode cX8_arch 87 = .ok (.invokevirtual 84, 3) := by decide +kernel
theorem dX8_arch_90 : decode cX8_arch 90 = .ok (.aload 6, 2) := by decide +kernel
theorem dX8_arch_92 : decode cX8_arch 92 = .ok (.iconst 2, 1) := by decide +kernel
theorem dX8_arch_93 : decode cX8_arch 93 = .ok (.putfield 88, 3) := by decide +kernel
theorem dX8_arch_96 : decode cX8_arch 96 = .ok (.aload_n 0, 1) := by decide +kernel
theorem dX8_arch_97 : decode cX8_arch 97 = .ok (.getfield 10, 3) := by decide +kernel
theorem dX8_arch_100 : decode cX8_arch 100 = .ok (.aload 6, 2) := by decide +kernel
theorem dX8_arch_102 : decode cX8_arch 102 = .ok (.invokevirtual 76, 3) := by decide +kernel
theorem dX8_arch_105 : decode cX8_arch 105 = .ok (.ireturn, 1) := by decide +kernel
theorem dX8_bear_0 : decode cX8_bear 0 = .ok (.aload_n 0, 1) := by decide +kernel
theorem dX8_bear_1 : decode cX8_bear 1 = .ok (.getfield 10, 3) := by decide +kernel
theorem dX8_bear_4 : decode cX8_bear 4 = .ok (.iload_n 1, 1) := by decide +kernel
theorem dX8_bear_5 : decode cX8_bear 5 = .ok (.invokevirtual 80, 3) := by decide +kernel
theorem dX8_bear_8 : decode cX8_bear 8 = .ok (.astore 6, 2) := by decide +kernel
theorem dX8_bear_10 : decode cX8_bear 10 = .ok (.aload 6, 2) := by decide +kernel
theorem dX8_bear_12 : decode cX8_bear 12 = .ok (.ifnonnull 5, 3) := by decide +kernel
theorem dX8_bear_15 : decode cX8_bear 15 = .ok (.iconst (-1), 1) := by decide +kernel
theorem dX8_bear_16 : decode cX8_bear 16 = .ok (.ireturn, 1) := by decide +kernel
theorem dX8_bear_17 : decode cX8_bear 17 = .ok (.aload_n 0, 1) := by decide +kernel
theorem dX8_bear_18 : decode cX8_bear 18 = .ok (.getfield 10, 3) := by decide +kernel
theorem dX8_bear_21 : decode cX8_bear 21 = .ok (.iload_n 1, 1) := by decide +kernel
theorem dX8_bear_22 : decode cX8_bear 22 = .ok (.iload_n 2, 1) := by decide +kernel
theorem dX8_bear_23 : decode cX8_bear 23 = .ok (.iload_n 3, 1) := by decide +kernel
theorem dX8_bear_24 : decode cX8_bear 24 = .ok (.iload 4, 2) := by decide +kernel
theorem dX8_bear_26 : decode cX8_bear 26 = .ok (.iload 5, 2) := by decide +kernel
theorem dX8_bear_28 : decode cX8_bear 28 = .ok (.invokevirtual 91, 3) := by decide +kernel
theorem dX8_bear_31 : decode cX8_bear 31 = .ok (.istore 7, 2) := by decide +kernel
theorem dX8_bear_33 : decode cX8_bear 33 = .ok (.iload 7, 2) := by decide +kernel
theorem dX8_bear_35 : decode cX8_bear 35 = .ok (.iconst (-1), 1) := by decide +kernel
theorem dX8_bear_36 : decode cX8_bear 36 = .ok (.if_icmp .eq 18, 3) := by decide +kernel
theorem dX8_bear_39 : decode cX8_bear 39 = .ok (.aload 6, 2) := by decide +kernel
theorem dX8_bear_41 : decode cX8_bear 41 = .ok (.getfield 95, 3) := by decide +kernel
theorem dX8_bear_44 : decode cX8_bear 44 = .ok (.iconst 1, 1) := by decide +kernel
theorem dX8_bear_45 : decode cX8_bear 45 = .ok (.if_icmp .ne 11, 3) := by decide +kernel
theorem dX8_bear_48 : decode cX8_bear 48 = .ok (.iload 7, 2) := by decide +kernel
theorem dX8_bear_50 : decode cX8_bear 50 = .ok (.iconst 2, 1) := by decide +kernel
theorem dX8_bear_51 : decode cX8_bear 51 = .ok (.if_icmp .ge 5, 3) := by decide +kernel
theorem dX8_bear_54 : decode cX8_bear 54 = .ok (.iconst (-1), 1) := by decide +kernel
theorem dX8_bear_55 : decode cX8_bear 55 = .ok (.ireturn, 1) := by decide +kernel
theorem dX8_bear_56 : decode cX8_bear 56 = .ok (.aload 6, 2) := by decide +kernel
theorem dX8_bear_58 : decode cX8_bear 58 = .ok (.invokevirtual 98, 3) := by decide +kernel
theorem dX8_bear_61 : decode cX8_bear 61 = .ok (.ifCond .eq 6, 3) := by decide +kernel
theorem dX8_bear_64 : decode cX8_bear 64 = .ok (.bipush (-2), 2) := by decide +kernel
theorem dX8_bear_66 : decode cX8_bear 66 = .ok (.ireturn, 1) := by decide +kernel
theorem dX8_bear_67 : decode cX8_bear 67 = .ok (.aload_n 0, 1) := by decide +kernel
theorem dX8_bear_68 : decode cX8_bear 68 = .ok (.getfield 10, 3) := by decide +kernel
theorem dX8_bear_71 : decode cX8_bear 71 = .ok (.getfield 102, 3) := by decide +kernel
theorem dX8_bear_74 : decode cX8_bear 74 = .ok (.bipush 60, 2) := by decide +kernel
theorem dX8_bear_76 : decode cX8_bear 76 = .ok (.if_icmp .lt 6, 3) := by decide +kernel
theorem dX8_bear_79 : decode cX8_bear 79 = .ok (.bipush (-3), 2) := by decide +kernel
theorem dX8_bear_81 : decode cX8_bear 81 = .ok (.ireturn, 1) := by decide +kernel
theorem dX8_bear_82 : decode cX8_bear 82 = .ok (.aload_n 0, 1) := by decide +kernel
theorem dX8_bear_83 : decode cX8_bear 83 = .ok (.getfield 10, 3) := by decide +kernel
theorem dX8_bear_86 : decode cX8_bear 86 = .ok (.aload 6, 2) := by decide +kernel
theorem dX8_bear_88 : decode cX8_bear 88 = .ok (.iload 7, 2) := by decide +kernel
theorem dX8_bear_90 : decode cX8_bear 90 = .ok (.invokevirtual 105, 3) := by decide +kernel
theorem dX8_bear_93 : decode cX8_bear 93 = .ok (.aload_n 0, 1) := by decide +kernel
theorem dX8_bear_94 : decode cX8_bear 94 = .ok (.getfield 10, 3) := by decide +kernel
theorem dX8_bear_97 : decode cX8_bear 97 = .ok (.iload_n 1, 1) := by decide +kernel
theorem dX8_bear_98 : decode cX8_bear 98 = .ok (.aload 6, 2) := by decide +kernel
theorem dX8_bear_100 : decode cX8_bear 100 = .ok (.getfield 109, 3) := by decide +kernel
theorem dX8_bear_103 : decode cX8_bear 103 = .ok (.invokevirtual 112, 3) := by decide +kernel
theorem dX8_bear_106 : decode cX8_bear 106 = .ok (.pop, 1) := by decide +kernel
theorem dX8_bear_107 : decode cX8_bear 107 = .ok (.iload 7, 2) := by decide +kernel
theorem dX8_bear_109 : decode cX8_bear 109 = .ok (.ireturn, 1) := by decide +kernel
theorem dX8_edit_0 : decode cX8_edit 0 = .ok (.aload_n 0, 1) := by decide +kernel
theorem dX8_edit_1 : decode cX8_edit 1 = .ok (.getfield 10, 3) := by decide +kernel
theorem dX8_edit_4 : decode cX8_edit 4 = .ok (.iload_n 1, 1) := by decide +kernel
theorem dX8_edit_5 : decode cX8_edit 5 = .ok (.invokevirtual 80, 3) := by decide +kernel
theorem dX8_edit_8 : decode cX8_edit 8 = .ok (.astore_n 3, 1) := by decide +kernel
theorem dX8_edit_9 : decode cX8_edit 9 = .ok (.aload_n 3, 1) := by decide +kernel
theorem dX8_edit_10 : decode cX8_edit 10 = .ok (.ifnull 14, 3) := by decide +kernel
theorem dX8_edit_13 : decode cX8_edit 13 = .ok (.iload_n 2, 1) := by decide +kernel
theorem dX8_edit_14 : decode cX8_edit 14 = .ok (.iconst 1, 1) := by decide +kernel
theorem dX8_edit_15 : decode cX8_edit 15 = .ok (.if_icmp .lt 9, 3) := by decide +kernel
theorem dX8_edit_18 : decode cX8_edit 18 = .ok (.iload_n 2, 1) := by decide +kernel
theorem dX8_edit_19 : decode cX8_edit 19 = .ok (.bipush 30, 2) := by decide +kernel
theorem dX8_edit_21 : decode cX8_edit 21 = .ok (.if_icmp .le 5, 3) := by decide +kernel
theorem dX8_edit_24 : decode cX8_edit 24 = .ok (.iconst (-1), 1) := by decide +kernel
theorem dX8_edit_25 : decode cX8_edit 25 = .ok (.ireturn, 1) := by decide +kernel
theorem dX8_edit_26 : decode cX8_edit 26 = .ok (.aload_n 3, 1) := by decide +kernel
theorem dX8_edit_27 : decode cX8_edit 27 = .ok (.invokevirtual 98, 3) := by decide +kernel
theorem dX8_edit_30 : decode cX8_edit 30 = .ok (.ifCond .eq 6, 3) := by decide +kernel
theorem dX8_edit_33 : decode cX8_edit 33 = .ok (.bipush (-2), 2) := by decide +kernel
theorem dX8_edit_35 : decode cX8_edit 35 = .ok (.ireturn, 1) := by decide +kernel
theorem dX8_edit_36 : decode cX8_edit 36 = .ok (.aload_n 0, 1) := by decide +kernel
theorem dX8_edit_37 : decode cX8_edit 37 = .ok (.getfield 10, 3) := by decide +kernel
theorem dX8_edit_40 : decode cX8_edit 40 = .ok (.getfield 102, 3) := by decide +kernel
theorem dX8_edit_43 : decode cX8_edit 43 = .ok (.bipush 60, 2) := by decide +kernel
theorem dX8_edit_45 : decode cX8_edit 45 = .ok (.if_icmp .lt 6, 3) := by decide +kernel
theorem dX8_edit_48 : decode cX8_edit 48 = .ok (.bipush (-3), 2) := by decide +kernel
theorem dX8_edit_50 : decode cX8_edit 50 = .ok (.ireturn, 1) := by decide +kernel
theorem dX8_edit_51 : decode cX8_edit 51 = .ok (.aload_n 3, 1) := by decide +kernel
theorem dX8_edit_52 : decode cX8_edit 52 = .ok (.iload_n 2, 1) := by decide +kernel
theorem dX8_edit_53 : decode cX8_edit 53 = .ok (.putfield 109, 3) := by decide +kernel
theorem dX8_edit_56 : decode cX8_edit 56 = .ok (.aload_n 0, 1) := by decide +kernel
theorem dX8_edit_57 : decode cX8_edit 57 = .ok (.getfield 10, 3) := by decide +kernel
theorem dX8_edit_60 : decode cX8_edit 60 = .ok (.iload_n 1, 1) := by decide +kernel
theorem dX8_edit_61 : decode cX8_edit 61 = .ok (.iload_n 2, 1) := by decide +kernel
theorem dX8_edit_62 : decode cX8_edit 62 = .ok (.invokevirtual 112, 3) := by decide +kernel
theorem dX8_edit_65 : decode cX8_edit 65 = .ok (.ireturn, 1) := by decide +kernel
theorem dX8_wanted_0 : decode cX8_wanted 0 = .ok (.aload_n 0, 1) := by decide +kernel
theorem dX8_wanted_1 : decode cX8_wanted 1 = .ok (.getfield 10, 3) := by decide +kernel
theorem dX8_wanted_4 : decode cX8_wanted 4 = .ok (.iload_n 1, 1) := by decide +kernel
theorem dX8_wanted_5 : decode cX8_wanted 5 = .ok (.iload_n 2, 1) := by decide +kernel
theorem dX8_wanted_6 : decode cX8_wanted 6 = .ok (.invokevirtual 116, 3) := by decide +kernel
theorem dX8_wanted_9 : decode cX8_wanted 9 = .ok (.ireturn, 1) := by decide +kernel
theorem dX8_tell_0 : decode cX8_tell 0 = .ok (.aload_n 0, 1) := by decide +kernel
theorem dX8_tell_1 : decode cX8_tell 1 = .ok (.getfield 10, 3) := by decide +kernel
theorem dX8_tell_4 : decode cX8_tell 4 = .ok (.iload_n 1, 1) := by decide +kernel
theorem dX8_tell_5 : decode cX8_tell 5 = .ok (.invokevirtual 80, 3) := by decide +kernel
theorem dX8_tell_8 : decode cX8_tell 8 = .ok (.astore 4, 2) := by decide +kernel
theorem dX8_tell_10 : decode cX8_tell 10 = .ok (.aload 4, 2) := by decide +kernel
theorem dX8_tell_12 : decode cX8_tell 12 = .ok (.ifnull 28, 3) := by decide +kernel
theorem dX8_tell_15 : decode cX8_tell 15 = .ok (.iload_n 2, 1) := by decide +kernel
theorem dX8_tell_16 : decode cX8_tell 16 = .ok (.ifCond .lt 24, 3) := by decide +kernel
theorem dX8_tell_19 : decode cX8_tell 19 = .ok (.iload_n 2, 1) := by decide +kernel
theorem dX8_tell_20 : decode cX8_tell 20 = .ok (.getstatic 119, 3) := by decide +kernel
theorem dX8_tell_23 : decode cX8_tell 23 = .ok (.arraylength, 1) := by decide +kernel
theorem dX8_tell_24 : decode cX8_tell 24 = .ok (.if_icmp .ge 16, 3) := by decide +kernel
theorem dX8_tell_27 : decode cX8_tell 27 = .ok (.iload_n 3, 1) := by decide +kernel
theorem dX8_tell_28 : decode cX8_tell 28 = .ok (.ifCond .lt 12, 3) := by decide +kernel
theorem dX8_tell_31 : decode cX8_tell 31 = .ok (.iload_n 3, 1) := by decide +kernel
theorem dX8_tell_32 : decode cX8_tell 32 = .ok (.getstatic 119, 3) := by decide +kernel
theorem dX8_tell_35 : decode cX8_tell 35 = .ok (.iload_n 2, 1) := by decide +kernel
theorem dX8_tell_36 : decode cX8_tell 36 = .ok (.iaload, 1) := by decide +kernel
theorem dX8_tell_37 : decode cX8_tell 37 = .ok (.if_icmp .le 5, 3) := by decide +kernel
theorem dX8_tell_40 : decode cX8_tell 40 = .ok (.iconst (-1), 1) := by decide +kernel
theorem dX8_tell_41 : decode cX8_tell 41 = .ok (.ireturn, 1) := by decide +kernel
theorem dX8_tell_42 : decode cX8_tell 42 = .ok (.aload 4, 2) := by decide +kernel
theorem dX8_tell_44 : decode cX8_tell 44 = .ok (.getfield 122, 3) := by decide +kernel
theorem dX8_tell_47 : decode cX8_tell 47 = .ok (.iload_n 2, 1) := by decide +kernel
theorem dX8_tell_48 : decode cX8_tell 48 = .ok (.iaload, 1) := by decide +kernel
theorem dX8_tell_49 : decode cX8_tell 49 = .ok (.istore 5, 2) := by decide +kernel
theorem dX8_tell_51 : decode cX8_tell 51 = .ok (.aload 4, 2) := by decide +kernel
theorem dX8_tell_53 : decode cX8_tell 53 = .ok (.getfield 122, 3) := by decide +kernel
theorem dX8_tell_56 : decode cX8_tell 56 = .ok (.iload_n 2, 1) := by decide +kernel
theorem dX8_tell_57 : decode cX8_tell 57 = .ok (.iload_n 3, 1) := by decide +kernel
theorem dX8_tell_58 : decode cX8_tell 58 = .ok (.iastore, 1) := by decide +kernel
theorem dX8_tell_59 : decode cX8_tell 59 = .ok (.aload_n 0, 1) := by decide +kernel
theorem dX8_tell_60 : decode cX8_tell 60 = .ok (.invokevirtual 125, 3) := by decide +kernel
theorem dX8_tell_63 : decode cX8_tell 63 = .ok (.ifCond .ne 15, 3) := by decide +kernel
theorem dX8_tell_66 : decode cX8_tell 66 = .ok (.aload 4, 2) := by decide +kernel
theorem dX8_tell_68 : decode cX8_tell 68 = .ok (.getfield 122, 3) := by decide +kernel
theorem dX8_tell_71 : decode cX8_tell 71 = .ok (.iload_n 2, 1) := by decide +kernel
theorem dX8_tell_72 : decode cX8_tell 72 = .ok (.iload 5, 2) := by decide +kernel
theorem dX8_tell_74 : decode cX8_tell 74 = .ok (.iastore, 1) := by decide +kernel
theorem dX8_tell_75 : decode cX8_tell 75 = .ok (.bipush (-15), 2) := by decide +kernel
theorem dX8_tell_77 : decode cX8_tell 77 = .ok (.ireturn, 1) := by decide +kernel
theorem dX8_tell_78 : decode cX8_tell 78 = .ok (.iload 5, 2) := by decide +kernel
theorem dX8_tell_80 : decode cX8_tell 80 = .ok (.ireturn, 1) := by decide +kernel
theorem dX8_lay_0 : decode cX8_lay 0 = .ok (.aload_n 0, 1) := by decide +kernel
theorem dX8_lay_1 : decode cX8_lay 1 = .ok (.getfield 10, 3) := by decide +kernel
theorem dX8_lay_4 : decode cX8_lay 4 = .ok (.iload_n 1, 1) := by decide +kernel
theorem dX8_lay_5 : decode cX8_lay 5 = .ok (.invokevirtual 80, 3) := by decide +kernel
theorem dX8_lay_8 : decode cX8_lay 8 = .ok (.astore_n 2, 1) := by decide +kernel
theorem dX8_lay_9 : decode cX8_lay 9 = .ok (.aload_n 2, 1) := by decide +kernel
theorem dX8_lay_10 : decode cX8_lay 10 = .ok (.ifnonnull 5, 3) := by decide +kernel
theorem dX8_lay_13 : decode cX8_lay 13 = .ok (.iconst (-1), 1) := by decide +kernel
theorem dX8_lay_14 : decode cX8_lay 14 = .ok (.ireturn, 1) := by decide +kernel
theorem dX8_lay_15 : decode cX8_lay 15 = .ok (.aload_n 0, 1) := by decide +kernel
theorem dX8_lay_16 : decode cX8_lay 16 = .ok (.iload_n 1, 1) := by decide +kernel
theorem dX8_lay_17 : decode cX8_lay 17 = .ok (.aload_n 2, 1) := by decide +kernel
theorem dX8_lay_18 : decode cX8_lay 18 = .ok (.invokevirtual 128, 3) := by decide +kernel
theorem dX8_lay_21 : decode cX8_lay 21 = .ok (.istore_n 3, 1) := by decide +kernel
theorem dX8_lay_22 : decode cX8_lay 22 = .ok (.iload_n 3, 1) := by decide +kernel
theorem dX8_lay_23 : decode cX8_lay 23 = .ok (.ifCond .eq 8, 3) := by decide +kernel
theorem dX8_lay_26 : decode cX8_lay 26 = .ok (.bipush (-10), 2) := by decide +kernel
theorem dX8_lay_28 : decode cX8_lay 28 = .ok (.iload_n 3, 1) := by decide +kernel
theorem dX8_lay_29 : decode cX8_lay 29 = .ok (.isub, 1) := by decide +kernel
theorem dX8_lay_30 : decode cX8_lay 30 = .ok (.ireturn, 1) := by decide +kernel
theorem dX8_lay_31 : decode cX8_lay 31 = .ok (.aload_n 0, 1) := by decide +kernel
theorem dX8_lay_32 : decode cX8_lay 32 = .ok (.iload_n 1, 1) := by decide +kernel
theorem dX8_lay_33 : decode cX8_lay 33 = .ok (.aload_n 2, 1) := by decide +kernel
theorem dX8_lay_34 : decode cX8_lay 34 = .ok (.invokevirtual 132, 3) := by decide +kernel
theorem dX8_lay_37 : decode cX8_lay 37 = .ok (.aload_n 2, 1) := by decide +kernel
theorem dX8_lay_38 : decode cX8_lay 38 = .ok (.aload_n 0, 1) := by decide +kernel
theorem dX8_lay_39 : decode cX8_lay 39 = .ok (.getfield 26, 3) := by decide +kernel
theorem dX8_lay_42 : decode cX8_lay 42 = .ok (.getfield 136, 3) := by decide +kernel
theorem dX8_lay_45 : decode cX8_lay 45 = .ok (.invokevirtual 139, 3) := by decide +kernel
theorem dX8_lay_48 : decode cX8_lay 48 = .ok (.aload_n 0, 1) := by decide +kernel
theorem dX8_lay_49 : decode cX8_lay 49 = .ok (.dup, 1) := by decide +kernel
theorem dX8_lay_50 : decode cX8_lay 50 = .ok (.getfield 143, 3) := by decide +kernel
theorem dX8_lay_53 : decode cX8_lay 53 = .ok (.iconst 1, 1) := by decide +kernel
theorem dX8_lay_54 : decode cX8_lay 54 = .ok (.iadd, 1) := by decide +kernel
theorem dX8_lay_55 : decode cX8_lay 55 = .ok (.putfield 143, 3) := by decide +kernel
theorem dX8_lay_58 : decode cX8_lay 58 = .ok (.aload_n 2, 1) := by decide +kernel
theorem dX8_lay_59 : decode cX8_lay 59 = .ok (.getfield 146, 3) := by decide +kernel
theorem dX8_lay_62 : decode cX8_lay 62 = .ok (.ireturn, 1) := by decide +kernel
theorem dX8_may_0 : decode cX8_may 0 = .ok (.aload_n 0, 1) := by decide +kernel
theorem dX8_may_1 : decode cX8_may 1 = .ok (.getfield 10, 3) := by decide +kernel
theorem dX8_may_4 : decode cX8_may 4 = .ok (.iload_n 1, 1) := by decide +kernel
theorem dX8_may_5 : decode cX8_may 5 = .ok (.invokevirtual 80, 3) := by decide +kernel
theorem dX8_may_8 : decode cX8_may 8 = .ok (.astore_n 2, 1) := by decide +kernel
theorem dX8_may_9 : decode cX8_may 9 = .ok (.aload_n 2, 1) := by decide +kernel
theorem dX8_may_10 : decode cX8_may 10 = .ok (.ifnonnull 7, 3) := by decide +kernel
theorem dX8_may_13 : decode cX8_may 13 = .ok (.iconst (-1), 1) := by decide +kernel
theorem dX8_may_14 : decode cX8_may 14 = .ok (.goto 9, 3) := by decide +kernel
theorem dX8_may_17 : decode cX8_may 17 = .ok (.aload_n 0, 1) := by decide +kernel
theorem dX8_may_18 : decode cX8_may 18 = .ok (.iload_n 1, 1) := by decide +kernel
theorem dX8_may_19 : decode cX8_may 19 = .ok (.aload_n 2, 1) := by decide +kernel
theorem dX8_may_20 : decode cX8_may 20 = .ok (.invokevirtual 128, 3) := by decide +kernel
theorem dX8_may_23 : decode cX8_may 23 = .ok (.ireturn, 1) := by decide +kernel
theorem dX8_falls_0 : decode cX8_falls 0 = .ok (.aload_n 0, 1) := by decide +kernel
theorem dX8_falls_1 : decode cX8_falls 1 = .ok (.getfield 10, 3) := by decide +kernel
theorem dX8_falls_4 : decode cX8_falls 4 = .ok (.iload_n 1, 1) := by decide +kernel
theorem dX8_falls_5 : decode cX8_falls 5 = .ok (.invokevirtual 80, 3) := by decide +kernel
theorem dX8_falls_8 : decode cX8_falls 8 = .ok (.astore_n 2, 1) := by decide +kernel
theorem dX8_falls_9 : decode cX8_falls 9 = .ok (.aload_n 2, 1) := by decide +kernel
theorem dX8_falls_10 : decode cX8_falls 10 = .ok (.ifnonnull 7, 3) := by decide +kernel
theorem dX8_falls_13 : decode cX8_falls 13 = .ok (.iconst (-1), 1) := by decide +kernel
theorem dX8_falls_14 : decode cX8_falls 14 = .ok (.goto 8, 3) := by decide +kernel
theorem dX8_falls_17 : decode cX8_falls 17 = .ok (.aload_n 0, 1) := by decide +kernel
theorem dX8_falls_18 : decode cX8_falls 18 = .ok (.aload_n 2, 1) := by decide +kernel
theorem dX8_falls_19 : decode cX8_falls 19 = .ok (.invokevirtual 149, 3) := by decide +kernel
theorem dX8_falls_22 : decode cX8_falls 22 = .ok (.ireturn, 1) := by decide +kernel
theorem dX8_strike_0 : decode cX8_strike 0 = .ok (.aload_n 0, 1) := by decide +kernel
theorem dX8_strike_1 : decode cX8_strike 1 = .ok (.getfield 10, 3) := by decide +kernel
theorem dX8_strike_4 : decode cX8_strike 4 = .ok (.iload_n 1, 1) := by decide +kernel
theorem dX8_strike_5 : decode cX8_strike 5 = .ok (.invokevirtual 80, 3) := by decide +kernel
theorem dX8_strike_8 : decode cX8_strike 8 = .ok (.astore_n 2, 1) := by decide +kernel
theorem dX8_strike_9 : decode cX8_strike 9 = .ok (.aload_n 2, 1) := by decide +kernel
theorem dX8_strike_10 : decode cX8_strike 10 = .ok (.ifnonnull 5, 3) := by decide +kernel
theorem dX8_strike_13 : decode cX8_strike 13 = .ok (.iconst (-1), 1) := by decide +kernel
theorem dX8_strike_14 : decode cX8_strike 14 = .ok (.ireturn, 1) := by decide +kernel
theorem dX8_strike_15 : decode cX8_strike 15 = .ok (.aload_n 2, 1) := by decide +kernel
theorem dX8_strike_16 : decode cX8_strike 16 = .ok (.invokevirtual 152, 3) := by decide +kernel
theorem dX8_strike_19 : decode cX8_strike 19 = .ok (.ifCond .ne 6, 3) := by decide +kernel
theorem dX8_strike_22 : decode cX8_strike 22 = .ok (.bipush (-11), 2) := by decide +kernel
theorem dX8_strike_24 : decode cX8_strike 24 = .ok (.ireturn, 1) := by decide +kernel
theorem dX8_strike_25 : decode cX8_strike 25 = .ok (.aload_n 2, 1) := by decide +kernel
theorem dX8_strike_26 : decode cX8_strike 26 = .ok (.invokevirtual 155, 3) := by decide +kernel
theorem dX8_strike_29 : decode cX8_strike 29 = .ok (.ifCond .ne 6, 3) := by decide +kernel
theorem dX8_strike_32 : decode cX8_strike 32 = .ok (.bipush (-12), 2) := by decide +kernel
theorem dX8_strike_34 : decode cX8_strike 34 = .ok (.ireturn, 1) := by decide +kernel
theorem dX8_strike_35 : decode cX8_strike 35 = .ok (.aload_n 2, 1) := by decide +kernel
theorem dX8_strike_36 : decode cX8_strike 36 = .ok (.getfield 158, 3) := by decide +kernel
theorem dX8_strike_39 : decode cX8_strike 39 = .ok (.aload_n 2, 1) := by decide +kernel
theorem dX8_strike_40 : decode cX8_strike 40 = .ok (.getfield 122, 3) := by decide +kernel
theorem dX8_strike_43 : decode cX8_strike 43 = .ok (.iconst 3, 1) := by decide +kernel
theorem dX8_strike_44 : decode cX8_strike 44 = .ok (.iaload, 1) := by decide +kernel
theorem dX8_strike_45 : decode cX8_strike 45 = .ok (.if_icmp .ge 6, 3) := by decide +kernel
theorem dX8_strike_48 : decode cX8_strike 48 = .ok (.bipush (-13), 2) := by decide +kernel
theorem dX8_strike_50 : decode cX8_strike 50 = .ok (.ireturn, 1) := by decide +kernel
theorem dX8_strike_51 : decode cX8_strike 51 = .ok (.aload_n 2, 1) := by decide +kernel
theorem dX8_strike_52 : decode cX8_strike 52 = .ok (.iconst 1, 1) := by decide +kernel
theorem dX8_strike_53 : decode cX8_strike 53 = .ok (.putfield 161, 3) := by decide +kernel
theorem dX8_strike_56 : decode cX8_strike 56 = .ok (.aload_n 0, 1) := by decide +kernel
theorem dX8_strike_57 : decode cX8_strike 57 = .ok (.invokevirtual 125, 3) := by decide +kernel
theorem dX8_strike_60 : decode cX8_strike 60 = .ok (.ifCond .ne 11, 3) := by decide +kernel
theorem dX8_strike_63 : decode cX8_strike 63 = .ok (.aload_n 2, 1) := by decide +kernel
theorem dX8_strike_64 : decode cX8_strike 64 = .ok (.iconst 0, 1) := by decide +kernel
theorem dX8_strike_65 : decode cX8_strike 65 = .ok (.putfield 161, 3) := by decide +kernel
theorem dX8_strike_68 : decode cX8_strike 68 = .ok (.bipush (-15), 2) := by decide +kernel
theorem dX8_strike_70 : decode cX8_strike 70 = .ok (.ireturn, 1) := by decide +kernel
theorem dX8_strike_71 : decode cX8_strike 71 = .ok (.iconst 1, 1) := by decide +kernel
theorem dX8_strike_72 : decode cX8_strike 72 = .ok (.ireturn, 1) := by decide +kernel
theorem dX8_prop_0 : decode cX8_prop 0 = .ok (.aload_n 0, 1) := by decide +kernel
theorem dX8_prop_1 : decode cX8_prop 1 = .ok (.getfield 10, 3) := by decide +kernel
theorem dX8_prop_4 : decode cX8_prop 4 = .ok (.iload_n 1, 1) := by decide +kernel
theorem dX8_prop_5 : decode cX8_prop 5 = .ok (.invokevirtual 80, 3) := by decide +kernel
theorem dX8_prop_8 : decode cX8_prop 8 = .ok (.astore_n 3, 1) := by decide +kernel
theorem dX8_prop_9 : decode cX8_prop 9 = .ok (.aload_n 3, 1) := by decide +kernel
theorem dX8_prop_10 : decode cX8_prop 10 = .ok (.ifnull 13, 3) := by decide +kernel
theorem dX8_prop_13 : decode cX8_prop 13 = .ok (.iload_n 2, 1) := by decide +kernel
theorem dX8_prop_14 : decode cX8_prop 14 = .ok (.ifCond .lt 9, 3) := by decide +kernel
theorem dX8_prop_17 : decode cX8_prop 17 = .ok (.iload_n 2, 1) := by decide +kernel
theorem dX8_prop_18 : decode cX8_prop 18 = .ok (.ldc 165, 2) := by decide +kernel
theorem dX8_prop_20 : decode cX8_prop 20 = .ok (.if_icmp .le 5, 3) := by decide +kernel
theorem dX8_prop_23 : decode cX8_prop 23 = .ok (.iconst (-1), 1) := by decide +kernel
theorem dX8_prop_24 : decode cX8_prop 24 = .ok (.ireturn, 1) := by decide +kernel
theorem dX8_prop_25 : decode cX8_prop 25 = .ok (.aload_n 3, 1) := by decide +kernel
theorem dX8_prop_26 : decode cX8_prop 26 = .ok (.getfield 166, 3) := by decide +kernel
theorem dX8_prop_29 : decode cX8_prop 29 = .ok (.istore 4, 2) := by decide +kernel
theorem dX8_prop_31 : decode cX8_prop 31 = .ok (.aload_n 3, 1) := by decide +kernel
theorem dX8_prop_32 : decode cX8_prop 32 = .ok (.iload_n 2, 1) := by decide +kernel
theorem dX8_prop_33 : decode cX8_prop 33 = .ok (.putfield 166, 3) := by decide +kernel
theorem dX8_prop_36 : decode cX8_prop 36 = .ok (.aload_n 0, 1) := by decide +kernel
theorem dX8_prop_37 : decode cX8_prop 37 = .ok (.invokevirtual 125, 3) := by decide +kernel
theorem dX8_prop_40 : decode cX8_prop 40 = .ok (.ifCond .ne 12, 3) := by decide +kernel
theorem dX8_prop_43 : decode cX8_prop 43 = .ok (.aload_n 3, 1) := by decide +kernel
theorem dX8_prop_44 : decode cX8_prop 44 = .ok (.iload 4, 2) := by decide +kernel
theorem dX8_prop_46 : decode cX8_prop 46 = .ok (.putfield 166, 3) := by decide +kernel
theorem dX8_prop_49 : decode cX8_prop 49 = .ok (.bipush (-15), 2) := by decide +kernel
theorem dX8_prop_51 : decode cX8_prop 51 = .ok (.ireturn, 1) := by decide +kernel
theorem dX8_prop_52 : decode cX8_prop 52 = .ok (.iload 4, 2) := by decide +kernel
theorem dX8_prop_54 : decode cX8_prop 54 = .ok (.ireturn, 1) := by decide +kernel
theorem dX8_month_0 : decode cX8_month 0 = .ok (.iload_n 1, 1) := by decide +kernel
theorem dX8_month_1 : decode cX8_month 1 = .ok (.iconst 1, 1) := by decide +kernel
theorem dX8_month_2 : decode cX8_month 2 = .ok (.if_icmp .lt 24, 3) := by decide +kernel
theorem dX8_month_5 : decode cX8_month 5 = .ok (.iload_n 1, 1) := by decide +kernel
theorem dX8_month_6 : decode cX8_month 6 = .ok (.bipush 100, 2) := by decide +kernel
theorem dX8_month_8 : decode cX8_month 8 = .ok (.if_icmp .gt 18, 3) := by decide +kernel
theorem dX8_month_11 : decode cX8_month 11 = .ok (.iload_n 1, 1) := by decide +kernel
theorem dX8_month_12 : decode cX8_month 12 = .ok (.sipush 1200, 3) := by decide +kernel
theorem dX8_month_15 : decode cX8_month 15 = .ok (.aload_n 0, 1) := by decide +kernel
theorem dX8_month_16 : decode cX8_month 16 = .ok (.getfield 26, 3) := by decide +kernel
theorem dX8_month_19 : decode cX8_month 19 = .ok (.getfield 136, 3) := by decide +kernel
theorem dX8_month_22 : decode cX8_month 22 = .ok (.isub, 1) := by decide +kernel
theorem dX8_month_23 : decode cX8_month 23 = .ok (.if_icmp .le 5, 3) := by decide +kernel
theorem dX8_month_26 : decode cX8_month 26 = .ok (.iconst (-1), 1) := by decide +kernel
theorem dX8_month_27 : decode cX8_month 27 = .ok (.ireturn, 1) := by decide +kernel
theorem dX8_month_28 : decode cX8_month 28 = .ok (.aload_n 0, 1) := by decide +kernel
theorem dX8_month_29 : decode cX8_month 29 = .ok (.getfield 10, 3) := by decide +kernel
theorem dX8_month_32 : decode cX8_month 32 = .ok (.aload_n 0, 1) := by decide +kernel
theorem dX8_month_33 : decode cX8_month 33 = .ok (.getfield 26, 3) := by decide +kernel
theorem dX8_month_36 : decode cX8_month 36 = .ok (.iload_n 1, 1) := by decide +kernel
theorem dX8_month_37 : decode cX8_month 37 = .ok (.invokevirtual 169, 3) := by decide +kernel
theorem dX8_month_40 : decode cX8_month 40 = .ok (.invokevirtual 173, 3) := by decide +kernel
theorem dX8_month_43 : decode cX8_month 43 = .ok (.aload_n 0, 1) := by decide +kernel
theorem dX8_month_44 : decode cX8_month 44 = .ok (.iconst 0, 1) := by decide +kernel
theorem dX8_month_45 : decode cX8_month 45 = .ok (.putfield 143, 3) := by decide +kernel
theorem dX8_month_48 : decode cX8_month 48 = .ok (.aload_n 0, 1) := by decide +kernel
theorem dX8_month_49 : decode cX8_month 49 = .ok (.getfield 26, 3) := by decide +kernel
theorem dX8_month_52 : decode cX8_month 52 = .ok (.getfield 136, 3) := by decide +kernel
theorem dX8_month_55 : decode cX8_month 55 = .ok (.ireturn, 1) := by decide +kernel
theorem dX8_frost_0 : decode cX8_frost 0 = .ok (.iload_n 1, 1) := by decide +kernel
theorem dX8_frost_1 : decode cX8_frost 1 = .ok (.ifCond .lt 10, 3) := by decide +kernel
theorem dX8_frost_4 : decode cX8_frost 4 = .ok (.iload_n 1, 1) := by decide +kernel
theorem dX8_frost_5 : decode cX8_frost 5 = .ok (.sipush 4096, 3) := by decide +kernel
theorem dX8_frost_8 : decode cX8_frost 8 = .ok (.if_icmp .lt 5, 3) := by decide +kernel
theorem dX8_frost_11 : decode cX8_frost 11 = .ok (.iconst (-1), 1) := by decide +kernel
theorem dX8_frost_12 : decode cX8_frost 12 = .ok (.ireturn, 1) := by decide +kernel
theorem dX8_frost_13 : decode cX8_frost 13 = .ok (.aload_n 0, 1) := by decide +kernel
theorem dX8_frost_14 : decode cX8_frost 14 = .ok (.getfield 26, 3) := by decide +kernel
theorem dX8_frost_17 : decode cX8_frost 17 = .ok (.getfield 176, 3) := by decide +kernel
theorem dX8_frost_20 : decode cX8_frost 20 = .ok (.istore_n 2, 1) := by decide +kernel
theorem dX8_frost_21 : decode cX8_frost 21 = .ok (.aload_n 0, 1) := by decide +kernel
theorem dX8_frost_22 : decode cX8_frost 22 = .ok (.getfield 26, 3) := by decide +kernel
theorem dX8_frost_25 : decode cX8_frost 25 = .ok (.iload_n 1, 1) := by decide +kernel
theorem dX8_frost_26 : decode cX8_frost 26 = .ok (.putfield 176, 3) := by decide +kernel
theorem dX8_frost_29 : decode cX8_frost 29 = .ok (.iload_n 2, 1) := by decide +kernel
theorem dX8_frost_30 : decode cX8_frost 30 = .ok (.ireturn, 1) := by decide +kernel
theorem dX8_bitter_0 : decode cX8_bitter 0 = .ok (.aload_n 0, 1) := by decide +kernel
theorem dX8_bitter_1 : decode cX8_bitter 1 = .ok (.getfield 26, 3) := by decide +kernel
theorem dX8_bitter_4 : decode cX8_bitter 4 = .ok (.iload_n 1, 1) := by decide +kernel
theorem dX8_bitter_5 : decode cX8_bitter 5 = .ok (.invokevirtual 179, 3) := by decide +kernel
theorem dX8_bitter_8 : decode cX8_bitter 8 = .ok (.ifCond .ne 5, 3) := by decide +kernel
theorem dX8_bitter_11 : decode cX8_bitter 11 = .ok (.iconst (-1), 1) := by decide +kernel
theorem dX8_bitter_12 : decode cX8_bitter 12 = .ok (.ireturn, 1) := by decide +kernel
theorem dX8_bitter_13 : decode cX8_bitter 13 = .ok (.aload_n 0, 1) := by decide +kernel
theorem dX8_bitter_14 : decode cX8_bitter 14 = .ok (.getfield 26, 3) := by decide +kernel
theorem dX8_bitter_17 : decode cX8_bitter 17 = .ok (.iload_n 1, 1) := by decide +kernel
theorem dX8_bitter_18 : decode cX8_bitter 18 = .ok (.invokevirtual 183, 3) := by decide +kernel
theorem dX8_bitter_21 : decode cX8_bitter 21 = .ok (.ifCond .eq 7, 3) := by decide +kernel
theorem dX8_bitter_24 : decode cX8_bitter 24 = .ok (.iconst 1, 1) := by decide +kernel
theorem dX8_bitter_25 : decode cX8_bitter 25 = .ok (.goto 4, 3) := by decide +kernel
theorem dX8_bitter_28 : decode cX8_bitter 28 = .ok (.iconst 0, 1) := by decide +kernel
theorem dX8_bitter_29 : decode cX8_bitter 29 = .ok (.ireturn, 1) := by decide +kernel
theorem dX8_feed_0 : decode cX8_feed 0 = .ok (.iload_n 1, 1) := by decide +kernel
theorem dX8_feed_1 : decode cX8_feed 1 = .ok (.iconst 1, 1) := by decide +kernel
theorem dX8_feed_2 : decode cX8_feed 2 = .ok (.if_icmp .lt 8, 3) := by decide +kernel
theorem dX8_feed_5 : decode cX8_feed 5 = .ok (.iload_n 1, 1) := by decide +kernel
theorem dX8_feed_6 : decode cX8_feed 6 = .ok (.iconst 4, 1) := by decide +kernel
theorem dX8_feed_7 : decode cX8_feed 7 = .ok (.if_icmp .le 5, 3) := by decide +kernel
theorem dX8_feed_10 : decode cX8_feed 10 = .ok (.iconst (-1), 1) := by decide +kernel
theorem dX8_feed_11 : decode cX8_feed 11 = .ok (.ireturn, 1) := by decide +kernel
theorem dX8_feed_12 : decode cX8_feed 12 = .ok (.iload_n 1, 1) := by decide +kernel
theorem dX8_feed_13 : decode cX8_feed 13 = .ok (.bipush 100, 2) := by decide +kernel
theorem dX8_feed_15 : decode cX8_feed 15 = .ok (.aload_n 0, 1) := by decide +kernel
theorem dX8_feed_16 : decode cX8_feed 16 = .ok (.getfield 33, 3) := by decide +kernel
theorem dX8_feed_19 : decode cX8_feed 19 = .ok (.getfield 186, 3) := by decide +kernel
theorem dX8_feed_22 : decode cX8_feed 22 = .ok (.isub, 1) := by decide +kernel
theorem dX8_feed_23 : decode cX8_feed 23 = .ok (.if_icmp .le 6, 3) := by decide +kernel
theorem dX8_feed_26 : decode cX8_feed 26 = .ok (.bipush (-3), 2) := by decide +kernel
theorem dX8_feed_28 : decode cX8_feed 28 = .ok (.ireturn, 1) := by decide +kernel
theorem dX8_feed_29 : decode cX8_feed 29 = .ok (.aload_n 0, 1) := by decide +kernel
theorem dX8_feed_30 : decode cX8_feed 30 = .ok (.getfield 33, 3) := by decide +kernel
theorem dX8_feed_33 : decode cX8_feed 33 = .ok (.iload_n 1, 1) := by decide +kernel
theorem dX8_feed_34 : decode cX8_feed 34 = .ok (.iload_n 2, 1) := by decide +kernel
theorem dX8_feed_35 : decode cX8_feed 35 = .ok (.invokevirtual 189, 3) := by decide +kernel
theorem dX8_feed_38 : decode cX8_feed 38 = .ok (.aload_n 0, 1) := by decide +kernel
theorem dX8_feed_39 : decode cX8_feed 39 = .ok (.getfield 33, 3) := by decide +kernel
theorem dX8_feed_42 : decode cX8_feed 42 = .ok (.getfield 186, 3) := by decide +kernel
theorem dX8_feed_45 : decode cX8_feed 45 = .ok (.ireturn, 1) := by decide +kernel
theorem dX8_gift_0 : decode cX8_gift 0 = .ok (.iload_n 1, 1) := by decide +kernel
theorem dX8_gift_1 : decode cX8_gift 1 = .ok (.iconst 1, 1) := by decide +kernel
theorem dX8_gift_2 : decode cX8_gift 2 = .ok (.if_icmp .lt 9, 3) := by decide +kernel
theorem dX8_gift_5 : decode cX8_gift 5 = .ok (.iload_n 1, 1) := by decide +kernel
theorem dX8_gift_6 : decode cX8_gift 6 = .ok (.ldc 193, 2) := by decide +kernel
theorem dX8_gift_8 : decode cX8_gift 8 = .ok (.if_icmp .le 5, 3) := by decide +kernel
theorem dX8_gift_11 : decode cX8_gift 11 = .ok (.iconst (-1), 1) := by decide +kernel
theorem dX8_gift_12 : decode cX8_gift 12 = .ok (.ireturn, 1) := by decide +kernel
theorem dX8_gift_13 : decode cX8_gift 13 = .ok (.aload_n 0, 1) := by decide +kernel
theorem dX8_gift_14 : decode cX8_gift 14 = .ok (.getfield 194, 3) := by decide +kernel
theorem dX8_gift_17 : decode cX8_gift 17 = .ok (.bipush 30, 2) := by decide +kernel
theorem dX8_gift_19 : decode cX8_gift 19 = .ok (.if_icmp .lt 6, 3) := by decide +kernel
theorem dX8_gift_22 : decode cX8_gift 22 = .ok (.bipush (-3), 2) := by decide +kernel
theorem dX8_gift_24 : decode cX8_gift 24 = .ok (.ireturn, 1) := by decide +kernel
theorem dX8_gift_25 : decode cX8_gift 25 = .ok (.aconst_null, 1) := by decide +kernel
theorem dX8_gift_26 : decode cX8_gift 26 = .ok (.astore_n 2, 1) := by decide +kernel
theorem dX8_gift_27 : decode cX8_gift 27 = .ok (.aload_n 0, 1) := by decide +kernel
theorem dX8_gift_28 : decode cX8_gift 28 = .ok (.getfield 33, 3) := by decide +kernel
theorem dX8_gift_31 : decode cX8_gift 31 = .ok (.getfield 186, 3) := by decide +kernel
theorem dX8_gift_34 : decode cX8_gift 34 = .ok (.ifCond .le 37, 3) := by decide +kernel
theorem dX8_gift_37 : decode cX8_gift 37 = .ok (.aload_n 0, 1) := by decide +kernel
theorem dX8_gift_38 : decode cX8_gift 38 = .ok (.getfield 33, 3) := by decide +kernel
theorem dX8_gift_41 : decode cX8_gift 41 = .ok (.invokevirtual 197, 3) := by decide +kernel
theorem dX8_gift_44 : decode cX8_gift 44 = .ok (.istore_n 3, 1) := by decide +kernel
theorem dX8_gift_45 : decode cX8_gift 45 = .ok (.aload_n 0, 1) := by decide +kernel
theorem dX8_gift_46 : decode cX8_gift 46 = .ok (.getfield 33, 3) := by decide +kernel
theorem dX8_gift_49 : decode cX8_gift 49 = .ok (.iconst 0, 1) := by decide +kernel
theorem dX8_gift_50 : decode cX8_gift 50 = .ok (.putfield 186, 3) := by decide +kernel
theorem dX8_gift_53 : decode cX8_gift 53 = .ok (.iload_n 3, 1) := by decide +kernel
theorem dX8_gift_54 : decode cX8_gift 54 = .ok (.iconst (-1), 1) := by decide +kernel
theorem dX8_gift_55 : decode cX8_gift 55 = .ok (.if_icmp .eq 8, 3) := by decide +kernel
theorem dX8_gift_58 : decode cX8_gift 58 = .ok (.bipush (-100), 2) := by decide +kernel
theorem dX8_gift_60 : decode cX8_gift 60 = .ok (.iload_n 3, 1) := by decide +kernel
theorem dX8_gift_61 : decode cX8_gift 61 = .ok (.isub, 1) := by decide +kernel
theorem dX8_gift_62 : decode cX8_gift 62 = .ok (.ireturn, 1) := by decide +kernel
theorem dX8_gift_63 : decode cX8_gift 63 = .ok (.aload_n 0, 1) := by decide +kernel
theorem dX8_gift_64 : decode cX8_gift 64 = .ok (.getfield 33, 3) := by decide +kernel
theorem dX8_gift_67 : decode cX8_gift 67 = .ok (.invokevirtual 201, 3) := by decide +kernel
theorem dX8_gift_70 : decode cX8_gift 70 = .ok (.astore_n 2, 1) := by decide +kernel
theorem dX8_gift_71 : decode cX8_gift 71 = .ok (.aload_n 0, 1) := by decide +kernel
theorem dX8_gift_72 : decode cX8_gift 72 = .ok (.getfield 46, 3) := by decide +kernel
theorem dX8_gift_75 : decode cX8_gift 75 = .ok (.aload_n 0, 1) := by decide +kernel
theorem dX8_gift_76 : decode cX8_gift 76 = .ok (.getfield 194, 3) := by decide +kernel
theorem dX8_gift_79 : decode cX8_gift 79 = .ok (.new 44, 3) := by decide +kernel
theorem dX8_gift_82 : decode cX8_gift 82 = .ok (.dup, 1) := by decide +kernel
theorem dX8_gift_83 : decode cX8_gift 83 = .ok (.iload_n 1, 1) := by decide +kernel
theorem dX8_gift_84 : decode cX8_gift 84 = .ok (.aload_n 2, 1) := by decide +kernel
theorem dX8_gift_85 : decode cX8_gift 85 = .ok (.invokespecial 205, 3) := by decide +kernel
theorem dX8_gift_88 : decode cX8_gift 88 = .ok (.aastore, 1) := by decide +kernel
theorem dX8_gift_89 : decode cX8_gift 89 = .ok (.aload_n 0, 1) := by decide +kernel
theorem dX8_gift_90 : decode cX8_gift 90 = .ok (.dup, 1) := by decide +kernel
theorem dX8_gift_91 : decode cX8_gift 91 = .ok (.getfield 194, 3) := by decide +kernel
theorem dX8_gift_94 : decode cX8_gift 94 = .ok (.iconst 1, 1) := by decide +kernel
theorem dX8_gift_95 : decode cX8_gift 95 = .ok (.iadd, 1) := by decide +kernel
theorem dX8_gift_96 : decode cX8_gift 96 = .ok (.putfield 194, 3) := by decide +kernel
theorem dX8_gift_99 : decode cX8_gift 99 = .ok (.aload_n 0, 1) := by decide +kernel
theorem dX8_gift_100 : decode cX8_gift 100 = .ok (.getfield 194, 3) := by decide +kernel
theorem dX8_gift_103 : decode cX8_gift 103 = .ok (.iconst 1, 1) := by decide +kernel
theorem dX8_gift_104 : decode cX8_gift 104 = .ok (.isub, 1) := by decide +kernel
theorem dX8_gift_105 : decode cX8_gift 105 = .ok (.ireturn, 1) := by decide +kernel
theorem dX8_statute_0 : decode cX8_statute 0 = .ok (.aload_n 0, 1) := by decide +kernel
theorem dX8_statute_1 : decode cX8_statute 1 = .ok (.getfield 26, 3) := by decide +kernel
theorem dX8_statute_4 : decode cX8_statute 4 = .ok (.iload_n 1, 1) := by decide +kernel
theorem dX8_statute_5 : decode cX8_statute 5 = .ok (.invokevirtual 179, 3) := by decide +kernel
theorem dX8_statute_8 : decode cX8_statute 8 = .ok (.ifCond .ne 5, 3) := by decide +kernel
theorem dX8_statute_11 : decode cX8_statute 11 = .ok (.iconst (-1), 1) := by decide +kernel
theorem dX8_statute_12 : decode cX8_statute 12 = .ok (.ireturn, 1) := by decide +kernel
theorem dX8_statute_13 : decode cX8_statute 13 = .ok (.aload_n 0, 1) := by decide +kernel
theorem dX8_statute_14 : decode cX8_statute 14 = .ok (.getfield 208, 3) := by decide +kernel
theorem dX8_statute_17 : decode cX8_statute 17 = .ok (.bipush 20, 2) := by decide +kernel
theorem dX8_statute_19 : decode cX8_statute 19 = .ok (.if_icmp .lt 6, 3) := by decide +kernel
theorem dX8_statute_22 : decode cX8_statute 22 = .ok (.bipush (-3), 2) := by decide +kernel
theorem dX8_statute_24 : decode cX8_statute 24 = .ok (.ireturn, 1) := by decide +kernel
theorem dX8_statute_25 : decode cX8_statute 25 = .ok (.aload_n 0, 1) := by decide +kernel
theorem dX8_statute_26 : decode cX8_statute 26 = .ok (.getfield 33, 3) := by decide +kernel
theorem dX8_statute_29 : decode cX8_statute 29 = .ok (.invokevirtual 197, 3) := by decide +kernel
theorem dX8_statute_32 : decode cX8_statute 32 = .ok (.istore_n 2, 1) := by decide +kernel
theorem dX8_statute_33 : decode cX8_statute 33 = .ok (.aload_n 0, 1) := by decide +kernel
theorem dX8_statute_34 : decode cX8_statute 34 = .ok (.getfield 33, 3) := by decide +kernel
theorem dX8_statute_37 : decode cX8_statute 37 = .ok (.iconst 0, 1) := by decide +kernel
theorem dX8_statute_38 : decode cX8_statute 38 = .ok (.putfield 186, 3) := by decide +kernel
theorem dX8_statute_41 : decode cX8_statute 41 = .ok (.iload_n 2, 1) := by decide +kernel
theorem dX8_statute_42 : decode cX8_statute 42 = .ok (.iconst (-1), 1) := by decide +kernel
theorem dX8_statute_43 : decode cX8_statute 43 = .ok (.if_icmp .eq 8, 3) := by decide +kernel
theorem dX8_statute_46 : decode cX8_statute 46 = .ok (.bipush (-100), 2) := by decide +kernel
theorem dX8_statute_48 : decode cX8_statute 48 = .ok (.iload_n 2, 1) := by decide +kernel
theorem dX8_statute_49 : decode cX8_statute 49 = .ok (.isub, 1) := by decide +kernel
theorem dX8_statute_50 : decode cX8_statute 50 = .ok (.ireturn, 1) := by decide +kernel
theorem dX8_statute_51 : decode cX8_statute 51 = .ok (.aload_n 0, 1) := by decide +kernel
theorem dX8_statute_52 : decode cX8_statute 52 = .ok (.getfield 52, 3) := by decide +kernel
theorem dX8_statute_55 : decode cX8_statute 55 = .ok (.aload_n 0, 1) := by decide +kernel
theorem dX8_statute_56 : decode cX8_statute 56 = .ok (.getfield 208, 3) := by decide +kernel
theorem dX8_statute_59 : decode cX8_statute 59 = .ok (.aload_n 0, 1) := by decide +kernel
theorem dX8_statute_60 : decode cX8_statute 60 = .ok (.getfield 33, 3) := by decide +kernel
theorem dX8_statute_63 : decode cX8_statute 63 = .ok (.invokevirtual 201, 3) := by decide +kernel
theorem dX8_statute_66 : decode cX8_statute 66 = .ok (.aastore, 1) := by decide +kernel
theorem dX8_statute_67 : decode cX8_statute 67 = .ok (.aload_n 0, 1) := by decide +kernel
theorem dX8_statute_68 : decode cX8_statute 68 = .ok (.getfield 56, 3) := by decide +kernel
theorem dX8_statute_71 : decode cX8_statute 71 = .ok (.aload_n 0, 1) := by decide +kernel
theorem dX8_statute_72 : decode cX8_statute 72 = .ok (.getfield 208, 3) := by decide +kernel
theorem dX8_statute_75 : decode cX8_statute 75 = .ok (.iload_n 1, 1) := by decide +kernel
theorem dX8_statute_76 : decode cX8_statute 76 = .ok (.iastore, 1) := by decide +kernel
theorem dX8_statute_77 : decode cX8_statute 77 = .ok (.aload_n 0, 1) := by decide +kernel
theorem dX8_statute_78 : decode cX8_statute 78 = .ok (.dup, 1) := by decide +kernel
theorem dX8_statute_79 : decode cX8_statute 79 = .ok (.getfield 208, 3) := by decide +kernel
theorem dX8_statute_82 : decode cX8_statute 82 = .ok (.iconst 1, 1) := by decide +kernel
theorem dX8_statute_83 : decode cX8_statute 83 = .ok (.iadd, 1) := by decide +kernel
theorem dX8_statute_84 : decode cX8_statute 84 = .ok (.putfield 208, 3) := by decide +kernel
theorem dX8_statute_87 : decode cX8_statute 87 = .ok (.aload_n 0, 1) := by decide +kernel
theorem dX8_statute_88 : decode cX8_statute 88 = .ok (.getfield 208, 3) := by decide +kernel
theorem dX8_statute_91 : decode cX8_statute 91 = .ok (.ireturn, 1) := by decide +kernel
theorem dX8_end_0 : decode cX8_end 0 = .ok (.aload_n 0, 1) := by decide +kernel
theorem dX8_end_1 : decode cX8_end 1 = .ok (.iload_n 1, 1) := by decide +kernel
theorem dX8_end_2 : decode cX8_end 2 = .ok (.invokevirtual 211, 3) := by decide +kernel
theorem dX8_end_5 : decode cX8_end 5 = .ok (.astore_n 3, 1) := by decide +kernel
theorem dX8_end_6 : decode cX8_end 6 = .ok (.aload_n 0, 1) := by decide +kernel
theorem dX8_end_7 : decode cX8_end 7 = .ok (.getfield 10, 3) := by decide +kernel
theorem dX8_end_10 : decode cX8_end 10 = .ok (.iload_n 2, 1) := by decide +kernel
theorem dX8_end_11 : decode cX8_end 11 = .ok (.invokevirtual 80, 3) := by decide +kernel
theorem dX8_end_14 : decode cX8_end 14 = .ok (.astore 4, 2) := by decide +kernel
theorem dX8_end_16 : decode cX8_end 16 = .ok (.aload_n 3, 1) := by decide +kernel
theorem dX8_end_17 : decode cX8_end 17 = .ok (.ifnull 8, 3) := by decide +kernel
theorem dX8_end_20 : decode cX8_end 20 = .ok (.aload 4, 2) := by decide +kernel
theorem dX8_end_22 : decode cX8_end 22 = .ok (.ifnonnull 6, 3) := by decide +kernel
theorem dX8_end_25 : decode cX8_end 25 = .ok (.ldc 215, 2) := by decide +kernel
theorem dX8_end_27 : decode cX8_end 27 = .ok (.ireturn, 1) := by decide +kernel
theorem dX8_end_28 : decode cX8_end 28 = .ok (.aload_n 0, 1) := by decide +kernel
theorem dX8_end_29 : decode cX8_end 29 = .ok (.invokevirtual 216, 3) := by decide +kernel
theorem dX8_end_32 : decode cX8_end 32 = .ok (.aload_n 0, 1) := by decide +kernel
theorem dX8_end_33 : decode cX8_end 33 = .ok (.getfield 40, 3) := by decide +kernel
theorem dX8_end_36 : decode cX8_end 36 = .ok (.iload_n 2, 1) := by decide +kernel
theorem dX8_end_37 : decode cX8_end 37 = .ok (.aload 4, 2) := by decide +kernel
theorem dX8_end_39 : decode cX8_end 39 = .ok (.invokevirtual 219, 3) := by decide +kernel
theorem dX8_end_42 : decode cX8_end 42 = .ok (.aload_n 0, 1) := by decide +kernel
theorem dX8_end_43 : decode cX8_end 43 = .ok (.getfield 40, 3) := by decide +kernel
theorem dX8_end_46 : decode cX8_end 46 = .ok (.aload_n 3, 1) := by decide +kernel
theorem dX8_end_47 : decode cX8_end 47 = .ok (.invokevirtual 222, 3) := by decide +kernel
theorem dX8_end_50 : decode cX8_end 50 = .ok (.ireturn, 1) := by decide +kernel
theorem dX8_about_0 : decode cX8_about 0 = .ok (.aload_n 0, 1) := by decide +kernel
theorem dX8_about_1 : decode cX8_about 1 = .ok (.getfield 10, 3) := by decide +kernel
theorem dX8_about_4 : decode cX8_about 4 = .ok (.iload_n 1, 1) := by decide +kernel
theorem dX8_about_5 : decode cX8_about 5 = .ok (.invokevirtual 80, 3) := by decide +kernel
theorem dX8_about_8 : decode cX8_about 8 = .ok (.astore_n 3, 1) := by decide +kernel
theorem dX8_about_9 : decode cX8_about 9 = .ok (.aload_n 3, 1) := by decide +kernel
theorem dX8_about_10 : decode cX8_about 10 = .ok (.ifnonnull 5, 3) := by decide +kernel
theorem dX8_about_13 : decode cX8_about 13 = .ok (.iconst (-1), 1) := by decide +kernel
theorem dX8_about_14 : decode cX8_about 14 = .ok (.ireturn, 1) := by decide +kernel
theorem dX8_about_15 : decode cX8_about 15 = .ok (.iload_n 2, 1) := by decide +kernel
theorem dX8_about_16 : decode cX8_about 16 = .ok (.tableswitch 159 0 12 #[68, 73, 78, 83, 89, 94, 107, 116, 130, 135, 140, 149, 154], 68) := by decide +kernel
theorem dX8_about_84 : decode cX8_about 84 = .ok (.aload_n 3, 1) := by decide +kernel
theorem dX8_about_85 : decode cX8_about 85 = .ok (.getfield 95, 3) := by decide +kernel
theorem dX8_about_88 : decode cX8_about 88 = .ok (.ireturn, 1) := by decide +kernel
theorem dX8_about_89 : decode cX8_about 89 = .ok (.aload_n 3, 1) := by decide +kernel
theorem dX8_about_90 : decode cX8_about 90 = .ok (.getfield 109, 3) := by decide +kernel
theorem dX8_about_93 : decode cX8_about 93 = .ok (.ireturn, 1) := by decide +kernel
theorem dX8_about_94 : decode cX8_about 94 = .ok (.aload_n 3, 1) := by decide +kernel
theorem dX8_about_95 : decode cX8_about 95 = .ok (.getfield 146, 3) := by decide +kernel
theorem dX8_about_98 : decode cX8_about 98 = .ok (.ireturn, 1) := by decide +kernel
theorem dX8_about_99 : decode cX8_about 99 = .ok (.aload_n 0, 1) := by decide +kernel
theorem dX8_about_100 : decode cX8_about 100 = .ok (.iload_n 1, 1) := by decide +kernel
theorem dX8_about_101 : decode cX8_about 101 = .ok (.invokevirtual 226, 3) := by decide +kernel
theorem dX8_about_104 : decode cX8_about 104 = .ok (.ireturn, 1) := by decide +kernel
theorem dX8_about_105 : decode cX8_about 105 = .ok (.aload_n 3, 1) := by decide +kernel
theorem dX8_about_106 : decode cX8_about 106 = .ok (.getfield 158, 3) := by decide +kernel
theorem dX8_about_109 : decode cX8_about 109 = .ok (.ireturn, 1) := by decide +kernel
theorem dX8_about_110 : decode cX8_about 110 = .ok (.aload_n 3, 1) := by decide +kernel
theorem dX8_about_111 : decode cX8_about 111 = .ok (.invokevirtual 152, 3) := by decide +kernel
theorem dX8_about_114 : decode cX8_about 114 = .ok (.ifCond .eq 7, 3) := by decide +kernel
theorem dX8_about_117 : decode cX8_about 117 = .ok (.iconst 1, 1) := by decide +kernel
theorem dX8_about_118 : decode cX8_about 118 = .ok (.goto 4, 3) := by decide +kernel
theorem dX8_about_121 : decode cX8_about 121 = .ok (.iconst 0, 1) := by decide +kernel
theorem dX8_about_122 : decode cX8_about 122 = .ok (.ireturn, 1) := by decide +kernel
theorem dX8_about_123 : decode cX8_about 123 = .ok (.aload_n 0, 1) := by decide +kernel
theorem dX8_about_124 : decode cX8_about 124 = .ok (.iload_n 1, 1) := by decide +kernel
theorem dX8_about_125 : decode cX8_about 125 = .ok (.invokevirtual 229, 3) := by decide +kernel
theorem dX8_about_128 : decode cX8_about 128 = .ok (.invokestatic 232, 3) := by decide +kernel
theorem dX8_about_131 : decode cX8_about 131 = .ok (.ireturn, 1) := by decide +kernel
theorem dX8_about_132 : decode cX8_about 132 = .ok (.aload_n 0, 1) := by decide +kernel
theorem dX8_about_133 : decode cX8_about 133 = .ok (.iload_n 1, 1) := by decide +kernel
theorem dX8_about_134 : decode cX8_about 134 = .ok (.invokevirtual 229, 3) := by decide +kernel
theorem dX8_about_137 : decode cX8_about 137 = .ok (.ifCond .le 7, 3) := by decide +kernel
theorem dX8_about_140 : decode cX8_about 140 = .ok (.iconst 1, 1) := by decide +kernel
theorem dX8_about_141 : decode cX8_about 141 = .ok (.goto 4, 3) := by decide +kernel
theorem dX8_about_144 : decode cX8_about 144 = .ok (.iconst 0, 1) := by decide +kernel
theorem dX8_about_145 : decode cX8_about 145 = .ok (.ireturn, 1) := by decide +kernel
theorem dX8_about_146 : decode cX8_about 146 = .ok (.aload_n 3, 1) := by decide +kernel
theorem dX8_about_147 : decode cX8_about 147 = .ok (.getfield 166, 3) := by decide +kernel
theorem dX8_about_150 : decode cX8_about 150 = .ok (.ireturn, 1) := by decide +kernel
theorem dX8_about_151 : decode cX8_about 151 = .ok (.aload_n 3, 1) := by decide +kernel
theorem dX8_about_152 : decode cX8_about 152 = .ok (.getfield 88, 3) := by decide +kernel
theorem dX8_about_155 : decode cX8_about 155 = .ok (.ireturn, 1) := by decide +kernel
theorem dX8_about_156 : decode cX8_about 156 = .ok (.aload_n 0, 1) := by decide +kernel
theorem dX8_about_157 : decode cX8_about 157 = .ok (.getfield 10, 3) := by decide +kernel
theorem dX8_about_160 : decode cX8_about 160 = .ok (.iload_n 1, 1) := by decide +kernel
theorem dX8_about_161 : decode cX8_about 161 = .ok (.invokevirtual 237, 3) := by decide +kernel
theorem dX8_about_164 : decode cX8_about 164 = .ok (.ireturn, 1) := by decide +kernel
theorem dX8_about_165 : decode cX8_about 165 = .ok (.aload_n 3, 1) := by decide +kernel
theorem dX8_about_166 : decode cX8_about 166 = .ok (.getfield 240, 3) := by decide +kernel
theorem dX8_about_169 : decode cX8_about 169 = .ok (.ireturn, 1) := by decide +kernel
theorem dX8_about_170 : decode cX8_about 170 = .ok (.aload_n 3, 1) := by decide +kernel
theorem dX8_about_171 : decode cX8_about 171 = .ok (.getfield 243, 3) := by decide +kernel
theorem dX8_about_174 : decode cX8_about 174 = .ok (.ireturn, 1) := by decide +kernel
theorem dX8_about_175 : decode cX8_about 175 = .ok (.iconst (-1), 1) := by decide +kernel
theorem dX8_about_176 : decode cX8_about 176 = .ok (.ireturn, 1) := by decide +kernel
theorem dX8_support_0 : decode cX8_support 0 = .ok (.aload_n 0, 1) := by decide +kernel
theorem dX8_support_1 : decode cX8_support 1 = .ok (.getfield 10, 3) := by decide +kernel
theorem dX8_support_4 : decode cX8_support 4 = .ok (.iload_n 1, 1) := by decide +kernel
theorem dX8_support_5 : decode cX8_support 5 = .ok (.invokevirtual 80, 3) := by decide +kernel
theorem dX8_support_8 : decode cX8_support 8 = .ok (.astore_n 3, 1) := by decide +kernel
theorem dX8_support_9 : decode cX8_support 9 = .ok (.aload_n 3, 1) := by decide +kernel
theorem dX8_support_10 : decode cX8_support 10 = .ok (.ifnull 15, 3) := by decide +kernel
theorem dX8_support_13 : decode cX8_support 13 = .ok (.iload_n 2, 1) := by decide +kernel
theorem dX8_support_14 : decode cX8_support 14 = .ok (.ifCond .lt 11, 3) := by decide +kernel
theorem dX8_support_17 : decode cX8_support 17 = .ok (.iload_n 2, 1) := by decide +kernel
theorem dX8_support_18 : decode cX8_support 18 = .ok (.aload_n 3, 1) := by decide +kernel
theorem dX8_support_19 : decode cX8_support 19 = .ok (.getfield 88, 3) := by decide +kernel
theorem dX8_support_22 : decode cX8_support 22 = .ok (.if_icmp .lt 5, 3) := by decide +kernel
theorem dX8_support_25 : decode cX8_support 25 = .ok (.iconst (-1), 1) := by decide +kernel
theorem dX8_support_26 : decode cX8_support 26 = .ok (.ireturn, 1) := by decide +kernel
theorem dX8_support_27 : decode cX8_support 27 = .ok (.bipush 100, 2) := by decide +kernel
theorem dX8_support_29 : decode cX8_support 29 = .ok (.aload_n 3, 1) := by decide +kernel
theorem dX8_support_30 : decode cX8_support 30 = .ok (.getfield 246, 3) := by decide +kernel
theorem dX8_support_33 : decode cX8_support 33 = .ok (.iload_n 2, 1) := by decide +kernel
theorem dX8_support_34 : decode cX8_support 34 = .ok (.iaload, 1) := by decide +kernel
theorem dX8_support_35 : decode cX8_support 35 = .ok (.imul, 1) := by decide +kernel
theorem dX8_support_36 : decode cX8_support 36 = .ok (.aload_n 3, 1) := by decide +kernel
theorem dX8_support_37 : decode cX8_support 37 = .ok (.getfield 249, 3) := by decide +kernel
theorem dX8_support_40 : decode cX8_support 40 = .ok (.iload_n 2, 1) := by decide +kernel
theorem dX8_support_41 : decode cX8_support 41 = .ok (.iaload, 1) := by decide +kernel
theorem dX8_support_42 : decode cX8_support 42 = .ok (.iadd, 1) := by decide +kernel
theorem dX8_support_43 : decode cX8_support 43 = .ok (.ireturn, 1) := by decide +kernel
theorem dX8_left_0 : decode cX8_left 0 = .ok (.aload_n 0, 1) := by decide +kernel
theorem dX8_left_1 : decode cX8_left 1 = .ok (.iload_n 1, 1) := by decide +kernel
theorem dX8_left_2 : decode cX8_left 2 = .ok (.invokevirtual 211, 3) := by decide +kernel
theorem dX8_left_5 : decode cX8_left 5 = .ok (.astore_n 3, 1) := by decide +kernel
theorem dX8_left_6 : decode cX8_left 6 = .ok (.aload_n 3, 1) := by decide +kernel
theorem dX8_left_7 : decode cX8_left 7 = .ok (.ifnull 12, 3) := by decide +kernel
theorem dX8_left_10 : decode cX8_left 10 = .ok (.iload_n 2, 1) := by decide +kernel
theorem dX8_left_11 : decode cX8_left 11 = .ok (.ifCond .lt 8, 3) := by decide +kernel
theorem dX8_left_14 : decode cX8_left 14 = .ok (.iload_n 2, 1) := by decide +kernel
theorem dX8_left_15 : decode cX8_left 15 = .ok (.iconst 1, 1) := by decide +kernel
theorem dX8_left_16 : decode cX8_left 16 = .ok (.if_icmp .le 5, 3) := by decide +kernel
theorem dX8_left_19 : decode cX8_left 19 = .ok (.iconst (-1), 1) := by decide +kernel
theorem dX8_left_20 : decode cX8_left 20 = .ok (.ireturn, 1) := by decide +kernel
theorem dX8_left_21 : decode cX8_left 21 = .ok (.iload_n 2, 1) := by decide +kernel
theorem dX8_left_22 : decode cX8_left 22 = .ok (.ifCond .ne 10, 3) := by decide +kernel
theorem dX8_left_25 : decode cX8_left 25 = .ok (.aload_n 3, 1) := by decide +kernel
theorem dX8_left_26 : decode cX8_left 26 = .ok (.getfield 252, 3) := by decide +kernel
theorem dX8_left_29 : decode cX8_left 29 = .ok (.goto 7, 3) := by decide +kernel
theorem dX8_left_32 : decode cX8_left 32 = .ok (.aload_n 3, 1) := by decide +kernel
theorem dX8_left_33 : decode cX8_left 33 = .ok (.getfield 255, 3) := by decide +kernel
theorem dX8_left_36 : decode cX8_left 36 = .ok (.ireturn, 1) := by decide +kernel
theorem dX8_work_0 : decode cX8_work 0 = .ok (.aload_n 0, 1) := by decide +kernel
theorem dX8_work_1 : decode cX8_work 1 = .ok (.invokevirtual 258, 3) := by decide +kernel
theorem dX8_work_4 : decode cX8_work 4 = .ok (.istore_n 1, 1) := by decide +kernel
theorem dX8_work_5 : decode cX8_work 5 = .ok (.iload_n 1, 1) := by decide +kernel
theorem dX8_work_6 : decode cX8_work 6 = .ok (.ifCond .ge 6, 3) := by decide +kernel
theorem dX8_work_9 : decode cX8_work 9 = .ok (.bipush 10, 2) := by decide +kernel
theorem dX8_work_11 : decode cX8_work 11 = .ok (.ireturn, 1) := by decide +kernel
theorem dX8_work_12 : decode cX8_work 12 = .ok (.aload_n 0, 1) := by decide +kernel
theorem dX8_work_13 : decode cX8_work 13 = .ok (.invokevirtual 216, 3) := by decide +kernel
theorem dX8_work_16 : decode cX8_work 16 = .ok (.aload_n 0, 1) := by decide +kernel
theorem dX8_work_17 : decode cX8_work 17 = .ok (.getfield 40, 3) := by decide +kernel
theorem dX8_work_20 : decode cX8_work 20 = .ok (.invokevirtual 261, 3) := by decide +kernel
theorem dX8_work_23 : decode cX8_work 23 = .ok (.iconst 0, 1) := by decide +kernel
theorem dX8_work_24 : decode cX8_work 24 = .ok (.aload_n 0, 1) := by decide +kernel
theorem dX8_work_25 : decode cX8_work 25 = .ok (.getfield 40, 3) := by decide +kernel
theorem dX8_work_28 : decode cX8_work 28 = .ok (.aload_n 0, 1) := by decide +kernel
theorem dX8_work_29 : decode cX8_work 29 = .ok (.getfield 52, 3) := by decide +kernel
theorem dX8_work_32 : decode cX8_work 32 = .ok (.iload_n 1, 1) := by decide +kernel
theorem dX8_work_33 : decode cX8_work 33 = .ok (.aaload, 1) := by decide +kernel
theorem dX8_work_34 : decode cX8_work 34 = .ok (.invokevirtual 264, 3) := by decide +kernel
theorem dX8_work_37 : decode cX8_work 37 = .ok (.invokestatic 268, 3) := by decide +kernel
theorem dX8_work_40 : decode cX8_work 40 = .ok (.ireturn, 1) := by decide +kernel
theorem dX8_as_0 : decode cX8_as 0 = .ok (.aload_n 0, 1) := by decide +kernel
theorem dX8_as_1 : decode cX8_as 1 = .ok (.getfield 10, 3) := by decide +kernel
theorem dX8_as_4 : decode cX8_as 4 = .ok (.iload_n 1, 1) := by decide +kernel
theorem dX8_as_5 : decode cX8_as 5 = .ok (.invokevirtual 80, 3) := by decide +kernel
theorem dX8_as_8 : decode cX8_as 8 = .ok (.astore_n 3, 1) := by decide +kernel
theorem dX8_as_9 : decode cX8_as 9 = .ok (.aload_n 3, 1) := by decide +kernel
theorem dX8_as_10 : decode cX8_as 10 = .ok (.ifnull 18, 3) := by decide +kernel
theorem dX8_as_13 : decode cX8_as 13 = .ok (.iload_n 2, 1) := by decide +kernel
theorem dX8_as_14 : decode cX8_as 14 = .ok (.ifCond .lt 14, 3) := by decide +kernel
theorem dX8_as_17 : decode cX8_as 17 = .ok (.iload_n 2, 1) := by decide +kernel
theorem dX8_as_18 : decode cX8_as 18 = .ok (.aload_n 0, 1) := by decide +kernel
theorem dX8_as_19 : decode cX8_as 19 = .ok (.getfield 26, 3) := by decide +kernel
theorem dX8_as_22 : decode cX8_as 22 = .ok (.getfield 136, 3) := by decide +kernel
theorem dX8_as_25 : decode cX8_as 25 = .ok (.if_icmp .le 5, 3) := by decide +kernel
theorem dX8_as_28 : decode cX8_as 28 = .ok (.iconst (-1), 1) := by decide +kernel
theorem dX8_as_29 : decode cX8_as 29 = .ok (.ireturn, 1) := by decide +kernel
theorem dX8_as_30 : decode cX8_as 30 = .ok (.aload_n 3, 1) := by decide +kernel
theorem dX8_as_31 : decode cX8_as 31 = .ok (.iload_n 2, 1) := by decide +kernel
theorem dX8_as_32 : decode cX8_as 32 = .ok (.invokevirtual 271, 3) := by decide +kernel
theorem dX8_as_35 : decode cX8_as 35 = .ok (.ireturn, 1) := by decide +kernel
theorem dX8_down_0 : decode cX8_down 0 = .ok (.aload_n 0, 1) := by decide +kernel
theorem dX8_down_1 : decode cX8_down 1 = .ok (.getfield 10, 3) := by decide +kernel
theorem dX8_down_4 : decode cX8_down 4 = .ok (.iload_n 1, 1) := by decide +kernel
theorem dX8_down_5 : decode cX8_down 5 = .ok (.invokevirtual 80, 3) := by decide +kernel
theorem dX8_down_8 : decode cX8_down 8 = .ok (.astore_n 2, 1) := by decide +kernel
theorem dX8_down_9 : decode cX8_down 9 = .ok (.aload_n 2, 1) := by decide +kernel
theorem dX8_down_10 : decode cX8_down 10 = .ok (.ifnonnull 5, 3) := by decide +kernel
theorem dX8_down_13 : decode cX8_down 13 = .ok (.iconst (-1), 1) := by decide +kernel
theorem dX8_down_14 : decode cX8_down 14 = .ok (.ireturn, 1) := by decide +kernel
theorem dX8_down_15 : decode cX8_down 15 = .ok (.aload_n 2, 1) := by decide +kernel
theorem dX8_down_16 : decode cX8_down 16 = .ok (.getfield 88, 3) := by decide +kernel
theorem dX8_down_19 : decode cX8_down 19 = .ok (.ifCond .eq 10, 3) := by decide +kernel
theorem dX8_down_22 : decode cX8_down 22 = .ok (.aload_n 2, 1) := by decide +kernel
theorem dX8_down_23 : decode cX8_down 23 = .ok (.invokevirtual 152, 3) := by decide +kernel
theorem dX8_down_26 : decode cX8_down 26 = .ok (.ifCond .eq 6, 3) := by decide +kernel
theorem dX8_down_29 : decode cX8_down 29 = .ok (.bipush (-5), 2) := by decide +kernel
theorem dX8_down_31 : decode cX8_down 31 = .ok (.ireturn, 1) := by decide +kernel
theorem dX8_down_32 : decode cX8_down 32 = .ok (.aload_n 2, 1) := by decide +kernel
theorem dX8_down_33 : decode cX8_down 33 = .ok (.getfield 246, 3) := by decide +kernel
theorem dX8_down_36 : decode cX8_down 36 = .ok (.aload_n 2, 1) := by decide +kernel
theorem dX8_down_37 : decode cX8_down 37 = .ok (.aload_n 0, 1) := by decide +kernel
theorem dX8_down_38 : decode cX8_down 38 = .ok (.iload_n 1, 1) := by decide +kernel
theorem dX8_down_39 : decode cX8_down 39 = .ok (.invokevirtual 226, 3) := by decide +kernel
theorem dX8_down_42 : decode cX8_down 42 = .ok (.invokevirtual 274, 3) := by decide +kernel
theorem dX8_down_45 : decode cX8_down 45 = .ok (.iaload, 1) := by decide +kernel
theorem dX8_down_46 : decode cX8_down 46 = .ok (.ireturn, 1) := by decide +kernel
theorem dX8_needs_0 : decode cX8_needs 0 = .ok (.aload_n 0, 1) := by decide +kernel
theorem dX8_needs_1 : decode cX8_needs 1 = .ok (.getfield 10, 3) := by decide +kernel
theorem dX8_needs_4 : decode cX8_needs 4 = .ok (.iload_n 1, 1) := by decide +kernel
theorem dX8_needs_5 : decode cX8_needs 5 = .ok (.invokevirtual 80, 3) := by decide +kernel
theorem dX8_needs_8 : decode cX8_needs 8 = .ok (.ifnonnull 5, 3) := by decide +kernel
theorem dX8_needs_11 : decode cX8_needs 11 = .ok (.iconst (-1), 1) := by decide +kernel
theorem dX8_needs_12 : decode cX8_needs 12 = .ok (.ireturn, 1) := by decide +kernel
theorem dX8_needs_13 : decode cX8_needs 13 = .ok (.aload_n 0, 1) := by decide +kernel
theorem dX8_needs_14 : decode cX8_needs 14 = .ok (.getfield 60, 3) := by decide +kernel
theorem dX8_needs_17 : decode cX8_needs 17 = .ok (.iconst 0, 1) := by decide +kernel
theorem dX8_needs_18 : decode cX8_needs 18 = .ok (.invokestatic 277, 3) := by decide +kernel
theorem dX8_needs_21 : decode cX8_needs 21 = .ok (.aload_n 0, 1) := by decide +kernel
theorem dX8_needs_22 : decode cX8_needs 22 = .ok (.getfield 60, 3) := by decide +kernel
theorem dX8_needs_25 : decode cX8_needs 25 = .ok (.iload_n 1, 1) := by decide +kernel
theorem dX8_needs_26 : decode cX8_needs 26 = .ok (.iconst 1, 1) := by decide +kernel
theorem dX8_needs_27 : decode cX8_needs 27 = .ok (.iastore, 1) := by decide +kernel
theorem dX8_needs_28 : decode cX8_needs 28 = .ok (.iconst 0, 1) := by decide +kernel
theorem dX8_needs_29 : decode cX8_needs 29 = .ok (.istore_n 2, 1) := by decide +kernel
theorem dX8_needs_30 : decode cX8_needs 30 = .ok (.iload_n 1, 1) := by decide +kernel
theorem dX8_needs_31 : decode cX8_needs 31 = .ok (.istore_n 3, 1) := by decide +kernel
theorem dX8_needs_32 : decode cX8_needs 32 = .ok (.iload_n 3, 1) := by decide +kernel
theorem dX8_needs_33 : decode cX8_needs 33 = .ok (.ifCond .lt 57, 3) := by decide +kernel
theorem dX8_needs_36 : decode cX8_needs 36 = .ok (.aload_n 0, 1) := by decide +kernel
theorem dX8_needs_37 : decode cX8_needs 37 = .ok (.getfield 10, 3) := by decide +kernel
theorem dX8_needs_40 : decode cX8_needs 40 = .ok (.iload_n 3, 1) := by decide +kernel
theorem dX8_needs_41 : decode cX8_needs 41 = .ok (.invokevirtual 80, 3) := by decide +kernel
theorem dX8_needs_44 : decode cX8_needs 44 = .ok (.astore 4, 2) := by decide +kernel
theorem dX8_needs_46 : decode cX8_needs 46 = .ok (.aload 4, 2) := by decide +kernel
theorem dX8_needs_48 : decode cX8_needs 48 = .ok (.ifnull 36, 3) := by decide +kernel
theorem dX8_needs_51 : decode cX8_needs 51 = .ok (.aload_n 0, 1) := by decide +kernel
theorem dX8_needs_52 : decode cX8_needs 52 = .ok (.getfield 60, 3) := by decide +kernel
theorem dX8_needs_55 : decode cX8_needs 55 = .ok (.iload_n 3, 1) := by decide +kernel
theorem dX8_needs_56 : decode cX8_needs 56 = .ok (.iaload, 1) := by decide +kernel
theorem dX8_needs_57 : decode cX8_needs 57 = .ok (.iconst 1, 1) := by decide +kernel
theorem dX8_needs_58 : decode cX8_needs 58 = .ok (.if_icmp .ne 26, 3) := by decide +kernel
theorem dX8_needs_61 : decode cX8_needs 61 = .ok (.iload_n 2, 1) := by decide +kernel
theorem dX8_needs_62 : decode cX8_needs 62 = .ok (.aload 4, 2) := by decide +kernel
theorem dX8_needs_64 : decode cX8_needs 64 = .ok (.getfield 109, 3) := by decide +kernel
theorem dX8_needs_67 : decode cX8_needs 67 = .ok (.aload 4, 2) := by decide +kernel
theorem dX8_needs_69 : decode cX8_needs 69 = .ok (.getfield 146, 3) := by decide +kernel
theorem dX8_needs_72 : decode cX8_needs 72 = .ok (.isub, 1) := by decide +kernel
theorem dX8_needs_73 : decode cX8_needs 73 = .ok (.iadd, 1) := by decide +kernel
theorem dX8_needs_74 : decode cX8_needs 74 = .ok (.istore_n 2, 1) := by decide +kernel
theorem dX8_needs_75 : decode cX8_needs 75 = .ok (.aload 4, 2) := by decide +kernel
theorem dX8_needs_77 : decode cX8_needs 77 = .ok (.aload_n 0, 1) := by decide +kernel
theorem dX8_needs_78 : decode cX8_needs 78 = .ok (.getfield 60, 3) := by decide +kernel
theorem dX8_needs_81 : decode cX8_needs 81 = .ok (.invokevirtual 283, 3) := by decide +kernel
theorem dX8_needs_84 : decode cX8_needs 84 = .ok (.iinc 3 (-1), 3) := by decide +kernel
theorem dX8_needs_87 : decode cX8_needs 87 = .ok (.goto (-55), 3) := by decide +kernel
theorem dX8_needs_90 : decode cX8_needs 90 = .ok (.iload_n 2, 1) := by decide +kernel
theorem dX8_needs_91 : decode cX8_needs 91 = .ok (.ireturn, 1) := by decide +kernel
theorem dX8_count_0 : decode cX8_count 0 = .ok (.iload_n 1, 1) := by decide +kernel
theorem dX8_count_1 : decode cX8_count 1 = .ok (.tableswitch 120 0 9 #[55, 63, 68, 76, 84, 89, 97, 102, 107, 112], 55) := by decide +kernel
theorem dX8_count_56 : decode cX8_count 56 = .ok (.aload_n 0, 1) := by decide +kernel
theorem dX8_count_57 : decode cX8_count 57 = .ok (.getfield 10, 3) := by decide +kernel
theorem dX8_count_60 : decode cX8_count 60 = .ok (.getfield 67, 3) := by decide +kernel
theorem dX8_count_63 : decode cX8_count 63 = .ok (.ireturn, 1) := by decide +kernel
theorem dX8_count_64 : decode cX8_count 64 = .ok (.aload_n 0, 1) := by decide +kernel
theorem dX8_count_65 : decode cX8_count 65 = .ok (.getfield 194, 3) := by decide +kernel
theorem dX8_count_68 : decode cX8_count 68 = .ok (.ireturn, 1) := by decide +kernel
theorem dX8_count_69 : decode cX8_count 69 = .ok (.aload_n 0, 1) := by decide +kernel
theorem dX8_count_70 : decode cX8_count 70 = .ok (.getfield 26, 3) := by decide +kernel
theorem dX8_count_73 : decode cX8_count 73 = .ok (.getfield 136, 3) := by decide +kernel
theorem dX8_count_76 : decode cX8_count 76 = .ok (.ireturn, 1) := by decide +kernel
theorem dX8_count_77 : decode cX8_count 77 = .ok (.aload_n 0, 1) := by decide +kernel
theorem dX8_count_78 : decode cX8_count 78 = .ok (.getfield 10, 3) := by decide +kernel
theorem dX8_count_81 : decode cX8_count 81 = .ok (.getfield 102, 3) := by decide +kernel
theorem dX8_count_84 : decode cX8_count 84 = .ok (.ireturn, 1) := by decide +kernel
theorem dX8_count_85 : decode cX8_count 85 = .ok (.aload_n 0, 1) := by decide +kernel
theorem dX8_count_86 : decode cX8_count 86 = .ok (.getfield 143, 3) := by decide +kernel
theorem dX8_count_89 : decode cX8_count 89 = .ok (.ireturn, 1) := by decide +kernel
theorem dX8_count_90 : decode cX8_count 90 = .ok (.aload_n 0, 1) := by decide +kernel
theorem dX8_count_91 : decode cX8_count 91 = .ok (.getfield 10, 3) := by decide +kernel
theorem dX8_count_94 : decode cX8_count 94 = .ok (.invokevirtual 287, 3) := by decide +kernel
theorem dX8_count_97 : decode cX8_count 97 = .ok (.ireturn, 1) := by decide +kernel
theorem dX8_count_98 : decode cX8_count 98 = .ok (.aload_n 0, 1) := by decide +kernel
theorem dX8_count_99 : decode cX8_count 99 = .ok (.invokevirtual 290, 3) := by decide +kernel
theorem dX8_count_102 : decode cX8_count 102 = .ok (.ireturn, 1) := by decide +kernel
theorem dX8_count_103 : decode cX8_count 103 = .ok (.aload_n 0, 1) := by decide +kernel
theorem dX8_count_104 : decode cX8_count 104 = .ok (.getfield 293, 3) := by decide +kernel
theorem dX8_count_107 : decode cX8_count 107 = .ok (.ireturn, 1) := by decide +kernel
theorem dX8_count_108 : decode cX8_count 108 = .ok (.aload_n 0, 1) := by decide +kernel
theorem dX8_count_109 : decode cX8_count 109 = .ok (.getfield 208, 3) := by decide +kernel
theorem dX8_count_112 : decode cX8_count 112 = .ok (.ireturn, 1) := by decide +kernel
theorem dX8_count_113 : decode cX8_count 113 = .ok (.aload_n 0, 1) := by decide +kernel
theorem dX8_count_114 : decode cX8_count 114 = .ok (.getfield 33, 3) := by decide +kernel
theorem dX8_count_117 : decode cX8_count 117 = .ok (.getfield 186, 3) := by decide +kernel
theorem dX8_count_120 : decode cX8_count 120 = .ok (.ireturn, 1) := by decide +kernel
theorem dX8_count_121 : decode cX8_count 121 = .ok (.iconst (-1), 1) := by decide +kernel
theorem dX8_count_122 : decode cX8_count 122 = .ok (.ireturn, 1) := by decide +kernel
theorem dX8_isMeasure_0 : decode cX8_isMeasure 0 = .ok (.iload_n 0, 1) := by decide +kernel
theorem dX8_isMeasure_1 : decode cX8_isMeasure 1 = .ok (.iconst 1, 1) := by decide +kernel
theorem dX8_isMeasure_2 : decode cX8_isMeasure 2 = .ok (.if_icmp .lt 36, 3) := by decide +kernel
theorem dX8_isMeasure_5 : decode cX8_isMeasure 5 = .ok (.iload_n 0, 1) := by decide +kernel
theorem dX8_isMeasure_6 : decode cX8_isMeasure 6 = .ok (.bipush 30, 2) := by decide +kernel
theorem dX8_isMeasure_8 : decode cX8_isMeasure 8 = .ok (.if_icmp .gt 30, 3) := by decide +kernel
theorem dX8_isMeasure_11 : decode cX8_isMeasure 11 = .ok (.iload_n 1, 1) := by decide +kernel
theorem dX8_isMeasure_12 : decode cX8_isMeasure 12 = .ok (.iconst 1, 1) := by decide +kernel
theorem dX8_isMeasure_13 : decode cX8_isMeasure 13 = .ok (.if_icmp .lt 25, 3) := by decide +kernel
theorem dX8_isMeasure_16 : decode cX8_isMeasure 16 = .ok (.iload_n 1, 1) := by decide +kernel
theorem dX8_isMeasure_17 : decode cX8_isMeasure 17 = .ok (.sipush 999, 3) := by decide +kernel
theorem dX8_isMeasure_20 : decode cX8_isMeasure 20 = .ok (.if_icmp .gt 18, 3) := by decide +kernel
theorem dX8_isMeasure_23 : decode cX8_isMeasure 23 = .ok (.iload_n 2, 1) := by decide +kernel
theorem dX8_isMeasure_24 : decode cX8_isMeasure 24 = .ok (.ifCond .lt 14, 3) := by decide +kernel
theorem dX8_isMeasure_27 : decode cX8_isMeasure 27 = .ok (.iload_n 2, 1) := by decide +kernel
theorem dX8_isMeasure_28 : decode cX8_isMeasure 28 = .ok (.sipush 999, 3) := by decide +kernel
theorem dX8_isMeasure_31 : decode cX8_isMeasure 31 = .ok (.if_icmp .gt 7, 3) := by decide +kernel
theorem dX8_isMeasure_34 : decode cX8_isMeasure 34 = .ok (.iconst 1, 1) := by decide +kernel
theorem dX8_isMeasure_35 : decode cX8_isMeasure 35 = .ok (.goto 4, 3) := by decide +kernel
theorem dX8_isMeasure_38 : decode cX8_isMeasure 38 = .ok (.iconst 0, 1) := by decide +kernel
theorem dX8_isMeasure_39 : decode cX8_isMeasure 39 = .ok (.ireturn, 1) := by decide +kernel
theorem dX8_stands_0 : decode cX8_stands 0 = .ok (.aload_n 0, 1) := by decide +kernel
theorem dX8_stands_1 : decode cX8_stands 1 = .ok (.getfield 19, 3) := by decide +kernel
theorem dX8_stands_4 : decode cX8_stands 4 = .ok (.aload_n 0, 1) := by decide +kernel
theorem dX8_stands_5 : decode cX8_stands 5 = .ok (.getfield 10, 3) := by decide +kernel
theorem dX8_stands_8 : decode cX8_stands 8 = .ok (.invokevirtual 296, 3) := by decide +kernel
theorem dX8_stands_11 : decode cX8_stands 11 = .ok (.bipush (-5), 2) := by decide +kernel
theorem dX8_stands_13 : decode cX8_stands 13 = .ok (.if_icmp .ne 7, 3) := by decide +kernel
theorem dX8_stands_16 : decode cX8_stands 16 = .ok (.iconst 1, 1) := by decide +kernel
theorem dX8_stands_17 : decode cX8_stands 17 = .ok (.goto 4, 3) := by decide +kernel
theorem dX8_stands_20 : decode cX8_stands 20 = .ok (.iconst 0, 1) := by decide +kernel
theorem dX8_stands_21 : decode cX8_stands 21 = .ok (.ireturn, 1) := by decide +kernel
theorem dX8_loadOf_0 : decode cX8_loadOf 0 = .ok (.aload_n 0, 1) := by decide +kernel
theorem dX8_loadOf_1 : decode cX8_loadOf 1 = .ok (.getfield 19, 3) := by decide +kernel
theorem dX8_loadOf_4 : decode cX8_loadOf 4 = .ok (.aload_n 0, 1) := by decide +kernel
theorem dX8_loadOf_5 : decode cX8_loadOf 5 = .ok (.getfield 10, 3) := by decide +kernel
theorem dX8_loadOf_8 : decode cX8_loadOf 8 = .ok (.invokevirtual 300, 3) := by decide +kernel
theorem dX8_loadOf_11 : decode cX8_loadOf 11 = .ok (.aload_n 0, 1) := by decide +kernel
theorem dX8_loadOf_12 : decode cX8_loadOf 12 = .ok (.getfield 19, 3) := by decide +kernel
theorem dX8_loadOf_15 : decode cX8_loadOf 15 = .ok (.getfield 304, 3) := by decide +kernel
theorem dX8_loadOf_18 : decode cX8_loadOf 18 = .ok (.iload_n 1, 1) := by decide +kernel
theorem dX8_loadOf_19 : decode cX8_loadOf 19 = .ok (.iaload, 1) := by decide +kernel
theorem dX8_loadOf_20 : decode cX8_loadOf 20 = .ok (.ireturn, 1) := by decide +kernel
theorem dX8_pushToRightOn_0 : decode cX8_pushToRightOn 0 = .ok (.aload_n 0, 1) := by decide +kernel
theorem dX8_pushToRightOn_1 : decode cX8_pushToRightOn 1 = .ok (.getfield 19, 3) := by decide +kernel
theorem dX8_pushToRightOn_4 : decode cX8_pushToRightOn 4 = .ok (.aload_n 0, 1) := by decide +kernel
theorem dX8_pushToRightOn_5 : decode cX8_pushToRightOn 5 = .ok (.getfield 10, 3) := by decide +kernel
theorem dX8_pushToRightOn_8 : decode cX8_pushToRightOn 8 = .ok (.invokevirtual 300, 3) := by decide +kernel
theorem dX8_pushToRightOn_11 : decode cX8_pushToRightOn 11 = .ok (.aload_n 0, 1) := by decide +kernel
theorem dX8_pushToRightOn_12 : decode cX8_pushToRightOn 12 = .ok (.getfield 19, 3) := by decide +kernel
theorem dX8_pushToRightOn_15 : decode cX8_pushToRightOn 15 = .ok (.getfield 307, 3) := by decide +kernel
theorem dX8_pushToRightOn_18 : decode cX8_pushToRightOn 18 = .ok (.iload_n 1, 1) := by decide +kernel
theorem dX8_pushToRightOn_19 : decode cX8_pushToRightOn 19 = .ok (.iaload, 1) := by decide +kernel
theorem dX8_pushToRightOn_20 : decode cX8_pushToRightOn 20 = .ok (.ireturn, 1) := by decide +kernel
theorem dX8_fallByCourse_0 : decode cX8_fallByCourse 0 = .ok (.aload_n 1, 1) := by decide +kernel
theorem dX8_fallByCourse_1 : decode cX8_fallByCourse 1 = .ok (.dup, 1) := by decide +kernel
theorem dX8_fallByCourse_2 : decode cX8_fallByCourse 2 = .ok (.getfield 146, 3) := by decide +kernel
theorem dX8_fallByCourse_5 : decode cX8_fallByCourse 5 = .ok (.iconst 1, 1) := by decide +kernel
theorem dX8_fallByCourse_6 : decode cX8_fallByCourse 6 = .ok (.iadd, 1) := by decide +kernel
theorem dX8_fallByCourse_7 : decode cX8_fallByCourse 7 = .ok (.putfield 146, 3) := by decide +kernel
theorem dX8_fallByCourse_10 : decode cX8_fallByCourse 10 = .ok (.aload_n 0, 1) := by decide +kernel
theorem dX8_fallByCourse_11 : decode cX8_fallByCourse 11 = .ok (.getfield 19, 3) := by decide +kernel
theorem dX8_fallByCourse_14 : decode cX8_fallByCourse 14 = .ok (.aload_n 0, 1) := by decide +kernel
theorem dX8_fallByCourse_15 : decode cX8_fallByCourse 15 = .ok (.getfield 10, 3) := by decide +kernel
theorem dX8_fallByCourse_18 : decode cX8_fallByCourse 18 = .ok (.invokevirtual 296, 3) := by decide +kernel
theorem dX8_fallByCourse_21 : decode cX8_fallByCourse 21 = .ok (.istore_n 2, 1) := by decide +kernel
theorem dX8_fallByCourse_22 : decode cX8_fallByCourse 22 = .ok (.aload_n 1, 1) := by decide +kernel
theorem dX8_fallByCourse_23 : decode cX8_fallByCourse 23 = .ok (.dup, 1) := by decide +kernel
theorem dX8_fallByCourse_24 : decode cX8_fallByCourse 24 = .ok (.getfield 146, 3) := by decide +kernel
theorem dX8_fallByCourse_27 : decode cX8_fallByCourse 27 = .ok (.iconst 1, 1) := by decide +kernel
theorem dX8_fallByCourse_28 : decode cX8_fallByCourse 28 = .ok (.isub, 1) := by decide +kernel
theorem dX8_fallByCourse_29 : decode cX8_fallByCourse 29 = .ok (.putfield 146, 3) := by decide +kernel
theorem dX8_fallByCourse_32 : decode cX8_fallByCourse 32 = .ok (.iload_n 2, 1) := by decide +kernel
theorem dX8_fallByCourse_33 : decode cX8_fallByCourse 33 = .ok (.ireturn, 1) := by decide +kernel
theorem dX8_hindranceOfCourse_0 : decode cX8_hindranceOfCourse 0 = .ok (.aload_n 2, 1) := by decide +kernel
theorem dX8_hindranceOfCourse_1 : decode cX8_hindranceOfCourse 1 = .ok (.invokevirtual 155, 3) := by decide +kernel
theorem dX8_hindranceOfCourse_4 : decode cX8_hindranceOfCourse 4 = .ok (.ifCond .eq 5, 3) := by decide +kernel
theorem dX8_hindranceOfCourse_7 : decode cX8_hindranceOfCourse 7 = .ok (.iconst 1, 1) := by decide +kernel
theorem dX8_hindranceOfCourse_8 : decode cX8_hindranceOfCourse 8 = .ok (.ireturn, 1) := by decide +kernel
theorem dX8_hindranceOfCourse_9 : decode cX8_hindranceOfCourse 9 = .ok (.aload_n 0, 1) := by decide +kernel
theorem dX8_hindranceOfCourse_10 : decode cX8_hindranceOfCourse 10 = .ok (.getfield 10, 3) := by decide +kernel
theorem dX8_hindranceOfCourse_13 : decode cX8_hindranceOfCourse 13 = .ok (.aload_n 2, 1) := by decide +kernel
theorem dX8_hindranceOfCourse_14 : decode cX8_hindranceOfCourse 14 = .ok (.invokevirtual 310, 3) := by decide +kernel
theorem dX8_hindranceOfCourse_17 : decode cX8_hindranceOfCourse 17 = .ok (.ifCond .ne 5, 3) := by decide +kernel
theorem dX8_hindranceOfCourse_20 : decode cX8_hindranceOfCourse 20 = .ok (.iconst 2, 1) := by decide +kernel
theorem dX8_hindranceOfCourse_21 : decode cX8_hindranceOfCourse 21 = .ok (.ireturn, 1) := by decide +kernel
theorem dX8_hindranceOfCourse_22 : decode cX8_hindranceOfCourse 22 = .ok (.aload_n 0, 1) := by decide +kernel
theorem dX8_hindranceOfCourse_23 : decode cX8_hindranceOfCourse 23 = .ok (.getfield 143, 3) := by decide +kernel
theorem dX8_hindranceOfCourse_26 : decode cX8_hindranceOfCourse 26 = .ok (.aload_n 0, 1) := by decide +kernel
theorem dX8_hindranceOfCourse_27 : decode cX8_hindranceOfCourse 27 = .ok (.invokevirtual 314, 3) := by decide +kernel
theorem dX8_hindranceOfCourse_30 : decode cX8_hindranceOfCourse 30 = .ok (.if_icmp .lt 5, 3) := by decide +kernel
theorem dX8_hindranceOfCourse_33 : decode cX8_hindranceOfCourse 33 = .ok (.iconst 3, 1) := by decide +kernel
theorem dX8_hindranceOfCourse_34 : decode cX8_hindranceOfCourse 34 = .ok (.ireturn, 1) := by decide +kernel
theorem dX8_hindranceOfCourse_35 : decode cX8_hindranceOfCourse 35 = .ok (.aload_n 0, 1) := by decide +kernel
theorem dX8_hindranceOfCourse_36 : decode cX8_hindranceOfCourse 36 = .ok (.iload_n 1, 1) := by decide +kernel
theorem dX8_hindranceOfCourse_37 : decode cX8_hindranceOfCourse 37 = .ok (.aload_n 2, 1) := by decide +kernel
theorem dX8_hindranceOfCourse_38 : decode cX8_hindranceOfCourse 38 = .ok (.invokevirtual 317, 3) := by decide +kernel
theorem dX8_hindranceOfCourse_41 : decode cX8_hindranceOfCourse 41 = .ok (.aload_n 2, 1) := by decide +kernel
theorem dX8_hindranceOfCourse_42 : decode cX8_hindranceOfCourse 42 = .ok (.getfield 243, 3) := by decide +kernel
theorem dX8_hindranceOfCourse_45 : decode cX8_hindranceOfCourse 45 = .ok (.if_icmp .ge 5, 3) := by decide +kernel
theorem dX8_hindranceOfCourse_48 : decode cX8_hindranceOfCourse 48 = .ok (.iconst 4, 1) := by decide +kernel
theorem dX8_hindranceOfCourse_49 : decode cX8_hindranceOfCourse 49 = .ok (.ireturn, 1) := by decide +kernel
theorem dX8_hindranceOfCourse_50 : decode cX8_hindranceOfCourse 50 = .ok (.aload_n 0, 1) := by decide +kernel
theorem dX8_hindranceOfCourse_51 : decode cX8_hindranceOfCourse 51 = .ok (.aload_n 2, 1) := by decide +kernel
theorem dX8_hindranceOfCourse_52 : decode cX8_hindranceOfCourse 52 = .ok (.invokevirtual 149, 3) := by decide +kernel
theorem dX8_hindranceOfCourse_55 : decode cX8_hindranceOfCourse 55 = .ok (.bipush (-5), 2) := by decide +kernel
theorem dX8_hindranceOfCourse_57 : decode cX8_hindranceOfCourse 57 = .ok (.if_icmp .ne 7, 3) := by decide +kernel
theorem dX8_hindranceOfCourse_60 : decode cX8_hindranceOfCourse 60 = .ok (.iconst 0, 1) := by decide +kernel
theorem dX8_hindranceOfCourse_61 : decode cX8_hindranceOfCourse 61 = .ok (.goto 4, 3) := by decide +kernel
theorem dX8_hindranceOfCourse_64 : decode cX8_hindranceOfCourse 64 = .ok (.iconst 5, 1) := by decide +kernel
theorem dX8_hindranceOfCourse_65 : decode cX8_hindranceOfCourse 65 = .ok (.ireturn, 1) := by decide +kernel
theorem dX8_findGift_0 : decode cX8_findGift 0 = .ok (.iload_n 1, 1) := by decide +kernel
theorem dX8_findGift_1 : decode cX8_findGift 1 = .ok (.ifCond .lt 20, 3) := by decide +kernel
theorem dX8_findGift_4 : decode cX8_findGift 4 = .ok (.iload_n 1, 1) := by decide +kernel
theorem dX8_findGift_5 : decode cX8_findGift 5 = .ok (.aload_n 0, 1) := by decide +kernel
theorem dX8_findGift_6 : decode cX8_findGift 6 = .ok (.getfield 194, 3) := by decide +kernel
theorem dX8_findGift_9 : decode cX8_findGift 9 = .ok (.if_icmp .ge 12, 3) := by decide +kernel
theorem dX8_findGift_12 : decode cX8_findGift 12 = .ok (.aload_n 0, 1) := by decide +kernel
theorem dX8_findGift_13 : decode cX8_findGift 13 = .ok (.getfield 46, 3) := by decide +kernel
theorem dX8_findGift_16 : decode cX8_findGift 16 = .ok (.iload_n 1, 1) := by decide +kernel
theorem dX8_findGift_17 : decode cX8_findGift 17 = .ok (.aaload, 1) := by decide +kernel
theorem dX8_findGift_18 : decode cX8_findGift 18 = .ok (.goto 4, 3) := by decide +kernel
theorem dX8_findGift_21 : decode cX8_findGift 21 = .ok (.aconst_null, 1) := by decide +kernel
theorem dX8_findGift_22 : decode cX8_findGift 22 = .ok (.areturn, 1) := by decide +kernel
theorem dX8_coinsRemaining_0 : decode cX8_coinsRemaining 0 = .ok (.iconst 0, 1) := by decide +kernel
theorem dX8_coinsRemaining_1 : decode cX8_coinsRemaining 1 = .ok (.istore_n 1, 1) := by decide +kernel
theorem dX8_coinsRemaining_2 : decode cX8_coinsRemaining 2 = .ok (.iconst 0, 1) := by decide +kernel
theorem dX8_coinsRemaining_3 : decode cX8_coinsRemaining 3 = .ok (.istore_n 2, 1) := by decide +kernel
theorem dX8_coinsRemaining_4 : decode cX8_coinsRemaining 4 = .ok (.iload_n 2, 1) := by decide +kernel
theorem dX8_coinsRemaining_5 : decode cX8_coinsRemaining 5 = .ok (.aload_n 0, 1) := by decide +kernel
theorem dX8_coinsRemaining_6 : decode cX8_coinsRemaining 6 = .ok (.getfield 194, 3) := by decide +kernel
theorem dX8_coinsRemaining_9 : decode cX8_coinsRemaining 9 = .ok (.if_icmp .ge 26, 3) := by decide +kernel
theorem dX8_coinsRemaining_12 : decode cX8_coinsRemaining 12 = .ok (.aload_n 0, 1) := by decide +kernel
theorem dX8_coinsRemaining_13 : decode cX8_coinsRemaining 13 = .ok (.iload_n 2, 1) := by decide +kernel
theorem dX8_coinsRemaining_14 : decode cX8_coinsRemaining 14 = .ok (.invokevirtual 211, 3) := by decide +kernel
theorem dX8_coinsRemaining_17 : decode cX8_coinsRemaining 17 = .ok (.astore_n 3, 1) := by decide +kernel
theorem dX8_coinsRemaining_18 : decode cX8_coinsRemaining 18 = .ok (.aload_n 3, 1) := by decide +kernel
theorem dX8_coinsRemaining_19 : decode cX8_coinsRemaining 19 = .ok (.ifnull 10, 3) := by decide +kernel
theorem dX8_coinsRemaining_22 : decode cX8_coinsRemaining 22 = .ok (.iload_n 1, 1) := by decide +kernel
theorem dX8_coinsRemaining_23 : decode cX8_coinsRemaining 23 = .ok (.aload_n 3, 1) := by decide +kernel
theorem dX8_coinsRemaining_24 : decode cX8_coinsRemaining 24 = .ok (.getfield 252, 3) := by decide +kernel
theorem dX8_coinsRemaining_27 : decode cX8_coinsRemaining 27 = .ok (.iadd, 1) := by decide +kernel
theorem dX8_coinsRemaining_28 : decode cX8_coinsRemaining 28 = .ok (.istore_n 1, 1) := by decide +kernel
theorem dX8_coinsRemaining_29 : decode cX8_coinsRemaining 29 = .ok (.iinc 2 1, 3) := by decide +kernel
theorem dX8_coinsRemaining_32 : decode cX8_coinsRemaining 32 = .ok (.goto (-28), 3) := by decide +kernel
theorem dX8_coinsRemaining_35 : decode cX8_coinsRemaining 35 = .ok (.iload_n 1, 1) := by decide +kernel
theorem dX8_coinsRemaining_36 : decode cX8_coinsRemaining 36 = .ok (.ireturn, 1) := by decide +kernel
theorem dX8_coinsFor_0 : decode cX8_coinsFor 0 = .ok (.aload_n 0, 1) := by decide +kernel
theorem dX8_coinsFor_1 : decode cX8_coinsFor 1 = .ok (.invokevirtual 216, 3) := by decide +kernel
theorem dX8_coinsFor_4 : decode cX8_coinsFor 4 = .ok (.aload_n 0, 1) := by decide +kernel
theorem dX8_coinsFor_5 : decode cX8_coinsFor 5 = .ok (.getfield 40, 3) := by decide +kernel
theorem dX8_coinsFor_8 : decode cX8_coinsFor 8 = .ok (.iload_n 1, 1) := by decide +kernel
theorem dX8_coinsFor_9 : decode cX8_coinsFor 9 = .ok (.aload_n 2, 1) := by decide +kernel
theorem dX8_coinsFor_10 : decode cX8_coinsFor 10 = .ok (.invokevirtual 219, 3) := by decide +kernel
theorem dX8_coinsFor_13 : decode cX8_coinsFor 13 = .ok (.iconst 0, 1) := by decide +kernel
theorem dX8_coinsFor_14 : decode cX8_coinsFor 14 = .ok (.istore_n 3, 1) := by decide +kernel
theorem dX8_coinsFor_15 : decode cX8_coinsFor 15 = .ok (.iconst 0, 1) := by decide +kernel
theorem dX8_coinsFor_16 : decode cX8_coinsFor 16 = .ok (.istore 4, 2) := by decide +kernel
theorem dX8_coinsFor_18 : decode cX8_coinsFor 18 = .ok (.iload 4, 2) := by decide +kernel
theorem dX8_coinsFor_20 : decode cX8_coinsFor 20 = .ok (.aload_n 0, 1) := by decide +kernel
theorem dX8_coinsFor_21 : decode cX8_coinsFor 21 = .ok (.getfield 194, 3) := by decide +kernel
theorem dX8_coinsFor_24 : decode cX8_coinsFor 24 = .ok (.if_icmp .ge 42, 3) := by decide +kernel
theorem dX8_coinsFor_27 : decode cX8_coinsFor 27 = .ok (.aload_n 0, 1) := by decide +kernel
theorem dX8_coinsFor_28 : decode cX8_coinsFor 28 = .ok (.iload 4, 2) := by decide +kernel
theorem dX8_coinsFor_30 : decode cX8_coinsFor 30 = .ok (.invokevirtual 211, 3) := by decide +kernel
theorem dX8_coinsFor_33 : decode cX8_coinsFor 33 = .ok (.astore 5, 2) := by decide +kernel
theorem dX8_coinsFor_35 : decode cX8_coinsFor 35 = .ok (.aload 5, 2) := by decide +kernel
theorem dX8_coinsFor_37 : decode cX8_coinsFor 37 = .ok (.ifnull 23, 3) := by decide +kernel
theorem dX8_coinsFor_40 : decode cX8_coinsFor 40 = .ok (.aload_n 0, 1) := by decide +kernel
theorem dX8_coinsFor_41 : decode cX8_coinsFor 41 = .ok (.getfield 40, 3) := by decide +kernel
theorem dX8_coinsFor_44 : decode cX8_coinsFor 44 = .ok (.aload 5, 2) := by decide +kernel
theorem dX8_coinsFor_46 : decode cX8_coinsFor 46 = .ok (.invokevirtual 222, 3) := by decide +kernel
theorem dX8_coinsFor_49 : decode cX8_coinsFor 49 = .ok (.ifCond .eq 11, 3) := by decide +kernel
theorem dX8_coinsFor_52 : decode cX8_coinsFor 52 = .ok (.iload_n 3, 1) := by decide +kernel
theorem dX8_coinsFor_53 : decode cX8_coinsFor 53 = .ok (.aload 5, 2) := by decide +kernel
theorem dX8_coinsFor_55 : decode cX8_coinsFor 55 = .ok (.getfield 252, 3) := by decide +kernel
theorem dX8_coinsFor_58 : decode cX8_coinsFor 58 = .ok (.iadd, 1) := by decide +kernel
theorem dX8_coinsFor_59 : decode cX8_coinsFor 59 = .ok (.istore_n 3, 1) := by decide +kernel
theorem dX8_coinsFor_60 : decode cX8_coinsFor 60 = .ok (.iinc 4 1, 3) := by decide +kernel
theorem dX8_coinsFor_63 : decode cX8_coinsFor 63 = .ok (.goto (-45), 3) := by decide +kernel
theorem dX8_coinsFor_66 : decode cX8_coinsFor 66 = .ok (.iload_n 3, 1) := by decide +kernel
theorem dX8_coinsFor_67 : decode cX8_coinsFor 67 = .ok (.ireturn, 1) := by decide +kernel
theorem dX8_payFor_0 : decode cX8_payFor 0 = .ok (.aload_n 0, 1) := by decide +kernel
theorem dX8_payFor_1 : decode cX8_payFor 1 = .ok (.invokevirtual 216, 3) := by decide +kernel
theorem dX8_payFor_4 : decode cX8_payFor 4 = .ok (.aload_n 0, 1) := by decide +kernel
theorem dX8_payFor_5 : decode cX8_payFor 5 = .ok (.getfield 40, 3) := by decide +kernel
theorem dX8_payFor_8 : decode cX8_payFor 8 = .ok (.iload_n 1, 1) := by decide +kernel
theorem dX8_payFor_9 : decode cX8_payFor 9 = .ok (.aload_n 2, 1) := by decide +kernel
theorem dX8_payFor_10 : decode cX8_payFor 10 = .ok (.invokevirtual 219, 3) := by decide +kernel
theorem dX8_payFor_13 : decode cX8_payFor 13 = .ok (.aload_n 2, 1) := by decide +kernel
theorem dX8_payFor_14 : decode cX8_payFor 14 = .ok (.getfield 243, 3) := by decide +kernel
theorem dX8_payFor_17 : decode cX8_payFor 17 = .ok (.istore_n 3, 1) := by decide +kernel
theorem dX8_payFor_18 : decode cX8_payFor 18 = .ok (.iconst 0, 1) := by decide +kernel
theorem dX8_payFor_19 : decode cX8_payFor 19 = .ok (.istore 4, 2) := by decide +kernel
theorem dX8_payFor_21 : decode cX8_payFor 21 = .ok (.iload 4, 2) := by decide +kernel
theorem dX8_payFor_23 : decode cX8_payFor 23 = .ok (.aload_n 0, 1) := by decide +kernel
theorem dX8_payFor_24 : decode cX8_payFor 24 = .ok (.getfield 194, 3) := by decide +kernel
theorem dX8_payFor_27 : decode cX8_payFor 27 = .ok (.if_icmp .ge 66, 3) := by decide +kernel
theorem dX8_payFor_30 : decode cX8_payFor 30 = .ok (.iload_n 3, 1) := by decide +kernel
theorem dX8_payFor_31 : decode cX8_payFor 31 = .ok (.ifCond .le 62, 3) := by decide +kernel
theorem dX8_payFor_34 : decode cX8_payFor 34 = .ok (.aload_n 0, 1) := by decide +kernel
theorem dX8_payFor_35 : decode cX8_payFor 35 = .ok (.iload 4, 2) := by decide +kernel
theorem dX8_payFor_37 : decode cX8_payFor 37 = .ok (.invokevirtual 211, 3) := by decide +kernel
theorem dX8_payFor_40 : decode cX8_payFor 40 = .ok (.astore 5, 2) := by decide +kernel
theorem dX8_payFor_42 : decode cX8_payFor 42 = .ok (.aload 5, 2) := by decide +kernel
theorem dX8_payFor_44 : decode cX8_payFor 44 = .ok (.ifnull 43, 3) := by decide +kernel
theorem dX8_payFor_47 : decode cX8_payFor 47 = .ok (.aload_n 0, 1) := by decide +kernel
theorem dX8_payFor_48 : decode cX8_payFor 48 = .ok (.getfield 40, 3) := by decide +kernel
theorem dX8_payFor_51 : decode cX8_payFor 51 = .ok (.aload 5, 2) := by decide +kernel
theorem dX8_payFor_53 : decode cX8_payFor 53 = .ok (.invokevirtual 222, 3) := by decide +kernel
theorem dX8_payFor_56 : decode cX8_payFor 56 = .ok (.ifCond .eq 31, 3) := by decide +kernel
theorem dX8_payFor_59 : decode cX8_payFor 59 = .ok (.iload_n 3, 1) := by decide +kernel
theorem dX8_payFor_60 : decode cX8_payFor 60 = .ok (.aload 5, 2) := by decide +kernel
theorem dX8_payFor_62 : decode cX8_payFor 62 = .ok (.getfield 252, 3) := by decide +kernel
theorem dX8_payFor_65 : decode cX8_payFor 65 = .ok (.invokestatic 320, 3) := by decide +kernel
theorem dX8_payFor_68 : decode cX8_payFor 68 = .ok (.istore 6, 2) := by decide +kernel
theorem dX8_payFor_70 : decode cX8_payFor 70 = .ok (.aload 5, 2) := by decide +kernel
theorem dX8_payFor_72 : decode cX8_payFor 72 = .ok (.dup, 1) := by decide +kernel
theorem dX8_payFor_73 : decode cX8_payFor 73 = .ok (.getfield 252, 3) := by decide +kernel
theorem dX8_payFor_76 : decode cX8_payFor 76 = .ok (.iload 6, 2) := by decide +kernel
theorem dX8_payFor_78 : decode cX8_payFor 78 = .ok (.isub, 1) := by decide +kernel
theorem dX8_payFor_79 : decode cX8_payFor 79 = .ok (.putfield 252, 3) := by decide +kernel
theorem dX8_payFor_82 : decode cX8_payFor 82 = .ok (.iload_n 3, 1) := by decide +kernel
theorem dX8_payFor_83 : decode cX8_payFor 83 = .ok (.iload 6, 2) := by decide +kernel
theorem dX8_payFor_85 : decode cX8_payFor 85 = .ok (.isub, 1) := by decide +kernel
theorem dX8_payFor_86 : decode cX8_payFor 86 = .ok (.istore_n 3, 1) := by decide +kernel
theorem dX8_payFor_87 : decode cX8_payFor 87 = .ok (.iinc 4 1, 3) := by decide +kernel
theorem dX8_payFor_90 : decode cX8_payFor 90 = .ok (.goto (-69), 3) := by decide +kernel
theorem dX8_payFor_93 : decode cX8_payFor 93 = .ok (.aload_n 0, 1) := by decide +kernel
theorem dX8_payFor_94 : decode cX8_payFor 94 = .ok (.dup, 1) := by decide +kernel
theorem dX8_payFor_95 : decode cX8_payFor 95 = .ok (.getfield 293, 3) := by decide +kernel
theorem dX8_payFor_98 : decode cX8_payFor 98 = .ok (.aload_n 2, 1) := by decide +kernel
theorem dX8_payFor_99 : decode cX8_payFor 99 = .ok (.getfield 243, 3) := by decide +kernel
theorem dX8_payFor_102 : decode cX8_payFor 102 = .ok (.iadd, 1) := by decide +kernel
theorem dX8_payFor_103 : decode cX8_payFor 103 = .ok (.putfield 293, 3) := by decide +kernel
theorem dX8_payFor_106 : decode cX8_payFor 106 = .ok (.return_, 1) := by decide +kernel
theorem dX8_nameMonth_0 : decode cX8_nameMonth 0 = .ok (.aload_n 0, 1) := by decide +kernel
theorem dX8_nameMonth_1 : decode cX8_nameMonth 1 = .ok (.getfield 40, 3) := by decide +kernel
theorem dX8_nameMonth_4 : decode cX8_nameMonth 4 = .ok (.aload_n 0, 1) := by decide +kernel
theorem dX8_nameMonth_5 : decode cX8_nameMonth 5 = .ok (.getfield 26, 3) := by decide +kernel
theorem dX8_nameMonth_8 : decode cX8_nameMonth 8 = .ok (.getfield 136, 3) := by decide +kernel
theorem dX8_nameMonth_11 : decode cX8_nameMonth 11 = .ok (.aload_n 0, 1) := by decide +kernel
theorem dX8_nameMonth_12 : decode cX8_nameMonth 12 = .ok (.getfield 26, 3) := by decide +kernel
theorem dX8_nameMonth_15 : decode cX8_nameMonth 15 = .ok (.aload_n 0, 1) := by decide +kernel
theorem dX8_nameMonth_16 : decode cX8_nameMonth 16 = .ok (.getfield 26, 3) := by decide +kernel
theorem dX8_nameMonth_19 : decode cX8_nameMonth 19 = .ok (.getfield 136, 3) := by decide +kernel
theorem dX8_nameMonth_22 : decode cX8_nameMonth 22 = .ok (.invokevirtual 323, 3) := by decide +kernel
theorem dX8_nameMonth_25 : decode cX8_nameMonth 25 = .ok (.aload_n 0, 1) := by decide +kernel
theorem dX8_nameMonth_26 : decode cX8_nameMonth 26 = .ok (.getfield 143, 3) := by decide +kernel
theorem dX8_nameMonth_29 : decode cX8_nameMonth 29 = .ok (.invokevirtual 326, 3) := by decide +kernel
theorem dX8_nameMonth_32 : decode cX8_nameMonth 32 = .ok (.return_, 1) := by decide +kernel
theorem dX8_statuteInForce_0 : decode cX8_statuteInForce 0 = .ok (.aload_n 0, 1) := by decide +kernel
theorem dX8_statuteInForce_1 : decode cX8_statuteInForce 1 = .ok (.getfield 208, 3) := by decide +kernel
theorem dX8_statuteInForce_4 : decode cX8_statuteInForce 4 = .ok (.iconst 1, 1) := by decide +kernel
theorem dX8_statuteInForce_5 : decode cX8_statuteInForce 5 = .ok (.isub, 1) := by decide +kernel
theorem dX8_statuteInForce_6 : decode cX8_statuteInForce 6 = .ok (.istore_n 1, 1) := by decide +kernel
theorem dX8_statuteInForce_7 : decode cX8_statuteInForce 7 = .ok (.iload_n 1, 1) := by decide +kernel
theorem dX8_statuteInForce_8 : decode cX8_statuteInForce 8 = .ok (.ifCond .lt 27, 3) := by decide +kernel
theorem dX8_statuteInForce_11 : decode cX8_statuteInForce 11 = .ok (.aload_n 0, 1) := by decide +kernel
theorem dX8_statuteInForce_12 : decode cX8_statuteInForce 12 = .ok (.getfield 56, 3) := by decide +kernel
theorem dX8_statuteInForce_15 : decode cX8_statuteInForce 15 = .ok (.iload_n 1, 1) := by decide +kernel
theorem dX8_statuteInForce_16 : decode cX8_statuteInForce 16 = .ok (.iaload, 1) := by decide +kernel
theorem dX8_statuteInForce_17 : decode cX8_statuteInForce 17 = .ok (.aload_n 0, 1) := by decide +kernel
theorem dX8_statuteInForce_18 : decode cX8_statuteInForce 18 = .ok (.getfield 26, 3) := by decide +kernel
theorem dX8_statuteInForce_21 : decode cX8_statuteInForce 21 = .ok (.getfield 136, 3) := by decide +kernel
theorem dX8_statuteInForce_24 : decode cX8_statuteInForce 24 = .ok (.if_icmp .gt 5, 3) := by decide +kernel
theorem dX8_statuteInForce_27 : decode cX8_statuteInForce 27 = .ok (.iload_n 1, 1) := by decide +kernel
theorem dX8_statuteInForce_28 : decode cX8_statuteInForce 28 = .ok (.ireturn, 1) := by decide +kernel
theorem dX8_statuteInForce_29 : decode cX8_statuteInForce 29 = .ok (.iinc 1 (-1), 3) := by decide +kernel
theorem dX8_statuteInForce_32 : decode cX8_statuteInForce 32 = .ok (.goto (-25), 3) := by decide +kernel
theorem dX8_statuteInForce_35 : decode cX8_statuteInForce 35 = .ok (.iconst (-1), 1) := by decide +kernel
theorem dX8_statuteInForce_36 : decode cX8_statuteInForce 36 = .ok (.ireturn, 1) := by decide +kernel
