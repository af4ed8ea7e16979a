theorem dX2_init_20 : decode cX2_init 20 = .ok (.aload_n 0, 1) := by decide +kernel
theorem dX2_init_21 : decode cX2_init 21 = .ok (.bipush 16, 2) := by decide +kernel
theorem dX2_init_23 : decode cX2_init 23 = .ok (.newarray .int, 2) := by decide +kernel
theorem dX2_init_25 : decode cX2_init 25 = .ok (.putfield 18, 3) := by decide +kernel
theorem dX2_init_28 : decode cX2_init 28 = .ok (.aload_n 0, 1) := by decide +kernel
theorem dX2_init_29 : decode cX2_init 29 = .ok (.bipush 16, 2) := by decide +kernel
theorem dX2_init_31 : decode cX2_init 31 = .ok (.newarray .int, 2) := by decide +kernel
theorem dX2_init_33 : decode cX2_init 33 = .ok (.putfield 21, 3) := by decide +kernel
theorem dX2_init_36 : decode cX2_init 36 = .ok (.aload_n 0, 1) := by decide +kernel
theorem dX2_init_37 : decode cX2_init 37 = .ok (.iconst 4, 1) := by decide +kernel
theorem dX2_init_38 : decode cX2_init 38 = .ok (.newarray .int, 2) := by decide +kernel
theorem dX2_init_40 : decode cX2_init 40 = .ok (.putfield 24, 3) := by decide +kernel
theorem dX2_init_43 : decode cX2_init 43 = .ok (.aload_n 0, 1) := by decide +kernel
theorem dX2_init_44 : decode cX2_init 44 = .ok (.iconst 0, 1) := by decide +kernel
theorem dX2_init_45 : decode cX2_init 45 = .ok (.putfield 27, 3) := by decide +kernel
theorem dX2_init_48 : decode cX2_init 48 = .ok (.return_, 1) := by decide +kernel
theorem dX2_isPrior_0 : decode cX2_isPrior 0 = .ok (.iload_n 0, 1) := by decide +kernel
theorem dX2_isPrior_1 : decode cX2_isPrior 1 = .ok (.iconst 1, 1) := by decide +kernel
theorem dX2_isPrior_2 : decode cX2_isPrior 2 = .ok (.if_icmp .lt 13, 3) := by decide +kernel
theorem dX2_isPrior_5 : decode cX2_isPrior 5 = .ok (.iload_n 0, 1) := by decide +kernel
theorem dX2_isPrior_6 : decode cX2_isPrior 6 = .ok (.bipush 99, 2) := by decide +kernel
theorem dX2_isPrior_8 : decode cX2_isPrior 8 = .ok (.if_icmp .gt 7, 3) := by decide +kernel
theorem dX2_isPrior_11 : decode cX2_isPrior 11 = .ok (.iconst 1, 1) := by decide +kernel
theorem dX2_isPrior_12 : decode cX2_isPrior 12 = .ok (.goto 4, 3) := by decide +kernel
theorem dX2_isPrior_15 : decode cX2_isPrior 15 = .ok (.iconst 0, 1) := by decide +kernel
theorem dX2_isPrior_16 : decode cX2_isPrior 16 = .ok (.ireturn, 1) := by decide +kernel
theorem dX2_isQuality_0 : decode cX2_isQuality 0 = .ok (.iload_n 0, 1) := by decide +kernel
theorem dX2_isQuality_1 : decode cX2_isQuality 1 = .ok (.ifCond .lt 12, 3) := by decide +kernel
theorem dX2_isQuality_4 : decode cX2_isQuality 4 = .ok (.iload_n 0, 1) := by decide +kernel
theorem dX2_isQuality_5 : decode cX2_isQuality 5 = .ok (.iconst 3, 1) := by decide +kernel
theorem dX2_isQuality_6 : decode cX2_isQuality 6 = .ok (.if_icmp .ge 7, 3) := by decide +kernel
theorem dX2_isQuality_9 : decode cX2_isQuality 9 = .ok (.iconst 1, 1) := by decide +kernel
theorem dX2_isQuality_10 : decode cX2_isQuality 10 = .ok (.goto 4, 3) := by decide +kernel
theorem dX2_isQuality_13 : decode cX2_isQuality 13 = .ok (.iconst 0, 1) := by decide +kernel
theorem dX2_isQuality_14 : decode cX2_isQuality 14 = .ok (.ireturn, 1) := by decide +kernel
theorem dX2_isDepth_0 : decode cX2_isDepth 0 = .ok (.iload_n 0, 1) := by decide +kernel
theorem dX2_isDepth_1 : decode cX2_isDepth 1 = .ok (.iconst 1, 1) := by decide +kernel
theorem dX2_isDepth_2 : decode cX2_isDepth 2 = .ok (.if_icmp .lt 12, 3) := by decide +kernel
theorem dX2_isDepth_5 : decode cX2_isDepth 5 = .ok (.iload_n 0, 1) := by decide +kernel
theorem dX2_isDepth_6 : decode cX2_isDepth 6 = .ok (.iconst 4, 1) := by decide +kernel
theorem dX2_isDepth_7 : decode cX2_isDepth 7 = .ok (.if_icmp .gt 7, 3) := by decide +kernel
theorem dX2_isDepth_10 : decode cX2_isDepth 10 = .ok (.iconst 1, 1) := by decide +kernel
theorem dX2_isDepth_11 : decode cX2_isDepth 11 = .ok (.goto 4, 3) := by decide +kernel
theorem dX2_isDepth_14 : decode cX2_isDepth 14 = .ok (.iconst 0, 1) := by decide +kernel
theorem dX2_isDepth_15 : decode cX2_isDepth 15 = .ok (.ireturn, 1) := by decide +kernel
theorem dX2_has_0 : decode cX2_has 0 = .ok (.iload_n 1, 1) := by decide +kernel
theorem dX2_has_1 : decode cX2_has 1 = .ok (.ifCond .lt 15, 3) := by decide +kernel
theorem dX2_has_4 : decode cX2_has 4 = .ok (.iload_n 1, 1) := by decide +kernel
theorem dX2_has_5 : decode cX2_has 5 = .ok (.aload_n 0, 1) := by decide +kernel
theorem dX2_has_6 : decode cX2_has 6 = .ok (.getfield 27, 3) := by decide +kernel
theorem dX2_has_9 : decode cX2_has 9 = .ok (.if_icmp .ge 7, 3) := by decide +kernel
theorem dX2_has_12 : decode cX2_has 12 = .ok (.iconst 1, 1) := by decide +kernel
theorem dX2_has_13 : decode cX2_has 13 = .ok (.goto 4, 3) := by decide +kernel
theorem dX2_has_16 : decode cX2_has 16 = .ok (.iconst 0, 1) := by decide +kernel
theorem dX2_has_17 : decode cX2_has 17 = .ok (.ireturn, 1) := by decide +kernel
theorem dX2_size_0 : decode cX2_size 0 = .ok (.aload_n 0, 1) := by decide +kernel
theorem dX2_size_1 : decode cX2_size 1 = .ok (.getfield 27, 3) := by decide +kernel
theorem dX2_size_4 : decode cX2_size 4 = .ok (.ireturn, 1) := by decide +kernel
theorem dX2_append_0 : decode cX2_append 0 = .ok (.aload_n 0, 1) := by decide +kernel
theorem dX2_append_1 : decode cX2_append 1 = .ok (.getfield 27, 3) := by decide +kernel
theorem dX2_append_4 : decode cX2_append 4 = .ok (.iconst 4, 1) := by decide +kernel
theorem dX2_append_5 : decode cX2_append 5 = .ok (.if_icmp .lt 5, 3) := by decide +kernel
theorem dX2_append_8 : decode cX2_append 8 = .ok (.iconst (-1), 1) := by decide +kernel
theorem dX2_append_9 : decode cX2_append 9 = .ok (.ireturn, 1) := by decide +kernel
theorem dX2_append_10 : decode cX2_append 10 = .ok (.aload_n 0, 1) := by decide +kernel
theorem dX2_append_11 : decode cX2_append 11 = .ok (.getfield 27, 3) := by decide +kernel
theorem dX2_append_14 : decode cX2_append 14 = .ok (.iconst 3, 1) := by decide +kernel
theorem dX2_append_15 : decode cX2_append 15 = .ok (.imul, 1) := by decide +kernel
theorem dX2_append_16 : decode cX2_append 16 = .ok (.istore 4, 2) := by decide +kernel
theorem dX2_append_18 : decode cX2_append 18 = .ok (.aload_n 0, 1) := by decide +kernel
theorem dX2_append_19 : decode cX2_append 19 = .ok (.getfield 11, 3) := by decide +kernel
theorem dX2_append_22 : decode cX2_append 22 = .ok (.iload 4, 2) := by decide +kernel
theorem dX2_append_24 : decode cX2_append 24 = .ok (.iload_n 1, 1) := by decide +kernel
theorem dX2_append_25 : decode cX2_append 25 = .ok (.iastore, 1) := by decide +kernel
theorem dX2_append_26 : decode cX2_append 26 = .ok (.aload_n 0, 1) := by decide +kernel
theorem dX2_append_27 : decode cX2_append 27 = .ok (.getfield 11, 3) := by decide +kernel
theorem dX2_append_30 : decode cX2_append 30 = .ok (.iload 4, 2) := by decide +kernel
theorem dX2_append_32 : decode cX2_append 32 = .ok (.iconst 1, 1) := by decide +kernel
theorem dX2_append_33 : decode cX2_append 33 = .ok (.iadd, 1) := by decide +kernel
theorem dX2_append_34 : decode cX2_append 34 = .ok (.iload_n 2, 1) := by decide +kernel
theorem dX2_append_35 : decode cX2_append 35 = .ok (.iastore, 1) := by decide +kernel
theorem dX2_append_36 : decode cX2_append 36 = .ok (.aload_n 0, 1) := by decide +kernel
theorem dX2_append_37 : decode cX2_append 37 = .ok (.getfield 11, 3) := by decide +kernel
theorem dX2_append_40 : decode cX2_append 40 = .ok (.iload 4, 2) := by decide +kernel
theorem dX2_append_42 : decode cX2_append 42 = .ok (.iconst 2, 1) := by decide +kernel
theorem dX2_append_43 : decode cX2_append 43 = .ok (.iadd, 1) := by decide +kernel
theorem dX2_append_44 : decode cX2_append 44 = .ok (.iload_n 3, 1) := by decide +kernel
theorem dX2_append_45 : decode cX2_append 45 = .ok (.iastore, 1) := by decide +kernel
theorem dX2_append_46 : decode cX2_append 46 = .ok (.aload_n 0, 1) := by decide +kernel
theorem dX2_append_47 : decode cX2_append 47 = .ok (.dup, 1) := by decide +kernel
theorem dX2_append_48 : decode cX2_append 48 = .ok (.getfield 27, 3) := by decide +kernel
theorem dX2_append_51 : decode cX2_append 51 = .ok (.iconst 1, 1) := by decide +kernel
theorem dX2_append_52 : decode cX2_append 52 = .ok (.iadd, 1) := by decide +kernel
theorem dX2_append_53 : decode cX2_append 53 = .ok (.putfield 27, 3) := by decide +kernel
theorem dX2_append_56 : decode cX2_append 56 = .ok (.aload_n 0, 1) := by decide +kernel
theorem dX2_append_57 : decode cX2_append 57 = .ok (.getfield 27, 3) := by decide +kernel
theorem dX2_append_60 : decode cX2_append 60 = .ok (.iconst 1, 1) := by decide +kernel
theorem dX2_append_61 : decode cX2_append 61 = .ok (.isub, 1) := by decide +kernel
theorem dX2_append_62 : decode cX2_append 62 = .ok (.ireturn, 1) := by decide +kernel
theorem dX2_setChance_0 : decode cX2_setChance 0 = .ok (.aload_n 0, 1) := by decide +kernel
theorem dX2_setChance_1 : decode cX2_setChance 1 = .ok (.getfield 15, 3) := by decide +kernel
theorem dX2_setChance_4 : decode cX2_setChance 4 = .ok (.iload_n 1, 1) := by decide +kernel
theorem dX2_setChance_5 : decode cX2_setChance 5 = .ok (.iconst 4, 1) := by decide +kernel
theorem dX2_setChance_6 : decode cX2_setChance 6 = .ok (.imul, 1) := by decide +kernel
theorem dX2_setChance_7 : decode cX2_setChance 7 = .ok (.iload_n 2, 1) := by decide +kernel
theorem dX2_setChance_8 : decode cX2_setChance 8 = .ok (.iadd, 1) := by decide +kernel
theorem dX2_setChance_9 : decode cX2_setChance 9 = .ok (.iconst 1, 1) := by decide +kernel
theorem dX2_setChance_10 : decode cX2_setChance 10 = .ok (.isub, 1) := by decide +kernel
theorem dX2_setChance_11 : decode cX2_setChance 11 = .ok (.iload_n 3, 1) := by decide +kernel
theorem dX2_setChance_12 : decode cX2_setChance 12 = .ok (.iastore, 1) := by decide +kernel
theorem dX2_setChance_13 : decode cX2_setChance 13 = .ok (.return_, 1) := by decide +kernel
theorem dX2_hasRoom_0 : decode cX2_hasRoom 0 = .ok (.aload_n 0, 1) := by decide +kernel
theorem dX2_hasRoom_1 : decode cX2_hasRoom 1 = .ok (.getfield 24, 3) := by decide +kernel
theorem dX2_hasRoom_4 : decode cX2_hasRoom 4 = .ok (.iload_n 1, 1) := by decide +kernel
theorem dX2_hasRoom_5 : decode cX2_hasRoom 5 = .ok (.iaload, 1) := by decide +kernel
theorem dX2_hasRoom_6 : decode cX2_hasRoom 6 = .ok (.iload_n 2, 1) := by decide +kernel
theorem dX2_hasRoom_7 : decode cX2_hasRoom 7 = .ok (.iadd, 1) := by decide +kernel
theorem dX2_hasRoom_8 : decode cX2_hasRoom 8 = .ok (.bipush 8, 2) := by decide +kernel
theorem dX2_hasRoom_10 : decode cX2_hasRoom 10 = .ok (.if_icmp .gt 7, 3) := by decide +kernel
theorem dX2_hasRoom_13 : decode cX2_hasRoom 13 = .ok (.iconst 1, 1) := by decide +kernel
theorem dX2_hasRoom_14 : decode cX2_hasRoom 14 = .ok (.goto 4, 3) := by decide +kernel
theorem dX2_hasRoom_17 : decode cX2_hasRoom 17 = .ok (.iconst 0, 1) := by decide +kernel
theorem dX2_hasRoom_18 : decode cX2_hasRoom 18 = .ok (.ireturn, 1) := by decide +kernel
theorem dX2_addHole_0 : decode cX2_addHole 0 = .ok (.iload_n 1, 1) := by decide +kernel
theorem dX2_addHole_1 : decode cX2_addHole 1 = .ok (.iconst 4, 1) := by decide +kernel
theorem dX2_addHole_2 : decode cX2_addHole 2 = .ok (.imul, 1) := by decide +kernel
theorem dX2_addHole_3 : decode cX2_addHole 3 = .ok (.iload_n 2, 1) := by decide +kernel
theorem dX2_addHole_4 : decode cX2_addHole 4 = .ok (.iadd, 1) := by decide +kernel
theorem dX2_addHole_5 : decode cX2_addHole 5 = .ok (.iconst 1, 1) := by decide +kernel
theorem dX2_addHole_6 : decode cX2_addHole 6 = .ok (.isub, 1) := by decide +kernel
theorem dX2_addHole_7 : decode cX2_addHole 7 = .ok (.istore 4, 2) := by decide +kernel
theorem dX2_addHole_9 : decode cX2_addHole 9 = .ok (.iload_n 1, 1) := by decide +kernel
theorem dX2_addHole_10 : decode cX2_addHole 10 = .ok (.iconst 4, 1) := by decide +kernel
theorem dX2_addHole_11 : decode cX2_addHole 11 = .ok (.imul, 1) := by decide +kernel
theorem dX2_addHole_12 : decode cX2_addHole 12 = .ok (.istore 5, 2) := by decide +kernel
theorem dX2_addHole_14 : decode cX2_addHole 14 = .ok (.iload 5, 2) := by decide +kernel
theorem dX2_addHole_16 : decode cX2_addHole 16 = .ok (.iload 4, 2) := by decide +kernel
theorem dX2_addHole_18 : decode cX2_addHole 18 = .ok (.if_icmp .ge 20, 3) := by decide +kernel
theorem dX2_addHole_21 : decode cX2_addHole 21 = .ok (.aload_n 0, 1) := by decide +kernel
theorem dX2_addHole_22 : decode cX2_addHole 22 = .ok (.getfield 21, 3) := by decide +kernel
theorem dX2_addHole_25 : decode cX2_addHole 25 = .ok (.iload 5, 2) := by decide +kernel
theorem dX2_addHole_27 : decode cX2_addHole 27 = .ok (.dup2, 1) := by decide +kernel
theorem dX2_addHole_28 : decode cX2_addHole 28 = .ok (.iaload, 1) := by decide +kernel
theorem dX2_addHole_29 : decode cX2_addHole 29 = .ok (.iconst 1, 1) := by decide +kernel
theorem dX2_addHole_30 : decode cX2_addHole 30 = .ok (.iadd, 1) := by decide +kernel
theorem dX2_addHole_31 : decode cX2_addHole 31 = .ok (.iastore, 1) := by decide +kernel
theorem dX2_addHole_32 : decode cX2_addHole 32 = .ok (.iinc 5 1, 3) := by decide +kernel
theorem dX2_addHole_35 : decode cX2_addHole 35 = .ok (.goto (-21), 3) := by decide +kernel
theorem dX2_addHole_38 : decode cX2_addHole 38 = .ok (.iload_n 3, 1) := by decide +kernel
theorem dX2_addHole_39 : decode cX2_addHole 39 = .ok (.ifCond .eq 17, 3) := by decide +kernel
theorem dX2_addHole_42 : decode cX2_addHole 42 = .ok (.aload_n 0, 1) := by decide +kernel
theorem dX2_addHole_43 : decode cX2_addHole 43 = .ok (.getfield 18, 3) := by decide +kernel
theorem dX2_addHole_46 : decode cX2_addHole 46 = .ok (.iload 4, 2) := by decide +kernel
theorem dX2_addHole_48 : decode cX2_addHole 48 = .ok (.dup2, 1) := by decide +kernel
theorem dX2_addHole_49 : decode cX2_addHole 49 = .ok (.iaload, 1) := by decide +kernel
theorem dX2_addHole_50 : decode cX2_addHole 50 = .ok (.iconst 1, 1) := by decide +kernel
theorem dX2_addHole_51 : decode cX2_addHole 51 = .ok (.iadd, 1) := by decide +kernel
theorem dX2_addHole_52 : decode cX2_addHole 52 = .ok (.iastore, 1) := by decide +kernel
theorem dX2_addHole_53 : decode cX2_addHole 53 = .ok (.goto 14, 3) := by decide +kernel
theorem dX2_addHole_56 : decode cX2_addHole 56 = .ok (.aload_n 0, 1) := by decide +kernel
theorem dX2_addHole_57 : decode cX2_addHole 57 = .ok (.getfield 21, 3) := by decide +kernel
theorem dX2_addHole_60 : decode cX2_addHole 60 = .ok (.iload 4, 2) := by decide +kernel
theorem dX2_addHole_62 : decode cX2_addHole 62 = .ok (.dup2, 1) := by decide +kernel
theorem dX2_addHole_63 : decode cX2_addHole 63 = .ok (.iaload, 1) := by decide +kernel
theorem dX2_addHole_64 : decode cX2_addHole 64 = .ok (.iconst 1, 1) := by decide +kernel
theorem dX2_addHole_65 : decode cX2_addHole 65 = .ok (.iadd, 1) := by decide +kernel
theorem dX2_addHole_66 : decode cX2_addHole 66 = .ok (.iastore, 1) := by decide +kernel
theorem dX2_addHole_67 : decode cX2_addHole 67 = .ok (.aload_n 0, 1) := by decide +kernel
theorem dX2_addHole_68 : decode cX2_addHole 68 = .ok (.getfield 24, 3) := by decide +kernel
theorem dX2_addHole_71 : decode cX2_addHole 71 = .ok (.iload_n 1, 1) := by decide +kernel
theorem dX2_addHole_72 : decode cX2_addHole 72 = .ok (.dup2, 1) := by decide +kernel
theorem dX2_addHole_73 : decode cX2_addHole 73 = .ok (.iaload, 1) := by decide +kernel
theorem dX2_addHole_74 : decode cX2_addHole 74 = .ok (.iload_n 2, 1) := by decide +kernel
theorem dX2_addHole_75 : decode cX2_addHole 75 = .ok (.iadd, 1) := by decide +kernel
theorem dX2_addHole_76 : decode cX2_addHole 76 = .ok (.iastore, 1) := by decide +kernel
theorem dX2_addHole_77 : decode cX2_addHole 77 = .ok (.return_, 1) := by decide +kernel
theorem dX2_allPipes_0 : decode cX2_allPipes 0 = .ok (.iconst 0, 1) := by decide +kernel
theorem dX2_allPipes_1 : decode cX2_allPipes 1 = .ok (.istore_n 1, 1) := by decide +kernel
theorem dX2_allPipes_2 : decode cX2_allPipes 2 = .ok (.iconst 0, 1) := by decide +kernel
theorem dX2_allPipes_3 : decode cX2_allPipes 3 = .ok (.istore_n 2, 1) := by decide +kernel
theorem dX2_allPipes_4 : decode cX2_allPipes 4 = .ok (.iload_n 2, 1) := by decide +kernel
theorem dX2_allPipes_5 : decode cX2_allPipes 5 = .ok (.aload_n 0, 1) := by decide +kernel
theorem dX2_allPipes_6 : decode cX2_allPipes 6 = .ok (.getfield 27, 3) := by decide +kernel
theorem dX2_allPipes_9 : decode cX2_allPipes 9 = .ok (.if_icmp .ge 18, 3) := by decide +kernel
theorem dX2_allPipes_12 : decode cX2_allPipes 12 = .ok (.iload_n 1, 1) := by decide +kernel
theorem dX2_allPipes_13 : decode cX2_allPipes 13 = .ok (.aload_n 0, 1) := by decide +kernel
theorem dX2_allPipes_14 : decode cX2_allPipes 14 = .ok (.getfield 24, 3) := by decide +kernel
theorem dX2_allPipes_17 : decode cX2_allPipes 17 = .ok (.iload_n 2, 1) := by decide +kernel
theorem dX2_allPipes_18 : decode cX2_allPipes 18 = .ok (.iaload, 1) := by decide +kernel
theorem dX2_allPipes_19 : decode cX2_allPipes 19 = .ok (.iadd, 1) := by decide +kernel
theorem dX2_allPipes_20 : decode cX2_allPipes 20 = .ok (.istore_n 1, 1) := by decide +kernel
theorem dX2_allPipes_21 : decode cX2_allPipes 21 = .ok (.iinc 2 1, 3) := by decide +kernel
theorem dX2_allPipes_24 : decode cX2_allPipes 24 = .ok (.goto (-20), 3) := by decide +kernel
theorem dX2_allPipes_27 : decode cX2_allPipes 27 = .ok (.iload_n 1, 1) := by decide +kernel
theorem dX2_allPipes_28 : decode cX2_allPipes 28 = .ok (.ireturn, 1) := by decide +kernel
theorem dX2_weight_0 : decode cX2_weight 0 = .ok (.aload_n 0, 1) := by decide +kernel
theorem dX2_weight_1 : decode cX2_weight 1 = .ok (.getfield 11, 3) := by decide +kernel
theorem dX2_weight_4 : decode cX2_weight 4 = .ok (.iload_n 1, 1) := by decide +kernel
theorem dX2_weight_5 : decode cX2_weight 5 = .ok (.iconst 3, 1) := by decide +kernel
theorem dX2_weight_6 : decode cX2_weight 6 = .ok (.imul, 1) := by decide +kernel
theorem dX2_weight_7 : decode cX2_weight 7 = .ok (.iload_n 2, 1) := by decide +kernel
theorem dX2_weight_8 : decode cX2_weight 8 = .ok (.iadd, 1) := by decide +kernel
theorem dX2_weight_9 : decode cX2_weight 9 = .ok (.iaload, 1) := by decide +kernel
theorem dX2_weight_10 : decode cX2_weight 10 = .ok (.i2l, 1) := by decide +kernel
theorem dX2_weight_11 : decode cX2_weight 11 = .ok (.lstore_n 3, 1) := by decide +kernel
theorem dX2_weight_12 : decode cX2_weight 12 = .ok (.iconst 0, 1) := by decide +kernel
theorem dX2_weight_13 : decode cX2_weight 13 = .ok (.istore 5, 2) := by decide +kernel
theorem dX2_weight_15 : decode cX2_weight 15 = .ok (.iload 5, 2) := by decide +kernel
theorem dX2_weight_17 : decode cX2_weight 17 = .ok (.iconst 4, 1) := by decide +kernel
theorem dX2_weight_18 : decode cX2_weight 18 = .ok (.if_icmp .ge 87, 3) := by decide +kernel
theorem dX2_weight_21 : decode cX2_weight 21 = .ok (.aload_n 0, 1) := by decide +kernel
theorem dX2_weight_22 : decode cX2_weight 22 = .ok (.getfield 15, 3) := by decide +kernel
theorem dX2_weight_25 : decode cX2_weight 25 = .ok (.iload_n 2, 1) := by decide +kernel
theorem dX2_weight_26 : decode cX2_weight 26 = .ok (.iconst 4, 1) := by decide +kernel
theorem dX2_weight_27 : decode cX2_weight 27 = .ok (.imul, 1) := by decide +kernel
theorem dX2_weight_28 : decode cX2_weight 28 = .ok (.iload 5, 2) := by decide +kernel
theorem dX2_weight_30 : decode cX2_weight 30 = .ok (.iadd, 1) := by decide +kernel
theorem dX2_weight_31 : decode cX2_weight 31 = .ok (.iaload, 1) := by decide +kernel
theorem dX2_weight_32 : decode cX2_weight 32 = .ok (.istore 6, 2) := by decide +kernel
theorem dX2_weight_34 : decode cX2_weight 34 = .ok (.iload_n 1, 1) := by decide +kernel
theorem dX2_weight_35 : decode cX2_weight 35 = .ok (.iconst 4, 1) := by decide +kernel
theorem dX2_weight_36 : decode cX2_weight 36 = .ok (.imul, 1) := by decide +kernel
theorem dX2_weight_37 : decode cX2_weight 37 = .ok (.iload 5, 2) := by decide +kernel
theorem dX2_weight_39 : decode cX2_weight 39 = .ok (.iadd, 1) := by decide +kernel
theorem dX2_weight_40 : decode cX2_weight 40 = .ok (.istore 7, 2) := by decide +kernel
theorem dX2_weight_42 : decode cX2_weight 42 = .ok (.iconst 0, 1) := by decide +kernel
theorem dX2_weight_43 : decode cX2_weight 43 = .ok (.istore 8, 2) := by decide +kernel
theorem dX2_weight_45 : decode cX2_weight 45 = .ok (.iload 8, 2) := by decide +kernel
theorem dX2_weight_47 : decode cX2_weight 47 = .ok (.aload_n 0, 1) := by decide +kernel
theorem dX2_weight_48 : decode cX2_weight 48 = .ok (.getfield 18, 3) := by decide +kernel
theorem dX2_weight_51 : decode cX2_weight 51 = .ok (.iload 7, 2) := by decide +kernel
theorem dX2_weight_53 : decode cX2_weight 53 = .ok (.iaload, 1) := by decide +kernel
theorem dX2_weight_54 : decode cX2_weight 54 = .ok (.if_icmp .ge 15, 3) := by decide +kernel
theorem dX2_weight_57 : decode cX2_weight 57 = .ok (.lload_n 3, 1) := by decide +kernel
theorem dX2_weight_58 : decode cX2_weight 58 = .ok (.iload 6, 2) := by decide +kernel
theorem dX2_weight_60 : decode cX2_weight 60 = .ok (.i2l, 1) := by decide +kernel
theorem dX2_weight_61 : decode cX2_weight 61 = .ok (.lmul, 1) := by decide +kernel
theorem dX2_weight_62 : decode cX2_weight 62 = .ok (.lstore_n 3, 1) := by decide +kernel
theorem dX2_weight_63 : decode cX2_weight 63 = .ok (.iinc 8 1, 3) := by decide +kernel
theorem dX2_weight_66 : decode cX2_weight 66 = .ok (.goto (-21), 3) := by decide +kernel
theorem dX2_weight_69 : decode cX2_weight 69 = .ok (.iconst 0, 1) := by decide +kernel
theorem dX2_weight_70 : decode cX2_weight 70 = .ok (.istore 8, 2) := by decide +kernel
theorem dX2_weight_72 : decode cX2_weight 72 = .ok (.iload 8, 2) := by decide +kernel
theorem dX2_weight_74 : decode cX2_weight 74 = .ok (.aload_n 0, 1) := by decide +kernel
theorem dX2_weight_75 : decode cX2_weight 75 = .ok (.getfield 21, 3) := by decide +kernel
theorem dX2_weight_78 : decode cX2_weight 78 = .ok (.iload 7, 2) := by decide +kernel
theorem dX2_weight_80 : decode cX2_weight 80 = .ok (.iaload, 1) := by decide +kernel
theorem dX2_weight_81 : decode cX2_weight 81 = .ok (.if_icmp .ge 18, 3) := by decide +kernel
theorem dX2_weight_84 : decode cX2_weight 84 = .ok (.lload_n 3, 1) := by decide +kernel
theorem dX2_weight_85 : decode cX2_weight 85 = .ok (.bipush 16, 2) := by decide +kernel
theorem dX2_weight_87 : decode cX2_weight 87 = .ok (.iload 6, 2) := by decide +kernel
theorem dX2_weight_89 : decode cX2_weight 89 = .ok (.isub, 1) := by decide +kernel
theorem dX2_weight_90 : decode cX2_weight 90 = .ok (.i2l, 1) := by decide +kernel
theorem dX2_weight_91 : decode cX2_weight 91 = .ok (.lmul, 1) := by decide +kernel
theorem dX2_weight_92 : decode cX2_weight 92 = .ok (.lstore_n 3, 1) := by decide +kernel
theorem dX2_weight_93 : decode cX2_weight 93 = .ok (.iinc 8 1, 3) := by decide +kernel
theorem dX2_weight_96 : decode cX2_weight 96 = .ok (.goto (-24), 3) := by decide +kernel
theorem dX2_weight_99 : decode cX2_weight 99 = .ok (.iinc 5 1, 3) := by decide +kernel
theorem dX2_weight_102 : decode cX2_weight 102 = .ok (.goto (-87), 3) := by decide +kernel
theorem dX2_weight_105 : decode cX2_weight 105 = .ok (.lload_n 3, 1) := by decide +kernel
theorem dX2_weight_106 : decode cX2_weight 106 = .ok (.lreturn, 1) := by decide +kernel
set_option maxRecDepth 20000 in
theorem ggX2_allWeights_X2_weight : GoodIn wsX2_allWeights wsX2_weight := goodIn_r _ [5, 6, 7, 8, 9, 10, 11, 12, 13, 14, 15] (by decide +kernel) (by decide +kernel)
set_option maxRecDepth 20000 in
theorem gX2_allWeights_X2_weight : GoodIn wsX2_allWeights (wsV RX2 31 RX2 yX2_weight wsX2_weight) := goodIn_app (goodIn_of _ (by decide +kernel)) ggX2_allWeights_X2_weight
theorem dX2_allWeights_0 : decode cX2_allWeights 0 = .ok (.lconst 0, 1) := by decide +kernel
theorem dX2_allWeights_1 : decode cX2_allWeights 1 = .ok (.lstore_n 2, 1) := by decide +kernel
theorem dX2_allWeights_2 : decode cX2_allWeights 2 = .ok (.iconst 0, 1) := by decide +kernel
theorem dX2_allWeights_3 : decode cX2_allWeights 3 = .ok (.istore 4, 2) := by decide +kernel
theorem dX2_allWeights_5 : decode cX2_allWeights 5 = .ok (.iload 4, 2) := by decide +kernel
theorem dX2_allWeights_7 : decode cX2_allWeights 7 = .ok (.iconst 3, 1) := by decide +kernel
theorem dX2_allWeights_8 : decode cX2_allWeights 8 = .ok (.if_icmp .ge 19, 3) := by decide +kernel
theorem dX2_allWeights_11 : decode cX2_allWeights 11 = .ok (.lload_n 2, 1) := by decide +kernel
theorem dX2_allWeights_12 : decode cX2_allWeights 12 = .ok (.aload_n 0, 1) := by decide +kernel
theorem dX2_allWeights_13 : decode cX2_allWeights 13 = .ok (.iload_n 1, 1) := by decide +kernel
theorem dX2_allWeights_14 : decode cX2_allWeights 14 = .ok (.iload 4, 2) := by decide +kernel
theorem dX2_allWeights_16 : decode cX2_allWeights 16 = .ok (.invokevirtual 31, 3) := by decide +kernel
theorem dX2_allWeights_19 : decode cX2_allWeights 19 = .ok (.ladd, 1) := by decide +kernel
theorem dX2_allWeights_20 : decode cX2_allWeights 20 = .ok (.lstore_n 2, 1) := by decide +kernel
theorem dX2_allWeights_21 : decode cX2_allWeights 21 = .ok (.iinc 4 1, 3) := by decide +kernel
theorem dX2_allWeights_24 : decode cX2_allWeights 24 = .ok (.goto (-19), 3) := by decide +kernel
theorem dX2_allWeights_27 : decode cX2_allWeights 27 = .ok (.lload_n 2, 1) := by decide +kernel
theorem dX2_allWeights_28 : decode cX2_allWeights 28 = .ok (.lreturn, 1) := by decide +kernel
set_option maxRecDepth 20000 in
theorem ggX2_hopeOn_X2_allWeights : GoodIn wsX2_hopeOn wsX2_allWeights := goodIn_r _ [5, 6, 7, 8, 4, 9, 10, 11, 12, 13, 18, 19, 20, 21, 22, 23] (by decide +kernel) (by decide +kernel)
set_option maxRecDepth 20000 in
theorem gX2_hopeOn_X2_allWeights : GoodIn wsX2_hopeOn (wsV RX2 35 RX2 yX2_allWeights wsX2_allWeights) := goodIn_app (goodIn_of _ (by decide +kernel)) ggX2_hopeOn_X2_allWeights
set_option maxRecDepth 20000 in
theorem ggX2_hopeOn_X2_weight : GoodIn wsX2_hopeOn wsX2_weight := goodIn_r _ [9, 10, 11, 12, 13, 18, 19, 20, 21, 22, 23] (by decide +kernel) (by decide +kernel)
set_option maxRecDepth 20000 in
theorem gX2_hopeOn_X2_weight : GoodIn wsX2_hopeOn (wsV RX2 31 RX2 yX2_weight wsX2_weight) := goodIn_app (goodIn_of _ (by decide +kernel)) ggX2_hopeOn_X2_weight
set_option maxRecDepth 20000 in
theorem ggX2_hopeOn_X2_wetParts : GoodIn wsX2_hopeOn wsX2_wetParts := goodIn_r _ [17, 11, 18, 19, 20, 21, 22, 23] (by decide +kernel) (by decide +kernel)
set_option maxRecDepth 20000 in
theorem gX2_hopeOn_X2_wetParts : GoodIn wsX2_hopeOn (wsV RX2 39 RX2 yX2_wetParts wsX2_wetParts) := goodIn_app (goodIn_of _ (by decide +kernel)) ggX2_hopeOn_X2_wetParts
theorem dX2_hopeOn_0 : decode cX2_hopeOn 0 = .ok (.aload_n 0, 1) := by decide +kernel
theorem dX2_hopeOn_1 : decode cX2_hopeOn 1 = .ok (.iload_n 1, 1) := by decide +kernel
theorem dX2_hopeOn_2 : decode cX2_hopeOn 2 = .ok (.invokevirtual 35, 3) := by decide +kernel
theorem dX2_hopeOn_5 : decode cX2_hopeOn 5 = .ok (.lstore_n 3, 1) := by decide +kernel
theorem dX2_hopeOn_6 : decode cX2_hopeOn 6 = .ok (.lload_n 3, 1) := by decide +kernel
theorem dX2_hopeOn_7 : decode cX2_hopeOn 7 = .ok (.lconst 0, 1) := by decide +kernel
theorem dX2_hopeOn_8 : decode cX2_hopeOn 8 = .ok (.lcmp, 1) := by decide +kernel
theorem dX2_hopeOn_9 : decode cX2_hopeOn 9 = .ok (.ifCond .ne 5, 3) := by decide +kernel
theorem dX2_hopeOn_12 : decode cX2_hopeOn 12 = .ok (.iconst 0, 1) := by decide +kernel
theorem dX2_hopeOn_13 : decode cX2_hopeOn 13 = .ok (.ireturn, 1) := by decide +kernel
theorem dX2_hopeOn_14 : decode cX2_hopeOn 14 = .ok (.lconst 0, 1) := by decide +kernel
theorem dX2_hopeOn_15 : decode cX2_hopeOn 15 = .ok (.lstore 5, 2) := by decide +kernel
theorem dX2_hopeOn_17 : decode cX2_hopeOn 17 = .ok (.iconst 0, 1) := by decide +kernel
theorem dX2_hopeOn_18 : decode cX2_hopeOn 18 = .ok (.istore 7, 2) := by decide +kernel
theorem dX2_hopeOn_20 : decode cX2_hopeOn 20 = .ok (.iload 7, 2) := by decide +kernel
theorem dX2_hopeOn_22 : decode cX2_hopeOn 22 = .ok (.iconst 3, 1) := by decide +kernel
theorem dX2_hopeOn_23 : decode cX2_hopeOn 23 = .ok (.if_icmp .ge 29, 3) := by decide +kernel
theorem dX2_hopeOn_26 : decode cX2_hopeOn 26 = .ok (.lload 5, 2) := by decide +kernel
theorem dX2_hopeOn_28 : decode cX2_hopeOn 28 = .ok (.aload_n 0, 1) := by decide +kernel
theorem dX2_hopeOn_29 : decode cX2_hopeOn 29 = .ok (.iload_n 1, 1) := by decide +kernel
theorem dX2_hopeOn_30 : decode cX2_hopeOn 30 = .ok (.iload 7, 2) := by decide +kernel
theorem dX2_hopeOn_32 : decode cX2_hopeOn 32 = .ok (.invokevirtual 31, 3) := by decide +kernel
theorem dX2_hopeOn_35 : decode cX2_hopeOn 35 = .ok (.aload_n 0, 1) := by decide +kernel
theorem dX2_hopeOn_36 : decode cX2_hopeOn 36 = .ok (.iload 7, 2) := by decide +kernel
theorem dX2_hopeOn_38 : decode cX2_hopeOn 38 = .ok (.iload_n 2, 1) := by decide +kernel
theorem dX2_hopeOn_39 : decode cX2_hopeOn 39 = .ok (.invokevirtual 39, 3) := by decide +kernel
theorem dX2_hopeOn_42 : decode cX2_hopeOn 42 = .ok (.lmul, 1) := by decide +kernel
theorem dX2_hopeOn_43 : decode cX2_hopeOn 43 = .ok (.ladd, 1) := by decide +kernel
theorem dX2_hopeOn_44 : decode cX2_hopeOn 44 = .ok (.lstore 5, 2) := by decide +kernel
theorem dX2_hopeOn_46 : decode cX2_hopeOn 46 = .ok (.iinc 7 1, 3) := by decide +kernel
theorem dX2_hopeOn_49 : decode cX2_hopeOn 49 = .ok (.goto (-29), 3) := by decide +kernel
theorem dX2_hopeOn_52 : decode cX2_hopeOn 52 = .ok (.lload 5, 2) := by decide +kernel
theorem dX2_hopeOn_54 : decode cX2_hopeOn 54 = .ok (.bipush 20, 2) := by decide +kernel
theorem dX2_hopeOn_56 : decode cX2_hopeOn 56 = .ok (.iconst 4, 1) := by decide +kernel
theorem dX2_hopeOn_57 : decode cX2_hopeOn 57 = .ok (.iload_n 2, 1) := by decide +kernel
theorem dX2_hopeOn_58 : decode cX2_hopeOn 58 = .ok (.imul, 1) := by decide +kernel
theorem dX2_hopeOn_59 : decode cX2_hopeOn 59 = .ok (.isub, 1) := by decide +kernel
theorem dX2_hopeOn_60 : decode cX2_hopeOn 60 = .ok (.lshl, 1) := by decide +kernel
theorem dX2_hopeOn_61 : decode cX2_hopeOn 61 = .ok (.lload_n 3, 1) := by decide +kernel
theorem dX2_hopeOn_62 : decode cX2_hopeOn 62 = .ok (.ldiv, 1) := by decide +kernel
theorem dX2_hopeOn_63 : decode cX2_hopeOn 63 = .ok (.l2i, 1) := by decide +kernel
theorem dX2_hopeOn_64 : decode cX2_hopeOn 64 = .ok (.ireturn, 1) := by decide +kernel
theorem dX2_wetParts_0 : decode cX2_wetParts 0 = .ok (.lconst 1, 1) := by decide +kernel
theorem dX2_wetParts_1 : decode cX2_wetParts 1 = .ok (.lstore_n 3, 1) := by decide +kernel
theorem dX2_wetParts_2 : decode cX2_wetParts 2 = .ok (.iconst 0, 1) := by decide +kernel
theorem dX2_wetParts_3 : decode cX2_wetParts 3 = .ok (.istore 5, 2) := by decide +kernel
theorem dX2_wetParts_5 : decode cX2_wetParts 5 = .ok (.iload 5, 2) := by decide +kernel
theorem dX2_wetParts_7 : decode cX2_wetParts 7 = .ok (.iload_n 2, 1) := by decide +kernel
theorem dX2_wetParts_8 : decode cX2_wetParts 8 = .ok (.if_icmp .ge 27, 3) := by decide +kernel
theorem dX2_wetParts_11 : decode cX2_wetParts 11 = .ok (.lload_n 3, 1) := by decide +kernel
theorem dX2_wetParts_12 : decode cX2_wetParts 12 = .ok (.bipush 16, 2) := by decide +kernel
theorem dX2_wetParts_14 : decode cX2_wetParts 14 = .ok (.aload_n 0, 1) := by decide +kernel
theorem dX2_wetParts_15 : decode cX2_wetParts 15 = .ok (.getfield 15, 3) := by decide +kernel
theorem dX2_wetParts_18 : decode cX2_wetParts 18 = .ok (.iload_n 1, 1) := by decide +kernel
theorem dX2_wetParts_19 : decode cX2_wetParts 19 = .ok (.iconst 4, 1) := by decide +kernel
theorem dX2_wetParts_20 : decode cX2_wetParts 20 = .ok (.imul, 1) := by decide +kernel
theorem dX2_wetParts_21 : decode cX2_wetParts 21 = .ok (.iload 5, 2) := by decide +kernel
theorem dX2_wetParts_23 : decode cX2_wetParts 23 = .ok (.iadd, 1) := by decide +kernel
theorem dX2_wetParts_24 : decode cX2_wetParts 24 = .ok (.iaload, 1) := by decide +kernel
theorem dX2_wetParts_25 : decode cX2_wetParts 25 = .ok (.isub, 1) := by decide +kernel
theorem dX2_wetParts_26 : decode cX2_wetParts 26 = .ok (.i2l, 1) := by decide +kernel
theorem dX2_wetParts_27 : decode cX2_wetParts 27 = .ok (.lmul, 1) := by decide +kernel
theorem dX2_wetParts_28 : decode cX2_wetParts 28 = .ok (.lstore_n 3, 1) := by decide +kernel
theorem dX2_wetParts_29 : decode cX2_wetParts 29 = .ok (.iinc 5 1, 3) := by decide +kernel
theorem dX2_wetParts_32 : decode cX2_wetParts 32 = .ok (.goto (-27), 3) := by decide +kernel
theorem dX2_wetParts_35 : decode cX2_wetParts 35 = .ok (.lconst 1, 1) := by decide +kernel
theorem dX2_wetParts_36 : decode cX2_wetParts 36 = .ok (.iconst 4, 1) := by decide +kernel
theorem dX2_wetParts_37 : decode cX2_wetParts 37 = .ok (.iload_n 2, 1) := by decide +kernel
theorem dX2_wetParts_38 : decode cX2_wetParts 38 = .ok (.imul, 1) := by decide +kernel
theorem dX2_wetParts_39 : decode cX2_wetParts 39 = .ok (.lshl, 1) := by decide +kernel
theorem dX2_wetParts_40 : decode cX2_wetParts 40 = .ok (.lload_n 3, 1) := by decide +kernel
theorem dX2_wetParts_41 : decode cX2_wetParts 41 = .ok (.lsub, 1) := by decide +kernel
theorem dX2_wetParts_42 : decode cX2_wetParts 42 = .ok (.lreturn, 1) := by decide +kernel
theorem dX3_init_0 : decode cX3_init 0 = .ok (.aload_n 0, 1) := by decide +kernel
theorem dX3_init_1 : decode cX3_init 1 = .ok (.invokespecial 3, 3) := by decide +kernel
theorem dX3_init_4 : decode cX3_init 4 = .ok (.aload_n 0, 1) := by decide +kernel
theorem dX3_init_5 : decode cX3_init 5 = .ok (.sipush 200, 3) := by decide +kernel
theorem dX3_init_8 : decode cX3_init 8 = .ok (.newarray .int, 2) := by decide +kernel
theorem dX3_init_10 : decode cX3_init 10 = .ok (.putfield 11, 3) := by decide +kernel
theorem dX3_init_13 : decode cX3_init 13 = .ok (.aload_n 0, 1) := by decide +kernel
theorem dX3_init_14 : decode cX3_init 14 = .ok (.iconst 0, 1) := by decide +kernel
theorem dX3_init_15 : decode cX3_init 15 = .ok (.putfield 15, 3) := by decide +kernel
theorem dX3_init_18 : decode cX3_init 18 = .ok (.return_, 1) := by decide +kernel
theorem dX3_hasRoom_0 : decode cX3_hasRoom 0 = .ok (.aload_n 0, 1) := by decide +kernel
theorem dX3_hasRoom_1 : decode cX3_hasRoom 1 = .ok (.getfield 15, 3) := by decide +kernel
theorem dX3_hasRoom_4 : decode cX3_hasRoom 4 = .ok (.bipush 20, 2) := by decide +kernel
theorem dX3_hasRoom_6 : decode cX3_hasRoom 6 = .ok (.iadd, 1) := by decide +kernel
theorem dX3_hasRoom_7 : decode cX3_hasRoom 7 = .ok (.sipush 200, 3) := by decide +kernel
theorem dX3_hasRoom_10 : decode cX3_hasRoom 10 = .ok (.if_icmp .gt 7, 3) := by decide +kernel
theorem dX3_hasRoom_13 : decode cX3_hasRoom 13 = .ok (.iconst 1, 1) := by decide +kernel
theorem dX3_hasRoom_14 : decode cX3_hasRoom 14 = .ok (.goto 4, 3) := by decide +kernel
theorem dX3_hasRoom_17 : decode cX3_hasRoom 17 = .ok (.iconst 0, 1) := by decide +kernel
theorem dX3_hasRoom_18 : decode cX3_hasRoom 18 = .ok (.ireturn, 1) := by decide +kernel
theorem dX3_append_0 : decode cX3_append 0 = .ok (.bipush 24, 2) := by decide +kernel
theorem dX3_append_2 : decode cX3_append 2 = .ok (.istore_n 2, 1) := by decide +kernel
theorem dX3_append_3 : decode cX3_append 3 = .ok (.iload_n 2, 1) := by decide +kernel
theorem dX3_append_4 : decode cX3_append 4 = .ok (.ifCond .lt 45, 3) := by decide +kernel
theorem dX3_append_7 : decode cX3_append 7 = .ok (.aload_n 0, 1) := by decide +kernel
theorem dX3_append_8 : decode cX3_append 8 = .ok (.getfield 15, 3) := by decide +kernel
theorem dX3_append_11 : decode cX3_append 11 = .ok (.sipush 200, 3) := by decide +kernel
theorem dX3_append_14 : decode cX3_append 14 = .ok (.if_icmp .ge 35, 3) := by decide +kernel
theorem dX3_append_17 : decode cX3_append 17 = .ok (.aload_n 0, 1) := by decide +kernel
theorem dX3_append_18 : decode cX3_append 18 = .ok (.getfield 11, 3) := by decide +kernel
theorem dX3_append_21 : decode cX3_append 21 = .ok (.aload_n 0, 1) := by decide +kernel
theorem dX3_append_22 : decode cX3_append 22 = .ok (.getfield 15, 3) := by decide +kernel
theorem dX3_append_25 : decode cX3_append 25 = .ok (.iload_n 1, 1) := by decide +kernel
theorem dX3_append_26 : decode cX3_append 26 = .ok (.iload_n 2, 1) := by decide +kernel
theorem dX3_append_27 : decode cX3_append 27 = .ok (.iushr, 1) := by decide +kernel
theorem dX3_append_28 : decode cX3_append 28 = .ok (.sipush 255, 3) := by decide +kernel
theorem dX3_append_31 : decode cX3_append 31 = .ok (.iand, 1) := by decide +kernel
theorem dX3_append_32 : decode cX3_append 32 = .ok (.iastore, 1) := by decide +kernel
theorem dX3_append_33 : decode cX3_append 33 = .ok (.aload_n 0, 1) := by decide +kernel
theorem dX3_append_34 : decode cX3_append 34 = .ok (.dup, 1) := by decide +kernel
theorem dX3_append_35 : decode cX3_append 35 = .ok (.getfield 15, 3) := by decide +kernel
theorem dX3_append_38 : decode cX3_append 38 = .ok (.iconst 1, 1) := by decide +kernel
theorem dX3_append_39 : decode cX3_append 39 = .ok (.iadd, 1) := by decide +kernel
theorem dX3_append_40 : decode cX3_append 40 = .ok (.putfield 15, 3) := by decide +kernel
theorem dX3_append_43 : decode cX3_append 43 = .ok (.iinc 2 (-8), 3) := by decide +kernel
theorem dX3_append_46 : decode cX3_append 46 = .ok (.goto (-43), 3) := by decide +kernel
theorem dX3_append_49 : decode cX3_append 49 = .ok (.return_, 1) := by decide +kernel
theorem dX3_length_0 : decode cX3_length 0 = .ok (.aload_n 0, 1) := by decide +kernel
theorem dX3_length_1 : decode cX3_length 1 = .ok (.getfield 15, 3) := by decide +kernel
theorem dX3_length_4 : decode cX3_length 4 = .ok (.ireturn, 1) := by decide +kernel
theorem dX3_clear_0 : decode cX3_clear 0 = .ok (.aload_n 0, 1) := by decide +kernel
theorem dX3_clear_1 : decode cX3_clear 1 = .ok (.iconst 0, 1) := by decide +kernel
theorem dX3_clear_2 : decode cX3_clear 2 = .ok (.putfield 15, 3) := by decide +kernel
theorem dX3_clear_5 : decode cX3_clear 5 = .ok (.return_, 1) := by decide +kernel
theorem dX3_at_0 : decode cX3_at 0 = .ok (.iload_n 1, 1) := by decide +kernel
theorem dX3_at_1 : decode cX3_at 1 = .ok (.ifCond .lt 20, 3) := by decide +kernel
theorem dX3_at_4 : decode cX3_at 4 = .ok (.iload_n 1, 1) := by decide +kernel
theorem dX3_at_5 : decode cX3_at 5 = .ok (.aload_n 0, 1) := by decide +kernel
theorem dX3_at_6 : decode cX3_at 6 = .ok (.getfield 15, 3) := by decide +kernel
theorem dX3_at_9 : decode cX3_at 9 = .ok (.if_icmp .ge 12, 3) := by decide +kernel
theorem dX3_at_12 : decode cX3_at 12 = .ok (.aload_n 0, 1) := by decide +kernel
theorem dX3_at_13 : decode cX3_at 13 = .ok (.getfield 11, 3) := by decide +kernel
theorem dX3_at_16 : decode cX3_at 16 = .ok (.iload_n 1, 1) := by decide +kernel
theorem dX3_at_17 : decode cX3_at 17 = .ok (.iaload, 1) := by decide +kernel
theorem dX3_at_18 : decode cX3_at 18 = .ok (.goto 4, 3) := by decide +kernel
theorem dX3_at_21 : decode cX3_at 21 = .ok (.iconst (-1), 1) := by decide +kernel
theorem dX3_at_22 : decode cX3_at 22 = .ok (.ireturn, 1) := by decide +kernel
theorem dX4_init_0 : decode cX4_init 0 = .ok (.aload_n 0, 1) := by decide +kernel
theorem dX4_init_1 : decode cX4_init 1 = .ok (.invokespecial 3, 3) := by decide +kernel
theorem dX4_init_4 : decode cX4_init 4 = .ok (.aload_n 0, 1) := by decide +kernel
theorem dX4_init_5 : decode cX4_init 5 = .ok (.bipush 8, 2) := by decide +kernel
theorem dX4_init_7 : decode cX4_init 7 = .ok (.newarray .int, 2) := by decide +kernel
theorem dX4_init_9 : decode cX4_init 9 = .ok (.putfield 11, 3) := by decide +kernel
theorem dX4_init_12 : decode cX4_init 12 = .ok (.aload_n 0, 1) := by decide +kernel
theorem dX4_init_13 : decode cX4_init 13 = .ok (.bipush 8, 2) := by decide +kernel
theorem dX4_init_15 : decode cX4_init 15 = .ok (.newarray .int, 2) := by decide +kernel
theorem dX4_init_17 : decode cX4_init 17 = .ok (.putfield 15, 3) := by decide +kernel
theorem dX4_init_20 : decode cX4_init 20 = .ok (.aload_n 0, 1) := by decide +kernel
theorem dX4_init_21 : decode cX4_init 21 = .ok (.bipush 8, 2) := by decide +kernel
theorem dX4_init_23 : decode cX4_init 23 = .ok (.newarray .int, 2) := by decide +kernel
theorem dX4_init_25 : decode cX4_init 25 = .ok (.putfield 18, 3) := by decide +kernel
theorem dX4_init_28 : decode cX4_init 28 = .ok (.aload_n 0, 1) := by decide +kernel
theorem dX4_init_29 : decode cX4_init 29 = .ok (.bipush 8, 2) := by decide +kernel
theorem dX4_init_31 : decode cX4_init 31 = .ok (.newarray .int, 2) := by decide +kernel
theorem dX4_init_33 : decode cX4_init 33 = .ok (.putfield 21, 3) := by decide +kernel
theorem dX4_init_36 : decode cX4_init 36 = .ok (.aload_n 0, 1) := by decide +kernel
theorem dX4_init_37 : decode cX4_init 37 = .ok (.bipush 8, 2) := by decide +kernel
theorem dX4_init_39 : decode cX4_init 39 = .ok (.newarray .int, 2) := by decide +kernel
theorem dX4_init_41 : decode cX4_init 41 = .ok (.putfield 24, 3) := by decide +kernel
theorem dX4_init_44 : decode cX4_init 44 = .ok (.aload_n 0, 1) := by decide +kernel
theorem dX4_init_45 : decode cX4_init 45 = .ok (.bipush 8, 2) := by decide +kernel
theorem dX4_init_47 : decode cX4_init 47 = .ok (.newarray .int, 2) := by decide +kernel
theorem dX4_init_49 : decode cX4_init 49 = .ok (.putfield 27, 3) := by decide +kernel
theorem dX4_init_52 : decode cX4_init 52 = .ok (.aload_n 0, 1) := by decide +kernel
theorem dX4_init_53 : decode cX4_init 53 = .ok (.iconst 0, 1) := by decide +kernel
theorem dX4_init_54 : decode cX4_init 54 = .ok (.putfield 30, 3) := by decide +kernel
theorem dX4_init_57 : decode cX4_init 57 = .ok (.return_, 1) := by decide +kernel
theorem dX4_isAge_0 : decode cX4_isAge 0 = .ok (.iload_n 0, 1) := by decide +kernel
theorem dX4_isAge_1 : decode cX4_isAge 1 = .ok (.iconst 1, 1) := by decide +kernel
theorem dX4_isAge_2 : decode cX4_isAge 2 = .ok (.if_icmp .lt 13, 3) := by decide +kernel
theorem dX4_isAge_5 : decode cX4_isAge 5 = .ok (.iload_n 0, 1) := by decide +kernel
theorem dX4_isAge_6 : decode cX4_isAge 6 = .ok (.bipush 30, 2) := by decide +kernel
theorem dX4_isAge_8 : decode cX4_isAge 8 = .ok (.if_icmp .gt 7, 3) := by decide +kernel
theorem dX4_isAge_11 : decode cX4_isAge 11 = .ok (.iconst 1, 1) := by decide +kernel
theorem dX4_isAge_12 : decode cX4_isAge 12 = .ok (.goto 4, 3) := by decide +kernel
theorem dX4_isAge_15 : decode cX4_isAge 15 = .ok (.iconst 0, 1) := by decide +kernel
theorem dX4_isAge_16 : decode cX4_isAge 16 = .ok (.ireturn, 1) := by decide +kernel
theorem dX4_has_0 : decode cX4_has 0 = .ok (.iload_n 1, 1) := by decide +kernel
theorem dX4_has_1 : decode cX4_has 1 = .ok (.iconst 1, 1) := by decide +kernel
theorem dX4_has_2 : decode cX4_has 2 = .ok (.if_icmp .lt 15, 3) := by decide +kernel
theorem dX4_has_5 : decode cX4_has 5 = .ok (.iload_n 1, 1) := by decide +kernel
theorem dX4_has_6 : decode cX4_has 6 = .ok (.aload_n 0, 1) := by decide +kernel
theorem dX4_has_7 : decode cX4_has 7 = .ok (.getfield 30, 3) := by decide +kernel
theorem dX4_has_10 : decode cX4_has 10 = .ok (.if_icmp .gt 7, 3) := by decide +kernel
theorem dX4_has_13 : decode cX4_has 13 = .ok (.iconst 1, 1) := by decide +kernel
theorem dX4_has_14 : decode cX4_has 14 = .ok (.goto 4, 3) := by decide +kernel
theorem dX4_has_17 : decode cX4_has 17 = .ok (.iconst 0, 1) := by decide +kernel
theorem dX4_has_18 : decode cX4_has 18 = .ok (.ireturn, 1) := by decide +kernel
theorem dX4_size_0 : decode cX4_size 0 = .ok (.aload_n 0, 1) := by decide +kernel
theorem dX4_size_1 : decode cX4_size 1 = .ok (.getfield 30, 3) := by decide +kernel
theorem dX4_size_4 : decode cX4_size 4 = .ok (.ireturn, 1) := by decide +kernel
theorem dX4_append_0 : decode cX4_append 0 = .ok (.aload_n 0, 1) := by decide +kernel
theorem dX4_append_1 : decode cX4_append 1 = .ok (.getfield 30, 3) := by decide +kernel
theorem dX4_append_4 : decode cX4_append 4 = .ok (.bipush 7, 2) := by decide +kernel
theorem dX4_append_6 : decode cX4_append 6 = .ok (.if_icmp .lt 5, 3) := by decide +kernel
theorem dX4_append_9 : decode cX4_append 9 = .ok (.iconst (-1), 1) := by decide +kernel
theorem dX4_append_10 : decode cX4_append 10 = .ok (.ireturn, 1) := by decide +kernel
theorem dX4_append_11 : decode cX4_append 11 = .ok (.aload_n 0, 1) := by decide +kernel
theorem dX4_append_12 : decode cX4_append 12 = .ok (.dup, 1) := by decide +kernel
theorem dX4_append_13 : decode cX4_append 13 = .ok (.getfield 30, 3) := by decide +kernel
theorem dX4_append_16 : decode cX4_append 16 = .ok (.iconst 1, 1) := by decide +kernel
theorem dX4_append_17 : decode cX4_append 17 = .ok (.iadd, 1) := by decide +kernel
theorem dX4_append_18 : decode cX4_append 18 = .ok (.putfield 30, 3) := by decide +kernel
theorem dX4_append_21 : decode cX4_append 21 = .ok (.aload_n 0, 1) := by decide +kernel
theorem dX4_append_22 : decode cX4_append 22 = .ok (.getfield 11, 3) := by decide +kernel
theorem dX4_append_25 : decode cX4_append 25 = .ok (.aload_n 0, 1) := by decide +kernel
theorem dX4_append_26 : decode cX4_append 26 = .ok (.getfield 30, 3) := by decide +kernel
theorem dX4_append_29 : decode cX4_append 29 = .ok (.iload_n 1, 1) := by decide +kernel
theorem dX4_append_30 : decode cX4_append 30 = .ok (.iastore, 1) := by decide +kernel
theorem dX4_append_31 : decode cX4_append 31 = .ok (.aload_n 0, 1) := by decide +kernel
theorem dX4_append_32 : decode cX4_append 32 = .ok (.getfield 15, 3) := by decide +kernel
theorem dX4_append_35 : decode cX4_append 35 = .ok (.aload_n 0, 1) := by decide +kernel
theorem dX4_append_36 : decode cX4_append 36 = .ok (.getfield 30, 3) := by decide +kernel
theorem dX4_append_39 : decode cX4_append 39 = .ok (.iload_n 2, 1) := by decide +kernel
theorem dX4_append_40 : decode cX4_append 40 = .ok (.iastore, 1) := by decide +kernel
theorem dX4_append_41 : decode cX4_append 41 = .ok (.aload_n 0, 1) := by decide +kernel
theorem dX4_append_42 : decode cX4_append 42 = .ok (.getfield 18, 3) := by decide +kernel
theorem dX4_append_45 : decode cX4_append 45 = .ok (.aload_n 0, 1) := by decide +kernel
theorem dX4_append_46 : decode cX4_append 46 = .ok (.getfield 30, 3) := by decide +kernel
theorem dX4_append_49 : decode cX4_append 49 = .ok (.iconst 0, 1) := by decide +kernel
theorem dX4_append_50 : decode cX4_append 50 = .ok (.iastore, 1) := by decide +kernel
theorem dX4_append_51 : decode cX4_append 51 = .ok (.aload_n 0, 1) := by decide +kernel
theorem dX4_append_52 : decode cX4_append 52 = .ok (.getfield 21, 3) := by decide +kernel
theorem dX4_append_55 : decode cX4_append 55 = .ok (.aload_n 0, 1) := by decide +kernel
theorem dX4_append_56 : decode cX4_append 56 = .ok (.getfield 30, 3) := by decide +kernel
theorem dX4_append_59 : decode cX4_append 59 = .ok (.iconst (-1), 1) := by decide +kernel
theorem dX4_append_60 : decode cX4_append 60 = .ok (.iastore, 1) := by decide +kernel
theorem dX4_append_61 : decode cX4_append 61 = .ok (.aload_n 0, 1) := by decide +kernel
theorem dX4_append_62 : decode cX4_append 62 = .ok (.getfield 24, 3) := by decide +kernel
theorem dX4_append_65 : decode cX4_append 65 = .ok (.aload_n 0, 1) := by decide +kernel
theorem dX4_append_66 : decode cX4_append 66 = .ok (.getfield 30, 3) := by decide +kernel
theorem dX4_append_69 : decode cX4_append 69 = .ok (.iconst (-1), 1) := by decide +kernel
theorem dX4_append_70 : decode cX4_append 70 = .ok (.iastore, 1) := by decide +kernel
theorem dX4_append_71 : decode cX4_append 71 = .ok (.aload_n 0, 1) := by decide +kernel
theorem dX4_append_72 : decode cX4_append 72 = .ok (.getfield 27, 3) := by decide +kernel
theorem dX4_append_75 : decode cX4_append 75 = .ok (.aload_n 0, 1) := by decide +kernel
theorem dX4_append_76 : decode cX4_append 76 = .ok (.getfield 30, 3) := by decide +kernel
theorem dX4_append_79 : decode cX4_append 79 = .ok (.iconst 0, 1) := by decide +kernel
theorem dX4_append_80 : decode cX4_append 80 = .ok (.iastore, 1) := by decide +kernel
theorem dX4_append_81 : decode cX4_append 81 = .ok (.aload_n 0, 1) := by decide +kernel
theorem dX4_append_82 : decode cX4_append 82 = .ok (.getfield 30, 3) := by decide +kernel
theorem dX4_append_85 : decode cX4_append 85 = .ok (.ireturn, 1) := by decide +kernel
theorem dX4_rockOf_0 : decode cX4_rockOf 0 = .ok (.aload_n 0, 1) := by decide +kernel
theorem dX4_rockOf_1 : decode cX4_rockOf 1 = .ok (.getfield 11, 3) := by decide +kernel
theorem dX4_rockOf_4 : decode cX4_rockOf 4 = .ok (.iload_n 1, 1) := by decide +kernel
theorem dX4_rockOf_5 : decode cX4_rockOf 5 = .ok (.iaload, 1) := by decide +kernel
theorem dX4_rockOf_6 : decode cX4_rockOf 6 = .ok (.ireturn, 1) := by decide +kernel
theorem dX4_peopleOf_0 : decode cX4_peopleOf 0 = .ok (.aload_n 0, 1) := by decide +kernel
theorem dX4_peopleOf_1 : decode cX4_peopleOf 1 = .ok (.getfield 15, 3) := by decide +kernel
theorem dX4_peopleOf_4 : decode cX4_peopleOf 4 = .ok (.iload_n 1, 1) := by decide +kernel
theorem dX4_peopleOf_5 : decode cX4_peopleOf 5 = .ok (.iaload, 1) := by decide +kernel
theorem dX4_peopleOf_6 : decode cX4_peopleOf 6 = .ok (.ireturn, 1) := by decide +kernel
theorem dX4_badHoles_0 : decode cX4_badHoles 0 = .ok (.aload_n 0, 1) := by decide +kernel
theorem dX4_badHoles_1 : decode cX4_badHoles 1 = .ok (.getfield 18, 3) := by decide +kernel
theorem dX4_badHoles_4 : decode cX4_badHoles 4 = .ok (.iload_n 1, 1) := by decide +kernel
theorem dX4_badHoles_5 : decode cX4_badHoles 5 = .ok (.iaload, 1) := by decide +kernel
theorem dX4_badHoles_6 : decode cX4_badHoles 6 = .ok (.ireturn, 1) := by decide +kernel
theorem dX4_wellPipes_0 : decode cX4_wellPipes 0 = .ok (.aload_n 0, 1) := by decide +kernel
theorem dX4_wellPipes_1 : decode cX4_wellPipes 1 = .ok (.getfield 21, 3) := by decide +kernel
theorem dX4_wellPipes_4 : decode cX4_wellPipes 4 = .ok (.iload_n 1, 1) := by decide +kernel
theorem dX4_wellPipes_5 : decode cX4_wellPipes 5 = .ok (.iaload, 1) := by decide +kernel
theorem dX4_wellPipes_6 : decode cX4_wellPipes 6 = .ok (.ireturn, 1) := by decide +kernel
theorem dX4_endAge_0 : decode cX4_endAge 0 = .ok (.aload_n 0, 1) := by decide +kernel
theorem dX4_endAge_1 : decode cX4_endAge 1 = .ok (.getfield 24, 3) := by decide +kernel
theorem dX4_endAge_4 : decode cX4_endAge 4 = .ok (.iload_n 1, 1) := by decide +kernel
theorem dX4_endAge_5 : decode cX4_endAge 5 = .ok (.iaload, 1) := by decide +kernel
theorem dX4_endAge_6 : decode cX4_endAge 6 = .ok (.ireturn, 1) := by decide +kernel
theorem dX4_runAge_0 : decode cX4_runAge 0 = .ok (.aload_n 0, 1) := by decide +kernel
theorem dX4_runAge_1 : decode cX4_runAge 1 = .ok (.getfield 27, 3) := by decide +kernel
theorem dX4_runAge_4 : decode cX4_runAge 4 = .ok (.iload_n 1, 1) := by decide +kernel
theorem dX4_runAge_5 : decode cX4_runAge 5 = .ok (.iaload, 1) := by decide +kernel
theorem dX4_runAge_6 : decode cX4_runAge 6 = .ok (.ireturn, 1) := by decide +kernel
theorem dX4_hasWell_0 : decode cX4_hasWell 0 = .ok (.aload_n 0, 1) := by decide +kernel
theorem dX4_hasWell_1 : decode cX4_hasWell 1 = .ok (.getfield 21, 3) := by decide +kernel
theorem dX4_hasWell_4 : decode cX4_hasWell 4 = .ok (.iload_n 1, 1) := by decide +kernel
theorem dX4_hasWell_5 : decode cX4_hasWell 5 = .ok (.iaload, 1) := by decide +kernel
theorem dX4_hasWell_6 : decode cX4_hasWell 6 = .ok (.iconst (-1), 1) := by decide +kernel
theorem dX4_hasWell_7 : decode cX4_hasWell 7 = .ok (.if_icmp .eq 7, 3) := by decide +kernel
theorem dX4_hasWell_10 : decode cX4_hasWell 10 = .ok (.iconst 1, 1) := by decide +kernel
theorem dX4_hasWell_11 : decode cX4_hasWell 11 = .ok (.goto 4, 3) := by decide +kernel
theorem dX4_hasWell_14 : decode cX4_hasWell 14 = .ok (.iconst 0, 1) := by decide +kernel
theorem dX4_hasWell_15 : decode cX4_hasWell 15 = .ok (.ireturn, 1) := by decide +kernel
set_option maxRecDepth 20000 in
theorem ggX4_state_X4_hasWell : GoodIn wsX4_state wsX4_hasWell := goodIn_r _ [6, 7, 8, 9, 10, 11, 12, 13, 14] (by decide +kernel) (by decide +kernel)
set_option maxRecDepth 20000 in
theorem gX4_state_X4_hasWell : GoodIn wsX4_state (wsV RX4 34 RX4 yX4_hasWell wsX4_hasWell) := goodIn_app (goodIn_of _ (by decide +kernel)) ggX4_state_X4_hasWell
theorem dX4_state_0 : decode cX4_state 0 = .ok (.aload_n 0, 1) := by decide +kernel
theorem dX4_state_1 : decode cX4_state 1 = .ok (.iload_n 1, 1) := by decide +kernel
theorem dX4_state_2 : decode cX4_state 2 = .ok (.invokevirtual 34, 3) := by decide +kernel
theorem dX4_state_5 : decode cX4_state 5 = .ok (.ifCond .eq 5, 3) := by decide +kernel
theorem dX4_state_8 : decode cX4_state 8 = .ok (.iconst 1, 1) := by decide +kernel
theorem dX4_state_9 : decode cX4_state 9 = .ok (.ireturn, 1) := by decide +kernel
theorem dX4_state_10 : decode cX4_state 10 = .ok (.aload_n 0, 1) := by decide +kernel
theorem dX4_state_11 : decode cX4_state 11 = .ok (.getfield 18, 3) := by decide +kernel
theorem dX4_state_14 : decode cX4_state 14 = .ok (.iload_n 1, 1) := by decide +kernel
theorem dX4_state_15 : decode cX4_state 15 = .ok (.iaload, 1) := by decide +kernel
theorem dX4_state_16 : decode cX4_state 16 = .ok (.iload_n 2, 1) := by decide +kernel
theorem dX4_state_17 : decode cX4_state 17 = .ok (.if_icmp .lt 7, 3) := by decide +kernel
theorem dX4_state_20 : decode cX4_state 20 = .ok (.iconst 2, 1) := by decide +kernel
theorem dX4_state_21 : decode cX4_state 21 = .ok (.goto 4, 3) := by decide +kernel
theorem dX4_state_24 : decode cX4_state 24 = .ok (.iconst 0, 1) := by decide +kernel
theorem dX4_state_25 : decode cX4_state 25 = .ok (.ireturn, 1) := by decide +kernel
theorem dX4_makeWell_0 : decode cX4_makeWell 0 = .ok (.aload_n 0, 1) := by decide +kernel
theorem dX4_makeWell_1 : decode cX4_makeWell 1 = .ok (.getfield 21, 3) := by decide +kernel
theorem dX4_makeWell_4 : decode cX4_makeWell 4 = .ok (.iload_n 1, 1) := by decide +kernel
theorem dX4_makeWell_5 : decode cX4_makeWell 5 = .ok (.iload_n 2, 1) := by decide +kernel
theorem dX4_makeWell_6 : decode cX4_makeWell 6 = .ok (.iastore, 1) := by decide +kernel
theorem dX4_makeWell_7 : decode cX4_makeWell 7 = .ok (.return_, 1) := by decide +kernel
theorem dX4_addBadHole_0 : decode cX4_addBadHole 0 = .ok (.aload_n 0, 1) := by decide +kernel
theorem dX4_addBadHole_1 : decode cX4_addBadHole 1 = .ok (.getfield 18, 3) := by decide +kernel
theorem dX4_addBadHole_4 : decode cX4_addBadHole 4 = .ok (.iload_n 1, 1) := by decide +kernel
theorem dX4_addBadHole_5 : decode cX4_addBadHole 5 = .ok (.dup2, 1) := by decide +kernel
theorem dX4_addBadHole_6 : decode cX4_addBadHole 6 = .ok (.iaload, 1) := by decide +kernel
theorem dX4_addBadHole_7 : decode cX4_addBadHole 7 = .ok (.iconst 1, 1) := by decide +kernel
theorem dX4_addBadHole_8 : decode cX4_addBadHole 8 = .ok (.iadd, 1) := by decide +kernel
theorem dX4_addBadHole_9 : decode cX4_addBadHole 9 = .ok (.iastore, 1) := by decide +kernel
theorem dX4_addBadHole_10 : decode cX4_addBadHole 10 = .ok (.return_, 1) := by decide +kernel
theorem dX4_addVisit_0 : decode cX4_addVisit 0 = .ok (.iload_n 3, 1) := by decide +kernel
theorem dX4_addVisit_1 : decode cX4_addVisit 1 = .ok (.ifCond .eq 22, 3) := by decide +kernel
theorem dX4_addVisit_4 : decode cX4_addVisit 4 = .ok (.aload_n 0, 1) := by decide +kernel
theorem dX4_addVisit_5 : decode cX4_addVisit 5 = .ok (.getfield 27, 3) := by decide +kernel
theorem dX4_addVisit_8 : decode cX4_addVisit 8 = .ok (.iload_n 1, 1) := by decide +kernel
theorem dX4_addVisit_9 : decode cX4_addVisit 9 = .ok (.aload_n 0, 1) := by decide +kernel
theorem dX4_addVisit_10 : decode cX4_addVisit 10 = .ok (.getfield 27, 3) := by decide +kernel
theorem dX4_addVisit_13 : decode cX4_addVisit 13 = .ok (.iload_n 1, 1) := by decide +kernel
theorem dX4_addVisit_14 : decode cX4_addVisit 14 = .ok (.iaload, 1) := by decide +kernel
theorem dX4_addVisit_15 : decode cX4_addVisit 15 = .ok (.iload_n 2, 1) := by decide +kernel
theorem dX4_addVisit_16 : decode cX4_addVisit 16 = .ok (.invokestatic 38, 3) := by decide +kernel
theorem dX4_addVisit_19 : decode cX4_addVisit 19 = .ok (.iastore, 1) := by decide +kernel
theorem dX4_addVisit_20 : decode cX4_addVisit 20 = .ok (.goto 30, 3) := by decide +kernel
theorem dX4_addVisit_23 : decode cX4_addVisit 23 = .ok (.aload_n 0, 1) := by decide +kernel
theorem dX4_addVisit_24 : decode cX4_addVisit 24 = .ok (.getfield 24, 3) := by decide +kernel
theorem dX4_addVisit_27 : decode cX4_addVisit 27 = .ok (.iload_n 1, 1) := by decide +kernel
theorem dX4_addVisit_28 : decode cX4_addVisit 28 = .ok (.iaload, 1) := by decide +kernel
theorem dX4_addVisit_29 : decode cX4_addVisit 29 = .ok (.iconst (-1), 1) := by decide +kernel
theorem dX4_addVisit_30 : decode cX4_addVisit 30 = .ok (.if_icmp .eq 13, 3) := by decide +kernel
theorem dX4_addVisit_33 : decode cX4_addVisit 33 = .ok (.iload_n 2, 1) := by decide +kernel
theorem dX4_addVisit_34 : decode cX4_addVisit 34 = .ok (.aload_n 0, 1) := by decide +kernel
theorem dX4_addVisit_35 : decode cX4_addVisit 35 = .ok (.getfield 24, 3) := by decide +kernel
theorem dX4_addVisit_38 : decode cX4_addVisit 38 = .ok (.iload_n 1, 1) := by decide +kernel
theorem dX4_addVisit_39 : decode cX4_addVisit 39 = .ok (.iaload, 1) := by decide +kernel
theorem dX4_addVisit_40 : decode cX4_addVisit 40 = .ok (.if_icmp .ge 10, 3) := by decide +kernel
theorem dX4_addVisit_43 : decode cX4_addVisit 43 = .ok (.aload_n 0, 1) := by decide +kernel
theorem dX4_addVisit_44 : decode cX4_addVisit 44 = .ok (.getfield 24, 3) := by decide +kernel
theorem dX4_addVisit_47 : decode cX4_addVisit 47 = .ok (.iload_n 1, 1) := by decide +kernel
theorem dX4_addVisit_48 : decode cX4_addVisit 48 = .ok (.iload_n 2, 1) := by decide +kernel
theorem dX4_addVisit_49 : decode cX4_addVisit 49 = .ok (.iastore, 1) := by decide +kernel
theorem dX4_addVisit_50 : decode cX4_addVisit 50 = .ok (.return_, 1) := by decide +kernel
theorem dX4_endsAt_0 : decode cX4_endsAt 0 = .ok (.iconst 0, 1) := by decide +kernel
theorem dX4_endsAt_1 : decode cX4_endsAt 1 = .ok (.istore_n 2, 1) := by decide +kernel
theorem dX4_endsAt_2 : decode cX4_endsAt 2 = .ok (.iconst 1, 1) := by decide +kernel
theorem dX4_endsAt_3 : decode cX4_endsAt 3 = .ok (.istore_n 3, 1) := by decide +kernel
theorem dX4_endsAt_4 : decode cX4_endsAt 4 = .ok (.iload_n 3, 1) := by decide +kernel
theorem dX4_endsAt_5 : decode cX4_endsAt 5 = .ok (.aload_n 0, 1) := by decide +kernel
theorem dX4_endsAt_6 : decode cX4_endsAt 6 = .ok (.getfield 30, 3) := by decide +kernel
theorem dX4_endsAt_9 : decode cX4_endsAt 9 = .ok (.if_icmp .gt 22, 3) := by decide +kernel
theorem dX4_endsAt_12 : decode cX4_endsAt 12 = .ok (.aload_n 0, 1) := by decide +kernel
theorem dX4_endsAt_13 : decode cX4_endsAt 13 = .ok (.getfield 24, 3) := by decide +kernel
theorem dX4_endsAt_16 : decode cX4_endsAt 16 = .ok (.iload_n 3, 1) := by decide +kernel
theorem dX4_endsAt_17 : decode cX4_endsAt 17 = .ok (.iaload, 1) := by decide +kernel
theorem dX4_endsAt_18 : decode cX4_endsAt 18 = .ok (.iload_n 1, 1) := by decide +kernel
theorem dX4_endsAt_19 : decode cX4_endsAt 19 = .ok (.if_icmp .ne 6, 3) := by decide +kernel
