theorem dX4_takes_18 : decode cX4_takes 18 = .ok (.aload_n 0, 1) := by decide +kernel
theorem dX4_takes_19 : decode cX4_takes 19 = .ok (.dup, 1) := by decide +kernel
theorem dX4_takes_20 : decode cX4_takes 20 = .ok (.getfield 40, 3) := by decide +kernel
theorem dX4_takes_23 : decode cX4_takes 23 = .ok (.iconst 1, 1) := by decide +kernel
theorem dX4_takes_24 : decode cX4_takes 24 = .ok (.iadd, 1) := by decide +kernel
theorem dX4_takes_25 : decode cX4_takes 25 = .ok (.putfield 40, 3) := by decide +kernel
theorem dX4_takes_28 : decode cX4_takes 28 = .ok (.iload_n 2, 1) := by decide +kernel
theorem dX4_takes_29 : decode cX4_takes 29 = .ok (.ireturn, 1) := by decide +kernel
theorem dX4_takesOneOf_0 : decode cX4_takesOneOf 0 = .ok (.aload_n 0, 1) := by decide +kernel
theorem dX4_takesOneOf_1 : decode cX4_takesOneOf 1 = .ok (.iload_n 1, 1) := by decide +kernel
theorem dX4_takesOneOf_2 : decode cX4_takesOneOf 2 = .ok (.invokevirtual 78, 3) := by decide +kernel
theorem dX4_takesOneOf_5 : decode cX4_takesOneOf 5 = .ok (.ifCond .eq 6, 3) := by decide +kernel
theorem dX4_takesOneOf_8 : decode cX4_takesOneOf 8 = .ok (.iload 4, 2) := by decide +kernel
theorem dX4_takesOneOf_10 : decode cX4_takesOneOf 10 = .ok (.ireturn, 1) := by decide +kernel
theorem dX4_takesOneOf_11 : decode cX4_takesOneOf 11 = .ok (.aload_n 0, 1) := by decide +kernel
theorem dX4_takesOneOf_12 : decode cX4_takesOneOf 12 = .ok (.iload_n 2, 1) := by decide +kernel
theorem dX4_takesOneOf_13 : decode cX4_takesOneOf 13 = .ok (.invokevirtual 78, 3) := by decide +kernel
theorem dX4_takesOneOf_16 : decode cX4_takesOneOf 16 = .ok (.ifCond .eq 8, 3) := by decide +kernel
theorem dX4_takesOneOf_19 : decode cX4_takesOneOf 19 = .ok (.iload 4, 2) := by decide +kernel
theorem dX4_takesOneOf_21 : decode cX4_takesOneOf 21 = .ok (.iconst 1, 1) := by decide +kernel
theorem dX4_takesOneOf_22 : decode cX4_takesOneOf 22 = .ok (.iadd, 1) := by decide +kernel
theorem dX4_takesOneOf_23 : decode cX4_takesOneOf 23 = .ok (.ireturn, 1) := by decide +kernel
theorem dX4_takesOneOf_24 : decode cX4_takesOneOf 24 = .ok (.aload_n 0, 1) := by decide +kernel
theorem dX4_takesOneOf_25 : decode cX4_takesOneOf 25 = .ok (.iload_n 3, 1) := by decide +kernel
theorem dX4_takesOneOf_26 : decode cX4_takesOneOf 26 = .ok (.invokevirtual 78, 3) := by decide +kernel
theorem dX4_takesOneOf_29 : decode cX4_takesOneOf 29 = .ok (.ifCond .eq 10, 3) := by decide +kernel
theorem dX4_takesOneOf_32 : decode cX4_takesOneOf 32 = .ok (.iload 4, 2) := by decide +kernel
theorem dX4_takesOneOf_34 : decode cX4_takesOneOf 34 = .ok (.iconst 2, 1) := by decide +kernel
theorem dX4_takesOneOf_35 : decode cX4_takesOneOf 35 = .ok (.iadd, 1) := by decide +kernel
theorem dX4_takesOneOf_36 : decode cX4_takesOneOf 36 = .ok (.goto 4, 3) := by decide +kernel
theorem dX4_takesOneOf_39 : decode cX4_takesOneOf 39 = .ok (.iconst (-1), 1) := by decide +kernel
theorem dX4_takesOneOf_40 : decode cX4_takesOneOf 40 = .ok (.ireturn, 1) := by decide +kernel
theorem dX4_expect_0 : decode cX4_expect 0 = .ok (.aload_n 0, 1) := by decide +kernel
theorem dX4_expect_1 : decode cX4_expect 1 = .ok (.invokevirtual 62, 3) := by decide +kernel
theorem dX4_expect_4 : decode cX4_expect 4 = .ok (.iload_n 1, 1) := by decide +kernel
theorem dX4_expect_5 : decode cX4_expect 5 = .ok (.if_icmp .ne 16, 3) := by decide +kernel
theorem dX4_expect_8 : decode cX4_expect 8 = .ok (.aload_n 0, 1) := by decide +kernel
theorem dX4_expect_9 : decode cX4_expect 9 = .ok (.dup, 1) := by decide +kernel
theorem dX4_expect_10 : decode cX4_expect 10 = .ok (.getfield 40, 3) := by decide +kernel
theorem dX4_expect_13 : decode cX4_expect 13 = .ok (.iconst 1, 1) := by decide +kernel
theorem dX4_expect_14 : decode cX4_expect 14 = .ok (.iadd, 1) := by decide +kernel
theorem dX4_expect_15 : decode cX4_expect 15 = .ok (.putfield 40, 3) := by decide +kernel
theorem dX4_expect_18 : decode cX4_expect 18 = .ok (.goto 8, 3) := by decide +kernel
theorem dX4_expect_21 : decode cX4_expect 21 = .ok (.aload_n 0, 1) := by decide +kernel
theorem dX4_expect_22 : decode cX4_expect 22 = .ok (.iconst 1, 1) := by decide +kernel
theorem dX4_expect_23 : decode cX4_expect 23 = .ok (.invokevirtual 66, 3) := by decide +kernel
theorem dX4_expect_26 : decode cX4_expect 26 = .ok (.return_, 1) := by decide +kernel
theorem dX4_opens_0 : decode cX4_opens 0 = .ok (.iload_n 1, 1) := by decide +kernel
theorem dX4_opens_1 : decode cX4_opens 1 = .ok (.bipush 6, 2) := by decide +kernel
theorem dX4_opens_3 : decode cX4_opens 3 = .ok (.if_icmp .lt 10, 3) := by decide +kernel
theorem dX4_opens_6 : decode cX4_opens 6 = .ok (.aload_n 0, 1) := by decide +kernel
theorem dX4_opens_7 : decode cX4_opens 7 = .ok (.iconst 5, 1) := by decide +kernel
theorem dX4_opens_8 : decode cX4_opens 8 = .ok (.invokevirtual 66, 3) := by decide +kernel
theorem dX4_opens_11 : decode cX4_opens 11 = .ok (.iconst 0, 1) := by decide +kernel
theorem dX4_opens_12 : decode cX4_opens 12 = .ok (.ireturn, 1) := by decide +kernel
theorem dX4_opens_13 : decode cX4_opens 13 = .ok (.aload_n 0, 1) := by decide +kernel
theorem dX4_opens_14 : decode cX4_opens 14 = .ok (.dup, 1) := by decide +kernel
theorem dX4_opens_15 : decode cX4_opens 15 = .ok (.getfield 40, 3) := by decide +kernel
theorem dX4_opens_18 : decode cX4_opens 18 = .ok (.iconst 1, 1) := by decide +kernel
theorem dX4_opens_19 : decode cX4_opens 19 = .ok (.iadd, 1) := by decide +kernel
theorem dX4_opens_20 : decode cX4_opens 20 = .ok (.putfield 40, 3) := by decide +kernel
theorem dX4_opens_23 : decode cX4_opens 23 = .ok (.iconst 1, 1) := by decide +kernel
theorem dX4_opens_24 : decode cX4_opens 24 = .ok (.ireturn, 1) := by decide +kernel
theorem dX4_stop_0 : decode cX4_stop 0 = .ok (.aload_n 0, 1) := by decide +kernel
theorem dX4_stop_1 : decode cX4_stop 1 = .ok (.getfield 42, 3) := by decide +kernel
theorem dX4_stop_4 : decode cX4_stop 4 = .ok (.ifCond .ne 8, 3) := by decide +kernel
theorem dX4_stop_7 : decode cX4_stop 7 = .ok (.aload_n 0, 1) := by decide +kernel
theorem dX4_stop_8 : decode cX4_stop 8 = .ok (.iload_n 1, 1) := by decide +kernel
theorem dX4_stop_9 : decode cX4_stop 9 = .ok (.putfield 42, 3) := by decide +kernel
theorem dX4_stop_12 : decode cX4_stop 12 = .ok (.return_, 1) := by decide +kernel
theorem dX5_init_0 : decode cX5_init 0 = .ok (.aload_n 0, 1) := by decide +kernel
theorem dX5_init_1 : decode cX5_init 1 = .ok (.invokespecial 3, 3) := by decide +kernel
theorem dX5_init_4 : decode cX5_init 4 = .ok (.aload_n 0, 1) := by decide +kernel
theorem dX5_init_5 : decode cX5_init 5 = .ok (.bipush 6, 2) := by decide +kernel
theorem dX5_init_7 : decode cX5_init 7 = .ok (.anewarray 9, 3) := by decide +kernel
theorem dX5_init_10 : decode cX5_init 10 = .ok (.putfield 11, 3) := by decide +kernel
theorem dX5_init_13 : decode cX5_init 13 = .ok (.return_, 1) := by decide +kernel
theorem dX5_addNote_0 : decode cX5_addNote 0 = .ok (.aload_n 0, 1) := by decide +kernel
theorem dX5_addNote_1 : decode cX5_addNote 1 = .ok (.getfield 17, 3) := by decide +kernel
theorem dX5_addNote_4 : decode cX5_addNote 4 = .ok (.bipush 6, 2) := by decide +kernel
theorem dX5_addNote_6 : decode cX5_addNote 6 = .ok (.if_icmp .lt 4, 3) := by decide +kernel
theorem dX5_addNote_9 : decode cX5_addNote 9 = .ok (.return_, 1) := by decide +kernel
theorem dX5_addNote_10 : decode cX5_addNote 10 = .ok (.aload_n 0, 1) := by decide +kernel
theorem dX5_addNote_11 : decode cX5_addNote 11 = .ok (.getfield 11, 3) := by decide +kernel
theorem dX5_addNote_14 : decode cX5_addNote 14 = .ok (.aload_n 0, 1) := by decide +kernel
theorem dX5_addNote_15 : decode cX5_addNote 15 = .ok (.getfield 17, 3) := by decide +kernel
theorem dX5_addNote_18 : decode cX5_addNote 18 = .ok (.aaload, 1) := by decide +kernel
theorem dX5_addNote_19 : decode cX5_addNote 19 = .ok (.ifnonnull 19, 3) := by decide +kernel
theorem dX5_addNote_22 : decode cX5_addNote 22 = .ok (.aload_n 0, 1) := by decide +kernel
theorem dX5_addNote_23 : decode cX5_addNote 23 = .ok (.getfield 11, 3) := by decide +kernel
theorem dX5_addNote_26 : decode cX5_addNote 26 = .ok (.aload_n 0, 1) := by decide +kernel
theorem dX5_addNote_27 : decode cX5_addNote 27 = .ok (.getfield 17, 3) := by decide +kernel
theorem dX5_addNote_30 : decode cX5_addNote 30 = .ok (.new 9, 3) := by decide +kernel
theorem dX5_addNote_33 : decode cX5_addNote 33 = .ok (.dup, 1) := by decide +kernel
theorem dX5_addNote_34 : decode cX5_addNote 34 = .ok (.invokespecial 21, 3) := by decide +kernel
theorem dX5_addNote_37 : decode cX5_addNote 37 = .ok (.aastore, 1) := by decide +kernel
theorem dX5_addNote_38 : decode cX5_addNote 38 = .ok (.aload_n 0, 1) := by decide +kernel
theorem dX5_addNote_39 : decode cX5_addNote 39 = .ok (.getfield 11, 3) := by decide +kernel
theorem dX5_addNote_42 : decode cX5_addNote 42 = .ok (.aload_n 0, 1) := by decide +kernel
theorem dX5_addNote_43 : decode cX5_addNote 43 = .ok (.getfield 17, 3) := by decide +kernel
theorem dX5_addNote_46 : decode cX5_addNote 46 = .ok (.aaload, 1) := by decide +kernel
theorem dX5_addNote_47 : decode cX5_addNote 47 = .ok (.iload_n 1, 1) := by decide +kernel
theorem dX5_addNote_48 : decode cX5_addNote 48 = .ok (.iload_n 2, 1) := by decide +kernel
theorem dX5_addNote_49 : decode cX5_addNote 49 = .ok (.iload_n 3, 1) := by decide +kernel
theorem dX5_addNote_50 : decode cX5_addNote 50 = .ok (.iload 4, 2) := by decide +kernel
theorem dX5_addNote_52 : decode cX5_addNote 52 = .ok (.invokevirtual 22, 3) := by decide +kernel
theorem dX5_addNote_55 : decode cX5_addNote 55 = .ok (.aload_n 0, 1) := by decide +kernel
theorem dX5_addNote_56 : decode cX5_addNote 56 = .ok (.dup, 1) := by decide +kernel
theorem dX5_addNote_57 : decode cX5_addNote 57 = .ok (.getfield 17, 3) := by decide +kernel
theorem dX5_addNote_60 : decode cX5_addNote 60 = .ok (.iconst 1, 1) := by decide +kernel
theorem dX5_addNote_61 : decode cX5_addNote 61 = .ok (.iadd, 1) := by decide +kernel
theorem dX5_addNote_62 : decode cX5_addNote 62 = .ok (.putfield 17, 3) := by decide +kernel
theorem dX5_addNote_65 : decode cX5_addNote 65 = .ok (.return_, 1) := by decide +kernel
theorem dX6_init_0 : decode cX6_init 0 = .ok (.aload_n 0, 1) := by decide +kernel
theorem dX6_init_1 : decode cX6_init 1 = .ok (.invokespecial 3, 3) := by decide +kernel
theorem dX6_init_4 : decode cX6_init 4 = .ok (.aload_n 0, 1) := by decide +kernel
theorem dX6_init_5 : decode cX6_init 5 = .ok (.bipush 12, 2) := by decide +kernel
theorem dX6_init_7 : decode cX6_init 7 = .ok (.anewarray 9, 3) := by decide +kernel
theorem dX6_init_10 : decode cX6_init 10 = .ok (.putfield 11, 3) := by decide +kernel
theorem dX6_init_13 : decode cX6_init 13 = .ok (.aload_n 0, 1) := by decide +kernel
theorem dX6_init_14 : decode cX6_init 14 = .ok (.bipush 31, 2) := by decide +kernel
theorem dX6_init_16 : decode cX6_init 16 = .ok (.putfield 17, 3) := by decide +kernel
theorem dX6_init_19 : decode cX6_init 19 = .ok (.aload_n 0, 1) := by decide +kernel
theorem dX6_init_20 : decode cX6_init 20 = .ok (.iconst (-1), 1) := by decide +kernel
theorem dX6_init_21 : decode cX6_init 21 = .ok (.putfield 21, 3) := by decide +kernel
theorem dX6_init_24 : decode cX6_init 24 = .ok (.aload_n 0, 1) := by decide +kernel
theorem dX6_init_25 : decode cX6_init 25 = .ok (.new 24, 3) := by decide +kernel
theorem dX6_init_28 : decode cX6_init 28 = .ok (.dup, 1) := by decide +kernel
theorem dX6_init_29 : decode cX6_init 29 = .ok (.invokespecial 26, 3) := by decide +kernel
theorem dX6_init_32 : decode cX6_init 32 = .ok (.putfield 27, 3) := by decide +kernel
theorem dX6_init_35 : decode cX6_init 35 = .ok (.aload_n 0, 1) := by decide +kernel
theorem dX6_init_36 : decode cX6_init 36 = .ok (.bipush 32, 2) := by decide +kernel
theorem dX6_init_38 : decode cX6_init 38 = .ok (.newarray .int, 2) := by decide +kernel
theorem dX6_init_40 : decode cX6_init 40 = .ok (.putfield 31, 3) := by decide +kernel
theorem dX6_init_43 : decode cX6_init 43 = .ok (.aload_n 0, 1) := by decide +kernel
theorem dX6_init_44 : decode cX6_init 44 = .ok (.sipush 128, 3) := by decide +kernel
theorem dX6_init_47 : decode cX6_init 47 = .ok (.newarray .int, 2) := by decide +kernel
theorem dX6_init_49 : decode cX6_init 49 = .ok (.putfield 35, 3) := by decide +kernel
theorem dX6_init_52 : decode cX6_init 52 = .ok (.aload_n 0, 1) := by decide +kernel
theorem dX6_init_53 : decode cX6_init 53 = .ok (.bipush 32, 2) := by decide +kernel
theorem dX6_init_55 : decode cX6_init 55 = .ok (.newarray .int, 2) := by decide +kernel
theorem dX6_init_57 : decode cX6_init 57 = .ok (.putfield 38, 3) := by decide +kernel
theorem dX6_init_60 : decode cX6_init 60 = .ok (.return_, 1) := by decide +kernel
theorem dX6_add_0 : decode cX6_add 0 = .ok (.aload_n 0, 1) := by decide +kernel
theorem dX6_add_1 : decode cX6_add 1 = .ok (.getfield 41, 3) := by decide +kernel
theorem dX6_add_4 : decode cX6_add 4 = .ok (.bipush 12, 2) := by decide +kernel
theorem dX6_add_6 : decode cX6_add 6 = .ok (.if_icmp .lt 4, 3) := by decide +kernel
theorem dX6_add_9 : decode cX6_add 9 = .ok (.return_, 1) := by decide +kernel
theorem dX6_add_10 : decode cX6_add 10 = .ok (.aload_n 0, 1) := by decide +kernel
theorem dX6_add_11 : decode cX6_add 11 = .ok (.getfield 11, 3) := by decide +kernel
theorem dX6_add_14 : decode cX6_add 14 = .ok (.aload_n 0, 1) := by decide +kernel
theorem dX6_add_15 : decode cX6_add 15 = .ok (.getfield 41, 3) := by decide +kernel
theorem dX6_add_18 : decode cX6_add 18 = .ok (.aaload, 1) := by decide +kernel
theorem dX6_add_19 : decode cX6_add 19 = .ok (.ifnonnull 19, 3) := by decide +kernel
theorem dX6_add_22 : decode cX6_add 22 = .ok (.aload_n 0, 1) := by decide +kernel
theorem dX6_add_23 : decode cX6_add 23 = .ok (.getfield 11, 3) := by decide +kernel
theorem dX6_add_26 : decode cX6_add 26 = .ok (.aload_n 0, 1) := by decide +kernel
theorem dX6_add_27 : decode cX6_add 27 = .ok (.getfield 41, 3) := by decide +kernel
theorem dX6_add_30 : decode cX6_add 30 = .ok (.new 9, 3) := by decide +kernel
theorem dX6_add_33 : decode cX6_add 33 = .ok (.dup, 1) := by decide +kernel
theorem dX6_add_34 : decode cX6_add 34 = .ok (.invokespecial 44, 3) := by decide +kernel
theorem dX6_add_37 : decode cX6_add 37 = .ok (.aastore, 1) := by decide +kernel
theorem dX6_add_38 : decode cX6_add 38 = .ok (.aload_n 0, 1) := by decide +kernel
theorem dX6_add_39 : decode cX6_add 39 = .ok (.getfield 11, 3) := by decide +kernel
theorem dX6_add_42 : decode cX6_add 42 = .ok (.aload_n 0, 1) := by decide +kernel
theorem dX6_add_43 : decode cX6_add 43 = .ok (.getfield 41, 3) := by decide +kernel
theorem dX6_add_46 : decode cX6_add 46 = .ok (.aaload, 1) := by decide +kernel
theorem dX6_add_47 : decode cX6_add 47 = .ok (.astore 6, 2) := by decide +kernel
theorem dX6_add_49 : decode cX6_add 49 = .ok (.aload 6, 2) := by decide +kernel
theorem dX6_add_51 : decode cX6_add 51 = .ok (.iload_n 1, 1) := by decide +kernel
theorem dX6_add_52 : decode cX6_add 52 = .ok (.putfield 45, 3) := by decide +kernel
theorem dX6_add_55 : decode cX6_add 55 = .ok (.aload 6, 2) := by decide +kernel
theorem dX6_add_57 : decode cX6_add 57 = .ok (.iload_n 2, 1) := by decide +kernel
theorem dX6_add_58 : decode cX6_add 58 = .ok (.putfield 48, 3) := by decide +kernel
theorem dX6_add_61 : decode cX6_add 61 = .ok (.aload 6, 2) := by decide +kernel
theorem dX6_add_63 : decode cX6_add 63 = .ok (.iload_n 3, 1) := by decide +kernel
theorem dX6_add_64 : decode cX6_add 64 = .ok (.putfield 51, 3) := by decide +kernel
theorem dX6_add_67 : decode cX6_add 67 = .ok (.aload 6, 2) := by decide +kernel
theorem dX6_add_69 : decode cX6_add 69 = .ok (.iload 4, 2) := by decide +kernel
theorem dX6_add_71 : decode cX6_add 71 = .ok (.putfield 54, 3) := by decide +kernel
theorem dX6_add_74 : decode cX6_add 74 = .ok (.aload 6, 2) := by decide +kernel
theorem dX6_add_76 : decode cX6_add 76 = .ok (.iload 5, 2) := by decide +kernel
theorem dX6_add_78 : decode cX6_add 78 = .ok (.putfield 57, 3) := by decide +kernel
theorem dX6_add_81 : decode cX6_add 81 = .ok (.aload 6, 2) := by decide +kernel
theorem dX6_add_83 : decode cX6_add 83 = .ok (.iconst 0, 1) := by decide +kernel
theorem dX6_add_84 : decode cX6_add 84 = .ok (.putfield 60, 3) := by decide +kernel
theorem dX6_add_87 : decode cX6_add 87 = .ok (.aload_n 0, 1) := by decide +kernel
theorem dX6_add_88 : decode cX6_add 88 = .ok (.dup, 1) := by decide +kernel
theorem dX6_add_89 : decode cX6_add 89 = .ok (.getfield 41, 3) := by decide +kernel
theorem dX6_add_92 : decode cX6_add 92 = .ok (.iconst 1, 1) := by decide +kernel
theorem dX6_add_93 : decode cX6_add 93 = .ok (.iadd, 1) := by decide +kernel
theorem dX6_add_94 : decode cX6_add 94 = .ok (.putfield 41, 3) := by decide +kernel
theorem dX6_add_97 : decode cX6_add 97 = .ok (.return_, 1) := by decide +kernel
theorem dX6_last_0 : decode cX6_last 0 = .ok (.aload_n 0, 1) := by decide +kernel
theorem dX6_last_1 : decode cX6_last 1 = .ok (.getfield 41, 3) := by decide +kernel
theorem dX6_last_4 : decode cX6_last 4 = .ok (.ifCond .le 17, 3) := by decide +kernel
theorem dX6_last_7 : decode cX6_last 7 = .ok (.aload_n 0, 1) := by decide +kernel
theorem dX6_last_8 : decode cX6_last 8 = .ok (.getfield 11, 3) := by decide +kernel
theorem dX6_last_11 : decode cX6_last 11 = .ok (.aload_n 0, 1) := by decide +kernel
theorem dX6_last_12 : decode cX6_last 12 = .ok (.getfield 41, 3) := by decide +kernel
theorem dX6_last_15 : decode cX6_last 15 = .ok (.iconst 1, 1) := by decide +kernel
theorem dX6_last_16 : decode cX6_last 16 = .ok (.isub, 1) := by decide +kernel
theorem dX6_last_17 : decode cX6_last 17 = .ok (.aaload, 1) := by decide +kernel
theorem dX6_last_18 : decode cX6_last 18 = .ok (.goto 4, 3) := by decide +kernel
theorem dX6_last_21 : decode cX6_last 21 = .ok (.aconst_null, 1) := by decide +kernel
theorem dX6_last_22 : decode cX6_last 22 = .ok (.areturn, 1) := by decide +kernel
theorem dX6_forgetHeard_0 : decode cX6_forgetHeard 0 = .ok (.iconst 0, 1) := by decide +kernel
theorem dX6_forgetHeard_1 : decode cX6_forgetHeard 1 = .ok (.istore_n 1, 1) := by decide +kernel
theorem dX6_forgetHeard_2 : decode cX6_forgetHeard 2 = .ok (.iload_n 1, 1) := by decide +kernel
theorem dX6_forgetHeard_3 : decode cX6_forgetHeard 3 = .ok (.aload_n 0, 1) := by decide +kernel
theorem dX6_forgetHeard_4 : decode cX6_forgetHeard 4 = .ok (.getfield 41, 3) := by decide +kernel
theorem dX6_forgetHeard_7 : decode cX6_forgetHeard 7 = .ok (.if_icmp .ge 61, 3) := by decide +kernel
theorem dX6_forgetHeard_10 : decode cX6_forgetHeard 10 = .ok (.iconst 0, 1) := by decide +kernel
theorem dX6_forgetHeard_11 : decode cX6_forgetHeard 11 = .ok (.istore_n 2, 1) := by decide +kernel
theorem dX6_forgetHeard_12 : decode cX6_forgetHeard 12 = .ok (.iload_n 2, 1) := by decide +kernel
theorem dX6_forgetHeard_13 : decode cX6_forgetHeard 13 = .ok (.aload_n 0, 1) := by decide +kernel
theorem dX6_forgetHeard_14 : decode cX6_forgetHeard 14 = .ok (.getfield 11, 3) := by decide +kernel
theorem dX6_forgetHeard_17 : decode cX6_forgetHeard 17 = .ok (.iload_n 1, 1) := by decide +kernel
theorem dX6_forgetHeard_18 : decode cX6_forgetHeard 18 = .ok (.aaload, 1) := by decide +kernel
theorem dX6_forgetHeard_19 : decode cX6_forgetHeard 19 = .ok (.getfield 60, 3) := by decide +kernel
theorem dX6_forgetHeard_22 : decode cX6_forgetHeard 22 = .ok (.if_icmp .ge 40, 3) := by decide +kernel
theorem dX6_forgetHeard_25 : decode cX6_forgetHeard 25 = .ok (.aload_n 0, 1) := by decide +kernel
theorem dX6_forgetHeard_26 : decode cX6_forgetHeard 26 = .ok (.getfield 11, 3) := by decide +kernel
theorem dX6_forgetHeard_29 : decode cX6_forgetHeard 29 = .ok (.iload_n 1, 1) := by decide +kernel
theorem dX6_forgetHeard_30 : decode cX6_forgetHeard 30 = .ok (.aaload, 1) := by decide +kernel
theorem dX6_forgetHeard_31 : decode cX6_forgetHeard 31 = .ok (.getfield 63, 3) := by decide +kernel
theorem dX6_forgetHeard_34 : decode cX6_forgetHeard 34 = .ok (.iload_n 2, 1) := by decide +kernel
theorem dX6_forgetHeard_35 : decode cX6_forgetHeard 35 = .ok (.aaload, 1) := by decide +kernel
theorem dX6_forgetHeard_36 : decode cX6_forgetHeard 36 = .ok (.getfield 67, 3) := by decide +kernel
theorem dX6_forgetHeard_39 : decode cX6_forgetHeard 39 = .ok (.ifCond .ne 17, 3) := by decide +kernel
theorem dX6_forgetHeard_42 : decode cX6_forgetHeard 42 = .ok (.aload_n 0, 1) := by decide +kernel
theorem dX6_forgetHeard_43 : decode cX6_forgetHeard 43 = .ok (.getfield 11, 3) := by decide +kernel
theorem dX6_forgetHeard_46 : decode cX6_forgetHeard 46 = .ok (.iload_n 1, 1) := by decide +kernel
theorem dX6_forgetHeard_47 : decode cX6_forgetHeard 47 = .ok (.aaload, 1) := by decide +kernel
theorem dX6_forgetHeard_48 : decode cX6_forgetHeard 48 = .ok (.getfield 63, 3) := by decide +kernel
theorem dX6_forgetHeard_51 : decode cX6_forgetHeard 51 = .ok (.iload_n 2, 1) := by decide +kernel
theorem dX6_forgetHeard_52 : decode cX6_forgetHeard 52 = .ok (.aaload, 1) := by decide +kernel
theorem dX6_forgetHeard_53 : decode cX6_forgetHeard 53 = .ok (.invokevirtual 73, 3) := by decide +kernel
theorem dX6_forgetHeard_56 : decode cX6_forgetHeard 56 = .ok (.iinc 2 1, 3) := by decide +kernel
theorem dX6_forgetHeard_59 : decode cX6_forgetHeard 59 = .ok (.goto (-47), 3) := by decide +kernel
theorem dX6_forgetHeard_62 : decode cX6_forgetHeard 62 = .ok (.iinc 1 1, 3) := by decide +kernel
theorem dX6_forgetHeard_65 : decode cX6_forgetHeard 65 = .ok (.goto (-63), 3) := by decide +kernel
theorem dX6_forgetHeard_68 : decode cX6_forgetHeard 68 = .ok (.return_, 1) := by decide +kernel
theorem dX6_follow_0 : decode cX6_follow 0 = .ok (.iconst 0, 1) := by decide +kernel
theorem dX6_follow_1 : decode cX6_follow 1 = .ok (.aload_n 1, 1) := by decide +kernel
theorem dX6_follow_2 : decode cX6_follow 2 = .ok (.getfield 76, 3) := by decide +kernel
theorem dX6_follow_5 : decode cX6_follow 5 = .ok (.iconst 1, 1) := by decide +kernel
theorem dX6_follow_6 : decode cX6_follow 6 = .ok (.isub, 1) := by decide +kernel
theorem dX6_follow_7 : decode cX6_follow 7 = .ok (.invokestatic 81, 3) := by decide +kernel
theorem dX6_follow_10 : decode cX6_follow 10 = .ok (.istore_n 2, 1) := by decide +kernel
theorem dX6_follow_11 : decode cX6_follow 11 = .ok (.iload_n 2, 1) := by decide +kernel
theorem dX6_follow_12 : decode cX6_follow 12 = .ok (.aload_n 0, 1) := by decide +kernel
theorem dX6_follow_13 : decode cX6_follow 13 = .ok (.getfield 41, 3) := by decide +kernel
theorem dX6_follow_16 : decode cX6_follow 16 = .ok (.if_icmp .ge 90, 3) := by decide +kernel
theorem dX6_follow_19 : decode cX6_follow 19 = .ok (.aload_n 0, 1) := by decide +kernel
theorem dX6_follow_20 : decode cX6_follow 20 = .ok (.getfield 11, 3) := by decide +kernel
theorem dX6_follow_23 : decode cX6_follow 23 = .ok (.iload_n 2, 1) := by decide +kernel
theorem dX6_follow_24 : decode cX6_follow 24 = .ok (.aaload, 1) := by decide +kernel
theorem dX6_follow_25 : decode cX6_follow 25 = .ok (.astore_n 3, 1) := by decide +kernel
theorem dX6_follow_26 : decode cX6_follow 26 = .ok (.iload_n 2, 1) := by decide +kernel
theorem dX6_follow_27 : decode cX6_follow 27 = .ok (.aload_n 1, 1) := by decide +kernel
theorem dX6_follow_28 : decode cX6_follow 28 = .ok (.getfield 76, 3) := by decide +kernel
theorem dX6_follow_31 : decode cX6_follow 31 = .ok (.if_icmp .lt 22, 3) := by decide +kernel
theorem dX6_follow_34 : decode cX6_follow 34 = .ok (.aload_n 0, 1) := by decide +kernel
theorem dX6_follow_35 : decode cX6_follow 35 = .ok (.aload_n 1, 1) := by decide +kernel
theorem dX6_follow_36 : decode cX6_follow 36 = .ok (.iload_n 2, 1) := by decide +kernel
theorem dX6_follow_37 : decode cX6_follow 37 = .ok (.aload_n 3, 1) := by decide +kernel
theorem dX6_follow_38 : decode cX6_follow 38 = .ok (.invokevirtual 87, 3) := by decide +kernel
theorem dX6_follow_41 : decode cX6_follow 41 = .ok (.aload_n 1, 1) := by decide +kernel
theorem dX6_follow_42 : decode cX6_follow 42 = .ok (.iload_n 2, 1) := by decide +kernel
theorem dX6_follow_43 : decode cX6_follow 43 = .ok (.iconst 1, 1) := by decide +kernel
theorem dX6_follow_44 : decode cX6_follow 44 = .ok (.iadd, 1) := by decide +kernel
theorem dX6_follow_45 : decode cX6_follow 45 = .ok (.putfield 76, 3) := by decide +kernel
theorem dX6_follow_48 : decode cX6_follow 48 = .ok (.aload_n 1, 1) := by decide +kernel
theorem dX6_follow_49 : decode cX6_follow 49 = .ok (.iconst 0, 1) := by decide +kernel
theorem dX6_follow_50 : decode cX6_follow 50 = .ok (.putfield 91, 3) := by decide +kernel
theorem dX6_follow_53 : decode cX6_follow 53 = .ok (.aload_n 1, 1) := by decide +kernel
theorem dX6_follow_54 : decode cX6_follow 54 = .ok (.getfield 91, 3) := by decide +kernel
theorem dX6_follow_57 : decode cX6_follow 57 = .ok (.istore 4, 2) := by decide +kernel
theorem dX6_follow_59 : decode cX6_follow 59 = .ok (.iload 4, 2) := by decide +kernel
theorem dX6_follow_61 : decode cX6_follow 61 = .ok (.aload_n 3, 1) := by decide +kernel
theorem dX6_follow_62 : decode cX6_follow 62 = .ok (.getfield 60, 3) := by decide +kernel
theorem dX6_follow_65 : decode cX6_follow 65 = .ok (.if_icmp .ge 27, 3) := by decide +kernel
theorem dX6_follow_68 : decode cX6_follow 68 = .ok (.aload_n 0, 1) := by decide +kernel
theorem dX6_follow_69 : decode cX6_follow 69 = .ok (.aload_n 1, 1) := by decide +kernel
theorem dX6_follow_70 : decode cX6_follow 70 = .ok (.aload_n 3, 1) := by decide +kernel
theorem dX6_follow_71 : decode cX6_follow 71 = .ok (.iload 4, 2) := by decide +kernel
theorem dX6_follow_73 : decode cX6_follow 73 = .ok (.aload_n 1, 1) := by decide +kernel
theorem dX6_follow_74 : decode cX6_follow 74 = .ok (.getfield 94, 3) := by decide +kernel
theorem dX6_follow_77 : decode cX6_follow 77 = .ok (.aload_n 1, 1) := by decide +kernel
theorem dX6_follow_78 : decode cX6_follow 78 = .ok (.iload_n 2, 1) := by decide +kernel
theorem dX6_follow_79 : decode cX6_follow 79 = .ok (.iconst 0, 1) := by decide +kernel
theorem dX6_follow_80 : decode cX6_follow 80 = .ok (.invokevirtual 97, 3) := by decide +kernel
theorem dX6_follow_83 : decode cX6_follow 83 = .ok (.invokevirtual 100, 3) := by decide +kernel
theorem dX6_follow_86 : decode cX6_follow 86 = .ok (.iinc 4 1, 3) := by decide +kernel
theorem dX6_follow_89 : decode cX6_follow 89 = .ok (.goto (-30), 3) := by decide +kernel
theorem dX6_follow_92 : decode cX6_follow 92 = .ok (.aload_n 1, 1) := by decide +kernel
theorem dX6_follow_93 : decode cX6_follow 93 = .ok (.aload_n 3, 1) := by decide +kernel
theorem dX6_follow_94 : decode cX6_follow 94 = .ok (.getfield 60, 3) := by decide +kernel
theorem dX6_follow_97 : decode cX6_follow 97 = .ok (.putfield 91, 3) := by decide +kernel
theorem dX6_follow_100 : decode cX6_follow 100 = .ok (.iinc 2 1, 3) := by decide +kernel
theorem dX6_follow_103 : decode cX6_follow 103 = .ok (.goto (-92), 3) := by decide +kernel
theorem dX6_follow_106 : decode cX6_follow 106 = .ok (.return_, 1) := by decide +kernel
theorem dX6_begin_0 : decode cX6_begin 0 = .ok (.iconst 0, 1) := by decide +kernel
theorem dX6_begin_1 : decode cX6_begin 1 = .ok (.istore 4, 2) := by decide +kernel
theorem dX6_begin_3 : decode cX6_begin 3 = .ok (.iload 4, 2) := by decide +kernel
theorem dX6_begin_5 : decode cX6_begin 5 = .ok (.aload_n 0, 1) := by decide +kernel
theorem dX6_begin_6 : decode cX6_begin 6 = .ok (.getfield 104, 3) := by decide +kernel
theorem dX6_begin_9 : decode cX6_begin 9 = .ok (.if_icmp .gt 130, 3) := by decide +kernel
theorem dX6_begin_12 : decode cX6_begin 12 = .ok (.aload_n 1, 1) := by decide +kernel
theorem dX6_begin_13 : decode cX6_begin 13 = .ok (.iload_n 2, 1) := by decide +kernel
theorem dX6_begin_14 : decode cX6_begin 14 = .ok (.iload 4, 2) := by decide +kernel
theorem dX6_begin_16 : decode cX6_begin 16 = .ok (.invokevirtual 97, 3) := by decide +kernel
theorem dX6_begin_19 : decode cX6_begin 19 = .ok (.istore 5, 2) := by decide +kernel
theorem dX6_begin_21 : decode cX6_begin 21 = .ok (.iload_n 2, 1) := by decide +kernel
theorem dX6_begin_22 : decode cX6_begin 22 = .ok (.ifCond .le 24, 3) := by decide +kernel
theorem dX6_begin_25 : decode cX6_begin 25 = .ok (.aload_n 0, 1) := by decide +kernel
theorem dX6_begin_26 : decode cX6_begin 26 = .ok (.aload_n 1, 1) := by decide +kernel
theorem dX6_begin_27 : decode cX6_begin 27 = .ok (.getfield 94, 3) := by decide +kernel
theorem dX6_begin_30 : decode cX6_begin 30 = .ok (.aload_n 1, 1) := by decide +kernel
theorem dX6_begin_31 : decode cX6_begin 31 = .ok (.iload_n 2, 1) := by decide +kernel
theorem dX6_begin_32 : decode cX6_begin 32 = .ok (.iconst 1, 1) := by decide +kernel
theorem dX6_begin_33 : decode cX6_begin 33 = .ok (.isub, 1) := by decide +kernel
theorem dX6_begin_34 : decode cX6_begin 34 = .ok (.iload 4, 2) := by decide +kernel
theorem dX6_begin_36 : decode cX6_begin 36 = .ok (.invokevirtual 97, 3) := by decide +kernel
theorem dX6_begin_39 : decode cX6_begin 39 = .ok (.iload 5, 2) := by decide +kernel
theorem dX6_begin_41 : decode cX6_begin 41 = .ok (.aload_n 3, 1) := by decide +kernel
theorem dX6_begin_42 : decode cX6_begin 42 = .ok (.iconst 1, 1) := by decide +kernel
theorem dX6_begin_43 : decode cX6_begin 43 = .ok (.invokevirtual 107, 3) := by decide +kernel
theorem dX6_begin_46 : decode cX6_begin 46 = .ok (.iconst 0, 1) := by decide +kernel
theorem dX6_begin_47 : decode cX6_begin 47 = .ok (.istore 6, 2) := by decide +kernel
theorem dX6_begin_49 : decode cX6_begin 49 = .ok (.iload 6, 2) := by decide +kernel
theorem dX6_begin_51 : decode cX6_begin 51 = .ok (.bipush 32, 2) := by decide +kernel
theorem dX6_begin_53 : decode cX6_begin 53 = .ok (.if_icmp .ge 80, 3) := by decide +kernel
theorem dX6_begin_56 : decode cX6_begin 56 = .ok (.iload 6, 2) := by decide +kernel
theorem dX6_begin_58 : decode cX6_begin 58 = .ok (.aload_n 0, 1) := by decide +kernel
theorem dX6_begin_59 : decode cX6_begin 59 = .ok (.getfield 110, 3) := by decide +kernel
theorem dX6_begin_62 : decode cX6_begin 62 = .ok (.if_icmp .lt 19, 3) := by decide +kernel
theorem dX6_begin_65 : decode cX6_begin 65 = .ok (.iload 6, 2) := by decide +kernel
theorem dX6_begin_67 : decode cX6_begin 67 = .ok (.aload_n 0, 1) := by decide +kernel
theorem dX6_begin_68 : decode cX6_begin 68 = .ok (.getfield 17, 3) := by decide +kernel
theorem dX6_begin_71 : decode cX6_begin 71 = .ok (.if_icmp .gt 10, 3) := by decide +kernel
theorem dX6_begin_74 : decode cX6_begin 74 = .ok (.aload_n 0, 1) := by decide +kernel
theorem dX6_begin_75 : decode cX6_begin 75 = .ok (.getfield 21, 3) := by decide +kernel
theorem dX6_begin_78 : decode cX6_begin 78 = .ok (.goto 4, 3) := by decide +kernel
theorem dX6_begin_81 : decode cX6_begin 81 = .ok (.iconst 0, 1) := by decide +kernel
theorem dX6_begin_82 : decode cX6_begin 82 = .ok (.istore 7, 2) := by decide +kernel
theorem dX6_begin_84 : decode cX6_begin 84 = .ok (.iload_n 2, 1) := by decide +kernel
theorem dX6_begin_85 : decode cX6_begin 85 = .ok (.ifCond .le 16, 3) := by decide +kernel
theorem dX6_begin_88 : decode cX6_begin 88 = .ok (.aload_n 1, 1) := by decide +kernel
theorem dX6_begin_89 : decode cX6_begin 89 = .ok (.getfield 94, 3) := by decide +kernel
theorem dX6_begin_92 : decode cX6_begin 92 = .ok (.iload 5, 2) := by decide +kernel
theorem dX6_begin_94 : decode cX6_begin 94 = .ok (.iload 6, 2) := by decide +kernel
theorem dX6_begin_96 : decode cX6_begin 96 = .ok (.iadd, 1) := by decide +kernel
theorem dX6_begin_97 : decode cX6_begin 97 = .ok (.iaload, 1) := by decide +kernel
theorem dX6_begin_98 : decode cX6_begin 98 = .ok (.goto 5, 3) := by decide +kernel
theorem dX6_begin_101 : decode cX6_begin 101 = .ok (.iload 7, 2) := by decide +kernel
theorem dX6_begin_103 : decode cX6_begin 103 = .ok (.istore 8, 2) := by decide +kernel
theorem dX6_begin_105 : decode cX6_begin 105 = .ok (.aload_n 1, 1) := by decide +kernel
theorem dX6_begin_106 : decode cX6_begin 106 = .ok (.getfield 94, 3) := by decide +kernel
theorem dX6_begin_109 : decode cX6_begin 109 = .ok (.iload 5, 2) := by decide +kernel
theorem dX6_begin_111 : decode cX6_begin 111 = .ok (.iload 6, 2) := by decide +kernel
theorem dX6_begin_113 : decode cX6_begin 113 = .ok (.iadd, 1) := by decide +kernel
theorem dX6_begin_114 : decode cX6_begin 114 = .ok (.iload 8, 2) := by decide +kernel
theorem dX6_begin_116 : decode cX6_begin 116 = .ok (.aload_n 1, 1) := by decide +kernel
theorem dX6_begin_117 : decode cX6_begin 117 = .ok (.getfield 113, 3) := by decide +kernel
theorem dX6_begin_120 : decode cX6_begin 120 = .ok (.iload 6, 2) := by decide +kernel
theorem dX6_begin_122 : decode cX6_begin 122 = .ok (.iaload, 1) := by decide +kernel
theorem dX6_begin_123 : decode cX6_begin 123 = .ok (.iconst (-1), 1) := by decide +kernel
theorem dX6_begin_124 : decode cX6_begin 124 = .ok (.ixor, 1) := by decide +kernel
theorem dX6_begin_125 : decode cX6_begin 125 = .ok (.iand, 1) := by decide +kernel
theorem dX6_begin_126 : decode cX6_begin 126 = .ok (.iastore, 1) := by decide +kernel
theorem dX6_begin_127 : decode cX6_begin 127 = .ok (.iinc 6 1, 3) := by decide +kernel
theorem dX6_begin_130 : decode cX6_begin 130 = .ok (.goto (-81), 3) := by decide +kernel
theorem dX6_begin_133 : decode cX6_begin 133 = .ok (.iinc 4 1, 3) := by decide +kernel
theorem dX6_begin_136 : decode cX6_begin 136 = .ok (.goto (-133), 3) := by decide +kernel
theorem dX6_begin_139 : decode cX6_begin 139 = .ok (.return_, 1) := by decide +kernel
theorem dX6_drift_0 : decode cX6_drift 0 = .ok (.iconst 0, 1) := by decide +kernel
theorem dX6_drift_1 : decode cX6_drift 1 = .ok (.istore 6, 2) := by decide +kernel
theorem dX6_drift_3 : decode cX6_drift 3 = .ok (.iload 6, 2) := by decide +kernel
theorem dX6_drift_5 : decode cX6_drift 5 = .ok (.bipush 32, 2) := by decide +kernel
theorem dX6_drift_7 : decode cX6_drift 7 = .ok (.if_icmp .ge 80, 3) := by decide +kernel
theorem dX6_drift_10 : decode cX6_drift 10 = .ok (.aload_n 1, 1) := by decide +kernel
theorem dX6_drift_11 : decode cX6_drift 11 = .ok (.iload_n 2, 1) := by decide +kernel
theorem dX6_drift_12 : decode cX6_drift 12 = .ok (.iload 6, 2) := by decide +kernel
theorem dX6_drift_14 : decode cX6_drift 14 = .ok (.iadd, 1) := by decide +kernel
theorem dX6_drift_15 : decode cX6_drift 15 = .ok (.iaload, 1) := by decide +kernel
theorem dX6_drift_16 : decode cX6_drift 16 = .ok (.istore 7, 2) := by decide +kernel
theorem dX6_drift_18 : decode cX6_drift 18 = .ok (.aload_n 0, 1) := by decide +kernel
theorem dX6_drift_19 : decode cX6_drift 19 = .ok (.getfield 31, 3) := by decide +kernel
theorem dX6_drift_22 : decode cX6_drift 22 = .ok (.iload 6, 2) := by decide +kernel
theorem dX6_drift_24 : decode cX6_drift 24 = .ok (.iconst 0, 1) := by decide +kernel
theorem dX6_drift_25 : decode cX6_drift 25 = .ok (.iastore, 1) := by decide +kernel
theorem dX6_drift_26 : decode cX6_drift 26 = .ok (.aload 4, 2) := by decide +kernel
theorem dX6_drift_28 : decode cX6_drift 28 = .ok (.getfield 51, 3) := by decide +kernel
theorem dX6_drift_31 : decode cX6_drift 31 = .ok (.ineg, 1) := by decide +kernel
theorem dX6_drift_32 : decode cX6_drift 32 = .ok (.istore 8, 2) := by decide +kernel
theorem dX6_drift_34 : decode cX6_drift 34 = .ok (.iload 7, 2) := by decide +kernel
theorem dX6_drift_36 : decode cX6_drift 36 = .ok (.ifCond .eq 45, 3) := by decide +kernel
theorem dX6_drift_39 : decode cX6_drift 39 = .ok (.iload 8, 2) := by decide +kernel
theorem dX6_drift_41 : decode cX6_drift 41 = .ok (.aload 4, 2) := by decide +kernel
theorem dX6_drift_43 : decode cX6_drift 43 = .ok (.getfield 51, 3) := by decide +kernel
theorem dX6_drift_46 : decode cX6_drift 46 = .ok (.if_icmp .gt 35, 3) := by decide +kernel
theorem dX6_drift_49 : decode cX6_drift 49 = .ok (.aload_n 0, 1) := by decide +kernel
theorem dX6_drift_50 : decode cX6_drift 50 = .ok (.getfield 31, 3) := by decide +kernel
theorem dX6_drift_53 : decode cX6_drift 53 = .ok (.iload 6, 2) := by decide +kernel
theorem dX6_drift_55 : decode cX6_drift 55 = .ok (.dup2, 1) := by decide +kernel
theorem dX6_drift_56 : decode cX6_drift 56 = .ok (.iaload, 1) := by decide +kernel
theorem dX6_drift_57 : decode cX6_drift 57 = .ok (.iload 7, 2) := by decide +kernel
theorem dX6_drift_59 : decode cX6_drift 59 = .ok (.iload 5, 2) := by decide +kernel
theorem dX6_drift_61 : decode cX6_drift 61 = .ok (.aload 4, 2) := by decide +kernel
theorem dX6_drift_63 : decode cX6_drift 63 = .ok (.getfield 45, 3) := by decide +kernel
theorem dX6_drift_66 : decode cX6_drift 66 = .ok (.imul, 1) := by decide +kernel
theorem dX6_drift_67 : decode cX6_drift 67 = .ok (.iload 8, 2) := by decide +kernel
theorem dX6_drift_69 : decode cX6_drift 69 = .ok (.iadd, 1) := by decide +kernel
theorem dX6_drift_70 : decode cX6_drift 70 = .ok (.invokestatic 116, 3) := by decide +kernel
theorem dX6_drift_73 : decode cX6_drift 73 = .ok (.ior, 1) := by decide +kernel
theorem dX6_drift_74 : decode cX6_drift 74 = .ok (.iastore, 1) := by decide +kernel
theorem dX6_drift_75 : decode cX6_drift 75 = .ok (.iinc 8 1, 3) := by decide +kernel
theorem dX6_drift_78 : decode cX6_drift 78 = .ok (.goto (-44), 3) := by decide +kernel
theorem dX6_drift_81 : decode cX6_drift 81 = .ok (.iinc 6 1, 3) := by decide +kernel
theorem dX6_drift_84 : decode cX6_drift 84 = .ok (.goto (-81), 3) := by decide +kernel
theorem dX6_drift_87 : decode cX6_drift 87 = .ok (.iconst 0, 1) := by decide +kernel
theorem dX6_drift_88 : decode cX6_drift 88 = .ok (.istore 6, 2) := by decide +kernel
theorem dX6_drift_90 : decode cX6_drift 90 = .ok (.iload 6, 2) := by decide +kernel
theorem dX6_drift_92 : decode cX6_drift 92 = .ok (.bipush 32, 2) := by decide +kernel
theorem dX6_drift_94 : decode cX6_drift 94 = .ok (.if_icmp .ge 96, 3) := by decide +kernel
theorem dX6_drift_97 : decode cX6_drift 97 = .ok (.iconst 0, 1) := by decide +kernel
theorem dX6_drift_98 : decode cX6_drift 98 = .ok (.iload 6, 2) := by decide +kernel
theorem dX6_drift_100 : decode cX6_drift 100 = .ok (.iload 5, 2) := by decide +kernel
theorem dX6_drift_102 : decode cX6_drift 102 = .ok (.aload 4, 2) := by decide +kernel
theorem dX6_drift_104 : decode cX6_drift 104 = .ok (.getfield 48, 3) := by decide +kernel
theorem dX6_drift_107 : decode cX6_drift 107 = .ok (.imul, 1) := by decide +kernel
theorem dX6_drift_108 : decode cX6_drift 108 = .ok (.isub, 1) := by decide +kernel
theorem dX6_drift_109 : decode cX6_drift 109 = .ok (.aload 4, 2) := by decide +kernel
theorem dX6_drift_111 : decode cX6_drift 111 = .ok (.getfield 51, 3) := by decide +kernel
theorem dX6_drift_114 : decode cX6_drift 114 = .ok (.isub, 1) := by decide +kernel
theorem dX6_drift_115 : decode cX6_drift 115 = .ok (.invokestatic 81, 3) := by decide +kernel
theorem dX6_drift_118 : decode cX6_drift 118 = .ok (.istore 7, 2) := by decide +kernel
theorem dX6_drift_120 : decode cX6_drift 120 = .ok (.bipush 31, 2) := by decide +kernel
theorem dX6_drift_122 : decode cX6_drift 122 = .ok (.iload 6, 2) := by decide +kernel
theorem dX6_drift_124 : decode cX6_drift 124 = .ok (.iload 5, 2) := by decide +kernel
theorem dX6_drift_126 : decode cX6_drift 126 = .ok (.aload 4, 2) := by decide +kernel
theorem dX6_drift_128 : decode cX6_drift 128 = .ok (.getfield 48, 3) := by decide +kernel
theorem dX6_drift_131 : decode cX6_drift 131 = .ok (.imul, 1) := by decide +kernel
theorem dX6_drift_132 : decode cX6_drift 132 = .ok (.isub, 1) := by decide +kernel
theorem dX6_drift_133 : decode cX6_drift 133 = .ok (.aload 4, 2) := by decide +kernel
theorem dX6_drift_135 : decode cX6_drift 135 = .ok (.getfield 51, 3) := by decide +kernel
theorem dX6_drift_138 : decode cX6_drift 138 = .ok (.iadd, 1) := by decide +kernel
theorem dX6_drift_139 : decode cX6_drift 139 = .ok (.invokestatic 119, 3) := by decide +kernel
theorem dX6_drift_142 : decode cX6_drift 142 = .ok (.istore 8, 2) := by decide +kernel
theorem dX6_drift_144 : decode cX6_drift 144 = .ok (.iconst 0, 1) := by decide +kernel
theorem dX6_drift_145 : decode cX6_drift 145 = .ok (.istore 9, 2) := by decide +kernel
theorem dX6_drift_147 : decode cX6_drift 147 = .ok (.iload 7, 2) := by decide +kernel
theorem dX6_drift_149 : decode cX6_drift 149 = .ok (.istore 10, 2) := by decide +kernel
theorem dX6_drift_151 : decode cX6_drift 151 = .ok (.iload 10, 2) := by decide +kernel
theorem dX6_drift_153 : decode cX6_drift 153 = .ok (.iload 8, 2) := by decide +kernel
theorem dX6_drift_155 : decode cX6_drift 155 = .ok (.if_icmp .gt 21, 3) := by decide +kernel
theorem dX6_drift_158 : decode cX6_drift 158 = .ok (.iload 9, 2) := by decide +kernel
theorem dX6_drift_160 : decode cX6_drift 160 = .ok (.aload_n 0, 1) := by decide +kernel
theorem dX6_drift_161 : decode cX6_drift 161 = .ok (.getfield 31, 3) := by decide +kernel
theorem dX6_drift_164 : decode cX6_drift 164 = .ok (.iload 10, 2) := by decide +kernel
theorem dX6_drift_166 : decode cX6_drift 166 = .ok (.iaload, 1) := by decide +kernel
theorem dX6_drift_167 : decode cX6_drift 167 = .ok (.ior, 1) := by decide +kernel
theorem dX6_drift_168 : decode cX6_drift 168 = .ok (.istore 9, 2) := by decide +kernel
theorem dX6_drift_170 : decode cX6_drift 170 = .ok (.iinc 10 1, 3) := by decide +kernel
theorem dX6_drift_173 : decode cX6_drift 173 = .ok (.goto (-22), 3) := by decide +kernel
theorem dX6_drift_176 : decode cX6_drift 176 = .ok (.aload_n 1, 1) := by decide +kernel
theorem dX6_drift_177 : decode cX6_drift 177 = .ok (.iload_n 3, 1) := by decide +kernel
theorem dX6_drift_178 : decode cX6_drift 178 = .ok (.iload 6, 2) := by decide +kernel
theorem dX6_drift_180 : decode cX6_drift 180 = .ok (.iadd, 1) := by decide +kernel
theorem dX6_drift_181 : decode cX6_drift 181 = .ok (.iload 9, 2) := by decide +kernel
theorem dX6_drift_183 : decode cX6_drift 183 = .ok (.iastore, 1) := by decide +kernel
theorem dX6_drift_184 : decode cX6_drift 184 = .ok (.iinc 6 1, 3) := by decide +kernel
theorem dX6_drift_187 : decode cX6_drift 187 = .ok (.goto (-97), 3) := by decide +kernel
theorem dX6_drift_190 : decode cX6_drift 190 = .ok (.return_, 1) := by decide +kernel
theorem dX6_sift_0 : decode cX6_sift 0 = .ok (.iload 5, 2) := by decide +kernel
theorem dX6_sift_2 : decode cX6_sift 2 = .ok (.aload_n 0, 1) := by decide +kernel
theorem dX6_sift_3 : decode cX6_sift 3 = .ok (.getfield 104, 3) := by decide +kernel
theorem dX6_sift_6 : decode cX6_sift 6 = .ok (.bipush 32, 2) := by decide +kernel
theorem dX6_sift_8 : decode cX6_sift 8 = .ok (.imul, 1) := by decide +kernel
theorem dX6_sift_9 : decode cX6_sift 9 = .ok (.iadd, 1) := by decide +kernel
theorem dX6_sift_10 : decode cX6_sift 10 = .ok (.istore 6, 2) := by decide +kernel
theorem dX6_sift_12 : decode cX6_sift 12 = .ok (.iconst 0, 1) := by decide +kernel
theorem dX6_sift_13 : decode cX6_sift 13 = .ok (.istore 7, 2) := by decide +kernel
theorem dX6_sift_15 : decode cX6_sift 15 = .ok (.iload 7, 2) := by decide +kernel
theorem dX6_sift_17 : decode cX6_sift 17 = .ok (.bipush 32, 2) := by decide +kernel
theorem dX6_sift_19 : decode cX6_sift 19 = .ok (.if_icmp .ge 103, 3) := by decide +kernel
theorem dX6_sift_22 : decode cX6_sift 22 = .ok (.aload 4, 2) := by decide +kernel
theorem dX6_sift_24 : decode cX6_sift 24 = .ok (.iload 6, 2) := by decide +kernel
theorem dX6_sift_26 : decode cX6_sift 26 = .ok (.iload 7, 2) := by decide +kernel
theorem dX6_sift_28 : decode cX6_sift 28 = .ok (.iadd, 1) := by decide +kernel
theorem dX6_sift_29 : decode cX6_sift 29 = .ok (.iaload, 1) := by decide +kernel
theorem dX6_sift_30 : decode cX6_sift 30 = .ok (.istore 8, 2) := by decide +kernel
theorem dX6_sift_32 : decode cX6_sift 32 = .ok (.iload 8, 2) := by decide +kernel
theorem dX6_sift_34 : decode cX6_sift 34 = .ok (.ifCond .eq 82, 3) := by decide +kernel
theorem dX6_sift_37 : decode cX6_sift 37 = .ok (.aload_n 0, 1) := by decide +kernel
theorem dX6_sift_38 : decode cX6_sift 38 = .ok (.getfield 27, 3) := by decide +kernel
theorem dX6_sift_41 : decode cX6_sift 41 = .ok (.aload_n 2, 1) := by decide +kernel
theorem dX6_sift_42 : decode cX6_sift 42 = .ok (.getfield 63, 3) := by decide +kernel
theorem dX6_sift_45 : decode cX6_sift 45 = .ok (.iload_n 3, 1) := by decide +kernel
theorem dX6_sift_46 : decode cX6_sift 46 = .ok (.aaload, 1) := by decide +kernel
theorem dX6_sift_47 : decode cX6_sift 47 = .ok (.aload_n 2, 1) := by decide +kernel
theorem dX6_sift_48 : decode cX6_sift 48 = .ok (.aload_n 1, 1) := by decide +kernel
theorem dX6_sift_49 : decode cX6_sift 49 = .ok (.iload 7, 2) := by decide +kernel
theorem dX6_sift_51 : decode cX6_sift 51 = .ok (.iload 8, 2) := by decide +kernel
theorem dX6_sift_53 : decode cX6_sift 53 = .ok (.invokevirtual 122, 3) := by decide +kernel
theorem dX6_sift_56 : decode cX6_sift 56 = .ok (.istore 9, 2) := by decide +kernel
theorem dX6_sift_58 : decode cX6_sift 58 = .ok (.iload 6, 2) := by decide +kernel
theorem dX6_sift_60 : decode cX6_sift 60 = .ok (.iload 7, 2) := by decide +kernel
theorem dX6_sift_62 : decode cX6_sift 62 = .ok (.iadd, 1) := by decide +kernel
theorem dX6_sift_63 : decode cX6_sift 63 = .ok (.istore 10, 2) := by decide +kernel
theorem dX6_sift_65 : decode cX6_sift 65 = .ok (.iload 10, 2) := by decide +kernel
theorem dX6_sift_67 : decode cX6_sift 67 = .ok (.iload 5, 2) := by decide +kernel
theorem dX6_sift_69 : decode cX6_sift 69 = .ok (.iload 7, 2) := by decide +kernel
theorem dX6_sift_71 : decode cX6_sift 71 = .ok (.iadd, 1) := by decide +kernel
theorem dX6_sift_72 : decode cX6_sift 72 = .ok (.if_icmp .le 31, 3) := by decide +kernel
theorem dX6_sift_75 : decode cX6_sift 75 = .ok (.aload 4, 2) := by decide +kernel
theorem dX6_sift_77 : decode cX6_sift 77 = .ok (.iload 10, 2) := by decide +kernel
theorem dX6_sift_79 : decode cX6_sift 79 = .ok (.aload 4, 2) := by decide +kernel
theorem dX6_sift_81 : decode cX6_sift 81 = .ok (.iload 10, 2) := by decide +kernel
theorem dX6_sift_83 : decode cX6_sift 83 = .ok (.iaload, 1) := by decide +kernel
theorem dX6_sift_84 : decode cX6_sift 84 = .ok (.iload 9, 2) := by decide +kernel
theorem dX6_sift_86 : decode cX6_sift 86 = .ok (.iand, 1) := by decide +kernel
theorem dX6_sift_87 : decode cX6_sift 87 = .ok (.aload 4, 2) := by decide +kernel
theorem dX6_sift_89 : decode cX6_sift 89 = .ok (.iload 10, 2) := by decide +kernel
theorem dX6_sift_91 : decode cX6_sift 91 = .ok (.bipush 32, 2) := by decide +kernel
theorem dX6_sift_93 : decode cX6_sift 93 = .ok (.isub, 1) := by decide +kernel
theorem dX6_sift_94 : decode cX6_sift 94 = .ok (.iaload, 1) := by decide +kernel
theorem dX6_sift_95 : decode cX6_sift 95 = .ok (.ior, 1) := by decide +kernel
theorem dX6_sift_96 : decode cX6_sift 96 = .ok (.iastore, 1) := by decide +kernel
theorem dX6_sift_97 : decode cX6_sift 97 = .ok (.iinc 10 (-32), 3) := by decide +kernel
theorem dX6_sift_100 : decode cX6_sift 100 = .ok (.goto (-35), 3) := by decide +kernel
theorem dX6_sift_103 : decode cX6_sift 103 = .ok (.aload 4, 2) := by decide +kernel
theorem dX6_sift_105 : decode cX6_sift 105 = .ok (.iload 5, 2) := by decide +kernel
theorem dX6_sift_107 : decode cX6_sift 107 = .ok (.iload 7, 2) := by decide +kernel
theorem dX6_sift_109 : decode cX6_sift 109 = .ok (.iadd, 1) := by decide +kernel
theorem dX6_sift_110 : decode cX6_sift 110 = .ok (.dup2, 1) := by decide +kernel
theorem dX6_sift_111 : decode cX6_sift 111 = .ok (.iaload, 1) := by decide +kernel
theorem dX6_sift_112 : decode cX6_sift 112 = .ok (.iload 9, 2) := by decide +kernel
theorem dX6_sift_114 : decode cX6_sift 114 = .ok (.iand, 1) := by decide +kernel
theorem dX6_sift_115 : decode cX6_sift 115 = .ok (.iastore, 1) := by decide +kernel
theorem dX6_sift_116 : decode cX6_sift 116 = .ok (.iinc 7 1, 3) := by decide +kernel
theorem dX6_sift_119 : decode cX6_sift 119 = .ok (.goto (-104), 3) := by decide +kernel
theorem dX6_sift_122 : decode cX6_sift 122 = .ok (.return_, 1) := by decide +kernel
theorem dX6_badLine_0 : decode cX6_badLine 0 = .ok (.iconst 0, 1) := by decide +kernel
theorem dX6_badLine_1 : decode cX6_badLine 1 = .ok (.istore_n 2, 1) := by decide +kernel
theorem dX6_badLine_2 : decode cX6_badLine 2 = .ok (.iload_n 2, 1) := by decide +kernel
theorem dX6_badLine_3 : decode cX6_badLine 3 = .ok (.aload_n 0, 1) := by decide +kernel
theorem dX6_badLine_4 : decode cX6_badLine 4 = .ok (.getfield 41, 3) := by decide +kernel
theorem dX6_badLine_7 : decode cX6_badLine 7 = .ok (.if_icmp .ge 30, 3) := by decide +kernel
theorem dX6_badLine_10 : decode cX6_badLine 10 = .ok (.aload_n 1, 1) := by decide +kernel
theorem dX6_badLine_11 : decode cX6_badLine 11 = .ok (.getfield 94, 3) := by decide +kernel
theorem dX6_badLine_14 : decode cX6_badLine 14 = .ok (.aload_n 1, 1) := by decide +kernel
theorem dX6_badLine_15 : decode cX6_badLine 15 = .ok (.iload_n 2, 1) := by decide +kernel
theorem dX6_badLine_16 : decode cX6_badLine 16 = .ok (.aload_n 0, 1) := by decide +kernel
theorem dX6_badLine_17 : decode cX6_badLine 17 = .ok (.getfield 104, 3) := by decide +kernel
theorem dX6_badLine_20 : decode cX6_badLine 20 = .ok (.invokevirtual 97, 3) := by decide +kernel
theorem dX6_badLine_23 : decode cX6_badLine 23 = .ok (.invokestatic 126, 3) := by decide +kernel
theorem dX6_badLine_26 : decode cX6_badLine 26 = .ok (.ifCond .ne 5, 3) := by decide +kernel
theorem dX6_badLine_29 : decode cX6_badLine 29 = .ok (.iload_n 2, 1) := by decide +kernel
theorem dX6_badLine_30 : decode cX6_badLine 30 = .ok (.ireturn, 1) := by decide +kernel
theorem dX6_badLine_31 : decode cX6_badLine 31 = .ok (.iinc 2 1, 3) := by decide +kernel
theorem dX6_badLine_34 : decode cX6_badLine 34 = .ok (.goto (-32), 3) := by decide +kernel
theorem dX6_badLine_37 : decode cX6_badLine 37 = .ok (.iconst (-1), 1) := by decide +kernel
theorem dX6_badLine_38 : decode cX6_badLine 38 = .ok (.ireturn, 1) := by decide +kernel
theorem dX6_placesAt_0 : decode cX6_placesAt 0 = .ok (.aload_n 0, 1) := by decide +kernel
theorem dX6_placesAt_1 : decode cX6_placesAt 1 = .ok (.getfield 130, 3) := by decide +kernel
theorem dX6_placesAt_4 : decode cX6_placesAt 4 = .ok (.aload_n 1, 1) := by decide +kernel
theorem dX6_placesAt_5 : decode cX6_placesAt 5 = .ok (.getfield 133, 3) := by decide +kernel
theorem dX6_placesAt_8 : decode cX6_placesAt 8 = .ok (.if_icmp .ne 19, 3) := by decide +kernel
theorem dX6_placesAt_11 : decode cX6_placesAt 11 = .ok (.aload_n 0, 1) := by decide +kernel
theorem dX6_placesAt_12 : decode cX6_placesAt 12 = .ok (.getfield 136, 3) := by decide +kernel
theorem dX6_placesAt_15 : decode cX6_placesAt 15 = .ok (.iload_n 2, 1) := by decide +kernel
theorem dX6_placesAt_16 : decode cX6_placesAt 16 = .ok (.if_icmp .ne 11, 3) := by decide +kernel
theorem dX6_placesAt_19 : decode cX6_placesAt 19 = .ok (.aload_n 0, 1) := by decide +kernel
theorem dX6_placesAt_20 : decode cX6_placesAt 20 = .ok (.getfield 139, 3) := by decide +kernel
theorem dX6_placesAt_23 : decode cX6_placesAt 23 = .ok (.iload_n 3, 1) := by decide +kernel
theorem dX6_placesAt_24 : decode cX6_placesAt 24 = .ok (.if_icmp .eq 122, 3) := by decide +kernel
theorem dX6_placesAt_27 : decode cX6_placesAt 27 = .ok (.aload_n 0, 1) := by decide +kernel
theorem dX6_placesAt_28 : decode cX6_placesAt 28 = .ok (.aload_n 1, 1) := by decide +kernel
theorem dX6_placesAt_29 : decode cX6_placesAt 29 = .ok (.getfield 133, 3) := by decide +kernel
theorem dX6_placesAt_32 : decode cX6_placesAt 32 = .ok (.putfield 130, 3) := by decide +kernel
theorem dX6_placesAt_35 : decode cX6_placesAt 35 = .ok (.aload_n 0, 1) := by decide +kernel
theorem dX6_placesAt_36 : decode cX6_placesAt 36 = .ok (.iload_n 2, 1) := by decide +kernel
theorem dX6_placesAt_37 : decode cX6_placesAt 37 = .ok (.putfield 136, 3) := by decide +kernel
theorem dX6_placesAt_40 : decode cX6_placesAt 40 = .ok (.aload_n 0, 1) := by decide +kernel
theorem dX6_placesAt_41 : decode cX6_placesAt 41 = .ok (.iload_n 3, 1) := by decide +kernel
theorem dX6_placesAt_42 : decode cX6_placesAt 42 = .ok (.putfield 139, 3) := by decide +kernel
theorem dX6_placesAt_45 : decode cX6_placesAt 45 = .ok (.aload_n 0, 1) := by decide +kernel
theorem dX6_placesAt_46 : decode cX6_placesAt 46 = .ok (.aload_n 1, 1) := by decide +kernel
theorem dX6_placesAt_47 : decode cX6_placesAt 47 = .ok (.invokevirtual 142, 3) := by decide +kernel
theorem dX6_placesAt_50 : decode cX6_placesAt 50 = .ok (.aload_n 0, 1) := by decide +kernel
theorem dX6_placesAt_51 : decode cX6_placesAt 51 = .ok (.aload_n 1, 1) := by decide +kernel
theorem dX6_placesAt_52 : decode cX6_placesAt 52 = .ok (.iload_n 2, 1) := by decide +kernel
theorem dX6_placesAt_53 : decode cX6_placesAt 53 = .ok (.invokevirtual 146, 3) := by decide +kernel
theorem dX6_placesAt_56 : decode cX6_placesAt 56 = .ok (.iconst 0, 1) := by decide +kernel
theorem dX6_placesAt_57 : decode cX6_placesAt 57 = .ok (.istore 4, 2) := by decide +kernel
theorem dX6_placesAt_59 : decode cX6_placesAt 59 = .ok (.iload 4, 2) := by decide +kernel
theorem dX6_placesAt_61 : decode cX6_placesAt 61 = .ok (.bipush 32, 2) := by decide +kernel
theorem dX6_placesAt_63 : decode cX6_placesAt 63 = .ok (.if_icmp .ge 83, 3) := by decide +kernel
theorem dX6_placesAt_66 : decode cX6_placesAt 66 = .ok (.aload_n 0, 1) := by decide +kernel
theorem dX6_placesAt_67 : decode cX6_placesAt 67 = .ok (.getfield 38, 3) := by decide +kernel
theorem dX6_placesAt_70 : decode cX6_placesAt 70 = .ok (.iload 4, 2) := by decide +kernel
theorem dX6_placesAt_72 : decode cX6_placesAt 72 = .ok (.iconst 0, 1) := by decide +kernel
theorem dX6_placesAt_73 : decode cX6_placesAt 73 = .ok (.iastore, 1) := by decide +kernel
theorem dX6_placesAt_74 : decode cX6_placesAt 74 = .ok (.iconst 0, 1) := by decide +kernel
theorem dX6_placesAt_75 : decode cX6_placesAt 75 = .ok (.istore 5, 2) := by decide +kernel
theorem dX6_placesAt_77 : decode cX6_placesAt 77 = .ok (.iload 5, 2) := by decide +kernel
theorem dX6_placesAt_79 : decode cX6_placesAt 79 = .ok (.aload_n 0, 1) := by decide +kernel
theorem dX6_placesAt_80 : decode cX6_placesAt 80 = .ok (.getfield 104, 3) := by decide +kernel
theorem dX6_placesAt_83 : decode cX6_placesAt 83 = .ok (.if_icmp .gt 57, 3) := by decide +kernel
theorem dX6_placesAt_86 : decode cX6_placesAt 86 = .ok (.aload_n 1, 1) := by decide +kernel
theorem dX6_placesAt_87 : decode cX6_placesAt 87 = .ok (.getfield 94, 3) := by decide +kernel
theorem dX6_placesAt_90 : decode cX6_placesAt 90 = .ok (.aload_n 1, 1) := by decide +kernel
theorem dX6_placesAt_91 : decode cX6_placesAt 91 = .ok (.iload_n 2, 1) := by decide +kernel
theorem dX6_placesAt_92 : decode cX6_placesAt 92 = .ok (.iload 5, 2) := by decide +kernel
theorem dX6_placesAt_94 : decode cX6_placesAt 94 = .ok (.invokevirtual 97, 3) := by decide +kernel
theorem dX6_placesAt_97 : decode cX6_placesAt 97 = .ok (.iload 4, 2) := by decide +kernel
theorem dX6_placesAt_99 : decode cX6_placesAt 99 = .ok (.iadd, 1) := by decide +kernel
theorem dX6_placesAt_100 : decode cX6_placesAt 100 = .ok (.iaload, 1) := by decide +kernel
theorem dX6_placesAt_101 : decode cX6_placesAt 101 = .ok (.istore 6, 2) := by decide +kernel
theorem dX6_placesAt_103 : decode cX6_placesAt 103 = .ok (.aload_n 0, 1) := by decide +kernel
theorem dX6_placesAt_104 : decode cX6_placesAt 104 = .ok (.getfield 38, 3) := by decide +kernel
theorem dX6_placesAt_107 : decode cX6_placesAt 107 = .ok (.iload 4, 2) := by decide +kernel
theorem dX6_placesAt_109 : decode cX6_placesAt 109 = .ok (.dup2, 1) := by decide +kernel
theorem dX6_placesAt_110 : decode cX6_placesAt 110 = .ok (.iaload, 1) := by decide +kernel
theorem dX6_placesAt_111 : decode cX6_placesAt 111 = .ok (.iload 6, 2) := by decide +kernel
theorem dX6_placesAt_113 : decode cX6_placesAt 113 = .ok (.aload_n 0, 1) := by decide +kernel
theorem dX6_placesAt_114 : decode cX6_placesAt 114 = .ok (.getfield 35, 3) := by decide +kernel
theorem dX6_placesAt_117 : decode cX6_placesAt 117 = .ok (.aload_n 0, 1) := by decide +kernel
theorem dX6_placesAt_118 : decode cX6_placesAt 118 = .ok (.getfield 104, 3) := by decide +kernel
theorem dX6_placesAt_121 : decode cX6_placesAt 121 = .ok (.iload 5, 2) := by decide +kernel
theorem dX6_placesAt_123 : decode cX6_placesAt 123 = .ok (.isub, 1) := by decide +kernel
theorem dX6_placesAt_124 : decode cX6_placesAt 124 = .ok (.bipush 32, 2) := by decide +kernel
theorem dX6_placesAt_126 : decode cX6_placesAt 126 = .ok (.imul, 1) := by decide +kernel
theorem dX6_placesAt_127 : decode cX6_placesAt 127 = .ok (.iload 4, 2) := by decide +kernel
theorem dX6_placesAt_129 : decode cX6_placesAt 129 = .ok (.iadd, 1) := by decide +kernel
theorem dX6_placesAt_130 : decode cX6_placesAt 130 = .ok (.iaload, 1) := by decide +kernel
theorem dX6_placesAt_131 : decode cX6_placesAt 131 = .ok (.iand, 1) := by decide +kernel
theorem dX6_placesAt_132 : decode cX6_placesAt 132 = .ok (.ior, 1) := by decide +kernel
theorem dX6_placesAt_133 : decode cX6_placesAt 133 = .ok (.iastore, 1) := by decide +kernel
theorem dX6_placesAt_134 : decode cX6_placesAt 134 = .ok (.iinc 5 1, 3) := by decide +kernel
theorem dX6_placesAt_137 : decode cX6_placesAt 137 = .ok (.goto (-60), 3) := by decide +kernel
theorem dX6_placesAt_140 : decode cX6_placesAt 140 = .ok (.iinc 4 1, 3) := by decide +kernel
theorem dX6_placesAt_143 : decode cX6_placesAt 143 = .ok (.goto (-84), 3) := by decide +kernel
theorem dX6_placesAt_146 : decode cX6_placesAt 146 = .ok (.aload_n 0, 1) := by decide +kernel
theorem dX6_placesAt_147 : decode cX6_placesAt 147 = .ok (.getfield 38, 3) := by decide +kernel
theorem dX6_placesAt_150 : decode cX6_placesAt 150 = .ok (.areturn, 1) := by decide +kernel
theorem dX6_goBackTo_0 : decode cX6_goBackTo 0 = .ok (.aload_n 0, 1) := by decide +kernel
theorem dX6_goBackTo_1 : decode cX6_goBackTo 1 = .ok (.getfield 35, 3) := by decide +kernel
theorem dX6_goBackTo_4 : decode cX6_goBackTo 4 = .ok (.iconst (-1), 1) := by decide +kernel
theorem dX6_goBackTo_5 : decode cX6_goBackTo 5 = .ok (.invokestatic 150, 3) := by decide +kernel
theorem dX6_goBackTo_8 : decode cX6_goBackTo 8 = .ok (.aload_n 0, 1) := by decide +kernel
theorem dX6_goBackTo_9 : decode cX6_goBackTo 9 = .ok (.getfield 41, 3) := by decide +kernel
theorem dX6_goBackTo_12 : decode cX6_goBackTo 12 = .ok (.iconst 1, 1) := by decide +kernel
theorem dX6_goBackTo_13 : decode cX6_goBackTo 13 = .ok (.isub, 1) := by decide +kernel
theorem dX6_goBackTo_14 : decode cX6_goBackTo 14 = .ok (.istore_n 3, 1) := by decide +kernel
theorem dX6_goBackTo_15 : decode cX6_goBackTo 15 = .ok (.iload_n 3, 1) := by decide +kernel
theorem dX6_goBackTo_16 : decode cX6_goBackTo 16 = .ok (.iload_n 2, 1) := by decide +kernel
theorem dX6_goBackTo_17 : decode cX6_goBackTo 17 = .ok (.if_icmp .le 146, 3) := by decide +kernel
theorem dX6_goBackTo_20 : decode cX6_goBackTo 20 = .ok (.aload_n 1, 1) := by decide +kernel
theorem dX6_goBackTo_21 : decode cX6_goBackTo 21 = .ok (.iload_n 3, 1) := by decide +kernel
theorem dX6_goBackTo_22 : decode cX6_goBackTo 22 = .ok (.aload_n 0, 1) := by decide +kernel
theorem dX6_goBackTo_23 : decode cX6_goBackTo 23 = .ok (.getfield 104, 3) := by decide +kernel
theorem dX6_goBackTo_26 : decode cX6_goBackTo 26 = .ok (.invokevirtual 97, 3) := by decide +kernel
theorem dX6_goBackTo_29 : decode cX6_goBackTo 29 = .ok (.istore 4, 2) := by decide +kernel
theorem dX6_goBackTo_31 : decode cX6_goBackTo 31 = .ok (.iconst 0, 1) := by decide +kernel
theorem dX6_goBackTo_32 : decode cX6_goBackTo 32 = .ok (.istore 5, 2) := by decide +kernel
theorem dX6_goBackTo_34 : decode cX6_goBackTo 34 = .ok (.iload 5, 2) := by decide +kernel
theorem dX6_goBackTo_36 : decode cX6_goBackTo 36 = .ok (.aload_n 0, 1) := by decide +kernel
theorem dX6_goBackTo_37 : decode cX6_goBackTo 37 = .ok (.getfield 35, 3) := by decide +kernel
theorem dX6_goBackTo_40 : decode cX6_goBackTo 40 = .ok (.arraylength, 1) := by decide +kernel
theorem dX6_goBackTo_41 : decode cX6_goBackTo 41 = .ok (.if_icmp .ge 32, 3) := by decide +kernel
theorem dX6_goBackTo_44 : decode cX6_goBackTo 44 = .ok (.aload_n 0, 1) := by decide +kernel
theorem dX6_goBackTo_45 : decode cX6_goBackTo 45 = .ok (.getfield 35, 3) := by decide +kernel
theorem dX6_goBackTo_48 : decode cX6_goBackTo 48 = .ok (.iload 5, 2) := by decide +kernel
theorem dX6_goBackTo_50 : decode cX6_goBackTo 50 = .ok (.dup2, 1) := by decide +kernel
theorem dX6_goBackTo_51 : decode cX6_goBackTo 51 = .ok (.iaload, 1) := by decide +kernel
theorem dX6_goBackTo_52 : decode cX6_goBackTo 52 = .ok (.aload_n 1, 1) := by decide +kernel
theorem dX6_goBackTo_53 : decode cX6_goBackTo 53 = .ok (.getfield 94, 3) := by decide +kernel
theorem dX6_goBackTo_56 : decode cX6_goBackTo 56 = .ok (.iload 4, 2) := by decide +kernel
theorem dX6_goBackTo_58 : decode cX6_goBackTo 58 = .ok (.iload 5, 2) := by decide +kernel
theorem dX6_goBackTo_60 : decode cX6_goBackTo 60 = .ok (.bipush 31, 2) := by decide +kernel
theorem dX6_goBackTo_62 : decode cX6_goBackTo 62 = .ok (.iand, 1) := by decide +kernel
theorem dX6_goBackTo_63 : decode cX6_goBackTo 63 = .ok (.iadd, 1) := by decide +kernel
theorem dX6_goBackTo_64 : decode cX6_goBackTo 64 = .ok (.iaload, 1) := by decide +kernel
theorem dX6_goBackTo_65 : decode cX6_goBackTo 65 = .ok (.iand, 1) := by decide +kernel
theorem dX6_goBackTo_66 : decode cX6_goBackTo 66 = .ok (.iastore, 1) := by decide +kernel
theorem dX6_goBackTo_67 : decode cX6_goBackTo 67 = .ok (.iinc 5 1, 3) := by decide +kernel
theorem dX6_goBackTo_70 : decode cX6_goBackTo 70 = .ok (.goto (-36), 3) := by decide +kernel
theorem dX6_goBackTo_73 : decode cX6_goBackTo 73 = .ok (.iconst 0, 1) := by decide +kernel
theorem dX6_goBackTo_74 : decode cX6_goBackTo 74 = .ok (.istore 5, 2) := by decide +kernel
theorem dX6_goBackTo_76 : decode cX6_goBackTo 76 = .ok (.iload 5, 2) := by decide +kernel
theorem dX6_goBackTo_78 : decode cX6_goBackTo 78 = .ok (.aload_n 0, 1) := by decide +kernel
theorem dX6_goBackTo_79 : decode cX6_goBackTo 79 = .ok (.getfield 11, 3) := by decide +kernel
theorem dX6_goBackTo_82 : decode cX6_goBackTo 82 = .ok (.iload_n 3, 1) := by decide +kernel
theorem dX6_goBackTo_83 : decode cX6_goBackTo 83 = .ok (.aaload, 1) := by decide +kernel
theorem dX6_goBackTo_84 : decode cX6_goBackTo 84 = .ok (.getfield 60, 3) := by decide +kernel
theorem dX6_goBackTo_87 : decode cX6_goBackTo 87 = .ok (.if_icmp .ge 27, 3) := by decide +kernel
theorem dX6_goBackTo_90 : decode cX6_goBackTo 90 = .ok (.aload_n 0, 1) := by decide +kernel
theorem dX6_goBackTo_91 : decode cX6_goBackTo 91 = .ok (.aload_n 1, 1) := by decide +kernel
theorem dX6_goBackTo_92 : decode cX6_goBackTo 92 = .ok (.aload_n 0, 1) := by decide +kernel
theorem dX6_goBackTo_93 : decode cX6_goBackTo 93 = .ok (.getfield 11, 3) := by decide +kernel
theorem dX6_goBackTo_96 : decode cX6_goBackTo 96 = .ok (.iload_n 3, 1) := by decide +kernel
theorem dX6_goBackTo_97 : decode cX6_goBackTo 97 = .ok (.aaload, 1) := by decide +kernel
theorem dX6_goBackTo_98 : decode cX6_goBackTo 98 = .ok (.iload 5, 2) := by decide +kernel
theorem dX6_goBackTo_100 : decode cX6_goBackTo 100 = .ok (.aload_n 0, 1) := by decide +kernel
theorem dX6_goBackTo_101 : decode cX6_goBackTo 101 = .ok (.getfield 35, 3) := by decide +kernel
theorem dX6_goBackTo_104 : decode cX6_goBackTo 104 = .ok (.iconst 0, 1) := by decide +kernel
theorem dX6_goBackTo_105 : decode cX6_goBackTo 105 = .ok (.invokevirtual 100, 3) := by decide +kernel
theorem dX6_goBackTo_108 : decode cX6_goBackTo 108 = .ok (.iinc 5 1, 3) := by decide +kernel
theorem dX6_goBackTo_111 : decode cX6_goBackTo 111 = .ok (.goto (-35), 3) := by decide +kernel
theorem dX6_goBackTo_114 : decode cX6_goBackTo 114 = .ok (.iconst 0, 1) := by decide +kernel
theorem dX6_goBackTo_115 : decode cX6_goBackTo 115 = .ok (.istore 5, 2) := by decide +kernel
theorem dX6_goBackTo_117 : decode cX6_goBackTo 117 = .ok (.iload 5, 2) := by decide +kernel
theorem dX6_goBackTo_119 : decode cX6_goBackTo 119 = .ok (.aload_n 0, 1) := by decide +kernel
theorem dX6_goBackTo_120 : decode cX6_goBackTo 120 = .ok (.getfield 104, 3) := by decide +kernel
theorem dX6_goBackTo_123 : decode cX6_goBackTo 123 = .ok (.if_icmp .gt 34, 3) := by decide +kernel
theorem dX6_goBackTo_126 : decode cX6_goBackTo 126 = .ok (.aload_n 0, 1) := by decide +kernel
theorem dX6_goBackTo_127 : decode cX6_goBackTo 127 = .ok (.aload_n 0, 1) := by decide +kernel
theorem dX6_goBackTo_128 : decode cX6_goBackTo 128 = .ok (.getfield 35, 3) := by decide +kernel
theorem dX6_goBackTo_131 : decode cX6_goBackTo 131 = .ok (.iload 5, 2) := by decide +kernel
theorem dX6_goBackTo_133 : decode cX6_goBackTo 133 = .ok (.bipush 32, 2) := by decide +kernel
theorem dX6_goBackTo_135 : decode cX6_goBackTo 135 = .ok (.imul, 1) := by decide +kernel
theorem dX6_goBackTo_136 : decode cX6_goBackTo 136 = .ok (.iload 5, 2) := by decide +kernel
theorem dX6_goBackTo_138 : decode cX6_goBackTo 138 = .ok (.bipush 32, 2) := by decide +kernel
theorem dX6_goBackTo_140 : decode cX6_goBackTo 140 = .ok (.imul, 1) := by decide +kernel
theorem dX6_goBackTo_141 : decode cX6_goBackTo 141 = .ok (.aload_n 0, 1) := by decide +kernel
theorem dX6_goBackTo_142 : decode cX6_goBackTo 142 = .ok (.getfield 11, 3) := by decide +kernel
theorem dX6_goBackTo_145 : decode cX6_goBackTo 145 = .ok (.iload_n 3, 1) := by decide +kernel
theorem dX6_goBackTo_146 : decode cX6_goBackTo 146 = .ok (.aaload, 1) := by decide +kernel
theorem dX6_goBackTo_147 : decode cX6_goBackTo 147 = .ok (.iconst (-1), 1) := by decide +kernel
theorem dX6_goBackTo_148 : decode cX6_goBackTo 148 = .ok (.invokevirtual 107, 3) := by decide +kernel
theorem dX6_goBackTo_151 : decode cX6_goBackTo 151 = .ok (.iinc 5 1, 3) := by decide +kernel
theorem dX6_goBackTo_154 : decode cX6_goBackTo 154 = .ok (.goto (-37), 3) := by decide +kernel
theorem dX6_goBackTo_157 : decode cX6_goBackTo 157 = .ok (.iinc 3 (-1), 3) := by decide +kernel
theorem dX6_goBackTo_160 : decode cX6_goBackTo 160 = .ok (.goto (-145), 3) := by decide +kernel
theorem dX6_goBackTo_163 : decode cX6_goBackTo 163 = .ok (.return_, 1) := by decide +kernel
theorem dX7_init_0 : decode cX7_init 0 = .ok (.aload_n 0, 1) := by decide +kernel
theorem dX7_init_1 : decode cX7_init 1 = .ok (.invokespecial 3, 3) := by decide +kernel
theorem dX7_init_4 : decode cX7_init 4 = .ok (.aload_n 0, 1) := by decide +kernel
theorem dX7_init_5 : decode cX7_init 5 = .ok (.sipush 256, 3) := by decide +kernel
theorem dX7_init_8 : decode cX7_init 8 = .ok (.newarray .int, 2) := by decide +kernel
theorem dX7_init_10 : decode cX7_init 10 = .ok (.putfield 9, 3) := by decide +kernel
theorem dX7_init_13 : decode cX7_init 13 = .ok (.aload_n 0, 1) := by decide +kernel
theorem dX7_init_14 : decode cX7_init 14 = .ok (.sipush 256, 3) := by decide +kernel
theorem dX7_init_17 : decode cX7_init 17 = .ok (.newarray .int, 2) := by decide +kernel
theorem dX7_init_19 : decode cX7_init 19 = .ok (.putfield 15, 3) := by decide +kernel
theorem dX7_init_22 : decode cX7_init 22 = .ok (.return_, 1) := by decide +kernel
theorem dX7_tell_0 : decode cX7_tell 0 = .ok (.aload_n 0, 1) := by decide +kernel
theorem dX7_tell_1 : decode cX7_tell 1 = .ok (.iload_n 1, 1) := by decide +kernel
theorem dX7_tell_2 : decode cX7_tell 2 = .ok (.putfield 18, 3) := by decide +kernel
theorem dX7_tell_5 : decode cX7_tell 5 = .ok (.aload_n 0, 1) := by decide +kernel
theorem dX7_tell_6 : decode cX7_tell 6 = .ok (.iload_n 2, 1) := by decide +kernel
theorem dX7_tell_7 : decode cX7_tell 7 = .ok (.putfield 22, 3) := by decide +kernel
theorem dX7_tell_10 : decode cX7_tell 10 = .ok (.aload_n 0, 1) := by decide +kernel
theorem dX7_tell_11 : decode cX7_tell 11 = .ok (.iload_n 3, 1) := by decide +kernel
theorem dX7_tell_12 : decode cX7_tell 12 = .ok (.putfield 26, 3) := by decide +kernel
theorem dX7_tell_15 : decode cX7_tell 15 = .ok (.aload_n 0, 1) := by decide +kernel
theorem dX7_tell_16 : decode cX7_tell 16 = .ok (.iload 4, 2) := by decide +kernel
theorem dX7_tell_18 : decode cX7_tell 18 = .ok (.putfield 29, 3) := by decide +kernel
theorem dX7_tell_21 : decode cX7_tell 21 = .ok (.aload_n 0, 1) := by decide +kernel
theorem dX7_tell_22 : decode cX7_tell 22 = .ok (.invokevirtual 32, 3) := by decide +kernel
theorem dX7_tell_25 : decode cX7_tell 25 = .ok (.return_, 1) := by decide +kernel
theorem dX7_forget_0 : decode cX7_forget 0 = .ok (.aload_n 0, 1) := by decide +kernel
theorem dX7_forget_1 : decode cX7_forget 1 = .ok (.getfield 9, 3) := by decide +kernel
theorem dX7_forget_4 : decode cX7_forget 4 = .ok (.iconst 0, 1) := by decide +kernel
theorem dX7_forget_5 : decode cX7_forget 5 = .ok (.invokestatic 35, 3) := by decide +kernel
theorem dX7_forget_8 : decode cX7_forget 8 = .ok (.aload_n 0, 1) := by decide +kernel
theorem dX7_forget_9 : decode cX7_forget 9 = .ok (.getfield 15, 3) := by decide +kernel
theorem dX7_forget_12 : decode cX7_forget 12 = .ok (.iconst 0, 1) := by decide +kernel
theorem dX7_forget_13 : decode cX7_forget 13 = .ok (.invokestatic 35, 3) := by decide +kernel
theorem dX7_forget_16 : decode cX7_forget 16 = .ok (.return_, 1) := by decide +kernel
theorem dX7_fitsView_0 : decode cX7_fitsView 0 = .ok (.aload_n 0, 1) := by decide +kernel
theorem dX7_fitsView_1 : decode cX7_fitsView 1 = .ok (.getfield 26, 3) := by decide +kernel
theorem dX7_fitsView_4 : decode cX7_fitsView 4 = .ok (.ifCond .ne 8, 3) := by decide +kernel
theorem dX7_fitsView_7 : decode cX7_fitsView 7 = .ok (.iload_n 1, 1) := by decide +kernel
theorem dX7_fitsView_8 : decode cX7_fitsView 8 = .ok (.invokestatic 41, 3) := by decide +kernel
theorem dX7_fitsView_11 : decode cX7_fitsView 11 = .ok (.ireturn, 1) := by decide +kernel
theorem dX7_fitsView_12 : decode cX7_fitsView 12 = .ok (.iconst 2, 1) := by decide +kernel
theorem dX7_fitsView_13 : decode cX7_fitsView 13 = .ok (.iload_n 1, 1) := by decide +kernel
theorem dX7_fitsView_14 : decode cX7_fitsView 14 = .ok (.invokestatic 45, 3) := by decide +kernel
theorem dX7_fitsView_17 : decode cX7_fitsView 17 = .ok (.imul, 1) := by decide +kernel
theorem dX7_fitsView_18 : decode cX7_fitsView 18 = .ok (.aload_n 0, 1) := by decide +kernel
theorem dX7_fitsView_19 : decode cX7_fitsView 19 = .ok (.getfield 26, 3) := by decide +kernel
theorem dX7_fitsView_22 : decode cX7_fitsView 22 = .ok (.if_icmp .ne 7, 3) := by decide +kernel
theorem dX7_fitsView_25 : decode cX7_fitsView 25 = .ok (.iconst 1, 1) := by decide +kernel
theorem dX7_fitsView_26 : decode cX7_fitsView 26 = .ok (.goto 4, 3) := by decide +kernel
theorem dX7_fitsView_29 : decode cX7_fitsView 29 = .ok (.iconst 0, 1) := by decide +kernel
theorem dX7_fitsView_30 : decode cX7_fitsView 30 = .ok (.ireturn, 1) := by decide +kernel
theorem dX8_init_0 : decode cX8_init 0 = .ok (.aload_n 0, 1) := by decide +kernel
theorem dX8_init_1 : decode cX8_init 1 = .ok (.invokespecial 3, 3) := by decide +kernel
theorem dX8_init_4 : decode cX8_init 4 = .ok (.aload_n 0, 1) := by decide +kernel
theorem dX8_init_5 : decode cX8_init 5 = .ok (.bipush 6, 2) := by decide +kernel
theorem dX8_init_7 : decode cX8_init 7 = .ok (.newarray .int, 2) := by decide +kernel
theorem dX8_init_9 : decode cX8_init 9 = .ok (.putfield 9, 3) := by decide +kernel
theorem dX8_init_12 : decode cX8_init 12 = .ok (.aload_n 0, 1) := by decide +kernel
theorem dX8_init_13 : decode cX8_init 13 = .ok (.bipush 6, 2) := by decide +kernel
theorem dX8_init_15 : decode cX8_init 15 = .ok (.newarray .int, 2) := by decide +kernel
theorem dX8_init_17 : decode cX8_init 17 = .ok (.putfield 15, 3) := by decide +kernel
theorem dX8_init_20 : decode cX8_init 20 = .ok (.aload_n 0, 1) := by decide +kernel
theorem dX8_init_21 : decode cX8_init 21 = .ok (.bipush 6, 2) := by decide +kernel
theorem dX8_init_23 : decode cX8_init 23 = .ok (.newarray .int, 2) := by decide +kernel
theorem dX8_init_25 : decode cX8_init 25 = .ok (.putfield 18, 3) := by decide +kernel
theorem dX8_init_28 : decode cX8_init 28 = .ok (.aload_n 0, 1) := by decide +kernel
theorem dX8_init_29 : decode cX8_init 29 = .ok (.bipush 32, 2) := by decide +kernel
theorem dX8_init_31 : decode cX8_init 31 = .ok (.newarray .int, 2) := by decide +kernel
theorem dX8_init_33 : decode cX8_init 33 = .ok (.putfield 21, 3) := by decide +kernel
theorem dX8_init_36 : decode cX8_init 36 = .ok (.aload_n 0, 1) := by decide +kernel
theorem dX8_init_37 : decode cX8_init 37 = .ok (.sipush 1024, 3) := by decide +kernel
theorem dX8_init_40 : decode cX8_init 40 = .ok (.newarray .int, 2) := by decide +kernel
theorem dX8_init_42 : decode cX8_init 42 = .ok (.putfield 24, 3) := by decide +kernel
theorem dX8_init_45 : decode cX8_init 45 = .ok (.return_, 1) := by decide +kernel
theorem dX8_tell_0 : decode cX8_tell 0 = .ok (.aload_n 0, 1) := by decide +kernel
theorem dX8_tell_1 : decode cX8_tell 1 = .ok (.getfield 9, 3) := by decide +kernel
theorem dX8_tell_4 : decode cX8_tell 4 = .ok (.iload_n 1, 1) := by decide +kernel
theorem dX8_tell_5 : decode cX8_tell 5 = .ok (.iload_n 2, 1) := by decide +kernel
theorem dX8_tell_6 : decode cX8_tell 6 = .ok (.iastore, 1) := by decide +kernel
theorem dX8_tell_7 : decode cX8_tell 7 = .ok (.aload_n 0, 1) := by decide +kernel
theorem dX8_tell_8 : decode cX8_tell 8 = .ok (.getfield 15, 3) := by decide +kernel
theorem dX8_tell_11 : decode cX8_tell 11 = .ok (.iload_n 1, 1) := by decide +kernel
theorem dX8_tell_12 : decode cX8_tell 12 = .ok (.iload_n 3, 1) := by decide +kernel
theorem dX8_tell_13 : decode cX8_tell 13 = .ok (.iastore, 1) := by decide +kernel
theorem dX8_tell_14 : decode cX8_tell 14 = .ok (.aload_n 0, 1) := by decide +kernel
theorem dX8_tell_15 : decode cX8_tell 15 = .ok (.getfield 18, 3) := by decide +kernel
theorem dX8_tell_18 : decode cX8_tell 18 = .ok (.iload_n 1, 1) := by decide +kernel
theorem dX8_tell_19 : decode cX8_tell 19 = .ok (.iload 4, 2) := by decide +kernel
theorem dX8_tell_21 : decode cX8_tell 21 = .ok (.iastore, 1) := by decide +kernel
theorem dX8_tell_22 : decode cX8_tell 22 = .ok (.aload_n 0, 1) := by decide +kernel
theorem dX8_tell_23 : decode cX8_tell 23 = .ok (.dup, 1) := by decide +kernel
theorem dX8_tell_24 : decode cX8_tell 24 = .ok (.getfield 27, 3) := by decide +kernel
theorem dX8_tell_27 : decode cX8_tell 27 = .ok (.iconst 1, 1) := by decide +kernel
theorem dX8_tell_28 : decode cX8_tell 28 = .ok (.iload_n 1, 1) := by decide +kernel
theorem dX8_tell_29 : decode cX8_tell 29 = .ok (.ishl, 1) := by decide +kernel
theorem dX8_tell_30 : decode cX8_tell 30 = .ok (.ior, 1) := by decide +kernel
theorem dX8_tell_31 : decode cX8_tell 31 = .ok (.putfield 27, 3) := by decide +kernel
theorem dX8_tell_34 : decode cX8_tell 34 = .ok (.return_, 1) := by decide +kernel
theorem dX8_isTold_0 : decode cX8_isTold 0 = .ok (.aload_n 0, 1) := by decide +kernel
theorem dX8_isTold_1 : decode cX8_isTold 1 = .ok (.getfield 27, 3) := by decide +kernel
theorem dX8_isTold_4 : decode cX8_isTold 4 = .ok (.iload_n 1, 1) := by decide +kernel
theorem dX8_isTold_5 : decode cX8_isTold 5 = .ok (.iushr, 1) := by decide +kernel
theorem dX8_isTold_6 : decode cX8_isTold 6 = .ok (.iconst 1, 1) := by decide +kernel
theorem dX8_isTold_7 : decode cX8_isTold 7 = .ok (.iand, 1) := by decide +kernel
theorem dX8_isTold_8 : decode cX8_isTold 8 = .ok (.iconst 1, 1) := by decide +kernel
theorem dX8_isTold_9 : decode cX8_isTold 9 = .ok (.if_icmp .ne 7, 3) := by decide +kernel
theorem dX8_isTold_12 : decode cX8_isTold 12 = .ok (.iconst 1, 1) := by decide +kernel
theorem dX8_isTold_13 : decode cX8_isTold 13 = .ok (.goto 4, 3) := by decide +kernel
theorem dX8_isTold_16 : decode cX8_isTold 16 = .ok (.iconst 0, 1) := by decide +kernel
theorem dX8_isTold_17 : decode cX8_isTold 17 = .ok (.ireturn, 1) := by decide +kernel
theorem dX8_countStates_0 : decode cX8_countStates 0 = .ok (.aload_n 0, 1) := by decide +kernel
theorem dX8_countStates_1 : decode cX8_countStates 1 = .ok (.iconst 0, 1) := by decide +kernel
theorem dX8_countStates_2 : decode cX8_countStates 2 = .ok (.putfield 31, 3) := by decide +kernel
theorem dX8_countStates_5 : decode cX8_countStates 5 = .ok (.iconst 0, 1) := by decide +kernel
theorem dX8_countStates_6 : decode cX8_countStates 6 = .ok (.istore_n 3, 1) := by decide +kernel
theorem dX8_countStates_7 : decode cX8_countStates 7 = .ok (.iload_n 3, 1) := by decide +kernel
theorem dX8_countStates_8 : decode cX8_countStates 8 = .ok (.aload_n 1, 1) := by decide +kernel
theorem dX8_countStates_9 : decode cX8_countStates 9 = .ok (.getfield 34, 3) := by decide +kernel
theorem dX8_countStates_12 : decode cX8_countStates 12 = .ok (.if_icmp .ge 49, 3) := by decide +kernel
theorem dX8_countStates_15 : decode cX8_countStates 15 = .ok (.aload_n 1, 1) := by decide +kernel
theorem dX8_countStates_16 : decode cX8_countStates 16 = .ok (.getfield 39, 3) := by decide +kernel
theorem dX8_countStates_19 : decode cX8_countStates 19 = .ok (.iload_n 3, 1) := by decide +kernel
theorem dX8_countStates_20 : decode cX8_countStates 20 = .ok (.aaload, 1) := by decide +kernel
theorem dX8_countStates_21 : decode cX8_countStates 21 = .ok (.astore 4, 2) := by decide +kernel
theorem dX8_countStates_23 : decode cX8_countStates 23 = .ok (.aload_n 0, 1) := by decide +kernel
theorem dX8_countStates_24 : decode cX8_countStates 24 = .ok (.dup, 1) := by decide +kernel
theorem dX8_countStates_25 : decode cX8_countStates 25 = .ok (.getfield 31, 3) := by decide +kernel
theorem dX8_countStates_28 : decode cX8_countStates 28 = .ok (.aload 4, 2) := by decide +kernel
theorem dX8_countStates_30 : decode cX8_countStates 30 = .ok (.getfield 43, 3) := by decide +kernel
theorem dX8_countStates_33 : decode cX8_countStates 33 = .ok (.aload 4, 2) := by decide +kernel
theorem dX8_countStates_35 : decode cX8_countStates 35 = .ok (.aload_n 2, 1) := by decide +kernel
theorem dX8_countStates_36 : decode cX8_countStates 36 = .ok (.getfield 48, 3) := by decide +kernel
theorem dX8_countStates_39 : decode cX8_countStates 39 = .ok (.iconst 1, 1) := by decide +kernel
theorem dX8_countStates_40 : decode cX8_countStates 40 = .ok (.isub, 1) := by decide +kernel
theorem dX8_countStates_41 : decode cX8_countStates 41 = .ok (.aload_n 2, 1) := by decide +kernel
theorem dX8_countStates_42 : decode cX8_countStates 42 = .ok (.getfield 51, 3) := by decide +kernel
theorem dX8_countStates_45 : decode cX8_countStates 45 = .ok (.invokevirtual 54, 3) := by decide +kernel
theorem dX8_countStates_48 : decode cX8_countStates 48 = .ok (.invokestatic 58, 3) := by decide +kernel
theorem dX8_countStates_51 : decode cX8_countStates 51 = .ok (.iadd, 1) := by decide +kernel
theorem dX8_countStates_52 : decode cX8_countStates 52 = .ok (.putfield 31, 3) := by decide +kernel
theorem dX8_countStates_55 : decode cX8_countStates 55 = .ok (.iinc 3 1, 3) := by decide +kernel
theorem dX8_countStates_58 : decode cX8_countStates 58 = .ok (.goto (-51), 3) := by decide +kernel
theorem dX8_countStates_61 : decode cX8_countStates 61 = .ok (.return_, 1) := by decide +kernel
theorem dX8_weigh_0 : decode cX8_weigh 0 = .ok (.aload_n 0, 1) := by decide +kernel
theorem dX8_weigh_1 : decode cX8_weigh 1 = .ok (.getfield 62, 3) := by decide +kernel
theorem dX8_weigh_4 : decode cX8_weigh 4 = .ok (.iload_n 3, 1) := by decide +kernel
theorem dX8_weigh_5 : decode cX8_weigh 5 = .ok (.if_icmp .ne 4, 3) := by decide +kernel
theorem dX8_weigh_8 : decode cX8_weigh 8 = .ok (.return_, 1) := by decide +kernel
theorem dX8_weigh_9 : decode cX8_weigh 9 = .ok (.aload_n 0, 1) := by decide +kernel
theorem dX8_weigh_10 : decode cX8_weigh 10 = .ok (.iload_n 3, 1) := by decide +kernel
theorem dX8_weigh_11 : decode cX8_weigh 11 = .ok (.putfield 62, 3) := by decide +kernel
theorem dX8_weigh_14 : decode cX8_weigh 14 = .ok (.aload_n 0, 1) := by decide +kernel
theorem dX8_weigh_15 : decode cX8_weigh 15 = .ok (.aload_n 1, 1) := by decide +kernel
theorem dX8_weigh_16 : decode cX8_weigh 16 = .ok (.aload_n 2, 1) := by decide +kernel
theorem dX8_weigh_17 : decode cX8_weigh 17 = .ok (.invokevirtual 65, 3) := by decide +kernel
theorem dX8_weigh_20 : decode cX8_weigh 20 = .ok (.aload_n 0, 1) := by decide +kernel
theorem dX8_weigh_21 : decode cX8_weigh 21 = .ok (.ldc 69, 2) := by decide +kernel
theorem dX8_weigh_23 : decode cX8_weigh 23 = .ok (.putfield 70, 3) := by decide +kernel
theorem dX8_weigh_26 : decode cX8_weigh 26 = .ok (.iconst 0, 1) := by decide +kernel
theorem dX8_weigh_27 : decode cX8_weigh 27 = .ok (.istore 4, 2) := by decide +kernel
theorem dX8_weigh_29 : decode cX8_weigh 29 = .ok (.iload 4, 2) := by decide +kernel
theorem dX8_weigh_31 : decode cX8_weigh 31 = .ok (.bipush 6, 2) := by decide +kernel
theorem dX8_weigh_33 : decode cX8_weigh 33 = .ok (.if_icmp .ge 82, 3) := by decide +kernel
theorem dX8_weigh_36 : decode cX8_weigh 36 = .ok (.aload_n 0, 1) := by decide +kernel
theorem dX8_weigh_37 : decode cX8_weigh 37 = .ok (.iload 4, 2) := by decide +kernel
theorem dX8_weigh_39 : decode cX8_weigh 39 = .ok (.invokevirtual 73, 3) := by decide +kernel
theorem dX8_weigh_42 : decode cX8_weigh 42 = .ok (.ifCond .eq 67, 3) := by decide +kernel
theorem dX8_weigh_45 : decode cX8_weigh 45 = .ok (.aload_n 0, 1) := by decide +kernel
theorem dX8_weigh_46 : decode cX8_weigh 46 = .ok (.getfield 21, 3) := by decide +kernel
theorem dX8_weigh_49 : decode cX8_weigh 49 = .ok (.iconst 0, 1) := by decide +kernel
theorem dX8_weigh_50 : decode cX8_weigh 50 = .ok (.invokestatic 77, 3) := by decide +kernel
theorem dX8_weigh_53 : decode cX8_weigh 53 = .ok (.iconst 0, 1) := by decide +kernel
theorem dX8_weigh_54 : decode cX8_weigh 54 = .ok (.istore 5, 2) := by decide +kernel
theorem dX8_weigh_56 : decode cX8_weigh 56 = .ok (.iload 5, 2) := by decide +kernel
theorem dX8_weigh_58 : decode cX8_weigh 58 = .ok (.aload_n 1, 1) := by decide +kernel
theorem dX8_weigh_59 : decode cX8_weigh 59 = .ok (.getfield 34, 3) := by decide +kernel
theorem dX8_weigh_62 : decode cX8_weigh 62 = .ok (.if_icmp .ge 41, 3) := by decide +kernel
theorem dX8_weigh_65 : decode cX8_weigh 65 = .ok (.aload_n 1, 1) := by decide +kernel
theorem dX8_weigh_66 : decode cX8_weigh 66 = .ok (.getfield 39, 3) := by decide +kernel
theorem dX8_weigh_69 : decode cX8_weigh 69 = .ok (.iload 5, 2) := by decide +kernel
theorem dX8_weigh_71 : decode cX8_weigh 71 = .ok (.aaload, 1) := by decide +kernel
theorem dX8_weigh_72 : decode cX8_weigh 72 = .ok (.astore 6, 2) := by decide +kernel
theorem dX8_weigh_74 : decode cX8_weigh 74 = .ok (.aload_n 0, 1) := by decide +kernel
theorem dX8_weigh_75 : decode cX8_weigh 75 = .ok (.aload 6, 2) := by decide +kernel
theorem dX8_weigh_77 : decode cX8_weigh 77 = .ok (.aload 6, 2) := by decide +kernel
theorem dX8_weigh_79 : decode cX8_weigh 79 = .ok (.aload_n 2, 1) := by decide +kernel
theorem dX8_weigh_80 : decode cX8_weigh 80 = .ok (.getfield 48, 3) := by decide +kernel
theorem dX8_weigh_83 : decode cX8_weigh 83 = .ok (.iconst 1, 1) := by decide +kernel
theorem dX8_weigh_84 : decode cX8_weigh 84 = .ok (.isub, 1) := by decide +kernel
theorem dX8_weigh_85 : decode cX8_weigh 85 = .ok (.aload_n 2, 1) := by decide +kernel
theorem dX8_weigh_86 : decode cX8_weigh 86 = .ok (.getfield 51, 3) := by decide +kernel
theorem dX8_weigh_89 : decode cX8_weigh 89 = .ok (.invokevirtual 54, 3) := by decide +kernel
theorem dX8_weigh_92 : decode cX8_weigh 92 = .ok (.iload 4, 2) := by decide +kernel
theorem dX8_weigh_94 : decode cX8_weigh 94 = .ok (.invokevirtual 83, 3) := by decide +kernel
theorem dX8_weigh_97 : decode cX8_weigh 97 = .ok (.iinc 5 1, 3) := by decide +kernel
theorem dX8_weigh_100 : decode cX8_weigh 100 = .ok (.goto (-44), 3) := by decide +kernel
theorem dX8_weigh_103 : decode cX8_weigh 103 = .ok (.aload_n 0, 1) := by decide +kernel
theorem dX8_weigh_104 : decode cX8_weigh 104 = .ok (.iload 4, 2) := by decide +kernel
theorem dX8_weigh_106 : decode cX8_weigh 106 = .ok (.invokevirtual 87, 3) := by decide +kernel
theorem dX8_weigh_109 : decode cX8_weigh 109 = .ok (.iinc 4 1, 3) := by decide +kernel
theorem dX8_weigh_112 : decode cX8_weigh 112 = .ok (.goto (-83), 3) := by decide +kernel
theorem dX8_weigh_115 : decode cX8_weigh 115 = .ok (.return_, 1) := by decide +kernel
theorem dX8_tally_0 : decode cX8_tally 0 = .ok (.aload_n 1, 1) := by decide +kernel
theorem dX8_tally_1 : decode cX8_tally 1 = .ok (.aload_n 0, 1) := by decide +kernel
theorem dX8_tally_2 : decode cX8_tally 2 = .ok (.getfield 18, 3) := by decide +kernel
theorem dX8_tally_5 : decode cX8_tally 5 = .ok (.iload_n 3, 1) := by decide +kernel
theorem dX8_tally_6 : decode cX8_tally 6 = .ok (.iaload, 1) := by decide +kernel
theorem dX8_tally_7 : decode cX8_tally 7 = .ok (.invokevirtual 91, 3) := by decide +kernel
theorem dX8_tally_10 : decode cX8_tally 10 = .ok (.bipush 31, 2) := by decide +kernel
theorem dX8_tally_12 : decode cX8_tally 12 = .ok (.bipush 31, 2) := by decide +kernel
theorem dX8_tally_14 : decode cX8_tally 14 = .ok (.aload_n 0, 1) := by decide +kernel
theorem dX8_tally_15 : decode cX8_tally 15 = .ok (.getfield 15, 3) := by decide +kernel
theorem dX8_tally_18 : decode cX8_tally 18 = .ok (.iload_n 3, 1) := by decide +kernel
theorem dX8_tally_19 : decode cX8_tally 19 = .ok (.iaload, 1) := by decide +kernel
theorem dX8_tally_20 : decode cX8_tally 20 = .ok (.isub, 1) := by decide +kernel
theorem dX8_tally_21 : decode cX8_tally 21 = .ok (.invokestatic 94, 3) := by decide +kernel
theorem dX8_tally_24 : decode cX8_tally 24 = .ok (.istore 4, 2) := by decide +kernel
theorem dX8_tally_26 : decode cX8_tally 26 = .ok (.iconst 0, 1) := by decide +kernel
theorem dX8_tally_27 : decode cX8_tally 27 = .ok (.aload_n 0, 1) := by decide +kernel
theorem dX8_tally_28 : decode cX8_tally 28 = .ok (.getfield 15, 3) := by decide +kernel
theorem dX8_tally_31 : decode cX8_tally 31 = .ok (.iload_n 3, 1) := by decide +kernel
theorem dX8_tally_32 : decode cX8_tally 32 = .ok (.iaload, 1) := by decide +kernel
theorem dX8_tally_33 : decode cX8_tally 33 = .ok (.ineg, 1) := by decide +kernel
theorem dX8_tally_34 : decode cX8_tally 34 = .ok (.invokestatic 99, 3) := by decide +kernel
theorem dX8_tally_37 : decode cX8_tally 37 = .ok (.istore 5, 2) := by decide +kernel
theorem dX8_tally_39 : decode cX8_tally 39 = .ok (.iload 5, 2) := by decide +kernel
theorem dX8_tally_41 : decode cX8_tally 41 = .ok (.iload 4, 2) := by decide +kernel
theorem dX8_tally_43 : decode cX8_tally 43 = .ok (.if_icmp .gt 157, 3) := by decide +kernel
theorem dX8_tally_46 : decode cX8_tally 46 = .ok (.aload_n 1, 1) := by decide +kernel
theorem dX8_tally_47 : decode cX8_tally 47 = .ok (.getfield 43, 3) := by decide +kernel
theorem dX8_tally_50 : decode cX8_tally 50 = .ok (.iload_n 2, 1) := by decide +kernel
theorem dX8_tally_51 : decode cX8_tally 51 = .ok (.iload 5, 2) := by decide +kernel
theorem dX8_tally_53 : decode cX8_tally 53 = .ok (.iadd, 1) := by decide +kernel
theorem dX8_tally_54 : decode cX8_tally 54 = .ok (.iaload, 1) := by decide +kernel
theorem dX8_tally_55 : decode cX8_tally 55 = .ok (.aload_n 0, 1) := by decide +kernel
theorem dX8_tally_56 : decode cX8_tally 56 = .ok (.getfield 9, 3) := by decide +kernel
theorem dX8_tally_59 : decode cX8_tally 59 = .ok (.iload_n 3, 1) := by decide +kernel
theorem dX8_tally_60 : decode cX8_tally 60 = .ok (.iaload, 1) := by decide +kernel
theorem dX8_tally_61 : decode cX8_tally 61 = .ok (.invokestatic 102, 3) := by decide +kernel
theorem dX8_tally_64 : decode cX8_tally 64 = .ok (.aload_n 1, 1) := by decide +kernel
theorem dX8_tally_65 : decode cX8_tally 65 = .ok (.getfield 105, 3) := by decide +kernel
theorem dX8_tally_68 : decode cX8_tally 68 = .ok (.iload 5, 2) := by decide +kernel
theorem dX8_tally_70 : decode cX8_tally 70 = .ok (.aload_n 0, 1) := by decide +kernel
theorem dX8_tally_71 : decode cX8_tally 71 = .ok (.getfield 15, 3) := by decide +kernel
theorem dX8_tally_74 : decode cX8_tally 74 = .ok (.iload_n 3, 1) := by decide +kernel
theorem dX8_tally_75 : decode cX8_tally 75 = .ok (.iaload, 1) := by decide +kernel
theorem dX8_tally_76 : decode cX8_tally 76 = .ok (.iadd, 1) := by decide +kernel
theorem dX8_tally_77 : decode cX8_tally 77 = .ok (.iaload, 1) := by decide +kernel
theorem dX8_tally_78 : decode cX8_tally 78 = .ok (.iconst (-1), 1) := by decide +kernel
theorem dX8_tally_79 : decode cX8_tally 79 = .ok (.ixor, 1) := by decide +kernel
theorem dX8_tally_80 : decode cX8_tally 80 = .ok (.iand, 1) := by decide +kernel
theorem dX8_tally_81 : decode cX8_tally 81 = .ok (.istore 6, 2) := by decide +kernel
theorem dX8_tally_83 : decode cX8_tally 83 = .ok (.aload_n 0, 1) := by decide +kernel
theorem dX8_tally_84 : decode cX8_tally 84 = .ok (.getfield 18, 3) := by decide +kernel
theorem dX8_tally_87 : decode cX8_tally 87 = .ok (.iload_n 3, 1) := by decide +kernel
theorem dX8_tally_88 : decode cX8_tally 88 = .ok (.iaload, 1) := by decide +kernel
theorem dX8_tally_89 : decode cX8_tally 89 = .ok (.sipush 1024, 3) := by decide +kernel
theorem dX8_tally_92 : decode cX8_tally 92 = .ok (.imul, 1) := by decide +kernel
theorem dX8_tally_93 : decode cX8_tally 93 = .ok (.iload 5, 2) := by decide +kernel
theorem dX8_tally_95 : decode cX8_tally 95 = .ok (.aload_n 0, 1) := by decide +kernel
theorem dX8_tally_96 : decode cX8_tally 96 = .ok (.getfield 15, 3) := by decide +kernel
theorem dX8_tally_99 : decode cX8_tally 99 = .ok (.iload_n 3, 1) := by decide +kernel
theorem dX8_tally_100 : decode cX8_tally 100 = .ok (.iaload, 1) := by decide +kernel
theorem dX8_tally_101 : decode cX8_tally 101 = .ok (.iadd, 1) := by decide +kernel
theorem dX8_tally_102 : decode cX8_tally 102 = .ok (.bipush 32, 2) := by decide +kernel
theorem dX8_tally_104 : decode cX8_tally 104 = .ok (.imul, 1) := by decide +kernel
theorem dX8_tally_105 : decode cX8_tally 105 = .ok (.iadd, 1) := by decide +kernel
theorem dX8_tally_106 : decode cX8_tally 106 = .ok (.istore 7, 2) := by decide +kernel
theorem dX8_tally_108 : decode cX8_tally 108 = .ok (.iconst 0, 1) := by decide +kernel
theorem dX8_tally_109 : decode cX8_tally 109 = .ok (.istore 8, 2) := by decide +kernel
theorem dX8_tally_111 : decode cX8_tally 111 = .ok (.iload 6, 2) := by decide +kernel
theorem dX8_tally_113 : decode cX8_tally 113 = .ok (.ifCond .eq 81, 3) := by decide +kernel
theorem dX8_tally_116 : decode cX8_tally 116 = .ok (.iload 8, 2) := by decide +kernel
theorem dX8_tally_118 : decode cX8_tally 118 = .ok (.bipush 32, 2) := by decide +kernel
theorem dX8_tally_120 : decode cX8_tally 120 = .ok (.if_icmp .ge 74, 3) := by decide +kernel
theorem dX8_tally_123 : decode cX8_tally 123 = .ok (.aload_n 1, 1) := by decide +kernel
theorem dX8_tally_124 : decode cX8_tally 124 = .ok (.getfield 108, 3) := by decide +kernel
theorem dX8_tally_127 : decode cX8_tally 127 = .ok (.iload 7, 2) := by decide +kernel
theorem dX8_tally_129 : decode cX8_tally 129 = .ok (.iload 6, 2) := by decide +kernel
theorem dX8_tally_131 : decode cX8_tally 131 = .ok (.invokestatic 111, 3) := by decide +kernel
theorem dX8_tally_134 : decode cX8_tally 134 = .ok (.iadd, 1) := by decide +kernel
theorem dX8_tally_135 : decode cX8_tally 135 = .ok (.iaload, 1) := by decide +kernel
theorem dX8_tally_136 : decode cX8_tally 136 = .ok (.istore 9, 2) := by decide +kernel
theorem dX8_tally_138 : decode cX8_tally 138 = .ok (.iload 6, 2) := by decide +kernel
theorem dX8_tally_140 : decode cX8_tally 140 = .ok (.iload 6, 2) := by decide +kernel
theorem dX8_tally_142 : decode cX8_tally 142 = .ok (.iconst 1, 1) := by decide +kernel
theorem dX8_tally_143 : decode cX8_tally 143 = .ok (.isub, 1) := by decide +kernel
theorem dX8_tally_144 : decode cX8_tally 144 = .ok (.iand, 1) := by decide +kernel
theorem dX8_tally_145 : decode cX8_tally 145 = .ok (.istore 6, 2) := by decide +kernel
theorem dX8_tally_147 : decode cX8_tally 147 = .ok (.iload 9, 2) := by decide +kernel
theorem dX8_tally_149 : decode cX8_tally 149 = .ok (.invokestatic 115, 3) := by decide +kernel
theorem dX8_tally_152 : decode cX8_tally 152 = .ok (.istore 10, 2) := by decide +kernel
theorem dX8_tally_154 : decode cX8_tally 154 = .ok (.iload 10, 2) := by decide +kernel
theorem dX8_tally_156 : decode cX8_tally 156 = .ok (.ifCond .le 14, 3) := by decide +kernel
theorem dX8_tally_159 : decode cX8_tally 159 = .ok (.aload_n 0, 1) := by decide +kernel
theorem dX8_tally_160 : decode cX8_tally 160 = .ok (.getfield 21, 3) := by decide +kernel
theorem dX8_tally_163 : decode cX8_tally 163 = .ok (.iload 10, 2) := by decide +kernel
theorem dX8_tally_165 : decode cX8_tally 165 = .ok (.dup2, 1) := by decide +kernel
theorem dX8_tally_166 : decode cX8_tally 166 = .ok (.iaload, 1) := by decide +kernel
theorem dX8_tally_167 : decode cX8_tally 167 = .ok (.iconst 1, 1) := by decide +kernel
theorem dX8_tally_168 : decode cX8_tally 168 = .ok (.iadd, 1) := by decide +kernel
theorem dX8_tally_169 : decode cX8_tally 169 = .ok (.iastore, 1) := by decide +kernel
theorem dX8_tally_170 : decode cX8_tally 170 = .ok (.iload 9, 2) := by decide +kernel
theorem dX8_tally_172 : decode cX8_tally 172 = .ok (.invokestatic 118, 3) := by decide +kernel
theorem dX8_tally_175 : decode cX8_tally 175 = .ok (.ifCond .eq 13, 3) := by decide +kernel
theorem dX8_tally_178 : decode cX8_tally 178 = .ok (.aload_n 0, 1) := by decide +kernel
theorem dX8_tally_179 : decode cX8_tally 179 = .ok (.getfield 21, 3) := by decide +kernel
theorem dX8_tally_182 : decode cX8_tally 182 = .ok (.iconst 0, 1) := by decide +kernel
theorem dX8_tally_183 : decode cX8_tally 183 = .ok (.dup2, 1) := by decide +kernel
theorem dX8_tally_184 : decode cX8_tally 184 = .ok (.iaload, 1) := by decide +kernel
theorem dX8_tally_185 : decode cX8_tally 185 = .ok (.iconst 1, 1) := by decide +kernel
theorem dX8_tally_186 : decode cX8_tally 186 = .ok (.iadd, 1) := by decide +kernel
theorem dX8_tally_187 : decode cX8_tally 187 = .ok (.iastore, 1) := by decide +kernel
theorem dX8_tally_188 : decode cX8_tally 188 = .ok (.iinc 8 1, 3) := by decide +kernel
theorem dX8_tally_191 : decode cX8_tally 191 = .ok (.goto (-80), 3) := by decide +kernel
theorem dX8_tally_194 : decode cX8_tally 194 = .ok (.iinc 5 1, 3) := by decide +kernel
theorem dX8_tally_197 : decode cX8_tally 197 = .ok (.goto (-158), 3) := by decide +kernel
theorem dX8_tally_200 : decode cX8_tally 200 = .ok (.return_, 1) := by decide +kernel
theorem dX8_takeIfBetter_0 : decode cX8_takeIfBetter 0 = .ok (.iconst 0, 1) := by decide +kernel
theorem dX8_takeIfBetter_1 : decode cX8_takeIfBetter 1 = .ok (.istore_n 2, 1) := by decide +kernel
theorem dX8_takeIfBetter_2 : decode cX8_takeIfBetter 2 = .ok (.iconst 1, 1) := by decide +kernel
theorem dX8_takeIfBetter_3 : decode cX8_takeIfBetter 3 = .ok (.istore_n 3, 1) := by decide +kernel
theorem dX8_takeIfBetter_4 : decode cX8_takeIfBetter 4 = .ok (.iload_n 3, 1) := by decide +kernel
theorem dX8_takeIfBetter_5 : decode cX8_takeIfBetter 5 = .ok (.bipush 32, 2) := by decide +kernel
theorem dX8_takeIfBetter_7 : decode cX8_takeIfBetter 7 = .ok (.if_icmp .ge 26, 3) := by decide +kernel
theorem dX8_takeIfBetter_10 : decode cX8_takeIfBetter 10 = .ok (.aload_n 0, 1) := by decide +kernel
theorem dX8_takeIfBetter_11 : decode cX8_takeIfBetter 11 = .ok (.getfield 21, 3) := by decide +kernel
theorem dX8_takeIfBetter_14 : decode cX8_takeIfBetter 14 = .ok (.iload_n 3, 1) := by decide +kernel
theorem dX8_takeIfBetter_15 : decode cX8_takeIfBetter 15 = .ok (.iaload, 1) := by decide +kernel
theorem dX8_takeIfBetter_16 : decode cX8_takeIfBetter 16 = .ok (.aload_n 0, 1) := by decide +kernel
theorem dX8_takeIfBetter_17 : decode cX8_takeIfBetter 17 = .ok (.getfield 21, 3) := by decide +kernel
theorem dX8_takeIfBetter_20 : decode cX8_takeIfBetter 20 = .ok (.iload_n 2, 1) := by decide +kernel
theorem dX8_takeIfBetter_21 : decode cX8_takeIfBetter 21 = .ok (.iaload, 1) := by decide +kernel
theorem dX8_takeIfBetter_22 : decode cX8_takeIfBetter 22 = .ok (.if_icmp .le 5, 3) := by decide +kernel
theorem dX8_takeIfBetter_25 : decode cX8_takeIfBetter 25 = .ok (.iload_n 3, 1) := by decide +kernel
theorem dX8_takeIfBetter_26 : decode cX8_takeIfBetter 26 = .ok (.istore_n 2, 1) := by decide +kernel
theorem dX8_takeIfBetter_27 : decode cX8_takeIfBetter 27 = .ok (.iinc 3 1, 3) := by decide +kernel
theorem dX8_takeIfBetter_30 : decode cX8_takeIfBetter 30 = .ok (.goto (-26), 3) := by decide +kernel
theorem dX8_takeIfBetter_33 : decode cX8_takeIfBetter 33 = .ok (.aload_n 0, 1) := by decide +kernel
theorem dX8_takeIfBetter_34 : decode cX8_takeIfBetter 34 = .ok (.getfield 21, 3) := by decide +kernel
theorem dX8_takeIfBetter_37 : decode cX8_takeIfBetter 37 = .ok (.iload_n 2, 1) := by decide +kernel
theorem dX8_takeIfBetter_38 : decode cX8_takeIfBetter 38 = .ok (.iaload, 1) := by decide +kernel
theorem dX8_takeIfBetter_39 : decode cX8_takeIfBetter 39 = .ok (.aload_n 0, 1) := by decide +kernel
theorem dX8_takeIfBetter_40 : decode cX8_takeIfBetter 40 = .ok (.getfield 70, 3) := by decide +kernel
theorem dX8_takeIfBetter_43 : decode cX8_takeIfBetter 43 = .ok (.if_icmp .ge 25, 3) := by decide +kernel
theorem dX8_takeIfBetter_46 : decode cX8_takeIfBetter 46 = .ok (.aload_n 0, 1) := by decide +kernel
theorem dX8_takeIfBetter_47 : decode cX8_takeIfBetter 47 = .ok (.iload_n 1, 1) := by decide +kernel
theorem dX8_takeIfBetter_48 : decode cX8_takeIfBetter 48 = .ok (.putfield 121, 3) := by decide +kernel
theorem dX8_takeIfBetter_51 : decode cX8_takeIfBetter 51 = .ok (.aload_n 0, 1) := by decide +kernel
theorem dX8_takeIfBetter_52 : decode cX8_takeIfBetter 52 = .ok (.aload_n 0, 1) := by decide +kernel
theorem dX8_takeIfBetter_53 : decode cX8_takeIfBetter 53 = .ok (.getfield 21, 3) := by decide +kernel
theorem dX8_takeIfBetter_56 : decode cX8_takeIfBetter 56 = .ok (.iload_n 2, 1) := by decide +kernel
theorem dX8_takeIfBetter_57 : decode cX8_takeIfBetter 57 = .ok (.iaload, 1) := by decide +kernel
theorem dX8_takeIfBetter_58 : decode cX8_takeIfBetter 58 = .ok (.putfield 70, 3) := by decide +kernel
theorem dX8_takeIfBetter_61 : decode cX8_takeIfBetter 61 = .ok (.aload_n 0, 1) := by decide +kernel
theorem dX8_takeIfBetter_62 : decode cX8_takeIfBetter 62 = .ok (.iconst 2, 1) := by decide +kernel
theorem dX8_takeIfBetter_63 : decode cX8_takeIfBetter 63 = .ok (.iload_n 2, 1) := by decide +kernel
theorem dX8_takeIfBetter_64 : decode cX8_takeIfBetter 64 = .ok (.imul, 1) := by decide +kernel
theorem dX8_takeIfBetter_65 : decode cX8_takeIfBetter 65 = .ok (.putfield 124, 3) := by decide +kernel
theorem dX8_takeIfBetter_68 : decode cX8_takeIfBetter 68 = .ok (.return_, 1) := by decide +kernel
theorem dX8_weighTwo_0 : decode cX8_weighTwo 0 = .ok (.aload_n 0, 1) := by decide +kernel
theorem dX8_weighTwo_1 : decode cX8_weighTwo 1 = .ok (.getfield 127, 3) := by decide +kernel
theorem dX8_weighTwo_4 : decode cX8_weighTwo 4 = .ok (.iload_n 3, 1) := by decide +kernel
theorem dX8_weighTwo_5 : decode cX8_weighTwo 5 = .ok (.if_icmp .ne 4, 3) := by decide +kernel
theorem dX8_weighTwo_8 : decode cX8_weighTwo 8 = .ok (.return_, 1) := by decide +kernel
theorem dX8_weighTwo_9 : decode cX8_weighTwo 9 = .ok (.aload_n 0, 1) := by decide +kernel
theorem dX8_weighTwo_10 : decode cX8_weighTwo 10 = .ok (.iload_n 3, 1) := by decide +kernel
theorem dX8_weighTwo_11 : decode cX8_weighTwo 11 = .ok (.putfield 127, 3) := by decide +kernel
theorem dX8_weighTwo_14 : decode cX8_weighTwo 14 = .ok (.aload_n 0, 1) := by decide +kernel
theorem dX8_weighTwo_15 : decode cX8_weighTwo 15 = .ok (.aload_n 1, 1) := by decide +kernel
theorem dX8_weighTwo_16 : decode cX8_weighTwo 16 = .ok (.aload_n 2, 1) := by decide +kernel
theorem dX8_weighTwo_17 : decode cX8_weighTwo 17 = .ok (.invokevirtual 65, 3) := by decide +kernel
theorem dX8_weighTwo_20 : decode cX8_weighTwo 20 = .ok (.aload_n 0, 1) := by decide +kernel
theorem dX8_weighTwo_21 : decode cX8_weighTwo 21 = .ok (.ldc 69, 2) := by decide +kernel
theorem dX8_weighTwo_23 : decode cX8_weighTwo 23 = .ok (.putfield 130, 3) := by decide +kernel
theorem dX8_weighTwo_26 : decode cX8_weighTwo 26 = .ok (.iconst 0, 1) := by decide +kernel
theorem dX8_weighTwo_27 : decode cX8_weighTwo 27 = .ok (.istore 4, 2) := by decide +kernel
theorem dX8_weighTwo_29 : decode cX8_weighTwo 29 = .ok (.iload 4, 2) := by decide +kernel
theorem dX8_weighTwo_31 : decode cX8_weighTwo 31 = .ok (.bipush 6, 2) := by decide +kernel
theorem dX8_weighTwo_33 : decode cX8_weighTwo 33 = .ok (.if_icmp .ge 49, 3) := by decide +kernel
theorem dX8_weighTwo_36 : decode cX8_weighTwo 36 = .ok (.aload_n 0, 1) := by decide +kernel
theorem dX8_weighTwo_37 : decode cX8_weighTwo 37 = .ok (.iload 4, 2) := by decide +kernel
theorem dX8_weighTwo_39 : decode cX8_weighTwo 39 = .ok (.invokevirtual 73, 3) := by decide +kernel
theorem dX8_weighTwo_42 : decode cX8_weighTwo 42 = .ok (.ifCond .eq 34, 3) := by decide +kernel
theorem dX8_weighTwo_45 : decode cX8_weighTwo 45 = .ok (.aload_n 0, 1) := by decide +kernel
theorem dX8_weighTwo_46 : decode cX8_weighTwo 46 = .ok (.aload_n 1, 1) := by decide +kernel
theorem dX8_weighTwo_47 : decode cX8_weighTwo 47 = .ok (.aload_n 2, 1) := by decide +kernel
theorem dX8_weighTwo_48 : decode cX8_weighTwo 48 = .ok (.iload 4, 2) := by decide +kernel
theorem dX8_weighTwo_50 : decode cX8_weighTwo 50 = .ok (.invokevirtual 133, 3) := by decide +kernel
theorem dX8_weighTwo_53 : decode cX8_weighTwo 53 = .ok (.istore 5, 2) := by decide +kernel
theorem dX8_weighTwo_55 : decode cX8_weighTwo 55 = .ok (.iload 5, 2) := by decide +kernel
theorem dX8_weighTwo_57 : decode cX8_weighTwo 57 = .ok (.aload_n 0, 1) := by decide +kernel
theorem dX8_weighTwo_58 : decode cX8_weighTwo 58 = .ok (.getfield 130, 3) := by decide +kernel
theorem dX8_weighTwo_61 : decode cX8_weighTwo 61 = .ok (.if_icmp .ge 15, 3) := by decide +kernel
theorem dX8_weighTwo_64 : decode cX8_weighTwo 64 = .ok (.aload_n 0, 1) := by decide +kernel
theorem dX8_weighTwo_65 : decode cX8_weighTwo 65 = .ok (.iload 5, 2) := by decide +kernel
theorem dX8_weighTwo_67 : decode cX8_weighTwo 67 = .ok (.putfield 130, 3) := by decide +kernel
theorem dX8_weighTwo_70 : decode cX8_weighTwo 70 = .ok (.aload_n 0, 1) := by decide +kernel
theorem dX8_weighTwo_71 : decode cX8_weighTwo 71 = .ok (.iload 4, 2) := by decide +kernel
theorem dX8_weighTwo_73 : decode cX8_weighTwo 73 = .ok (.putfield 137, 3) := by decide +kernel
theorem dX8_weighTwo_76 : decode cX8_weighTwo 76 = .ok (.iinc 4 1, 3) := by decide +kernel
theorem dX8_weighTwo_79 : decode cX8_weighTwo 79 = .ok (.goto (-50), 3) := by decide +kernel
theorem dX8_weighTwo_82 : decode cX8_weighTwo 82 = .ok (.return_, 1) := by decide +kernel
theorem dX8_staysBehind_0 : decode cX8_staysBehind 0 = .ok (.aload_n 0, 1) := by decide +kernel
theorem dX8_staysBehind_1 : decode cX8_staysBehind 1 = .ok (.getfield 21, 3) := by decide +kernel
theorem dX8_staysBehind_4 : decode cX8_staysBehind 4 = .ok (.ldc 69, 2) := by decide +kernel
theorem dX8_staysBehind_6 : decode cX8_staysBehind 6 = .ok (.invokestatic 77, 3) := by decide +kernel
theorem dX8_staysBehind_9 : decode cX8_staysBehind 9 = .ok (.iconst 0, 1) := by decide +kernel
theorem dX8_staysBehind_10 : decode cX8_staysBehind 10 = .ok (.istore 4, 2) := by decide +kernel
theorem dX8_staysBehind_12 : decode cX8_staysBehind 12 = .ok (.iload 4, 2) := by decide +kernel
theorem dX8_staysBehind_14 : decode cX8_staysBehind 14 = .ok (.bipush 6, 2) := by decide +kernel
theorem dX8_staysBehind_16 : decode cX8_staysBehind 16 = .ok (.if_icmp .ge 116, 3) := by decide +kernel
theorem dX8_staysBehind_19 : decode cX8_staysBehind 19 = .ok (.aload_n 0, 1) := by decide +kernel
theorem dX8_staysBehind_20 : decode cX8_staysBehind 20 = .ok (.iload 4, 2) := by decide +kernel
theorem dX8_staysBehind_22 : decode cX8_staysBehind 22 = .ok (.invokevirtual 73, 3) := by decide +kernel
theorem dX8_staysBehind_25 : decode cX8_staysBehind 25 = .ok (.ifCond .eq 101, 3) := by decide +kernel
theorem dX8_staysBehind_28 : decode cX8_staysBehind 28 = .ok (.aload_n 0, 1) := by decide +kernel
theorem dX8_staysBehind_29 : decode cX8_staysBehind 29 = .ok (.getfield 24, 3) := by decide +kernel
theorem dX8_staysBehind_32 : decode cX8_staysBehind 32 = .ok (.iconst 0, 1) := by decide +kernel
theorem dX8_staysBehind_33 : decode cX8_staysBehind 33 = .ok (.invokestatic 77, 3) := by decide +kernel
theorem dX8_staysBehind_36 : decode cX8_staysBehind 36 = .ok (.iconst 0, 1) := by decide +kernel
theorem dX8_staysBehind_37 : decode cX8_staysBehind 37 = .ok (.istore 5, 2) := by decide +kernel
theorem dX8_staysBehind_39 : decode cX8_staysBehind 39 = .ok (.iload 5, 2) := by decide +kernel
theorem dX8_staysBehind_41 : decode cX8_staysBehind 41 = .ok (.aload_n 1, 1) := by decide +kernel
theorem dX8_staysBehind_42 : decode cX8_staysBehind 42 = .ok (.getfield 34, 3) := by decide +kernel
theorem dX8_staysBehind_45 : decode cX8_staysBehind 45 = .ok (.if_icmp .ge 42, 3) := by decide +kernel
theorem dX8_staysBehind_48 : decode cX8_staysBehind 48 = .ok (.aload_n 1, 1) := by decide +kernel
theorem dX8_staysBehind_49 : decode cX8_staysBehind 49 = .ok (.getfield 39, 3) := by decide +kernel
theorem dX8_staysBehind_52 : decode cX8_staysBehind 52 = .ok (.iload 5, 2) := by decide +kernel
theorem dX8_staysBehind_54 : decode cX8_staysBehind 54 = .ok (.aaload, 1) := by decide +kernel
theorem dX8_staysBehind_55 : decode cX8_staysBehind 55 = .ok (.astore 6, 2) := by decide +kernel
theorem dX8_staysBehind_57 : decode cX8_staysBehind 57 = .ok (.aload_n 0, 1) := by decide +kernel
theorem dX8_staysBehind_58 : decode cX8_staysBehind 58 = .ok (.aload 6, 2) := by decide +kernel
theorem dX8_staysBehind_60 : decode cX8_staysBehind 60 = .ok (.aload 6, 2) := by decide +kernel
theorem dX8_staysBehind_62 : decode cX8_staysBehind 62 = .ok (.aload_n 2, 1) := by decide +kernel
theorem dX8_staysBehind_63 : decode cX8_staysBehind 63 = .ok (.getfield 48, 3) := by decide +kernel
theorem dX8_staysBehind_66 : decode cX8_staysBehind 66 = .ok (.iconst 1, 1) := by decide +kernel
theorem dX8_staysBehind_67 : decode cX8_staysBehind 67 = .ok (.isub, 1) := by decide +kernel
theorem dX8_staysBehind_68 : decode cX8_staysBehind 68 = .ok (.aload_n 2, 1) := by decide +kernel
theorem dX8_staysBehind_69 : decode cX8_staysBehind 69 = .ok (.getfield 51, 3) := by decide +kernel
theorem dX8_staysBehind_72 : decode cX8_staysBehind 72 = .ok (.invokevirtual 54, 3) := by decide +kernel
theorem dX8_staysBehind_75 : decode cX8_staysBehind 75 = .ok (.iload_n 3, 1) := by decide +kernel
theorem dX8_staysBehind_76 : decode cX8_staysBehind 76 = .ok (.iload 4, 2) := by decide +kernel
theorem dX8_staysBehind_78 : decode cX8_staysBehind 78 = .ok (.invokevirtual 140, 3) := by decide +kernel
theorem dX8_staysBehind_81 : decode cX8_staysBehind 81 = .ok (.iinc 5 1, 3) := by decide +kernel
theorem dX8_staysBehind_84 : decode cX8_staysBehind 84 = .ok (.goto (-45), 3) := by decide +kernel
theorem dX8_staysBehind_87 : decode cX8_staysBehind 87 = .ok (.iconst 0, 1) := by decide +kernel
theorem dX8_staysBehind_88 : decode cX8_staysBehind 88 = .ok (.istore 5, 2) := by decide +kernel
theorem dX8_staysBehind_90 : decode cX8_staysBehind 90 = .ok (.iload 5, 2) := by decide +kernel
theorem dX8_staysBehind_92 : decode cX8_staysBehind 92 = .ok (.bipush 32, 2) := by decide +kernel
theorem dX8_staysBehind_94 : decode cX8_staysBehind 94 = .ok (.if_icmp .ge 32, 3) := by decide +kernel
theorem dX8_staysBehind_97 : decode cX8_staysBehind 97 = .ok (.aload_n 0, 1) := by decide +kernel
theorem dX8_staysBehind_98 : decode cX8_staysBehind 98 = .ok (.getfield 21, 3) := by decide +kernel
theorem dX8_staysBehind_101 : decode cX8_staysBehind 101 = .ok (.iload 5, 2) := by decide +kernel
theorem dX8_staysBehind_103 : decode cX8_staysBehind 103 = .ok (.aload_n 0, 1) := by decide +kernel
theorem dX8_staysBehind_104 : decode cX8_staysBehind 104 = .ok (.getfield 21, 3) := by decide +kernel
theorem dX8_staysBehind_107 : decode cX8_staysBehind 107 = .ok (.iload 5, 2) := by decide +kernel
theorem dX8_staysBehind_109 : decode cX8_staysBehind 109 = .ok (.iaload, 1) := by decide +kernel
theorem dX8_staysBehind_110 : decode cX8_staysBehind 110 = .ok (.aload_n 0, 1) := by decide +kernel
theorem dX8_staysBehind_111 : decode cX8_staysBehind 111 = .ok (.iload 5, 2) := by decide +kernel
theorem dX8_staysBehind_113 : decode cX8_staysBehind 113 = .ok (.invokevirtual 144, 3) := by decide +kernel
theorem dX8_staysBehind_116 : decode cX8_staysBehind 116 = .ok (.invokestatic 94, 3) := by decide +kernel
theorem dX8_staysBehind_119 : decode cX8_staysBehind 119 = .ok (.iastore, 1) := by decide +kernel
theorem dX8_staysBehind_120 : decode cX8_staysBehind 120 = .ok (.iinc 5 1, 3) := by decide +kernel
theorem dX8_staysBehind_123 : decode cX8_staysBehind 123 = .ok (.goto (-33), 3) := by decide +kernel
theorem dX8_staysBehind_126 : decode cX8_staysBehind 126 = .ok (.iinc 4 1, 3) := by decide +kernel
theorem dX8_staysBehind_129 : decode cX8_staysBehind 129 = .ok (.goto (-117), 3) := by decide +kernel
theorem dX8_staysBehind_132 : decode cX8_staysBehind 132 = .ok (.iconst 0, 1) := by decide +kernel
theorem dX8_staysBehind_133 : decode cX8_staysBehind 133 = .ok (.istore 4, 2) := by decide +kernel
theorem dX8_staysBehind_135 : decode cX8_staysBehind 135 = .ok (.iconst 0, 1) := by decide +kernel
theorem dX8_staysBehind_136 : decode cX8_staysBehind 136 = .ok (.istore 5, 2) := by decide +kernel
theorem dX8_staysBehind_138 : decode cX8_staysBehind 138 = .ok (.iload 5, 2) := by decide +kernel
theorem dX8_staysBehind_140 : decode cX8_staysBehind 140 = .ok (.bipush 32, 2) := by decide +kernel
theorem dX8_staysBehind_142 : decode cX8_staysBehind 142 = .ok (.if_icmp .ge 23, 3) := by decide +kernel
theorem dX8_staysBehind_145 : decode cX8_staysBehind 145 = .ok (.iload 4, 2) := by decide +kernel
theorem dX8_staysBehind_147 : decode cX8_staysBehind 147 = .ok (.aload_n 0, 1) := by decide +kernel
theorem dX8_staysBehind_148 : decode cX8_staysBehind 148 = .ok (.getfield 21, 3) := by decide +kernel
theorem dX8_staysBehind_151 : decode cX8_staysBehind 151 = .ok (.iload 5, 2) := by decide +kernel
theorem dX8_staysBehind_153 : decode cX8_staysBehind 153 = .ok (.iaload, 1) := by decide +kernel
theorem dX8_staysBehind_154 : decode cX8_staysBehind 154 = .ok (.invokestatic 99, 3) := by decide +kernel
theorem dX8_staysBehind_157 : decode cX8_staysBehind 157 = .ok (.istore 4, 2) := by decide +kernel
theorem dX8_staysBehind_159 : decode cX8_staysBehind 159 = .ok (.iinc 5 1, 3) := by decide +kernel
theorem dX8_staysBehind_162 : decode cX8_staysBehind 162 = .ok (.goto (-24), 3) := by decide +kernel
theorem dX8_staysBehind_165 : decode cX8_staysBehind 165 = .ok (.iload 4, 2) := by decide +kernel
theorem dX8_staysBehind_167 : decode cX8_staysBehind 167 = .ok (.ireturn, 1) := by decide +kernel
theorem dX8_mostBehind_0 : decode cX8_mostBehind 0 = .ok (.iconst 0, 1) := by decide +kernel
theorem dX8_mostBehind_1 : decode cX8_mostBehind 1 = .ok (.istore_n 2, 1) := by decide +kernel
theorem dX8_mostBehind_2 : decode cX8_mostBehind 2 = .ok (.iconst 0, 1) := by decide +kernel
theorem dX8_mostBehind_3 : decode cX8_mostBehind 3 = .ok (.istore_n 3, 1) := by decide +kernel
theorem dX8_mostBehind_4 : decode cX8_mostBehind 4 = .ok (.iload_n 3, 1) := by decide +kernel
theorem dX8_mostBehind_5 : decode cX8_mostBehind 5 = .ok (.bipush 32, 2) := by decide +kernel
theorem dX8_mostBehind_7 : decode cX8_mostBehind 7 = .ok (.if_icmp .ge 25, 3) := by decide +kernel
theorem dX8_mostBehind_10 : decode cX8_mostBehind 10 = .ok (.iload_n 2, 1) := by decide +kernel
theorem dX8_mostBehind_11 : decode cX8_mostBehind 11 = .ok (.aload_n 0, 1) := by decide +kernel
theorem dX8_mostBehind_12 : decode cX8_mostBehind 12 = .ok (.getfield 24, 3) := by decide +kernel
theorem dX8_mostBehind_15 : decode cX8_mostBehind 15 = .ok (.iload_n 1, 1) := by decide +kernel
theorem dX8_mostBehind_16 : decode cX8_mostBehind 16 = .ok (.bipush 32, 2) := by decide +kernel
theorem dX8_mostBehind_18 : decode cX8_mostBehind 18 = .ok (.imul, 1) := by decide +kernel
theorem dX8_mostBehind_19 : decode cX8_mostBehind 19 = .ok (.iload_n 3, 1) := by decide +kernel
theorem dX8_mostBehind_20 : decode cX8_mostBehind 20 = .ok (.iadd, 1) := by decide +kernel
theorem dX8_mostBehind_21 : decode cX8_mostBehind 21 = .ok (.iaload, 1) := by decide +kernel
theorem dX8_mostBehind_22 : decode cX8_mostBehind 22 = .ok (.invokestatic 99, 3) := by decide +kernel
theorem dX8_mostBehind_25 : decode cX8_mostBehind 25 = .ok (.istore_n 2, 1) := by decide +kernel
theorem dX8_mostBehind_26 : decode cX8_mostBehind 26 = .ok (.iinc 3 1, 3) := by decide +kernel
theorem dX8_mostBehind_29 : decode cX8_mostBehind 29 = .ok (.goto (-25), 3) := by decide +kernel
theorem dX8_mostBehind_32 : decode cX8_mostBehind 32 = .ok (.iload_n 2, 1) := by decide +kernel
theorem dX8_mostBehind_33 : decode cX8_mostBehind 33 = .ok (.ireturn, 1) := by decide +kernel
theorem dX8_tallyPairs_0 : decode cX8_tallyPairs 0 = .ok (.aload_n 1, 1) := by decide +kernel
theorem dX8_tallyPairs_1 : decode cX8_tallyPairs 1 = .ok (.aload_n 0, 1) := by decide +kernel
theorem dX8_tallyPairs_2 : decode cX8_tallyPairs 2 = .ok (.getfield 18, 3) := by decide +kernel
theorem dX8_tallyPairs_5 : decode cX8_tallyPairs 5 = .ok (.iload_n 3, 1) := by decide +kernel
theorem dX8_tallyPairs_6 : decode cX8_tallyPairs 6 = .ok (.iaload, 1) := by decide +kernel
theorem dX8_tallyPairs_7 : decode cX8_tallyPairs 7 = .ok (.invokevirtual 91, 3) := by decide +kernel
theorem dX8_tallyPairs_10 : decode cX8_tallyPairs 10 = .ok (.aload_n 1, 1) := by decide +kernel
theorem dX8_tallyPairs_11 : decode cX8_tallyPairs 11 = .ok (.aload_n 0, 1) := by decide +kernel
theorem dX8_tallyPairs_12 : decode cX8_tallyPairs 12 = .ok (.getfield 18, 3) := by decide +kernel
theorem dX8_tallyPairs_15 : decode cX8_tallyPairs 15 = .ok (.iload 4, 2) := by decide +kernel
theorem dX8_tallyPairs_17 : decode cX8_tallyPairs 17 = .ok (.iaload, 1) := by decide +kernel
theorem dX8_tallyPairs_18 : decode cX8_tallyPairs 18 = .ok (.invokevirtual 91, 3) := by decide +kernel
theorem dX8_tallyPairs_21 : decode cX8_tallyPairs 21 = .ok (.iconst 0, 1) := by decide +kernel
theorem dX8_tallyPairs_22 : decode cX8_tallyPairs 22 = .ok (.istore 5, 2) := by decide +kernel
theorem dX8_tallyPairs_24 : decode cX8_tallyPairs 24 = .ok (.iload 5, 2) := by decide +kernel
theorem dX8_tallyPairs_26 : decode cX8_tallyPairs 26 = .ok (.bipush 32, 2) := by decide +kernel
theorem dX8_tallyPairs_28 : decode cX8_tallyPairs 28 = .ok (.if_icmp .ge 214, 3) := by decide +kernel
theorem dX8_tallyPairs_31 : decode cX8_tallyPairs 31 = .ok (.iload 5, 2) := by decide +kernel
theorem dX8_tallyPairs_33 : decode cX8_tallyPairs 33 = .ok (.aload_n 0, 1) := by decide +kernel
theorem dX8_tallyPairs_34 : decode cX8_tallyPairs 34 = .ok (.getfield 15, 3) := by decide +kernel
theorem dX8_tallyPairs_37 : decode cX8_tallyPairs 37 = .ok (.iload_n 3, 1) := by decide +kernel
theorem dX8_tallyPairs_38 : decode cX8_tallyPairs 38 = .ok (.iaload, 1) := by decide +kernel
theorem dX8_tallyPairs_39 : decode cX8_tallyPairs 39 = .ok (.iadd, 1) := by decide +kernel
theorem dX8_tallyPairs_40 : decode cX8_tallyPairs 40 = .ok (.istore 6, 2) := by decide +kernel
theorem dX8_tallyPairs_42 : decode cX8_tallyPairs 42 = .ok (.iload 6, 2) := by decide +kernel
theorem dX8_tallyPairs_44 : decode cX8_tallyPairs 44 = .ok (.aload_n 0, 1) := by decide +kernel
theorem dX8_tallyPairs_45 : decode cX8_tallyPairs 45 = .ok (.getfield 15, 3) := by decide +kernel
theorem dX8_tallyPairs_48 : decode cX8_tallyPairs 48 = .ok (.iload 4, 2) := by decide +kernel
theorem dX8_tallyPairs_50 : decode cX8_tallyPairs 50 = .ok (.iaload, 1) := by decide +kernel
theorem dX8_tallyPairs_51 : decode cX8_tallyPairs 51 = .ok (.iadd, 1) := by decide +kernel
theorem dX8_tallyPairs_52 : decode cX8_tallyPairs 52 = .ok (.istore 7, 2) := by decide +kernel
theorem dX8_tallyPairs_54 : decode cX8_tallyPairs 54 = .ok (.iload 6, 2) := by decide +kernel
theorem dX8_tallyPairs_56 : decode cX8_tallyPairs 56 = .ok (.iconst 0, 1) := by decide +kernel
theorem dX8_tallyPairs_57 : decode cX8_tallyPairs 57 = .ok (.bipush 31, 2) := by decide +kernel
theorem dX8_tallyPairs_59 : decode cX8_tallyPairs 59 = .ok (.invokestatic 147, 3) := by decide +kernel
theorem dX8_tallyPairs_62 : decode cX8_tallyPairs 62 = .ok (.ifCond .eq 174, 3) := by decide +kernel
theorem dX8_tallyPairs_65 : decode cX8_tallyPairs 65 = .ok (.iload 7, 2) := by decide +kernel
theorem dX8_tallyPairs_67 : decode cX8_tallyPairs 67 = .ok (.iconst 0, 1) := by decide +kernel
theorem dX8_tallyPairs_68 : decode cX8_tallyPairs 68 = .ok (.bipush 31, 2) := by decide +kernel
theorem dX8_tallyPairs_70 : decode cX8_tallyPairs 70 = .ok (.invokestatic 147, 3) := by decide +kernel
theorem dX8_tallyPairs_73 : decode cX8_tallyPairs 73 = .ok (.ifCond .eq 163, 3) := by decide +kernel
theorem dX8_tallyPairs_76 : decode cX8_tallyPairs 76 = .ok (.aload_n 1, 1) := by decide +kernel
theorem dX8_tallyPairs_77 : decode cX8_tallyPairs 77 = .ok (.getfield 43, 3) := by decide +kernel
theorem dX8_tallyPairs_80 : decode cX8_tallyPairs 80 = .ok (.iload_n 2, 1) := by decide +kernel
theorem dX8_tallyPairs_81 : decode cX8_tallyPairs 81 = .ok (.iload 5, 2) := by decide +kernel
theorem dX8_tallyPairs_83 : decode cX8_tallyPairs 83 = .ok (.iadd, 1) := by decide +kernel
theorem dX8_tallyPairs_84 : decode cX8_tallyPairs 84 = .ok (.iaload, 1) := by decide +kernel
theorem dX8_tallyPairs_85 : decode cX8_tallyPairs 85 = .ok (.aload_n 0, 1) := by decide +kernel
theorem dX8_tallyPairs_86 : decode cX8_tallyPairs 86 = .ok (.getfield 9, 3) := by decide +kernel
theorem dX8_tallyPairs_89 : decode cX8_tallyPairs 89 = .ok (.iload_n 3, 1) := by decide +kernel
theorem dX8_tallyPairs_90 : decode cX8_tallyPairs 90 = .ok (.iaload, 1) := by decide +kernel
theorem dX8_tallyPairs_91 : decode cX8_tallyPairs 91 = .ok (.invokestatic 102, 3) := by decide +kernel
theorem dX8_tallyPairs_94 : decode cX8_tallyPairs 94 = .ok (.aload_n 1, 1) := by decide +kernel
theorem dX8_tallyPairs_95 : decode cX8_tallyPairs 95 = .ok (.getfield 105, 3) := by decide +kernel
theorem dX8_tallyPairs_98 : decode cX8_tallyPairs 98 = .ok (.iload 6, 2) := by decide +kernel
theorem dX8_tallyPairs_100 : decode cX8_tallyPairs 100 = .ok (.iaload, 1) := by decide +kernel
theorem dX8_tallyPairs_101 : decode cX8_tallyPairs 101 = .ok (.iconst (-1), 1) := by decide +kernel
theorem dX8_tallyPairs_102 : decode cX8_tallyPairs 102 = .ok (.ixor, 1) := by decide +kernel
theorem dX8_tallyPairs_103 : decode cX8_tallyPairs 103 = .ok (.iand, 1) := by decide +kernel
theorem dX8_tallyPairs_104 : decode cX8_tallyPairs 104 = .ok (.istore 8, 2) := by decide +kernel
theorem dX8_tallyPairs_106 : decode cX8_tallyPairs 106 = .ok (.iload 8, 2) := by decide +kernel
theorem dX8_tallyPairs_108 : decode cX8_tallyPairs 108 = .ok (.aload_n 0, 1) := by decide +kernel
theorem dX8_tallyPairs_109 : decode cX8_tallyPairs 109 = .ok (.getfield 9, 3) := by decide +kernel
theorem dX8_tallyPairs_112 : decode cX8_tallyPairs 112 = .ok (.iload 4, 2) := by decide +kernel
theorem dX8_tallyPairs_114 : decode cX8_tallyPairs 114 = .ok (.iaload, 1) := by decide +kernel
theorem dX8_tallyPairs_115 : decode cX8_tallyPairs 115 = .ok (.invokestatic 102, 3) := by decide +kernel
theorem dX8_tallyPairs_118 : decode cX8_tallyPairs 118 = .ok (.aload_n 1, 1) := by decide +kernel
theorem dX8_tallyPairs_119 : decode cX8_tallyPairs 119 = .ok (.getfield 105, 3) := by decide +kernel
theorem dX8_tallyPairs_122 : decode cX8_tallyPairs 122 = .ok (.iload 7, 2) := by decide +kernel
theorem dX8_tallyPairs_124 : decode cX8_tallyPairs 124 = .ok (.iaload, 1) := by decide +kernel
theorem dX8_tallyPairs_125 : decode cX8_tallyPairs 125 = .ok (.iconst (-1), 1) := by decide +kernel
theorem dX8_tallyPairs_126 : decode cX8_tallyPairs 126 = .ok (.ixor, 1) := by decide +kernel
theorem dX8_tallyPairs_127 : decode cX8_tallyPairs 127 = .ok (.iand, 1) := by decide +kernel
theorem dX8_tallyPairs_128 : decode cX8_tallyPairs 128 = .ok (.istore 8, 2) := by decide +kernel
theorem dX8_tallyPairs_130 : decode cX8_tallyPairs 130 = .ok (.aload_n 0, 1) := by decide +kernel
theorem dX8_tallyPairs_131 : decode cX8_tallyPairs 131 = .ok (.getfield 18, 3) := by decide +kernel
theorem dX8_tallyPairs_134 : decode cX8_tallyPairs 134 = .ok (.iload_n 3, 1) := by decide +kernel
theorem dX8_tallyPairs_135 : decode cX8_tallyPairs 135 = .ok (.iaload, 1) := by decide +kernel
theorem dX8_tallyPairs_136 : decode cX8_tallyPairs 136 = .ok (.sipush 1024, 3) := by decide +kernel
theorem dX8_tallyPairs_139 : decode cX8_tallyPairs 139 = .ok (.imul, 1) := by decide +kernel
theorem dX8_tallyPairs_140 : decode cX8_tallyPairs 140 = .ok (.iload 6, 2) := by decide +kernel
theorem dX8_tallyPairs_142 : decode cX8_tallyPairs 142 = .ok (.bipush 32, 2) := by decide +kernel
theorem dX8_tallyPairs_144 : decode cX8_tallyPairs 144 = .ok (.imul, 1) := by decide +kernel
theorem dX8_tallyPairs_145 : decode cX8_tallyPairs 145 = .ok (.iadd, 1) := by decide +kernel
theorem dX8_tallyPairs_146 : decode cX8_tallyPairs 146 = .ok (.aload_n 0, 1) := by decide +kernel
theorem dX8_tallyPairs_147 : decode cX8_tallyPairs 147 = .ok (.getfield 9, 3) := by decide +kernel
theorem dX8_tallyPairs_150 : decode cX8_tallyPairs 150 = .ok (.iload 4, 2) := by decide +kernel
theorem dX8_tallyPairs_152 : decode cX8_tallyPairs 152 = .ok (.iaload, 1) := by decide +kernel
theorem dX8_tallyPairs_153 : decode cX8_tallyPairs 153 = .ok (.isub, 1) := by decide +kernel
theorem dX8_tallyPairs_154 : decode cX8_tallyPairs 154 = .ok (.istore 9, 2) := by decide +kernel
theorem dX8_tallyPairs_156 : decode cX8_tallyPairs 156 = .ok (.aload_n 0, 1) := by decide +kernel
theorem dX8_tallyPairs_157 : decode cX8_tallyPairs 157 = .ok (.getfield 18, 3) := by decide +kernel
theorem dX8_tallyPairs_160 : decode cX8_tallyPairs 160 = .ok (.iload 4, 2) := by decide +kernel
theorem dX8_tallyPairs_162 : decode cX8_tallyPairs 162 = .ok (.iaload, 1) := by decide +kernel
theorem dX8_tallyPairs_163 : decode cX8_tallyPairs 163 = .ok (.sipush 1024, 3) := by decide +kernel
theorem dX8_tallyPairs_166 : decode cX8_tallyPairs 166 = .ok (.imul, 1) := by decide +kernel
theorem dX8_tallyPairs_167 : decode cX8_tallyPairs 167 = .ok (.iload 7, 2) := by decide +kernel
theorem dX8_tallyPairs_169 : decode cX8_tallyPairs 169 = .ok (.bipush 32, 2) := by decide +kernel
theorem dX8_tallyPairs_171 : decode cX8_tallyPairs 171 = .ok (.imul, 1) := by decide +kernel
theorem dX8_tallyPairs_172 : decode cX8_tallyPairs 172 = .ok (.iadd, 1) := by decide +kernel
theorem dX8_tallyPairs_173 : decode cX8_tallyPairs 173 = .ok (.istore 10, 2) := by decide +kernel
theorem dX8_tallyPairs_175 : decode cX8_tallyPairs 175 = .ok (.iconst 0, 1) := by decide +kernel
theorem dX8_tallyPairs_176 : decode cX8_tallyPairs 176 = .ok (.istore 11, 2) := by decide +kernel
theorem dX8_tallyPairs_178 : decode cX8_tallyPairs 178 = .ok (.iload 8, 2) := by decide +kernel
theorem dX8_tallyPairs_180 : decode cX8_tallyPairs 180 = .ok (.ifCond .eq 56, 3) := by decide +kernel
theorem dX8_tallyPairs_183 : decode cX8_tallyPairs 183 = .ok (.iload 11, 2) := by decide +kernel
theorem dX8_tallyPairs_185 : decode cX8_tallyPairs 185 = .ok (.bipush 32, 2) := by decide +kernel
theorem dX8_tallyPairs_187 : decode cX8_tallyPairs 187 = .ok (.if_icmp .ge 49, 3) := by decide +kernel
theorem dX8_tallyPairs_190 : decode cX8_tallyPairs 190 = .ok (.iload 8, 2) := by decide +kernel
theorem dX8_tallyPairs_192 : decode cX8_tallyPairs 192 = .ok (.invokestatic 111, 3) := by decide +kernel
theorem dX8_tallyPairs_195 : decode cX8_tallyPairs 195 = .ok (.istore 12, 2) := by decide +kernel
theorem dX8_tallyPairs_197 : decode cX8_tallyPairs 197 = .ok (.iload 8, 2) := by decide +kernel
theorem dX8_tallyPairs_199 : decode cX8_tallyPairs 199 = .ok (.iload 8, 2) := by decide +kernel
theorem dX8_tallyPairs_201 : decode cX8_tallyPairs 201 = .ok (.iconst 1, 1) := by decide +kernel
theorem dX8_tallyPairs_202 : decode cX8_tallyPairs 202 = .ok (.isub, 1) := by decide +kernel
theorem dX8_tallyPairs_203 : decode cX8_tallyPairs 203 = .ok (.iand, 1) := by decide +kernel
theorem dX8_tallyPairs_204 : decode cX8_tallyPairs 204 = .ok (.istore 8, 2) := by decide +kernel
theorem dX8_tallyPairs_206 : decode cX8_tallyPairs 206 = .ok (.aload_n 0, 1) := by decide +kernel
theorem dX8_tallyPairs_207 : decode cX8_tallyPairs 207 = .ok (.aload_n 1, 1) := by decide +kernel
theorem dX8_tallyPairs_208 : decode cX8_tallyPairs 208 = .ok (.getfield 108, 3) := by decide +kernel
theorem dX8_tallyPairs_211 : decode cX8_tallyPairs 211 = .ok (.iload 9, 2) := by decide +kernel
theorem dX8_tallyPairs_213 : decode cX8_tallyPairs 213 = .ok (.iload 12, 2) := by decide +kernel
theorem dX8_tallyPairs_215 : decode cX8_tallyPairs 215 = .ok (.iadd, 1) := by decide +kernel
theorem dX8_tallyPairs_216 : decode cX8_tallyPairs 216 = .ok (.iaload, 1) := by decide +kernel
theorem dX8_tallyPairs_217 : decode cX8_tallyPairs 217 = .ok (.aload_n 1, 1) := by decide +kernel
theorem dX8_tallyPairs_218 : decode cX8_tallyPairs 218 = .ok (.getfield 108, 3) := by decide +kernel
theorem dX8_tallyPairs_221 : decode cX8_tallyPairs 221 = .ok (.iload 10, 2) := by decide +kernel
theorem dX8_tallyPairs_223 : decode cX8_tallyPairs 223 = .ok (.iload 12, 2) := by decide +kernel
theorem dX8_tallyPairs_225 : decode cX8_tallyPairs 225 = .ok (.iadd, 1) := by decide +kernel
theorem dX8_tallyPairs_226 : decode cX8_tallyPairs 226 = .ok (.iaload, 1) := by decide +kernel
theorem dX8_tallyPairs_227 : decode cX8_tallyPairs 227 = .ok (.invokevirtual 151, 3) := by decide +kernel
theorem dX8_tallyPairs_230 : decode cX8_tallyPairs 230 = .ok (.iinc 11 1, 3) := by decide +kernel
theorem dX8_tallyPairs_233 : decode cX8_tallyPairs 233 = .ok (.goto (-55), 3) := by decide +kernel
theorem dX8_tallyPairs_236 : decode cX8_tallyPairs 236 = .ok (.iinc 5 1, 3) := by decide +kernel
theorem dX8_tallyPairs_239 : decode cX8_tallyPairs 239 = .ok (.goto (-215), 3) := by decide +kernel
theorem dX8_tallyPairs_242 : decode cX8_tallyPairs 242 = .ok (.return_, 1) := by decide +kernel
theorem dX8_addPairs_0 : decode cX8_addPairs 0 = .ok (.iload_n 1, 1) := by decide +kernel
theorem dX8_addPairs_1 : decode cX8_addPairs 1 = .ok (.invokestatic 115, 3) := by decide +kernel
theorem dX8_addPairs_4 : decode cX8_addPairs 4 = .ok (.bipush 32, 2) := by decide +kernel
theorem dX8_addPairs_6 : decode cX8_addPairs 6 = .ok (.imul, 1) := by decide +kernel
theorem dX8_addPairs_7 : decode cX8_addPairs 7 = .ok (.istore_n 3, 1) := by decide +kernel
theorem dX8_addPairs_8 : decode cX8_addPairs 8 = .ok (.iload_n 2, 1) := by decide +kernel
theorem dX8_addPairs_9 : decode cX8_addPairs 9 = .ok (.invokestatic 115, 3) := by decide +kernel
theorem dX8_addPairs_12 : decode cX8_addPairs 12 = .ok (.istore 4, 2) := by decide +kernel
theorem dX8_addPairs_14 : decode cX8_addPairs 14 = .ok (.iload_n 1, 1) := by decide +kernel
theorem dX8_addPairs_15 : decode cX8_addPairs 15 = .ok (.invokestatic 118, 3) := by decide +kernel
theorem dX8_addPairs_18 : decode cX8_addPairs 18 = .ok (.istore 5, 2) := by decide +kernel
theorem dX8_addPairs_20 : decode cX8_addPairs 20 = .ok (.iload_n 2, 1) := by decide +kernel
theorem dX8_addPairs_21 : decode cX8_addPairs 21 = .ok (.invokestatic 118, 3) := by decide +kernel
theorem dX8_addPairs_24 : decode cX8_addPairs 24 = .ok (.istore 6, 2) := by decide +kernel
theorem dX8_addPairs_26 : decode cX8_addPairs 26 = .ok (.iload_n 3, 1) := by decide +kernel
theorem dX8_addPairs_27 : decode cX8_addPairs 27 = .ok (.ifCond .le 21, 3) := by decide +kernel
theorem dX8_addPairs_30 : decode cX8_addPairs 30 = .ok (.iload 4, 2) := by decide +kernel
theorem dX8_addPairs_32 : decode cX8_addPairs 32 = .ok (.ifCond .le 16, 3) := by decide +kernel
theorem dX8_addPairs_35 : decode cX8_addPairs 35 = .ok (.aload_n 0, 1) := by decide +kernel
theorem dX8_addPairs_36 : decode cX8_addPairs 36 = .ok (.getfield 24, 3) := by decide +kernel
theorem dX8_addPairs_39 : decode cX8_addPairs 39 = .ok (.iload_n 3, 1) := by decide +kernel
theorem dX8_addPairs_40 : decode cX8_addPairs 40 = .ok (.iload 4, 2) := by decide +kernel
theorem dX8_addPairs_42 : decode cX8_addPairs 42 = .ok (.iadd, 1) := by decide +kernel
theorem dX8_addPairs_43 : decode cX8_addPairs 43 = .ok (.dup2, 1) := by decide +kernel
theorem dX8_addPairs_44 : decode cX8_addPairs 44 = .ok (.iaload, 1) := by decide +kernel
theorem dX8_addPairs_45 : decode cX8_addPairs 45 = .ok (.iconst 1, 1) := by decide +kernel
theorem dX8_addPairs_46 : decode cX8_addPairs 46 = .ok (.iadd, 1) := by decide +kernel
theorem dX8_addPairs_47 : decode cX8_addPairs 47 = .ok (.iastore, 1) := by decide +kernel
theorem dX8_addPairs_48 : decode cX8_addPairs 48 = .ok (.iload_n 3, 1) := by decide +kernel
theorem dX8_addPairs_49 : decode cX8_addPairs 49 = .ok (.ifCond .le 18, 3) := by decide +kernel
theorem dX8_addPairs_52 : decode cX8_addPairs 52 = .ok (.iload 6, 2) := by decide +kernel
theorem dX8_addPairs_54 : decode cX8_addPairs 54 = .ok (.ifCond .eq 13, 3) := by decide +kernel
theorem dX8_addPairs_57 : decode cX8_addPairs 57 = .ok (.aload_n 0, 1) := by decide +kernel
theorem dX8_addPairs_58 : decode cX8_addPairs 58 = .ok (.getfield 24, 3) := by decide +kernel
theorem dX8_addPairs_61 : decode cX8_addPairs 61 = .ok (.iload_n 3, 1) := by decide +kernel
theorem dX8_addPairs_62 : decode cX8_addPairs 62 = .ok (.dup2, 1) := by decide +kernel
theorem dX8_addPairs_63 : decode cX8_addPairs 63 = .ok (.iaload, 1) := by decide +kernel
theorem dX8_addPairs_64 : decode cX8_addPairs 64 = .ok (.iconst 1, 1) := by decide +kernel
theorem dX8_addPairs_65 : decode cX8_addPairs 65 = .ok (.iadd, 1) := by decide +kernel
theorem dX8_addPairs_66 : decode cX8_addPairs 66 = .ok (.iastore, 1) := by decide +kernel
theorem dX8_addPairs_67 : decode cX8_addPairs 67 = .ok (.iload 5, 2) := by decide +kernel
theorem dX8_addPairs_69 : decode cX8_addPairs 69 = .ok (.ifCond .eq 19, 3) := by decide +kernel
theorem dX8_addPairs_72 : decode cX8_addPairs 72 = .ok (.iload 4, 2) := by decide +kernel
theorem dX8_addPairs_74 : decode cX8_addPairs 74 = .ok (.ifCond .le 14, 3) := by decide +kernel
theorem dX8_addPairs_77 : decode cX8_addPairs 77 = .ok (.aload_n 0, 1) := by decide +kernel
theorem dX8_addPairs_78 : decode cX8_addPairs 78 = .ok (.getfield 24, 3) := by decide +kernel
theorem dX8_addPairs_81 : decode cX8_addPairs 81 = .ok (.iload 4, 2) := by decide +kernel
theorem dX8_addPairs_83 : decode cX8_addPairs 83 = .ok (.dup2, 1) := by decide +kernel
theorem dX8_addPairs_84 : decode cX8_addPairs 84 = .ok (.iaload, 1) := by decide +kernel
theorem dX8_addPairs_85 : decode cX8_addPairs 85 = .ok (.iconst 1, 1) := by decide +kernel
theorem dX8_addPairs_86 : decode cX8_addPairs 86 = .ok (.iadd, 1) := by decide +kernel
theorem dX8_addPairs_87 : decode cX8_addPairs 87 = .ok (.iastore, 1) := by decide +kernel
theorem dX8_addPairs_88 : decode cX8_addPairs 88 = .ok (.iload 5, 2) := by decide +kernel
theorem dX8_addPairs_90 : decode cX8_addPairs 90 = .ok (.ifCond .eq 18, 3) := by decide +kernel
theorem dX8_addPairs_93 : decode cX8_addPairs 93 = .ok (.iload 6, 2) := by decide +kernel
theorem dX8_addPairs_95 : decode cX8_addPairs 95 = .ok (.ifCond .eq 13, 3) := by decide +kernel
theorem dX8_addPairs_98 : decode cX8_addPairs 98 = .ok (.aload_n 0, 1) := by decide +kernel
theorem dX8_addPairs_99 : decode cX8_addPairs 99 = .ok (.getfield 24, 3) := by decide +kernel
theorem dX8_addPairs_102 : decode cX8_addPairs 102 = .ok (.iconst 0, 1) := by decide +kernel
theorem dX8_addPairs_103 : decode cX8_addPairs 103 = .ok (.dup2, 1) := by decide +kernel
theorem dX8_addPairs_104 : decode cX8_addPairs 104 = .ok (.iaload, 1) := by decide +kernel
theorem dX8_addPairs_105 : decode cX8_addPairs 105 = .ok (.iconst 1, 1) := by decide +kernel
theorem dX8_addPairs_106 : decode cX8_addPairs 106 = .ok (.iadd, 1) := by decide +kernel
theorem dX8_addPairs_107 : decode cX8_addPairs 107 = .ok (.iastore, 1) := by decide +kernel
theorem dX8_addPairs_108 : decode cX8_addPairs 108 = .ok (.return_, 1) := by decide +kernel
theorem dX9_init_0 : decode cX9_init 0 = .ok (.aload_n 0, 1) := by decide +kernel
theorem dX9_init_1 : decode cX9_init 1 = .ok (.invokespecial 3, 3) := by decide +kernel
theorem dX9_init_4 : decode cX9_init 4 = .ok (.aload_n 0, 1) := by decide +kernel
theorem dX9_init_5 : decode cX9_init 5 = .ok (.sipush 220, 3) := by decide +kernel
theorem dX9_init_8 : decode cX9_init 8 = .ok (.newarray .int, 2) := by decide +kernel
theorem dX9_init_10 : decode cX9_init 10 = .ok (.putfield 9, 3) := by decide +kernel
theorem dX9_init_13 : decode cX9_init 13 = .ok (.return_, 1) := by decide +kernel
theorem dX9_put_0 : decode cX9_put 0 = .ok (.bipush 24, 2) := by decide +kernel
theorem dX9_put_2 : decode cX9_put 2 = .ok (.istore_n 2, 1) := by decide +kernel
theorem dX9_put_3 : decode cX9_put 3 = .ok (.iload_n 2, 1) := by decide +kernel
theorem dX9_put_4 : decode cX9_put 4 = .ok (.ifCond .lt 47, 3) := by decide +kernel
theorem dX9_put_7 : decode cX9_put 7 = .ok (.aload_n 0, 1) := by decide +kernel
theorem dX9_put_8 : decode cX9_put 8 = .ok (.getfield 15, 3) := by decide +kernel
theorem dX9_put_11 : decode cX9_put 11 = .ok (.aload_n 0, 1) := by decide +kernel
theorem dX9_put_12 : decode cX9_put 12 = .ok (.getfield 9, 3) := by decide +kernel
theorem dX9_put_15 : decode cX9_put 15 = .ok (.arraylength, 1) := by decide +kernel
theorem dX9_put_16 : decode cX9_put 16 = .ok (.if_icmp .ge 35, 3) := by decide +kernel
theorem dX9_put_19 : decode cX9_put 19 = .ok (.aload_n 0, 1) := by decide +kernel
theorem dX9_put_20 : decode cX9_put 20 = .ok (.getfield 9, 3) := by decide +kernel
theorem dX9_put_23 : decode cX9_put 23 = .ok (.aload_n 0, 1) := by decide +kernel
theorem dX9_put_24 : decode cX9_put 24 = .ok (.getfield 15, 3) := by decide +kernel
theorem dX9_put_27 : decode cX9_put 27 = .ok (.iload_n 1, 1) := by decide +kernel
theorem dX9_put_28 : decode cX9_put 28 = .ok (.iload_n 2, 1) := by decide +kernel
theorem dX9_put_29 : decode cX9_put 29 = .ok (.iushr, 1) := by decide +kernel
theorem dX9_put_30 : decode cX9_put 30 = .ok (.sipush 255, 3) := by decide +kernel
theorem dX9_put_33 : decode cX9_put 33 = .ok (.iand, 1) := by decide +kernel
theorem dX9_put_34 : decode cX9_put 34 = .ok (.iastore, 1) := by decide +kernel
theorem dX9_put_35 : decode cX9_put 35 = .ok (.aload_n 0, 1) := by decide +kernel
theorem dX9_put_36 : decode cX9_put 36 = .ok (.dup, 1) := by decide +kernel
theorem dX9_put_37 : decode cX9_put 37 = .ok (.getfield 15, 3) := by decide +kernel
theorem dX9_put_40 : decode cX9_put 40 = .ok (.iconst 1, 1) := by decide +kernel
theorem dX9_put_41 : decode cX9_put 41 = .ok (.iadd, 1) := by decide +kernel
theorem dX9_put_42 : decode cX9_put 42 = .ok (.putfield 15, 3) := by decide +kernel
theorem dX9_put_45 : decode cX9_put 45 = .ok (.iinc 2 (-8), 3) := by decide +kernel
theorem dX9_put_48 : decode cX9_put 48 = .ok (.goto (-45), 3) := by decide +kernel
theorem dX9_put_51 : decode cX9_put 51 = .ok (.return_, 1) := by decide +kernel
theorem dX9_at_0 : decode cX9_at 0 = .ok (.iload_n 1, 1) := by decide +kernel
theorem dX9_at_1 : decode cX9_at 1 = .ok (.ifCond .lt 20, 3) := by decide +kernel
theorem dX9_at_4 : decode cX9_at 4 = .ok (.iload_n 1, 1) := by decide +kernel
theorem dX9_at_5 : decode cX9_at 5 = .ok (.aload_n 0, 1) := by decide +kernel
theorem dX9_at_6 : decode cX9_at 6 = .ok (.getfield 15, 3) := by decide +kernel
theorem dX9_at_9 : decode cX9_at 9 = .ok (.if_icmp .ge 12, 3) := by decide +kernel
theorem dX9_at_12 : decode cX9_at 12 = .ok (.aload_n 0, 1) := by decide +kernel
theorem dX9_at_13 : decode cX9_at 13 = .ok (.getfield 9, 3) := by decide +kernel
theorem dX9_at_16 : decode cX9_at 16 = .ok (.iload_n 1, 1) := by decide +kernel
theorem dX9_at_17 : decode cX9_at 17 = .ok (.iaload, 1) := by decide +kernel
theorem dX9_at_18 : decode cX9_at 18 = .ok (.goto 4, 3) := by decide +kernel
theorem dX9_at_21 : decode cX9_at 21 = .ok (.iconst (-1), 1) := by decide +kernel
theorem dX9_at_22 : decode cX9_at 22 = .ok (.ireturn, 1) := by decide +kernel
theorem dX9_number_0 : decode cX9_number 0 = .ok (.iconst 4, 1) := by decide +kernel
theorem dX9_number_1 : decode cX9_number 1 = .ok (.iload_n 1, 1) := by decide +kernel
theorem dX9_number_2 : decode cX9_number 2 = .ok (.imul, 1) := by decide +kernel
theorem dX9_number_3 : decode cX9_number 3 = .ok (.istore_n 2, 1) := by decide +kernel
theorem dX9_number_4 : decode cX9_number 4 = .ok (.aload_n 0, 1) := by decide +kernel
theorem dX9_number_5 : decode cX9_number 5 = .ok (.iload_n 2, 1) := by decide +kernel
theorem dX9_number_6 : decode cX9_number 6 = .ok (.invokevirtual 19, 3) := by decide +kernel
theorem dX9_number_9 : decode cX9_number 9 = .ok (.bipush 24, 2) := by decide +kernel
theorem dX9_number_11 : decode cX9_number 11 = .ok (.ishl, 1) := by decide +kernel
theorem dX9_number_12 : decode cX9_number 12 = .ok (.aload_n 0, 1) := by decide +kernel
theorem dX9_number_13 : decode cX9_number 13 = .ok (.iload_n 2, 1) := by decide +kernel
theorem dX9_number_14 : decode cX9_number 14 = .ok (.iconst 1, 1) := by decide +kernel
theorem dX9_number_15 : decode cX9_number 15 = .ok (.iadd, 1) := by decide +kernel
theorem dX9_number_16 : decode cX9_number 16 = .ok (.invokevirtual 19, 3) := by decide +kernel
theorem dX9_number_19 : decode cX9_number 19 = .ok (.bipush 16, 2) := by decide +kernel
theorem dX9_number_21 : decode cX9_number 21 = .ok (.ishl, 1) := by decide +kernel
theorem dX9_number_22 : decode cX9_number 22 = .ok (.ior, 1) := by decide +kernel
theorem dX9_number_23 : decode cX9_number 23 = .ok (.aload_n 0, 1) := by decide +kernel
theorem dX9_number_24 : decode cX9_number 24 = .ok (.iload_n 2, 1) := by decide +kernel
theorem dX9_number_25 : decode cX9_number 25 = .ok (.iconst 2, 1) := by decide +kernel
theorem dX9_number_26 : decode cX9_number 26 = .ok (.iadd, 1) := by decide +kernel
theorem dX9_number_27 : decode cX9_number 27 = .ok (.invokevirtual 19, 3) := by decide +kernel
theorem dX9_number_30 : decode cX9_number 30 = .ok (.bipush 8, 2) := by decide +kernel
theorem dX9_number_32 : decode cX9_number 32 = .ok (.ishl, 1) := by decide +kernel
theorem dX9_number_33 : decode cX9_number 33 = .ok (.ior, 1) := by decide +kernel
theorem dX9_number_34 : decode cX9_number 34 = .ok (.aload_n 0, 1) := by decide +kernel
theorem dX9_number_35 : decode cX9_number 35 = .ok (.iload_n 2, 1) := by decide +kernel
theorem dX9_number_36 : decode cX9_number 36 = .ok (.iconst 3, 1) := by decide +kernel
theorem dX9_number_37 : decode cX9_number 37 = .ok (.iadd, 1) := by decide +kernel
theorem dX9_number_38 : decode cX9_number 38 = .ok (.invokevirtual 19, 3) := by decide +kernel
theorem dX9_number_41 : decode cX9_number 41 = .ok (.ior, 1) := by decide +kernel
theorem dX9_number_42 : decode cX9_number 42 = .ok (.ireturn, 1) := by decide +kernel
theorem dX9_badCoastPlace_0 : decode cX9_badCoastPlace 0 = .ok (.iconst 0, 1) := by decide +kernel
theorem dX9_badCoastPlace_1 : decode cX9_badCoastPlace 1 = .ok (.istore_n 2, 1) := by decide +kernel
theorem dX9_badCoastPlace_2 : decode cX9_badCoastPlace 2 = .ok (.iload_n 2, 1) := by decide +kernel
theorem dX9_badCoastPlace_3 : decode cX9_badCoastPlace 3 = .ok (.iload_n 1, 1) := by decide +kernel
theorem dX9_badCoastPlace_4 : decode cX9_badCoastPlace 4 = .ok (.if_icmp .ge 90, 3) := by decide +kernel
theorem dX9_badCoastPlace_7 : decode cX9_badCoastPlace 7 = .ok (.aload_n 0, 1) := by decide +kernel
theorem dX9_badCoastPlace_8 : decode cX9_badCoastPlace 8 = .ok (.iconst 2, 1) := by decide +kernel
theorem dX9_badCoastPlace_9 : decode cX9_badCoastPlace 9 = .ok (.iload_n 2, 1) := by decide +kernel
theorem dX9_badCoastPlace_10 : decode cX9_badCoastPlace 10 = .ok (.imul, 1) := by decide +kernel
theorem dX9_badCoastPlace_11 : decode cX9_badCoastPlace 11 = .ok (.invokevirtual 19, 3) := by decide +kernel
theorem dX9_badCoastPlace_14 : decode cX9_badCoastPlace 14 = .ok (.bipush 32, 2) := by decide +kernel
theorem dX9_badCoastPlace_16 : decode cX9_badCoastPlace 16 = .ok (.if_icmp .le 7, 3) := by decide +kernel
theorem dX9_badCoastPlace_19 : decode cX9_badCoastPlace 19 = .ok (.iconst 2, 1) := by decide +kernel
theorem dX9_badCoastPlace_20 : decode cX9_badCoastPlace 20 = .ok (.iload_n 2, 1) := by decide +kernel
theorem dX9_badCoastPlace_21 : decode cX9_badCoastPlace 21 = .ok (.imul, 1) := by decide +kernel
theorem dX9_badCoastPlace_22 : decode cX9_badCoastPlace 22 = .ok (.ireturn, 1) := by decide +kernel
theorem dX9_badCoastPlace_23 : decode cX9_badCoastPlace 23 = .ok (.aload_n 0, 1) := by decide +kernel
theorem dX9_badCoastPlace_24 : decode cX9_badCoastPlace 24 = .ok (.iconst 2, 1) := by decide +kernel
theorem dX9_badCoastPlace_25 : decode cX9_badCoastPlace 25 = .ok (.iload_n 2, 1) := by decide +kernel
theorem dX9_badCoastPlace_26 : decode cX9_badCoastPlace 26 = .ok (.imul, 1) := by decide +kernel
theorem dX9_badCoastPlace_27 : decode cX9_badCoastPlace 27 = .ok (.iconst 1, 1) := by decide +kernel
theorem dX9_badCoastPlace_28 : decode cX9_badCoastPlace 28 = .ok (.iadd, 1) := by decide +kernel
theorem dX9_badCoastPlace_29 : decode cX9_badCoastPlace 29 = .ok (.invokevirtual 19, 3) := by decide +kernel
theorem dX9_badCoastPlace_32 : decode cX9_badCoastPlace 32 = .ok (.bipush 32, 2) := by decide +kernel
theorem dX9_badCoastPlace_34 : decode cX9_badCoastPlace 34 = .ok (.if_icmp .le 9, 3) := by decide +kernel
theorem dX9_badCoastPlace_37 : decode cX9_badCoastPlace 37 = .ok (.iconst 2, 1) := by decide +kernel
theorem dX9_badCoastPlace_38 : decode cX9_badCoastPlace 38 = .ok (.iload_n 2, 1) := by decide +kernel
theorem dX9_badCoastPlace_39 : decode cX9_badCoastPlace 39 = .ok (.imul, 1) := by decide +kernel
theorem dX9_badCoastPlace_40 : decode cX9_badCoastPlace 40 = .ok (.iconst 1, 1) := by decide +kernel
theorem dX9_badCoastPlace_41 : decode cX9_badCoastPlace 41 = .ok (.iadd, 1) := by decide +kernel
theorem dX9_badCoastPlace_42 : decode cX9_badCoastPlace 42 = .ok (.ireturn, 1) := by decide +kernel
theorem dX9_badCoastPlace_43 : decode cX9_badCoastPlace 43 = .ok (.iload_n 2, 1) := by decide +kernel
theorem dX9_badCoastPlace_44 : decode cX9_badCoastPlace 44 = .ok (.ifCond .eq 14, 3) := by decide +kernel
theorem dX9_badCoastPlace_47 : decode cX9_badCoastPlace 47 = .ok (.aload_n 0, 1) := by decide +kernel
theorem dX9_badCoastPlace_48 : decode cX9_badCoastPlace 48 = .ok (.iload_n 2, 1) := by decide +kernel
theorem dX9_badCoastPlace_49 : decode cX9_badCoastPlace 49 = .ok (.iconst 1, 1) := by decide +kernel
theorem dX9_badCoastPlace_50 : decode cX9_badCoastPlace 50 = .ok (.isub, 1) := by decide +kernel
theorem dX9_badCoastPlace_51 : decode cX9_badCoastPlace 51 = .ok (.iload_n 2, 1) := by decide +kernel
theorem dX9_badCoastPlace_52 : decode cX9_badCoastPlace 52 = .ok (.invokevirtual 23, 3) := by decide +kernel
theorem dX9_badCoastPlace_55 : decode cX9_badCoastPlace 55 = .ok (.ifCond .eq 7, 3) := by decide +kernel
theorem dX9_badCoastPlace_58 : decode cX9_badCoastPlace 58 = .ok (.iconst 1, 1) := by decide +kernel
theorem dX9_badCoastPlace_59 : decode cX9_badCoastPlace 59 = .ok (.goto 4, 3) := by decide +kernel
theorem dX9_badCoastPlace_62 : decode cX9_badCoastPlace 62 = .ok (.iconst 0, 1) := by decide +kernel
theorem dX9_badCoastPlace_63 : decode cX9_badCoastPlace 63 = .ok (.istore_n 3, 1) := by decide +kernel
theorem dX9_badCoastPlace_64 : decode cX9_badCoastPlace 64 = .ok (.iload_n 3, 1) := by decide +kernel
theorem dX9_badCoastPlace_65 : decode cX9_badCoastPlace 65 = .ok (.ifCond .eq 19, 3) := by decide +kernel
theorem dX9_badCoastPlace_68 : decode cX9_badCoastPlace 68 = .ok (.iload_n 2, 1) := by decide +kernel
theorem dX9_badCoastPlace_69 : decode cX9_badCoastPlace 69 = .ok (.iload_n 1, 1) := by decide +kernel
theorem dX9_badCoastPlace_70 : decode cX9_badCoastPlace 70 = .ok (.iconst 1, 1) := by decide +kernel
theorem dX9_badCoastPlace_71 : decode cX9_badCoastPlace 71 = .ok (.isub, 1) := by decide +kernel
theorem dX9_badCoastPlace_72 : decode cX9_badCoastPlace 72 = .ok (.if_icmp .ne 16, 3) := by decide +kernel
theorem dX9_badCoastPlace_75 : decode cX9_badCoastPlace 75 = .ok (.aload_n 0, 1) := by decide +kernel
theorem dX9_badCoastPlace_76 : decode cX9_badCoastPlace 76 = .ok (.iload_n 2, 1) := by decide +kernel
theorem dX9_badCoastPlace_77 : decode cX9_badCoastPlace 77 = .ok (.iconst 0, 1) := by decide +kernel
theorem dX9_badCoastPlace_78 : decode cX9_badCoastPlace 78 = .ok (.invokevirtual 23, 3) := by decide +kernel
theorem dX9_badCoastPlace_81 : decode cX9_badCoastPlace 81 = .ok (.ifCond .ne 7, 3) := by decide +kernel
theorem dX9_badCoastPlace_84 : decode cX9_badCoastPlace 84 = .ok (.iconst 2, 1) := by decide +kernel
theorem dX9_badCoastPlace_85 : decode cX9_badCoastPlace 85 = .ok (.iload_n 2, 1) := by decide +kernel
theorem dX9_badCoastPlace_86 : decode cX9_badCoastPlace 86 = .ok (.imul, 1) := by decide +kernel
theorem dX9_badCoastPlace_87 : decode cX9_badCoastPlace 87 = .ok (.ireturn, 1) := by decide +kernel
theorem dX9_badCoastPlace_88 : decode cX9_badCoastPlace 88 = .ok (.iinc 2 1, 3) := by decide +kernel
theorem dX9_badCoastPlace_91 : decode cX9_badCoastPlace 91 = .ok (.goto (-89), 3) := by decide +kernel
theorem dX9_badCoastPlace_94 : decode cX9_badCoastPlace 94 = .ok (.iconst 2, 1) := by decide +kernel
theorem dX9_badCoastPlace_95 : decode cX9_badCoastPlace 95 = .ok (.iload_n 1, 1) := by decide +kernel
theorem dX9_badCoastPlace_96 : decode cX9_badCoastPlace 96 = .ok (.imul, 1) := by decide +kernel
theorem dX9_badCoastPlace_97 : decode cX9_badCoastPlace 97 = .ok (.istore_n 2, 1) := by decide +kernel
theorem dX9_badCoastPlace_98 : decode cX9_badCoastPlace 98 = .ok (.iload_n 2, 1) := by decide +kernel
theorem dX9_badCoastPlace_99 : decode cX9_badCoastPlace 99 = .ok (.iconst 3, 1) := by decide +kernel
theorem dX9_badCoastPlace_100 : decode cX9_badCoastPlace 100 = .ok (.iload_n 1, 1) := by decide +kernel
theorem dX9_badCoastPlace_101 : decode cX9_badCoastPlace 101 = .ok (.imul, 1) := by decide +kernel
theorem dX9_badCoastPlace_102 : decode cX9_badCoastPlace 102 = .ok (.if_icmp .ge 20, 3) := by decide +kernel
theorem dX9_badCoastPlace_105 : decode cX9_badCoastPlace 105 = .ok (.aload_n 0, 1) := by decide +kernel
theorem dX9_badCoastPlace_106 : decode cX9_badCoastPlace 106 = .ok (.iload_n 2, 1) := by decide +kernel
theorem dX9_badCoastPlace_107 : decode cX9_badCoastPlace 107 = .ok (.invokevirtual 19, 3) := by decide +kernel
theorem dX9_badCoastPlace_110 : decode cX9_badCoastPlace 110 = .ok (.iconst 2, 1) := by decide +kernel
theorem dX9_badCoastPlace_111 : decode cX9_badCoastPlace 111 = .ok (.if_icmp .le 5, 3) := by decide +kernel
theorem dX9_badCoastPlace_114 : decode cX9_badCoastPlace 114 = .ok (.iload_n 2, 1) := by decide +kernel
theorem dX9_badCoastPlace_115 : decode cX9_badCoastPlace 115 = .ok (.ireturn, 1) := by decide +kernel
theorem dX9_badCoastPlace_116 : decode cX9_badCoastPlace 116 = .ok (.iinc 2 1, 3) := by decide +kernel
theorem dX9_badCoastPlace_119 : decode cX9_badCoastPlace 119 = .ok (.goto (-21), 3) := by decide +kernel
theorem dX9_badCoastPlace_122 : decode cX9_badCoastPlace 122 = .ok (.iconst (-1), 1) := by decide +kernel
theorem dX9_badCoastPlace_123 : decode cX9_badCoastPlace 123 = .ok (.ireturn, 1) := by decide +kernel
theorem dX9_joins_0 : decode cX9_joins 0 = .ok (.aload_n 0, 1) := by decide +kernel
theorem dX9_joins_1 : decode cX9_joins 1 = .ok (.iconst 2, 1) := by decide +kernel
theorem dX9_joins_2 : decode cX9_joins 2 = .ok (.iload_n 1, 1) := by decide +kernel
theorem dX9_joins_3 : decode cX9_joins 3 = .ok (.imul, 1) := by decide +kernel
theorem dX9_joins_4 : decode cX9_joins 4 = .ok (.invokevirtual 19, 3) := by decide +kernel
theorem dX9_joins_7 : decode cX9_joins 7 = .ok (.aload_n 0, 1) := by decide +kernel
theorem dX9_joins_8 : decode cX9_joins 8 = .ok (.iconst 2, 1) := by decide +kernel
theorem dX9_joins_9 : decode cX9_joins 9 = .ok (.iload_n 2, 1) := by decide +kernel
theorem dX9_joins_10 : decode cX9_joins 10 = .ok (.imul, 1) := by decide +kernel
theorem dX9_joins_11 : decode cX9_joins 11 = .ok (.invokevirtual 19, 3) := by decide +kernel
theorem dX9_joins_14 : decode cX9_joins 14 = .ok (.if_icmp .ne 7, 3) := by decide +kernel
theorem dX9_joins_17 : decode cX9_joins 17 = .ok (.iconst 1, 1) := by decide +kernel
theorem dX9_joins_18 : decode cX9_joins 18 = .ok (.goto 4, 3) := by decide +kernel
theorem dX9_joins_21 : decode cX9_joins 21 = .ok (.iconst 0, 1) := by decide +kernel
theorem dX9_joins_22 : decode cX9_joins 22 = .ok (.istore_n 3, 1) := by decide +kernel
theorem dX9_joins_23 : decode cX9_joins 23 = .ok (.aload_n 0, 1) := by decide +kernel
theorem dX9_joins_24 : decode cX9_joins 24 = .ok (.iconst 2, 1) := by decide +kernel
theorem dX9_joins_25 : decode cX9_joins 25 = .ok (.iload_n 1, 1) := by decide +kernel
theorem dX9_joins_26 : decode cX9_joins 26 = .ok (.imul, 1) := by decide +kernel
theorem dX9_joins_27 : decode cX9_joins 27 = .ok (.iconst 1, 1) := by decide +kernel
theorem dX9_joins_28 : decode cX9_joins 28 = .ok (.iadd, 1) := by decide +kernel
theorem dX9_joins_29 : decode cX9_joins 29 = .ok (.invokevirtual 19, 3) := by decide +kernel
theorem dX9_joins_32 : decode cX9_joins 32 = .ok (.aload_n 0, 1) := by decide +kernel
theorem dX9_joins_33 : decode cX9_joins 33 = .ok (.iconst 2, 1) := by decide +kernel
theorem dX9_joins_34 : decode cX9_joins 34 = .ok (.iload_n 2, 1) := by decide +kernel
theorem dX9_joins_35 : decode cX9_joins 35 = .ok (.imul, 1) := by decide +kernel
theorem dX9_joins_36 : decode cX9_joins 36 = .ok (.iconst 1, 1) := by decide +kernel
theorem dX9_joins_37 : decode cX9_joins 37 = .ok (.iadd, 1) := by decide +kernel
theorem dX9_joins_38 : decode cX9_joins 38 = .ok (.invokevirtual 19, 3) := by decide +kernel
theorem dX9_joins_41 : decode cX9_joins 41 = .ok (.if_icmp .ne 7, 3) := by decide +kernel
theorem dX9_joins_44 : decode cX9_joins 44 = .ok (.iconst 1, 1) := by decide +kernel
theorem dX9_joins_45 : decode cX9_joins 45 = .ok (.goto 4, 3) := by decide +kernel
theorem dX9_joins_48 : decode cX9_joins 48 = .ok (.iconst 0, 1) := by decide +kernel
theorem dX9_joins_49 : decode cX9_joins 49 = .ok (.istore 4, 2) := by decide +kernel
theorem dX9_joins_51 : decode cX9_joins 51 = .ok (.iload_n 1, 1) := by decide +kernel
theorem dX9_joins_52 : decode cX9_joins 52 = .ok (.iconst 1, 1) := by decide +kernel
theorem dX9_joins_53 : decode cX9_joins 53 = .ok (.iand, 1) := by decide +kernel
theorem dX9_joins_54 : decode cX9_joins 54 = .ok (.ifCond .ne 20, 3) := by decide +kernel
theorem dX9_joins_57 : decode cX9_joins 57 = .ok (.iload 4, 2) := by decide +kernel
theorem dX9_joins_59 : decode cX9_joins 59 = .ok (.ifCond .eq 11, 3) := by decide +kernel
theorem dX9_joins_62 : decode cX9_joins 62 = .ok (.iload_n 3, 1) := by decide +kernel
theorem dX9_joins_63 : decode cX9_joins 63 = .ok (.ifCond .ne 7, 3) := by decide +kernel
theorem dX9_joins_66 : decode cX9_joins 66 = .ok (.iconst 1, 1) := by decide +kernel
theorem dX9_joins_67 : decode cX9_joins 67 = .ok (.goto 21, 3) := by decide +kernel
theorem dX9_joins_70 : decode cX9_joins 70 = .ok (.iconst 0, 1) := by decide +kernel
theorem dX9_joins_71 : decode cX9_joins 71 = .ok (.goto 17, 3) := by decide +kernel
theorem dX9_joins_74 : decode cX9_joins 74 = .ok (.iload_n 3, 1) := by decide +kernel
theorem dX9_joins_75 : decode cX9_joins 75 = .ok (.ifCond .eq 12, 3) := by decide +kernel
theorem dX9_joins_78 : decode cX9_joins 78 = .ok (.iload 4, 2) := by decide +kernel
theorem dX9_joins_80 : decode cX9_joins 80 = .ok (.ifCond .ne 7, 3) := by decide +kernel
theorem dX9_joins_83 : decode cX9_joins 83 = .ok (.iconst 1, 1) := by decide +kernel
theorem dX9_joins_84 : decode cX9_joins 84 = .ok (.goto 4, 3) := by decide +kernel
theorem dX9_joins_87 : decode cX9_joins 87 = .ok (.iconst 0, 1) := by decide +kernel
theorem dX9_joins_88 : decode cX9_joins 88 = .ok (.ireturn, 1) := by decide +kernel
theorem dX10_init_0 : decode cX10_init 0 = .ok (.aload_n 0, 1) := by decide +kernel
theorem dX10_init_1 : decode cX10_init 1 = .ok (.invokespecial 3, 3) := by decide +kernel
theorem dX10_init_4 : decode cX10_init 4 = .ok (.aload_n 0, 1) := by decide +kernel
theorem dX10_init_5 : decode cX10_init 5 = .ok (.sipush 4096, 3) := by decide +kernel
theorem dX10_init_8 : decode cX10_init 8 = .ok (.newarray .int, 2) := by decide +kernel
theorem dX10_init_10 : decode cX10_init 10 = .ok (.putfield 9, 3) := by decide +kernel
theorem dX10_init_13 : decode cX10_init 13 = .ok (.aload_n 0, 1) := by decide +kernel
theorem dX10_init_14 : decode cX10_init 14 = .ok (.bipush 100, 2) := by decide +kernel
theorem dX10_init_16 : decode cX10_init 16 = .ok (.newarray .int, 2) := by decide +kernel
theorem dX10_init_18 : decode cX10_init 18 = .ok (.putfield 15, 3) := by decide +kernel
theorem dX10_init_21 : decode cX10_init 21 = .ok (.return_, 1) := by decide +kernel
theorem dX10_seek_0 : decode cX10_seek 0 = .ok (.aload_n 0, 1) := by decide +kernel
theorem dX10_seek_1 : decode cX10_seek 1 = .ok (.getfield 18, 3) := by decide +kernel
theorem dX10_seek_4 : decode cX10_seek 4 = .ok (.iload 4, 2) := by decide +kernel
theorem dX10_seek_6 : decode cX10_seek 6 = .ok (.if_icmp .ne 20, 3) := by decide +kernel
theorem dX10_seek_9 : decode cX10_seek 9 = .ok (.aload_n 0, 1) := by decide +kernel
theorem dX10_seek_10 : decode cX10_seek 10 = .ok (.getfield 22, 3) := by decide +kernel
theorem dX10_seek_13 : decode cX10_seek 13 = .ok (.iload_n 2, 1) := by decide +kernel
theorem dX10_seek_14 : decode cX10_seek 14 = .ok (.if_icmp .ne 12, 3) := by decide +kernel
theorem dX10_seek_17 : decode cX10_seek 17 = .ok (.aload_n 0, 1) := by decide +kernel
theorem dX10_seek_18 : decode cX10_seek 18 = .ok (.getfield 25, 3) := by decide +kernel
theorem dX10_seek_21 : decode cX10_seek 21 = .ok (.iload_n 3, 1) := by decide +kernel
theorem dX10_seek_22 : decode cX10_seek 22 = .ok (.if_icmp .ne 4, 3) := by decide +kernel
theorem dX10_seek_25 : decode cX10_seek 25 = .ok (.return_, 1) := by decide +kernel
theorem dX10_seek_26 : decode cX10_seek 26 = .ok (.aload_n 0, 1) := by decide +kernel
theorem dX10_seek_27 : decode cX10_seek 27 = .ok (.iload 4, 2) := by decide +kernel
theorem dX10_seek_29 : decode cX10_seek 29 = .ok (.putfield 18, 3) := by decide +kernel
theorem dX10_seek_32 : decode cX10_seek 32 = .ok (.aload_n 0, 1) := by decide +kernel
theorem dX10_seek_33 : decode cX10_seek 33 = .ok (.iload_n 2, 1) := by decide +kernel
theorem dX10_seek_34 : decode cX10_seek 34 = .ok (.putfield 22, 3) := by decide +kernel
theorem dX10_seek_37 : decode cX10_seek 37 = .ok (.aload_n 0, 1) := by decide +kernel
theorem dX10_seek_38 : decode cX10_seek 38 = .ok (.iload_n 3, 1) := by decide +kernel
theorem dX10_seek_39 : decode cX10_seek 39 = .ok (.putfield 25, 3) := by decide +kernel
theorem dX10_seek_42 : decode cX10_seek 42 = .ok (.aload_n 0, 1) := by decide +kernel
theorem dX10_seek_43 : decode cX10_seek 43 = .ok (.iload_n 2, 1) := by decide +kernel
theorem dX10_seek_44 : decode cX10_seek 44 = .ok (.iload_n 3, 1) := by decide +kernel
theorem dX10_seek_45 : decode cX10_seek 45 = .ok (.if_icmp .ne 7, 3) := by decide +kernel
theorem dX10_seek_48 : decode cX10_seek 48 = .ok (.iconst 1, 1) := by decide +kernel
theorem dX10_seek_49 : decode cX10_seek 49 = .ok (.goto 4, 3) := by decide +kernel
theorem dX10_seek_52 : decode cX10_seek 52 = .ok (.iconst 0, 1) := by decide +kernel
theorem dX10_seek_53 : decode cX10_seek 53 = .ok (.putfield 28, 3) := by decide +kernel
theorem dX10_seek_56 : decode cX10_seek 56 = .ok (.aload_n 0, 1) := by decide +kernel
theorem dX10_seek_57 : decode cX10_seek 57 = .ok (.iconst 0, 1) := by decide +kernel
theorem dX10_seek_58 : decode cX10_seek 58 = .ok (.putfield 32, 3) := by decide +kernel
theorem dX10_seek_61 : decode cX10_seek 61 = .ok (.aload_n 0, 1) := by decide +kernel
theorem dX10_seek_62 : decode cX10_seek 62 = .ok (.iconst 0, 1) := by decide +kernel
theorem dX10_seek_63 : decode cX10_seek 63 = .ok (.putfield 35, 3) := by decide +kernel
theorem dX10_seek_66 : decode cX10_seek 66 = .ok (.aload_n 0, 1) := by decide +kernel
theorem dX10_seek_67 : decode cX10_seek 67 = .ok (.getfield 28, 3) := by decide +kernel
theorem dX10_seek_70 : decode cX10_seek 70 = .ok (.ifCond .eq 4, 3) := by decide +kernel
theorem dX10_seek_73 : decode cX10_seek 73 = .ok (.return_, 1) := by decide +kernel
theorem dX10_seek_74 : decode cX10_seek 74 = .ok (.aload_n 0, 1) := by decide +kernel
theorem dX10_seek_75 : decode cX10_seek 75 = .ok (.getfield 9, 3) := by decide +kernel
theorem dX10_seek_78 : decode cX10_seek 78 = .ok (.iconst 0, 1) := by decide +kernel
theorem dX10_seek_79 : decode cX10_seek 79 = .ok (.invokestatic 38, 3) := by decide +kernel
theorem dX10_seek_82 : decode cX10_seek 82 = .ok (.iconst 1, 1) := by decide +kernel
theorem dX10_seek_83 : decode cX10_seek 83 = .ok (.istore 5, 2) := by decide +kernel
theorem dX10_seek_85 : decode cX10_seek 85 = .ok (.iconst 0, 1) := by decide +kernel
theorem dX10_seek_86 : decode cX10_seek 86 = .ok (.istore 6, 2) := by decide +kernel
theorem dX10_seek_88 : decode cX10_seek 88 = .ok (.iload 5, 2) := by decide +kernel
theorem dX10_seek_90 : decode cX10_seek 90 = .ok (.ifCond .eq 50, 3) := by decide +kernel
theorem dX10_seek_93 : decode cX10_seek 93 = .ok (.aload_n 0, 1) := by decide +kernel
theorem dX10_seek_94 : decode cX10_seek 94 = .ok (.getfield 28, 3) := by decide +kernel
theorem dX10_seek_97 : decode cX10_seek 97 = .ok (.ifCond .ne 43, 3) := by decide +kernel
theorem dX10_seek_100 : decode cX10_seek 100 = .ok (.iload 6, 2) := by decide +kernel
theorem dX10_seek_102 : decode cX10_seek 102 = .ok (.sipush 1024, 3) := by decide +kernel
theorem dX10_seek_105 : decode cX10_seek 105 = .ok (.if_icmp .ge 35, 3) := by decide +kernel
theorem dX10_seek_108 : decode cX10_seek 108 = .ok (.aload_n 0, 1) := by decide +kernel
theorem dX10_seek_109 : decode cX10_seek 109 = .ok (.aload_n 1, 1) := by decide +kernel
theorem dX10_seek_110 : decode cX10_seek 110 = .ok (.iload 6, 2) := by decide +kernel
theorem dX10_seek_112 : decode cX10_seek 112 = .ok (.invokevirtual 44, 3) := by decide +kernel
theorem dX10_seek_115 : decode cX10_seek 115 = .ok (.istore 5, 2) := by decide +kernel
theorem dX10_seek_117 : decode cX10_seek 117 = .ok (.aload_n 0, 1) := by decide +kernel
theorem dX10_seek_118 : decode cX10_seek 118 = .ok (.aload_n 0, 1) := by decide +kernel
theorem dX10_seek_119 : decode cX10_seek 119 = .ok (.invokevirtual 48, 3) := by decide +kernel
theorem dX10_seek_122 : decode cX10_seek 122 = .ok (.iconst (-1), 1) := by decide +kernel
theorem dX10_seek_123 : decode cX10_seek 123 = .ok (.if_icmp .eq 7, 3) := by decide +kernel
theorem dX10_seek_126 : decode cX10_seek 126 = .ok (.iconst 1, 1) := by decide +kernel
theorem dX10_seek_127 : decode cX10_seek 127 = .ok (.goto 4, 3) := by decide +kernel
theorem dX10_seek_130 : decode cX10_seek 130 = .ok (.iconst 0, 1) := by decide +kernel
theorem dX10_seek_131 : decode cX10_seek 131 = .ok (.putfield 28, 3) := by decide +kernel
theorem dX10_seek_134 : decode cX10_seek 134 = .ok (.iinc 6 1, 3) := by decide +kernel
theorem dX10_seek_137 : decode cX10_seek 137 = .ok (.goto (-49), 3) := by decide +kernel
theorem dX10_seek_140 : decode cX10_seek 140 = .ok (.aload_n 0, 1) := by decide +kernel
theorem dX10_seek_141 : decode cX10_seek 141 = .ok (.getfield 28, 3) := by decide +kernel
theorem dX10_seek_144 : decode cX10_seek 144 = .ok (.ifCond .eq 7, 3) := by decide +kernel
theorem dX10_seek_147 : decode cX10_seek 147 = .ok (.aload_n 0, 1) := by decide +kernel
theorem dX10_seek_148 : decode cX10_seek 148 = .ok (.invokevirtual 52, 3) := by decide +kernel
theorem dX10_seek_151 : decode cX10_seek 151 = .ok (.return_, 1) := by decide +kernel
theorem dX10_addTurn_0 : decode cX10_addTurn 0 = .ok (.iconst 0, 1) := by decide +kernel
theorem dX10_addTurn_1 : decode cX10_addTurn 1 = .ok (.istore_n 3, 1) := by decide +kernel
theorem dX10_addTurn_2 : decode cX10_addTurn 2 = .ok (.iconst 0, 1) := by decide +kernel
theorem dX10_addTurn_3 : decode cX10_addTurn 3 = .ok (.istore 4, 2) := by decide +kernel
theorem dX10_addTurn_5 : decode cX10_addTurn 5 = .ok (.iload 4, 2) := by decide +kernel
theorem dX10_addTurn_7 : decode cX10_addTurn 7 = .ok (.iconst 4, 1) := by decide +kernel
theorem dX10_addTurn_8 : decode cX10_addTurn 8 = .ok (.if_icmp .ge 103, 3) := by decide +kernel
theorem dX10_addTurn_11 : decode cX10_addTurn 11 = .ok (.iconst 0, 1) := by decide +kernel
theorem dX10_addTurn_12 : decode cX10_addTurn 12 = .ok (.istore 5, 2) := by decide +kernel
theorem dX10_addTurn_14 : decode cX10_addTurn 14 = .ok (.iload 5, 2) := by decide +kernel
theorem dX10_addTurn_16 : decode cX10_addTurn 16 = .ok (.sipush 1024, 3) := by decide +kernel
theorem dX10_addTurn_19 : decode cX10_addTurn 19 = .ok (.if_icmp .ge 86, 3) := by decide +kernel
theorem dX10_addTurn_22 : decode cX10_addTurn 22 = .ok (.iload 4, 2) := by decide +kernel
theorem dX10_addTurn_24 : decode cX10_addTurn 24 = .ok (.iconst 2, 1) := by decide +kernel
theorem dX10_addTurn_25 : decode cX10_addTurn 25 = .ok (.if_icmp .ge 12, 3) := by decide +kernel
theorem dX10_addTurn_28 : decode cX10_addTurn 28 = .ok (.sipush 1023, 3) := by decide +kernel
theorem dX10_addTurn_31 : decode cX10_addTurn 31 = .ok (.iload 5, 2) := by decide +kernel
theorem dX10_addTurn_33 : decode cX10_addTurn 33 = .ok (.isub, 1) := by decide +kernel
theorem dX10_addTurn_34 : decode cX10_addTurn 34 = .ok (.goto 5, 3) := by decide +kernel
theorem dX10_addTurn_37 : decode cX10_addTurn 37 = .ok (.iload 5, 2) := by decide +kernel
theorem dX10_addTurn_39 : decode cX10_addTurn 39 = .ok (.istore 6, 2) := by decide +kernel
theorem dX10_addTurn_41 : decode cX10_addTurn 41 = .ok (.aload_n 0, 1) := by decide +kernel
theorem dX10_addTurn_42 : decode cX10_addTurn 42 = .ok (.getfield 9, 3) := by decide +kernel
theorem dX10_addTurn_45 : decode cX10_addTurn 45 = .ok (.iload 4, 2) := by decide +kernel
theorem dX10_addTurn_47 : decode cX10_addTurn 47 = .ok (.sipush 1024, 3) := by decide +kernel
theorem dX10_addTurn_50 : decode cX10_addTurn 50 = .ok (.imul, 1) := by decide +kernel
theorem dX10_addTurn_51 : decode cX10_addTurn 51 = .ok (.iload 6, 2) := by decide +kernel
theorem dX10_addTurn_53 : decode cX10_addTurn 53 = .ok (.iadd, 1) := by decide +kernel
theorem dX10_addTurn_54 : decode cX10_addTurn 54 = .ok (.iaload, 1) := by decide +kernel
theorem dX10_addTurn_55 : decode cX10_addTurn 55 = .ok (.ifCond .ne 44, 3) := by decide +kernel
theorem dX10_addTurn_58 : decode cX10_addTurn 58 = .ok (.aload_n 0, 1) := by decide +kernel
theorem dX10_addTurn_59 : decode cX10_addTurn 59 = .ok (.aload_n 1, 1) := by decide +kernel
theorem dX10_addTurn_60 : decode cX10_addTurn 60 = .ok (.iload 4, 2) := by decide +kernel
theorem dX10_addTurn_62 : decode cX10_addTurn 62 = .ok (.iload 6, 2) := by decide +kernel
theorem dX10_addTurn_64 : decode cX10_addTurn 64 = .ok (.iload_n 2, 1) := by decide +kernel
theorem dX10_addTurn_65 : decode cX10_addTurn 65 = .ok (.invokevirtual 55, 3) := by decide +kernel
theorem dX10_addTurn_68 : decode cX10_addTurn 68 = .ok (.istore 7, 2) := by decide +kernel
theorem dX10_addTurn_70 : decode cX10_addTurn 70 = .ok (.iload 7, 2) := by decide +kernel
theorem dX10_addTurn_72 : decode cX10_addTurn 72 = .ok (.ifCond .le 27, 3) := by decide +kernel
theorem dX10_addTurn_75 : decode cX10_addTurn 75 = .ok (.aload_n 0, 1) := by decide +kernel
theorem dX10_addTurn_76 : decode cX10_addTurn 76 = .ok (.getfield 9, 3) := by decide +kernel
theorem dX10_addTurn_79 : decode cX10_addTurn 79 = .ok (.iload 4, 2) := by decide +kernel
theorem dX10_addTurn_81 : decode cX10_addTurn 81 = .ok (.sipush 1024, 3) := by decide +kernel
theorem dX10_addTurn_84 : decode cX10_addTurn 84 = .ok (.imul, 1) := by decide +kernel
theorem dX10_addTurn_85 : decode cX10_addTurn 85 = .ok (.iload 6, 2) := by decide +kernel
theorem dX10_addTurn_87 : decode cX10_addTurn 87 = .ok (.iadd, 1) := by decide +kernel
theorem dX10_addTurn_88 : decode cX10_addTurn 88 = .ok (.iload_n 2, 1) := by decide +kernel
theorem dX10_addTurn_89 : decode cX10_addTurn 89 = .ok (.sipush 2048, 3) := by decide +kernel
theorem dX10_addTurn_92 : decode cX10_addTurn 92 = .ok (.imul, 1) := by decide +kernel
theorem dX10_addTurn_93 : decode cX10_addTurn 93 = .ok (.iload 7, 2) := by decide +kernel
theorem dX10_addTurn_95 : decode cX10_addTurn 95 = .ok (.iadd, 1) := by decide +kernel
theorem dX10_addTurn_96 : decode cX10_addTurn 96 = .ok (.iastore, 1) := by decide +kernel
theorem dX10_addTurn_97 : decode cX10_addTurn 97 = .ok (.iconst 1, 1) := by decide +kernel
theorem dX10_addTurn_98 : decode cX10_addTurn 98 = .ok (.istore_n 3, 1) := by decide +kernel
theorem dX10_addTurn_99 : decode cX10_addTurn 99 = .ok (.iinc 5 1, 3) := by decide +kernel
theorem dX10_addTurn_102 : decode cX10_addTurn 102 = .ok (.goto (-88), 3) := by decide +kernel
theorem dX10_addTurn_105 : decode cX10_addTurn 105 = .ok (.iinc 4 1, 3) := by decide +kernel
theorem dX10_addTurn_108 : decode cX10_addTurn 108 = .ok (.goto (-103), 3) := by decide +kernel
theorem dX10_addTurn_111 : decode cX10_addTurn 111 = .ok (.iload_n 3, 1) := by decide +kernel
theorem dX10_addTurn_112 : decode cX10_addTurn 112 = .ok (.ireturn, 1) := by decide +kernel
theorem dX10_stepsFrom_0 : decode cX10_stepsFrom 0 = .ok (.iload_n 3, 1) := by decide +kernel
theorem dX10_stepsFrom_1 : decode cX10_stepsFrom 1 = .ok (.bipush 31, 2) := by decide +kernel
theorem dX10_stepsFrom_3 : decode cX10_stepsFrom 3 = .ok (.iand, 1) := by decide +kernel
theorem dX10_stepsFrom_4 : decode cX10_stepsFrom 4 = .ok (.getstatic 59, 3) := by decide +kernel
theorem dX10_stepsFrom_7 : decode cX10_stepsFrom 7 = .ok (.iload_n 2, 1) := by decide +kernel
theorem dX10_stepsFrom_8 : decode cX10_stepsFrom 8 = .ok (.iaload, 1) := by decide +kernel
theorem dX10_stepsFrom_9 : decode cX10_stepsFrom 9 = .ok (.iadd, 1) := by decide +kernel
theorem dX10_stepsFrom_10 : decode cX10_stepsFrom 10 = .ok (.istore 5, 2) := by decide +kernel
theorem dX10_stepsFrom_12 : decode cX10_stepsFrom 12 = .ok (.iload_n 3, 1) := by decide +kernel
theorem dX10_stepsFrom_13 : decode cX10_stepsFrom 13 = .ok (.iconst 5, 1) := by decide +kernel
theorem dX10_stepsFrom_14 : decode cX10_stepsFrom 14 = .ok (.ishr, 1) := by decide +kernel
theorem dX10_stepsFrom_15 : decode cX10_stepsFrom 15 = .ok (.getstatic 62, 3) := by decide +kernel
theorem dX10_stepsFrom_18 : decode cX10_stepsFrom 18 = .ok (.iload_n 2, 1) := by decide +kernel
theorem dX10_stepsFrom_19 : decode cX10_stepsFrom 19 = .ok (.iaload, 1) := by decide +kernel
theorem dX10_stepsFrom_20 : decode cX10_stepsFrom 20 = .ok (.iadd, 1) := by decide +kernel
theorem dX10_stepsFrom_21 : decode cX10_stepsFrom 21 = .ok (.istore 6, 2) := by decide +kernel
theorem dX10_stepsFrom_23 : decode cX10_stepsFrom 23 = .ok (.aload_n 1, 1) := by decide +kernel
theorem dX10_stepsFrom_24 : decode cX10_stepsFrom 24 = .ok (.iload_n 3, 1) := by decide +kernel
theorem dX10_stepsFrom_25 : decode cX10_stepsFrom 25 = .ok (.iconst 5, 1) := by decide +kernel
theorem dX10_stepsFrom_26 : decode cX10_stepsFrom 26 = .ok (.ishr, 1) := by decide +kernel
theorem dX10_stepsFrom_27 : decode cX10_stepsFrom 27 = .ok (.iaload, 1) := by decide +kernel
theorem dX10_stepsFrom_28 : decode cX10_stepsFrom 28 = .ok (.iload_n 3, 1) := by decide +kernel
theorem dX10_stepsFrom_29 : decode cX10_stepsFrom 29 = .ok (.bipush 31, 2) := by decide +kernel
theorem dX10_stepsFrom_31 : decode cX10_stepsFrom 31 = .ok (.iand, 1) := by decide +kernel
theorem dX10_stepsFrom_32 : decode cX10_stepsFrom 32 = .ok (.iushr, 1) := by decide +kernel
theorem dX10_stepsFrom_33 : decode cX10_stepsFrom 33 = .ok (.iconst 1, 1) := by decide +kernel
theorem dX10_stepsFrom_34 : decode cX10_stepsFrom 34 = .ok (.iand, 1) := by decide +kernel
theorem dX10_stepsFrom_35 : decode cX10_stepsFrom 35 = .ok (.iconst 1, 1) := by decide +kernel
theorem dX10_stepsFrom_36 : decode cX10_stepsFrom 36 = .ok (.if_icmp .ne 7, 3) := by decide +kernel
theorem dX10_stepsFrom_39 : decode cX10_stepsFrom 39 = .ok (.iconst 1, 1) := by decide +kernel
theorem dX10_stepsFrom_40 : decode cX10_stepsFrom 40 = .ok (.goto 4, 3) := by decide +kernel
theorem dX10_stepsFrom_43 : decode cX10_stepsFrom 43 = .ok (.iconst 0, 1) := by decide +kernel
theorem dX10_stepsFrom_44 : decode cX10_stepsFrom 44 = .ok (.istore 7, 2) := by decide +kernel
theorem dX10_stepsFrom_46 : decode cX10_stepsFrom 46 = .ok (.iload 7, 2) := by decide +kernel
theorem dX10_stepsFrom_48 : decode cX10_stepsFrom 48 = .ok (.ifCond .eq 25, 3) := by decide +kernel
theorem dX10_stepsFrom_51 : decode cX10_stepsFrom 51 = .ok (.iload 5, 2) := by decide +kernel
theorem dX10_stepsFrom_53 : decode cX10_stepsFrom 53 = .ok (.iload 6, 2) := by decide +kernel
theorem dX10_stepsFrom_55 : decode cX10_stepsFrom 55 = .ok (.invokestatic 65, 3) := by decide +kernel
theorem dX10_stepsFrom_58 : decode cX10_stepsFrom 58 = .ok (.ifCond .eq 15, 3) := by decide +kernel
theorem dX10_stepsFrom_61 : decode cX10_stepsFrom 61 = .ok (.aload_n 1, 1) := by decide +kernel
theorem dX10_stepsFrom_62 : decode cX10_stepsFrom 62 = .ok (.iload 6, 2) := by decide +kernel
theorem dX10_stepsFrom_64 : decode cX10_stepsFrom 64 = .ok (.iaload, 1) := by decide +kernel
theorem dX10_stepsFrom_65 : decode cX10_stepsFrom 65 = .ok (.iload 5, 2) := by decide +kernel
theorem dX10_stepsFrom_67 : decode cX10_stepsFrom 67 = .ok (.iushr, 1) := by decide +kernel
theorem dX10_stepsFrom_68 : decode cX10_stepsFrom 68 = .ok (.iconst 1, 1) := by decide +kernel
theorem dX10_stepsFrom_69 : decode cX10_stepsFrom 69 = .ok (.iand, 1) := by decide +kernel
theorem dX10_stepsFrom_70 : decode cX10_stepsFrom 70 = .ok (.ifCond .ne 5, 3) := by decide +kernel
theorem dX10_stepsFrom_73 : decode cX10_stepsFrom 73 = .ok (.iconst 0, 1) := by decide +kernel
theorem dX10_stepsFrom_74 : decode cX10_stepsFrom 74 = .ok (.ireturn, 1) := by decide +kernel
theorem dX10_stepsFrom_75 : decode cX10_stepsFrom 75 = .ok (.iload 6, 2) := by decide +kernel
theorem dX10_stepsFrom_77 : decode cX10_stepsFrom 77 = .ok (.bipush 32, 2) := by decide +kernel
theorem dX10_stepsFrom_79 : decode cX10_stepsFrom 79 = .ok (.imul, 1) := by decide +kernel
theorem dX10_stepsFrom_80 : decode cX10_stepsFrom 80 = .ok (.iload 5, 2) := by decide +kernel
theorem dX10_stepsFrom_82 : decode cX10_stepsFrom 82 = .ok (.iadd, 1) := by decide +kernel
theorem dX10_stepsFrom_83 : decode cX10_stepsFrom 83 = .ok (.istore 8, 2) := by decide +kernel
theorem dX10_stepsFrom_85 : decode cX10_stepsFrom 85 = .ok (.iload 8, 2) := by decide +kernel
theorem dX10_stepsFrom_87 : decode cX10_stepsFrom 87 = .ok (.aload_n 0, 1) := by decide +kernel
theorem dX10_stepsFrom_88 : decode cX10_stepsFrom 88 = .ok (.getfield 25, 3) := by decide +kernel
theorem dX10_stepsFrom_91 : decode cX10_stepsFrom 91 = .ok (.if_icmp .ne 5, 3) := by decide +kernel
theorem dX10_stepsFrom_94 : decode cX10_stepsFrom 94 = .ok (.iconst 1, 1) := by decide +kernel
theorem dX10_stepsFrom_95 : decode cX10_stepsFrom 95 = .ok (.ireturn, 1) := by decide +kernel
theorem dX10_stepsFrom_96 : decode cX10_stepsFrom 96 = .ok (.iconst 0, 1) := by decide +kernel
theorem dX10_stepsFrom_97 : decode cX10_stepsFrom 97 = .ok (.istore 9, 2) := by decide +kernel
theorem dX10_stepsFrom_99 : decode cX10_stepsFrom 99 = .ok (.iconst 0, 1) := by decide +kernel
theorem dX10_stepsFrom_100 : decode cX10_stepsFrom 100 = .ok (.istore 10, 2) := by decide +kernel
theorem dX10_stepsFrom_102 : decode cX10_stepsFrom 102 = .ok (.iload 10, 2) := by decide +kernel
theorem dX10_stepsFrom_104 : decode cX10_stepsFrom 104 = .ok (.iconst 4, 1) := by decide +kernel
theorem dX10_stepsFrom_105 : decode cX10_stepsFrom 105 = .ok (.if_icmp .ge 83, 3) := by decide +kernel
theorem dX10_stepsFrom_108 : decode cX10_stepsFrom 108 = .ok (.aload_n 0, 1) := by decide +kernel
theorem dX10_stepsFrom_109 : decode cX10_stepsFrom 109 = .ok (.getfield 9, 3) := by decide +kernel
theorem dX10_stepsFrom_112 : decode cX10_stepsFrom 112 = .ok (.iload 10, 2) := by decide +kernel
theorem dX10_stepsFrom_114 : decode cX10_stepsFrom 114 = .ok (.sipush 1024, 3) := by decide +kernel
theorem dX10_stepsFrom_117 : decode cX10_stepsFrom 117 = .ok (.imul, 1) := by decide +kernel
theorem dX10_stepsFrom_118 : decode cX10_stepsFrom 118 = .ok (.iload 8, 2) := by decide +kernel
theorem dX10_stepsFrom_120 : decode cX10_stepsFrom 120 = .ok (.iadd, 1) := by decide +kernel
theorem dX10_stepsFrom_121 : decode cX10_stepsFrom 121 = .ok (.iaload, 1) := by decide +kernel
theorem dX10_stepsFrom_122 : decode cX10_stepsFrom 122 = .ok (.istore 11, 2) := by decide +kernel
theorem dX10_stepsFrom_124 : decode cX10_stepsFrom 124 = .ok (.iload 11, 2) := by decide +kernel
theorem dX10_stepsFrom_126 : decode cX10_stepsFrom 126 = .ok (.sipush 2048, 3) := by decide +kernel
theorem dX10_stepsFrom_129 : decode cX10_stepsFrom 129 = .ok (.irem, 1) := by decide +kernel
theorem dX10_stepsFrom_130 : decode cX10_stepsFrom 130 = .ok (.iconst 1, 1) := by decide +kernel
theorem dX10_stepsFrom_131 : decode cX10_stepsFrom 131 = .ok (.iadd, 1) := by decide +kernel
theorem dX10_stepsFrom_132 : decode cX10_stepsFrom 132 = .ok (.istore 12, 2) := by decide +kernel
theorem dX10_stepsFrom_134 : decode cX10_stepsFrom 134 = .ok (.iload 11, 2) := by decide +kernel
theorem dX10_stepsFrom_136 : decode cX10_stepsFrom 136 = .ok (.ifCond .eq 46, 3) := by decide +kernel
theorem dX10_stepsFrom_139 : decode cX10_stepsFrom 139 = .ok (.iload 11, 2) := by decide +kernel
theorem dX10_stepsFrom_141 : decode cX10_stepsFrom 141 = .ok (.sipush 2048, 3) := by decide +kernel
theorem dX10_stepsFrom_144 : decode cX10_stepsFrom 144 = .ok (.idiv, 1) := by decide +kernel
theorem dX10_stepsFrom_145 : decode cX10_stepsFrom 145 = .ok (.iload 10, 2) := by decide +kernel
theorem dX10_stepsFrom_147 : decode cX10_stepsFrom 147 = .ok (.iload_n 2, 1) := by decide +kernel
theorem dX10_stepsFrom_148 : decode cX10_stepsFrom 148 = .ok (.if_icmp .ne 8, 3) := by decide +kernel
theorem dX10_stepsFrom_151 : decode cX10_stepsFrom 151 = .ok (.iload 4, 2) := by decide +kernel
theorem dX10_stepsFrom_153 : decode cX10_stepsFrom 153 = .ok (.goto 7, 3) := by decide +kernel
theorem dX10_stepsFrom_156 : decode cX10_stepsFrom 156 = .ok (.iload 4, 2) := by decide +kernel
theorem dX10_stepsFrom_158 : decode cX10_stepsFrom 158 = .ok (.iconst 1, 1) := by decide +kernel
theorem dX10_stepsFrom_159 : decode cX10_stepsFrom 159 = .ok (.isub, 1) := by decide +kernel
theorem dX10_stepsFrom_160 : decode cX10_stepsFrom 160 = .ok (.if_icmp .ne 22, 3) := by decide +kernel
theorem dX10_stepsFrom_163 : decode cX10_stepsFrom 163 = .ok (.iload 9, 2) := by decide +kernel
theorem dX10_stepsFrom_165 : decode cX10_stepsFrom 165 = .ok (.ifCond .ne 8, 3) := by decide +kernel
theorem dX10_stepsFrom_168 : decode cX10_stepsFrom 168 = .ok (.iload 12, 2) := by decide +kernel
theorem dX10_stepsFrom_170 : decode cX10_stepsFrom 170 = .ok (.goto 10, 3) := by decide +kernel
theorem dX10_stepsFrom_173 : decode cX10_stepsFrom 173 = .ok (.iload 9, 2) := by decide +kernel
theorem dX10_stepsFrom_175 : decode cX10_stepsFrom 175 = .ok (.iload 12, 2) := by decide +kernel
theorem dX10_stepsFrom_177 : decode cX10_stepsFrom 177 = .ok (.invokestatic 69, 3) := by decide +kernel
theorem dX10_stepsFrom_180 : decode cX10_stepsFrom 180 = .ok (.istore 9, 2) := by decide +kernel
theorem dX10_stepsFrom_182 : decode cX10_stepsFrom 182 = .ok (.iinc 10 1, 3) := by decide +kernel
theorem dX10_stepsFrom_185 : decode cX10_stepsFrom 185 = .ok (.goto (-83), 3) := by decide +kernel
theorem dX10_stepsFrom_188 : decode cX10_stepsFrom 188 = .ok (.iload 9, 2) := by decide +kernel
theorem dX10_stepsFrom_190 : decode cX10_stepsFrom 190 = .ok (.ireturn, 1) := by decide +kernel
theorem dX10_bestFirst_0 : decode cX10_bestFirst 0 = .ok (.iconst (-1), 1) := by decide +kernel
theorem dX10_bestFirst_1 : decode cX10_bestFirst 1 = .ok (.istore_n 1, 1) := by decide +kernel
theorem dX10_bestFirst_2 : decode cX10_bestFirst 2 = .ok (.iconst 3, 1) := by decide +kernel
theorem dX10_bestFirst_3 : decode cX10_bestFirst 3 = .ok (.istore_n 2, 1) := by decide +kernel
theorem dX10_bestFirst_4 : decode cX10_bestFirst 4 = .ok (.iload_n 2, 1) := by decide +kernel
theorem dX10_bestFirst_5 : decode cX10_bestFirst 5 = .ok (.ifCond .lt 55, 3) := by decide +kernel
theorem dX10_bestFirst_8 : decode cX10_bestFirst 8 = .ok (.aload_n 0, 1) := by decide +kernel
theorem dX10_bestFirst_9 : decode cX10_bestFirst 9 = .ok (.getfield 9, 3) := by decide +kernel
theorem dX10_bestFirst_12 : decode cX10_bestFirst 12 = .ok (.iload_n 2, 1) := by decide +kernel
theorem dX10_bestFirst_13 : decode cX10_bestFirst 13 = .ok (.sipush 1024, 3) := by decide +kernel
theorem dX10_bestFirst_16 : decode cX10_bestFirst 16 = .ok (.imul, 1) := by decide +kernel
theorem dX10_bestFirst_17 : decode cX10_bestFirst 17 = .ok (.aload_n 0, 1) := by decide +kernel
theorem dX10_bestFirst_18 : decode cX10_bestFirst 18 = .ok (.getfield 22, 3) := by decide +kernel
theorem dX10_bestFirst_21 : decode cX10_bestFirst 21 = .ok (.iadd, 1) := by decide +kernel
theorem dX10_bestFirst_22 : decode cX10_bestFirst 22 = .ok (.iaload, 1) := by decide +kernel
theorem dX10_bestFirst_23 : decode cX10_bestFirst 23 = .ok (.istore_n 3, 1) := by decide +kernel
theorem dX10_bestFirst_24 : decode cX10_bestFirst 24 = .ok (.iload_n 3, 1) := by decide +kernel
theorem dX10_bestFirst_25 : decode cX10_bestFirst 25 = .ok (.ifCond .eq 29, 3) := by decide +kernel
theorem dX10_bestFirst_28 : decode cX10_bestFirst 28 = .ok (.iload_n 1, 1) := by decide +kernel
theorem dX10_bestFirst_29 : decode cX10_bestFirst 29 = .ok (.iconst (-1), 1) := by decide +kernel
theorem dX10_bestFirst_30 : decode cX10_bestFirst 30 = .ok (.if_icmp .eq 22, 3) := by decide +kernel
theorem dX10_bestFirst_33 : decode cX10_bestFirst 33 = .ok (.iload_n 3, 1) := by decide +kernel
theorem dX10_bestFirst_34 : decode cX10_bestFirst 34 = .ok (.aload_n 0, 1) := by decide +kernel
theorem dX10_bestFirst_35 : decode cX10_bestFirst 35 = .ok (.getfield 9, 3) := by decide +kernel
theorem dX10_bestFirst_38 : decode cX10_bestFirst 38 = .ok (.iload_n 1, 1) := by decide +kernel
theorem dX10_bestFirst_39 : decode cX10_bestFirst 39 = .ok (.sipush 1024, 3) := by decide +kernel
theorem dX10_bestFirst_42 : decode cX10_bestFirst 42 = .ok (.imul, 1) := by decide +kernel
theorem dX10_bestFirst_43 : decode cX10_bestFirst 43 = .ok (.aload_n 0, 1) := by decide +kernel
theorem dX10_bestFirst_44 : decode cX10_bestFirst 44 = .ok (.getfield 22, 3) := by decide +kernel
theorem dX10_bestFirst_47 : decode cX10_bestFirst 47 = .ok (.iadd, 1) := by decide +kernel
theorem dX10_bestFirst_48 : decode cX10_bestFirst 48 = .ok (.iaload, 1) := by decide +kernel
theorem dX10_bestFirst_49 : decode cX10_bestFirst 49 = .ok (.if_icmp .gt 5, 3) := by decide +kernel
theorem dX10_bestFirst_52 : decode cX10_bestFirst 52 = .ok (.iload_n 2, 1) := by decide +kernel
theorem dX10_bestFirst_53 : decode cX10_bestFirst 53 = .ok (.istore_n 1, 1) := by decide +kernel
theorem dX10_bestFirst_54 : decode cX10_bestFirst 54 = .ok (.iinc 2 (-1), 3) := by decide +kernel
theorem dX10_bestFirst_57 : decode cX10_bestFirst 57 = .ok (.goto (-53), 3) := by decide +kernel
theorem dX10_bestFirst_60 : decode cX10_bestFirst 60 = .ok (.iload_n 1, 1) := by decide +kernel
theorem dX10_bestFirst_61 : decode cX10_bestFirst 61 = .ok (.ireturn, 1) := by decide +kernel
theorem dX10_walk_0 : decode cX10_walk 0 = .ok (.aload_n 0, 1) := by decide +kernel
theorem dX10_walk_1 : decode cX10_walk 1 = .ok (.invokevirtual 48, 3) := by decide +kernel
theorem dX10_walk_4 : decode cX10_walk 4 = .ok (.istore_n 1, 1) := by decide +kernel
theorem dX10_walk_5 : decode cX10_walk 5 = .ok (.iload_n 1, 1) := by decide +kernel
theorem dX10_walk_6 : decode cX10_walk 6 = .ok (.iconst (-1), 1) := by decide +kernel
theorem dX10_walk_7 : decode cX10_walk 7 = .ok (.if_icmp .ne 4, 3) := by decide +kernel
theorem dX10_walk_10 : decode cX10_walk 10 = .ok (.return_, 1) := by decide +kernel
theorem dX10_walk_11 : decode cX10_walk 11 = .ok (.aload_n 0, 1) := by decide +kernel
theorem dX10_walk_12 : decode cX10_walk 12 = .ok (.getfield 9, 3) := by decide +kernel
theorem dX10_walk_15 : decode cX10_walk 15 = .ok (.iload_n 1, 1) := by decide +kernel
theorem dX10_walk_16 : decode cX10_walk 16 = .ok (.sipush 1024, 3) := by decide +kernel
theorem dX10_walk_19 : decode cX10_walk 19 = .ok (.imul, 1) := by decide +kernel
theorem dX10_walk_20 : decode cX10_walk 20 = .ok (.aload_n 0, 1) := by decide +kernel
theorem dX10_walk_21 : decode cX10_walk 21 = .ok (.getfield 22, 3) := by decide +kernel
theorem dX10_walk_24 : decode cX10_walk 24 = .ok (.iadd, 1) := by decide +kernel
theorem dX10_walk_25 : decode cX10_walk 25 = .ok (.iaload, 1) := by decide +kernel
theorem dX10_walk_26 : decode cX10_walk 26 = .ok (.istore_n 2, 1) := by decide +kernel
theorem dX10_walk_27 : decode cX10_walk 27 = .ok (.aload_n 0, 1) := by decide +kernel
theorem dX10_walk_28 : decode cX10_walk 28 = .ok (.iload_n 2, 1) := by decide +kernel
theorem dX10_walk_29 : decode cX10_walk 29 = .ok (.sipush 2048, 3) := by decide +kernel
theorem dX10_walk_32 : decode cX10_walk 32 = .ok (.idiv, 1) := by decide +kernel
theorem dX10_walk_33 : decode cX10_walk 33 = .ok (.putfield 32, 3) := by decide +kernel
theorem dX10_walk_36 : decode cX10_walk 36 = .ok (.aload_n 0, 1) := by decide +kernel
theorem dX10_walk_37 : decode cX10_walk 37 = .ok (.iload_n 2, 1) := by decide +kernel
theorem dX10_walk_38 : decode cX10_walk 38 = .ok (.sipush 2048, 3) := by decide +kernel
theorem dX10_walk_41 : decode cX10_walk 41 = .ok (.irem, 1) := by decide +kernel
theorem dX10_walk_42 : decode cX10_walk 42 = .ok (.putfield 35, 3) := by decide +kernel
theorem dX10_walk_45 : decode cX10_walk 45 = .ok (.aload_n 0, 1) := by decide +kernel
theorem dX10_walk_46 : decode cX10_walk 46 = .ok (.getfield 22, 3) := by decide +kernel
theorem dX10_walk_49 : decode cX10_walk 49 = .ok (.istore_n 3, 1) := by decide +kernel
theorem dX10_walk_50 : decode cX10_walk 50 = .ok (.iconst 0, 1) := by decide +kernel
theorem dX10_walk_51 : decode cX10_walk 51 = .ok (.istore 4, 2) := by decide +kernel
theorem dX10_walk_53 : decode cX10_walk 53 = .ok (.iload 4, 2) := by decide +kernel
theorem dX10_walk_55 : decode cX10_walk 55 = .ok (.bipush 100, 2) := by decide +kernel
theorem dX10_walk_57 : decode cX10_walk 57 = .ok (.if_icmp .ge 81, 3) := by decide +kernel
theorem dX10_walk_60 : decode cX10_walk 60 = .ok (.iload 4, 2) := by decide +kernel
theorem dX10_walk_62 : decode cX10_walk 62 = .ok (.aload_n 0, 1) := by decide +kernel
theorem dX10_walk_63 : decode cX10_walk 63 = .ok (.getfield 35, 3) := by decide +kernel
theorem dX10_walk_66 : decode cX10_walk 66 = .ok (.if_icmp .ge 72, 3) := by decide +kernel
theorem dX10_walk_69 : decode cX10_walk 69 = .ok (.iload_n 1, 1) := by decide +kernel
theorem dX10_walk_70 : decode cX10_walk 70 = .ok (.iconst (-1), 1) := by decide +kernel
theorem dX10_walk_71 : decode cX10_walk 71 = .ok (.if_icmp .eq 67, 3) := by decide +kernel
theorem dX10_walk_74 : decode cX10_walk 74 = .ok (.aload_n 0, 1) := by decide +kernel
theorem dX10_walk_75 : decode cX10_walk 75 = .ok (.getfield 15, 3) := by decide +kernel
theorem dX10_walk_78 : decode cX10_walk 78 = .ok (.iload 4, 2) := by decide +kernel
theorem dX10_walk_80 : decode cX10_walk 80 = .ok (.iload_n 1, 1) := by decide +kernel
theorem dX10_walk_81 : decode cX10_walk 81 = .ok (.iastore, 1) := by decide +kernel
theorem dX10_walk_82 : decode cX10_walk 82 = .ok (.iload_n 3, 1) := by decide +kernel
theorem dX10_walk_83 : decode cX10_walk 83 = .ok (.getstatic 62, 3) := by decide +kernel
theorem dX10_walk_86 : decode cX10_walk 86 = .ok (.iload_n 1, 1) := by decide +kernel
theorem dX10_walk_87 : decode cX10_walk 87 = .ok (.iaload, 1) := by decide +kernel
theorem dX10_walk_88 : decode cX10_walk 88 = .ok (.bipush 32, 2) := by decide +kernel
theorem dX10_walk_90 : decode cX10_walk 90 = .ok (.imul, 1) := by decide +kernel
theorem dX10_walk_91 : decode cX10_walk 91 = .ok (.getstatic 59, 3) := by decide +kernel
theorem dX10_walk_94 : decode cX10_walk 94 = .ok (.iload_n 1, 1) := by decide +kernel
theorem dX10_walk_95 : decode cX10_walk 95 = .ok (.iaload, 1) := by decide +kernel
theorem dX10_walk_96 : decode cX10_walk 96 = .ok (.iadd, 1) := by decide +kernel
theorem dX10_walk_97 : decode cX10_walk 97 = .ok (.iadd, 1) := by decide +kernel
theorem dX10_walk_98 : decode cX10_walk 98 = .ok (.istore_n 3, 1) := by decide +kernel
theorem dX10_walk_99 : decode cX10_walk 99 = .ok (.iinc 2 (-1), 3) := by decide +kernel
theorem dX10_walk_102 : decode cX10_walk 102 = .ok (.aload_n 0, 1) := by decide +kernel
theorem dX10_walk_103 : decode cX10_walk 103 = .ok (.iload_n 3, 1) := by decide +kernel
theorem dX10_walk_104 : decode cX10_walk 104 = .ok (.iload_n 1, 1) := by decide +kernel
theorem dX10_walk_105 : decode cX10_walk 105 = .ok (.iload_n 2, 1) := by decide +kernel
theorem dX10_walk_106 : decode cX10_walk 106 = .ok (.invokevirtual 75, 3) := by decide +kernel
theorem dX10_walk_109 : decode cX10_walk 109 = .ok (.istore_n 1, 1) := by decide +kernel
theorem dX10_walk_110 : decode cX10_walk 110 = .ok (.iload_n 1, 1) := by decide +kernel
theorem dX10_walk_111 : decode cX10_walk 111 = .ok (.iconst (-1), 1) := by decide +kernel
theorem dX10_walk_112 : decode cX10_walk 112 = .ok (.if_icmp .eq 20, 3) := by decide +kernel
theorem dX10_walk_115 : decode cX10_walk 115 = .ok (.iload_n 1, 1) := by decide +kernel
theorem dX10_walk_116 : decode cX10_walk 116 = .ok (.aload_n 0, 1) := by decide +kernel
theorem dX10_walk_117 : decode cX10_walk 117 = .ok (.getfield 15, 3) := by decide +kernel
theorem dX10_walk_120 : decode cX10_walk 120 = .ok (.iload 4, 2) := by decide +kernel
theorem dX10_walk_122 : decode cX10_walk 122 = .ok (.iaload, 1) := by decide +kernel
theorem dX10_walk_123 : decode cX10_walk 123 = .ok (.if_icmp .eq 9, 3) := by decide +kernel
theorem dX10_walk_126 : decode cX10_walk 126 = .ok (.iinc 2 (-2048), 6) := by decide +kernel
theorem dX10_walk_132 : decode cX10_walk 132 = .ok (.iinc 4 1, 3) := by decide +kernel
theorem dX10_walk_135 : decode cX10_walk 135 = .ok (.goto (-82), 3) := by decide +kernel
theorem dX10_walk_138 : decode cX10_walk 138 = .ok (.return_, 1) := by decide +kernel
theorem dX10_directionOn_0 : decode cX10_directionOn 0 = .ok (.iconst 0, 1) := by decide +kernel
theorem dX10_directionOn_1 : decode cX10_directionOn 1 = .ok (.istore 4, 2) := by decide +kernel
theorem dX10_directionOn_3 : decode cX10_directionOn 3 = .ok (.iload 4, 2) := by decide +kernel
theorem dX10_directionOn_5 : decode cX10_directionOn 5 = .ok (.iconst 4, 1) := by decide +kernel
theorem dX10_directionOn_6 : decode cX10_directionOn 6 = .ok (.if_icmp .ge 63, 3) := by decide +kernel
theorem dX10_directionOn_9 : decode cX10_directionOn 9 = .ok (.iload 4, 2) := by decide +kernel
theorem dX10_directionOn_11 : decode cX10_directionOn 11 = .ok (.iload_n 2, 1) := by decide +kernel
theorem dX10_directionOn_12 : decode cX10_directionOn 12 = .ok (.if_icmp .ne 7, 3) := by decide +kernel
theorem dX10_directionOn_15 : decode cX10_directionOn 15 = .ok (.iload_n 3, 1) := by decide +kernel
theorem dX10_directionOn_16 : decode cX10_directionOn 16 = .ok (.goto 8, 3) := by decide +kernel
theorem dX10_directionOn_19 : decode cX10_directionOn 19 = .ok (.iload_n 3, 1) := by decide +kernel
theorem dX10_directionOn_20 : decode cX10_directionOn 20 = .ok (.sipush 2048, 3) := by decide +kernel
theorem dX10_directionOn_23 : decode cX10_directionOn 23 = .ok (.isub, 1) := by decide +kernel
theorem dX10_directionOn_24 : decode cX10_directionOn 24 = .ok (.istore 5, 2) := by decide +kernel
theorem dX10_directionOn_26 : decode cX10_directionOn 26 = .ok (.iload 5, 2) := by decide +kernel
theorem dX10_directionOn_28 : decode cX10_directionOn 28 = .ok (.ifCond .le 35, 3) := by decide +kernel
theorem dX10_directionOn_31 : decode cX10_directionOn 31 = .ok (.iload_n 1, 1) := by decide +kernel
theorem dX10_directionOn_32 : decode cX10_directionOn 32 = .ok (.iconst 0, 1) := by decide +kernel
theorem dX10_directionOn_33 : decode cX10_directionOn 33 = .ok (.sipush 1023, 3) := by decide +kernel
theorem dX10_directionOn_36 : decode cX10_directionOn 36 = .ok (.invokestatic 79, 3) := by decide +kernel
theorem dX10_directionOn_39 : decode cX10_directionOn 39 = .ok (.ifCond .eq 24, 3) := by decide +kernel
theorem dX10_directionOn_42 : decode cX10_directionOn 42 = .ok (.aload_n 0, 1) := by decide +kernel
theorem dX10_directionOn_43 : decode cX10_directionOn 43 = .ok (.getfield 9, 3) := by decide +kernel
theorem dX10_directionOn_46 : decode cX10_directionOn 46 = .ok (.iload 4, 2) := by decide +kernel
theorem dX10_directionOn_48 : decode cX10_directionOn 48 = .ok (.sipush 1024, 3) := by decide +kernel
theorem dX10_directionOn_51 : decode cX10_directionOn 51 = .ok (.imul, 1) := by decide +kernel
theorem dX10_directionOn_52 : decode cX10_directionOn 52 = .ok (.iload_n 1, 1) := by decide +kernel
theorem dX10_directionOn_53 : decode cX10_directionOn 53 = .ok (.iadd, 1) := by decide +kernel
theorem dX10_directionOn_54 : decode cX10_directionOn 54 = .ok (.iaload, 1) := by decide +kernel
theorem dX10_directionOn_55 : decode cX10_directionOn 55 = .ok (.iload 5, 2) := by decide +kernel
theorem dX10_directionOn_57 : decode cX10_directionOn 57 = .ok (.if_icmp .ne 6, 3) := by decide +kernel
theorem dX10_directionOn_60 : decode cX10_directionOn 60 = .ok (.iload 4, 2) := by decide +kernel
theorem dX10_directionOn_62 : decode cX10_directionOn 62 = .ok (.ireturn, 1) := by decide +kernel
theorem dX10_directionOn_63 : decode cX10_directionOn 63 = .ok (.iinc 4 1, 3) := by decide +kernel
theorem dX10_directionOn_66 : decode cX10_directionOn 66 = .ok (.goto (-63), 3) := by decide +kernel
theorem dX10_directionOn_69 : decode cX10_directionOn 69 = .ok (.iconst (-1), 1) := by decide +kernel
theorem dX10_directionOn_70 : decode cX10_directionOn 70 = .ok (.ireturn, 1) := by decide +kernel
