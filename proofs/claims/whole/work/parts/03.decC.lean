theorem dX0_init_0 : decode cX0_init 0 = .ok (.aload_n 0, 1) := by decide +kernel
theorem dX0_init_1 : decode cX0_init 1 = .ok (.invokespecial 3, 3) := by decide +kernel
theorem dX0_init_4 : decode cX0_init 4 = .ok (.aload_n 0, 1) := by decide +kernel
theorem dX0_init_5 : decode cX0_init 5 = .ok (.new 9, 3) := by decide +kernel
theorem dX0_init_8 : decode cX0_init 8 = .ok (.dup, 1) := by decide +kernel
theorem dX0_init_9 : decode cX0_init 9 = .ok (.iconst 0, 1) := by decide +kernel
theorem dX0_init_10 : decode cX0_init 10 = .ok (.invokespecial 11, 3) := by decide +kernel
theorem dX0_init_13 : decode cX0_init 13 = .ok (.putfield 14, 3) := by decide +kernel
theorem dX0_init_16 : decode cX0_init 16 = .ok (.aload_n 0, 1) := by decide +kernel
theorem dX0_init_17 : decode cX0_init 17 = .ok (.new 20, 3) := by decide +kernel
theorem dX0_init_20 : decode cX0_init 20 = .ok (.dup, 1) := by decide +kernel
theorem dX0_init_21 : decode cX0_init 21 = .ok (.bipush 108, 2) := by decide +kernel
theorem dX0_init_23 : decode cX0_init 23 = .ok (.iconst 1, 1) := by decide +kernel
theorem dX0_init_24 : decode cX0_init 24 = .ok (.aload_n 0, 1) := by decide +kernel
theorem dX0_init_25 : decode cX0_init 25 = .ok (.getfield 14, 3) := by decide +kernel
theorem dX0_init_28 : decode cX0_init 28 = .ok (.aconst_null, 1) := by decide +kernel
theorem dX0_init_29 : decode cX0_init 29 = .ok (.invokespecial 22, 3) := by decide +kernel
theorem dX0_init_32 : decode cX0_init 32 = .ok (.putfield 25, 3) := by decide +kernel
theorem dX0_init_35 : decode cX0_init 35 = .ok (.return_, 1) := by decide +kernel
theorem dX0_isPaneSound_0 : decode cX0_isPaneSound 0 = .ok (.aload_n 1, 1) := by decide +kernel
theorem dX0_isPaneSound_1 : decode cX0_isPaneSound 1 = .ok (.invokevirtual 29, 3) := by decide +kernel
theorem dX0_isPaneSound_4 : decode cX0_isPaneSound 4 = .ok (.ifCond .ne 9, 3) := by decide +kernel
theorem dX0_isPaneSound_7 : decode cX0_isPaneSound 7 = .ok (.aload_n 0, 1) := by decide +kernel
theorem dX0_isPaneSound_8 : decode cX0_isPaneSound 8 = .ok (.aload_n 1, 1) := by decide +kernel
theorem dX0_isPaneSound_9 : decode cX0_isPaneSound 9 = .ok (.invokevirtual 33, 3) := by decide +kernel
theorem dX0_isPaneSound_12 : decode cX0_isPaneSound 12 = .ok (.ireturn, 1) := by decide +kernel
theorem dX0_isPaneSound_13 : decode cX0_isPaneSound 13 = .ok (.aload_n 0, 1) := by decide +kernel
theorem dX0_isPaneSound_14 : decode cX0_isPaneSound 14 = .ok (.aload_n 1, 1) := by decide +kernel
theorem dX0_isPaneSound_15 : decode cX0_isPaneSound 15 = .ok (.bipush 107, 2) := by decide +kernel
theorem dX0_isPaneSound_17 : decode cX0_isPaneSound 17 = .ok (.invokevirtual 37, 3) := by decide +kernel
theorem dX0_isPaneSound_20 : decode cX0_isPaneSound 20 = .ok (.ifCond .eq 61, 3) := by decide +kernel
theorem dX0_isPaneSound_23 : decode cX0_isPaneSound 23 = .ok (.aload_n 0, 1) := by decide +kernel
theorem dX0_isPaneSound_24 : decode cX0_isPaneSound 24 = .ok (.aload_n 1, 1) := by decide +kernel
theorem dX0_isPaneSound_25 : decode cX0_isPaneSound 25 = .ok (.bipush 75, 2) := by decide +kernel
theorem dX0_isPaneSound_27 : decode cX0_isPaneSound 27 = .ok (.invokevirtual 37, 3) := by decide +kernel
theorem dX0_isPaneSound_30 : decode cX0_isPaneSound 30 = .ok (.ifCond .eq 51, 3) := by decide +kernel
theorem dX0_isPaneSound_33 : decode cX0_isPaneSound 33 = .ok (.aload_n 0, 1) := by decide +kernel
theorem dX0_isPaneSound_34 : decode cX0_isPaneSound 34 = .ok (.aload_n 1, 1) := by decide +kernel
theorem dX0_isPaneSound_35 : decode cX0_isPaneSound 35 = .ok (.bipush 109, 2) := by decide +kernel
theorem dX0_isPaneSound_37 : decode cX0_isPaneSound 37 = .ok (.invokevirtual 37, 3) := by decide +kernel
theorem dX0_isPaneSound_40 : decode cX0_isPaneSound 40 = .ok (.ifCond .eq 41, 3) := by decide +kernel
theorem dX0_isPaneSound_43 : decode cX0_isPaneSound 43 = .ok (.aload_n 0, 1) := by decide +kernel
theorem dX0_isPaneSound_44 : decode cX0_isPaneSound 44 = .ok (.aload_n 1, 1) := by decide +kernel
theorem dX0_isPaneSound_45 : decode cX0_isPaneSound 45 = .ok (.bipush 77, 2) := by decide +kernel
theorem dX0_isPaneSound_47 : decode cX0_isPaneSound 47 = .ok (.invokevirtual 37, 3) := by decide +kernel
theorem dX0_isPaneSound_50 : decode cX0_isPaneSound 50 = .ok (.ifCond .eq 31, 3) := by decide +kernel
theorem dX0_isPaneSound_53 : decode cX0_isPaneSound 53 = .ok (.aload_n 0, 1) := by decide +kernel
theorem dX0_isPaneSound_54 : decode cX0_isPaneSound 54 = .ok (.aload_n 1, 1) := by decide +kernel
theorem dX0_isPaneSound_55 : decode cX0_isPaneSound 55 = .ok (.invokevirtual 41, 3) := by decide +kernel
theorem dX0_isPaneSound_58 : decode cX0_isPaneSound 58 = .ok (.ifCond .eq 23, 3) := by decide +kernel
theorem dX0_isPaneSound_61 : decode cX0_isPaneSound 61 = .ok (.aload_n 0, 1) := by decide +kernel
theorem dX0_isPaneSound_62 : decode cX0_isPaneSound 62 = .ok (.aload_n 1, 1) := by decide +kernel
theorem dX0_isPaneSound_63 : decode cX0_isPaneSound 63 = .ok (.invokevirtual 44, 3) := by decide +kernel
theorem dX0_isPaneSound_66 : decode cX0_isPaneSound 66 = .ok (.ifCond .eq 15, 3) := by decide +kernel
theorem dX0_isPaneSound_69 : decode cX0_isPaneSound 69 = .ok (.aload_n 0, 1) := by decide +kernel
theorem dX0_isPaneSound_70 : decode cX0_isPaneSound 70 = .ok (.aload_n 1, 1) := by decide +kernel
theorem dX0_isPaneSound_71 : decode cX0_isPaneSound 71 = .ok (.invokevirtual 47, 3) := by decide +kernel
theorem dX0_isPaneSound_74 : decode cX0_isPaneSound 74 = .ok (.ifCond .eq 7, 3) := by decide +kernel
theorem dX0_isPaneSound_77 : decode cX0_isPaneSound 77 = .ok (.iconst 1, 1) := by decide +kernel
theorem dX0_isPaneSound_78 : decode cX0_isPaneSound 78 = .ok (.goto 4, 3) := by decide +kernel
theorem dX0_isPaneSound_81 : decode cX0_isPaneSound 81 = .ok (.iconst 0, 1) := by decide +kernel
theorem dX0_isPaneSound_82 : decode cX0_isPaneSound 82 = .ok (.ireturn, 1) := by decide +kernel
theorem dX0_isPairSound_0 : decode cX0_isPairSound 0 = .ok (.aload_n 1, 1) := by decide +kernel
theorem dX0_isPairSound_1 : decode cX0_isPairSound 1 = .ok (.invokevirtual 29, 3) := by decide +kernel
theorem dX0_isPairSound_4 : decode cX0_isPairSound 4 = .ok (.ifCond .eq 47, 3) := by decide +kernel
theorem dX0_isPairSound_7 : decode cX0_isPairSound 7 = .ok (.aload_n 2, 1) := by decide +kernel
theorem dX0_isPairSound_8 : decode cX0_isPairSound 8 = .ok (.invokevirtual 29, 3) := by decide +kernel
theorem dX0_isPairSound_11 : decode cX0_isPairSound 11 = .ok (.ifCond .eq 40, 3) := by decide +kernel
theorem dX0_isPairSound_14 : decode cX0_isPairSound 14 = .ok (.aload_n 1, 1) := by decide +kernel
theorem dX0_isPairSound_15 : decode cX0_isPairSound 15 = .ok (.aload_n 2, 1) := by decide +kernel
theorem dX0_isPairSound_16 : decode cX0_isPairSound 16 = .ok (.invokevirtual 50, 3) := by decide +kernel
theorem dX0_isPairSound_19 : decode cX0_isPairSound 19 = .ok (.istore_n 3, 1) := by decide +kernel
theorem dX0_isPairSound_20 : decode cX0_isPairSound 20 = .ok (.iload_n 3, 1) := by decide +kernel
theorem dX0_isPairSound_21 : decode cX0_isPairSound 21 = .ok (.aload_n 0, 1) := by decide +kernel
theorem dX0_isPairSound_22 : decode cX0_isPairSound 22 = .ok (.aload_n 1, 1) := by decide +kernel
theorem dX0_isPairSound_23 : decode cX0_isPairSound 23 = .ok (.aload_n 2, 1) := by decide +kernel
theorem dX0_isPairSound_24 : decode cX0_isPairSound 24 = .ok (.invokevirtual 53, 3) := by decide +kernel
theorem dX0_isPairSound_27 : decode cX0_isPairSound 27 = .ok (.if_icmp .ne 22, 3) := by decide +kernel
theorem dX0_isPairSound_30 : decode cX0_isPairSound 30 = .ok (.iload_n 3, 1) := by decide +kernel
theorem dX0_isPairSound_31 : decode cX0_isPairSound 31 = .ok (.ifCond .eq 14, 3) := by decide +kernel
theorem dX0_isPairSound_34 : decode cX0_isPairSound 34 = .ok (.aload_n 1, 1) := by decide +kernel
theorem dX0_isPairSound_35 : decode cX0_isPairSound 35 = .ok (.invokevirtual 57, 3) := by decide +kernel
theorem dX0_isPairSound_38 : decode cX0_isPairSound 38 = .ok (.aload_n 2, 1) := by decide +kernel
theorem dX0_isPairSound_39 : decode cX0_isPairSound 39 = .ok (.invokevirtual 57, 3) := by decide +kernel
theorem dX0_isPairSound_42 : decode cX0_isPairSound 42 = .ok (.if_icmp .ne 7, 3) := by decide +kernel
theorem dX0_isPairSound_45 : decode cX0_isPairSound 45 = .ok (.iconst 1, 1) := by decide +kernel
theorem dX0_isPairSound_46 : decode cX0_isPairSound 46 = .ok (.goto 4, 3) := by decide +kernel
theorem dX0_isPairSound_49 : decode cX0_isPairSound 49 = .ok (.iconst 0, 1) := by decide +kernel
theorem dX0_isPairSound_50 : decode cX0_isPairSound 50 = .ok (.ireturn, 1) := by decide +kernel
theorem dX0_isPairSound_51 : decode cX0_isPairSound 51 = .ok (.aload_n 1, 1) := by decide +kernel
theorem dX0_isPairSound_52 : decode cX0_isPairSound 52 = .ok (.invokevirtual 61, 3) := by decide +kernel
theorem dX0_isPairSound_55 : decode cX0_isPairSound 55 = .ok (.ifCond .eq 46, 3) := by decide +kernel
theorem dX0_isPairSound_58 : decode cX0_isPairSound 58 = .ok (.aload_n 2, 1) := by decide +kernel
theorem dX0_isPairSound_59 : decode cX0_isPairSound 59 = .ok (.invokevirtual 61, 3) := by decide +kernel
theorem dX0_isPairSound_62 : decode cX0_isPairSound 62 = .ok (.ifCond .eq 39, 3) := by decide +kernel
theorem dX0_isPairSound_65 : decode cX0_isPairSound 65 = .ok (.aload_n 1, 1) := by decide +kernel
theorem dX0_isPairSound_66 : decode cX0_isPairSound 66 = .ok (.aload_n 2, 1) := by decide +kernel
theorem dX0_isPairSound_67 : decode cX0_isPairSound 67 = .ok (.invokevirtual 64, 3) := by decide +kernel
theorem dX0_isPairSound_70 : decode cX0_isPairSound 70 = .ok (.istore_n 3, 1) := by decide +kernel
theorem dX0_isPairSound_71 : decode cX0_isPairSound 71 = .ok (.iload_n 3, 1) := by decide +kernel
theorem dX0_isPairSound_72 : decode cX0_isPairSound 72 = .ok (.aload_n 2, 1) := by decide +kernel
theorem dX0_isPairSound_73 : decode cX0_isPairSound 73 = .ok (.aload_n 1, 1) := by decide +kernel
theorem dX0_isPairSound_74 : decode cX0_isPairSound 74 = .ok (.invokevirtual 64, 3) := by decide +kernel
theorem dX0_isPairSound_77 : decode cX0_isPairSound 77 = .ok (.if_icmp .ne 22, 3) := by decide +kernel
theorem dX0_isPairSound_80 : decode cX0_isPairSound 80 = .ok (.iload_n 3, 1) := by decide +kernel
theorem dX0_isPairSound_81 : decode cX0_isPairSound 81 = .ok (.ifCond .eq 14, 3) := by decide +kernel
theorem dX0_isPairSound_84 : decode cX0_isPairSound 84 = .ok (.aload_n 1, 1) := by decide +kernel
theorem dX0_isPairSound_85 : decode cX0_isPairSound 85 = .ok (.invokevirtual 67, 3) := by decide +kernel
theorem dX0_isPairSound_88 : decode cX0_isPairSound 88 = .ok (.aload_n 2, 1) := by decide +kernel
theorem dX0_isPairSound_89 : decode cX0_isPairSound 89 = .ok (.invokevirtual 67, 3) := by decide +kernel
theorem dX0_isPairSound_92 : decode cX0_isPairSound 92 = .ok (.if_icmp .ne 7, 3) := by decide +kernel
theorem dX0_isPairSound_95 : decode cX0_isPairSound 95 = .ok (.iconst 1, 1) := by decide +kernel
theorem dX0_isPairSound_96 : decode cX0_isPairSound 96 = .ok (.goto 4, 3) := by decide +kernel
theorem dX0_isPairSound_99 : decode cX0_isPairSound 99 = .ok (.iconst 0, 1) := by decide +kernel
theorem dX0_isPairSound_100 : decode cX0_isPairSound 100 = .ok (.ireturn, 1) := by decide +kernel
theorem dX0_isPairSound_101 : decode cX0_isPairSound 101 = .ok (.iconst 1, 1) := by decide +kernel
theorem dX0_isPairSound_102 : decode cX0_isPairSound 102 = .ok (.ireturn, 1) := by decide +kernel
theorem dX0_areAllPlacesAlike_0 : decode cX0_areAllPlacesAlike 0 = .ok (.iconst 0, 1) := by decide +kernel
theorem dX0_areAllPlacesAlike_1 : decode cX0_areAllPlacesAlike 1 = .ok (.istore_n 3, 1) := by decide +kernel
theorem dX0_areAllPlacesAlike_2 : decode cX0_areAllPlacesAlike 2 = .ok (.iconst 0, 1) := by decide +kernel
theorem dX0_areAllPlacesAlike_3 : decode cX0_areAllPlacesAlike 3 = .ok (.istore 4, 2) := by decide +kernel
theorem dX0_areAllPlacesAlike_5 : decode cX0_areAllPlacesAlike 5 = .ok (.iload 4, 2) := by decide +kernel
theorem dX0_areAllPlacesAlike_7 : decode cX0_areAllPlacesAlike 7 = .ok (.aload_n 1, 1) := by decide +kernel
theorem dX0_areAllPlacesAlike_8 : decode cX0_areAllPlacesAlike 8 = .ok (.invokevirtual 70, 3) := by decide +kernel
theorem dX0_areAllPlacesAlike_11 : decode cX0_areAllPlacesAlike 11 = .ok (.aload_n 2, 1) := by decide +kernel
theorem dX0_areAllPlacesAlike_12 : decode cX0_areAllPlacesAlike 12 = .ok (.invokevirtual 70, 3) := by decide +kernel
theorem dX0_areAllPlacesAlike_15 : decode cX0_areAllPlacesAlike 15 = .ok (.invokestatic 73, 3) := by decide +kernel
theorem dX0_areAllPlacesAlike_18 : decode cX0_areAllPlacesAlike 18 = .ok (.if_icmp .ge 24, 3) := by decide +kernel
theorem dX0_areAllPlacesAlike_21 : decode cX0_areAllPlacesAlike 21 = .ok (.aload_n 1, 1) := by decide +kernel
theorem dX0_areAllPlacesAlike_22 : decode cX0_areAllPlacesAlike 22 = .ok (.iload 4, 2) := by decide +kernel
theorem dX0_areAllPlacesAlike_24 : decode cX0_areAllPlacesAlike 24 = .ok (.aload_n 2, 1) := by decide +kernel
theorem dX0_areAllPlacesAlike_25 : decode cX0_areAllPlacesAlike 25 = .ok (.iload 4, 2) := by decide +kernel
theorem dX0_areAllPlacesAlike_27 : decode cX0_areAllPlacesAlike 27 = .ok (.invokevirtual 79, 3) := by decide +kernel
theorem dX0_areAllPlacesAlike_30 : decode cX0_areAllPlacesAlike 30 = .ok (.ifCond .eq 6, 3) := by decide +kernel
theorem dX0_areAllPlacesAlike_33 : decode cX0_areAllPlacesAlike 33 = .ok (.iinc 3 1, 3) := by decide +kernel
theorem dX0_areAllPlacesAlike_36 : decode cX0_areAllPlacesAlike 36 = .ok (.iinc 4 1, 3) := by decide +kernel
theorem dX0_areAllPlacesAlike_39 : decode cX0_areAllPlacesAlike 39 = .ok (.goto (-34), 3) := by decide +kernel
theorem dX0_areAllPlacesAlike_42 : decode cX0_areAllPlacesAlike 42 = .ok (.iload_n 3, 1) := by decide +kernel
theorem dX0_areAllPlacesAlike_43 : decode cX0_areAllPlacesAlike 43 = .ok (.aload_n 1, 1) := by decide +kernel
theorem dX0_areAllPlacesAlike_44 : decode cX0_areAllPlacesAlike 44 = .ok (.invokevirtual 70, 3) := by decide +kernel
theorem dX0_areAllPlacesAlike_47 : decode cX0_areAllPlacesAlike 47 = .ok (.if_icmp .ne 15, 3) := by decide +kernel
theorem dX0_areAllPlacesAlike_50 : decode cX0_areAllPlacesAlike 50 = .ok (.iload_n 3, 1) := by decide +kernel
theorem dX0_areAllPlacesAlike_51 : decode cX0_areAllPlacesAlike 51 = .ok (.aload_n 2, 1) := by decide +kernel
theorem dX0_areAllPlacesAlike_52 : decode cX0_areAllPlacesAlike 52 = .ok (.invokevirtual 70, 3) := by decide +kernel
theorem dX0_areAllPlacesAlike_55 : decode cX0_areAllPlacesAlike 55 = .ok (.if_icmp .ne 7, 3) := by decide +kernel
theorem dX0_areAllPlacesAlike_58 : decode cX0_areAllPlacesAlike 58 = .ok (.iconst 1, 1) := by decide +kernel
theorem dX0_areAllPlacesAlike_59 : decode cX0_areAllPlacesAlike 59 = .ok (.goto 4, 3) := by decide +kernel
theorem dX0_areAllPlacesAlike_62 : decode cX0_areAllPlacesAlike 62 = .ok (.iconst 0, 1) := by decide +kernel
theorem dX0_areAllPlacesAlike_63 : decode cX0_areAllPlacesAlike 63 = .ok (.ireturn, 1) := by decide +kernel
theorem dX0_areNumbersSound_0 : decode cX0_areNumbersSound 0 = .ok (.iconst 0, 1) := by decide +kernel
theorem dX0_areNumbersSound_1 : decode cX0_areNumbersSound 1 = .ok (.istore_n 2, 1) := by decide +kernel
theorem dX0_areNumbersSound_2 : decode cX0_areNumbersSound 2 = .ok (.iload_n 2, 1) := by decide +kernel
theorem dX0_areNumbersSound_3 : decode cX0_areNumbersSound 3 = .ok (.aload_n 1, 1) := by decide +kernel
theorem dX0_areNumbersSound_4 : decode cX0_areNumbersSound 4 = .ok (.invokevirtual 70, 3) := by decide +kernel
theorem dX0_areNumbersSound_7 : decode cX0_areNumbersSound 7 = .ok (.if_icmp .ge 62, 3) := by decide +kernel
theorem dX0_areNumbersSound_10 : decode cX0_areNumbersSound 10 = .ok (.aload_n 1, 1) := by decide +kernel
theorem dX0_areNumbersSound_11 : decode cX0_areNumbersSound 11 = .ok (.aload_n 1, 1) := by decide +kernel
theorem dX0_areNumbersSound_12 : decode cX0_areNumbersSound 12 = .ok (.iload_n 2, 1) := by decide +kernel
theorem dX0_areNumbersSound_13 : decode cX0_areNumbersSound 13 = .ok (.invokevirtual 83, 3) := by decide +kernel
theorem dX0_areNumbersSound_16 : decode cX0_areNumbersSound 16 = .ok (.invokevirtual 87, 3) := by decide +kernel
theorem dX0_areNumbersSound_19 : decode cX0_areNumbersSound 19 = .ok (.iload_n 2, 1) := by decide +kernel
theorem dX0_areNumbersSound_20 : decode cX0_areNumbersSound 20 = .ok (.if_icmp .eq 5, 3) := by decide +kernel
theorem dX0_areNumbersSound_23 : decode cX0_areNumbersSound 23 = .ok (.iconst 0, 1) := by decide +kernel
theorem dX0_areNumbersSound_24 : decode cX0_areNumbersSound 24 = .ok (.ireturn, 1) := by decide +kernel
theorem dX0_areNumbersSound_25 : decode cX0_areNumbersSound 25 = .ok (.iload_n 2, 1) := by decide +kernel
theorem dX0_areNumbersSound_26 : decode cX0_areNumbersSound 26 = .ok (.ifCond .le 37, 3) := by decide +kernel
theorem dX0_areNumbersSound_29 : decode cX0_areNumbersSound 29 = .ok (.aload_n 1, 1) := by decide +kernel
theorem dX0_areNumbersSound_30 : decode cX0_areNumbersSound 30 = .ok (.getfield 90, 3) := by decide +kernel
theorem dX0_areNumbersSound_33 : decode cX0_areNumbersSound 33 = .ok (.ifnull 30, 3) := by decide +kernel
theorem dX0_areNumbersSound_36 : decode cX0_areNumbersSound 36 = .ok (.aload_n 1, 1) := by decide +kernel
theorem dX0_areNumbersSound_37 : decode cX0_areNumbersSound 37 = .ok (.getfield 90, 3) := by decide +kernel
theorem dX0_areNumbersSound_40 : decode cX0_areNumbersSound 40 = .ok (.getfield 91, 3) := by decide +kernel
theorem dX0_areNumbersSound_43 : decode cX0_areNumbersSound 43 = .ok (.ifCond .eq 20, 3) := by decide +kernel
theorem dX0_areNumbersSound_46 : decode cX0_areNumbersSound 46 = .ok (.aload_n 1, 1) := by decide +kernel
theorem dX0_areNumbersSound_47 : decode cX0_areNumbersSound 47 = .ok (.iload_n 2, 1) := by decide +kernel
theorem dX0_areNumbersSound_48 : decode cX0_areNumbersSound 48 = .ok (.iconst 1, 1) := by decide +kernel
theorem dX0_areNumbersSound_49 : decode cX0_areNumbersSound 49 = .ok (.isub, 1) := by decide +kernel
theorem dX0_areNumbersSound_50 : decode cX0_areNumbersSound 50 = .ok (.invokevirtual 83, 3) := by decide +kernel
theorem dX0_areNumbersSound_53 : decode cX0_areNumbersSound 53 = .ok (.aload_n 1, 1) := by decide +kernel
theorem dX0_areNumbersSound_54 : decode cX0_areNumbersSound 54 = .ok (.iload_n 2, 1) := by decide +kernel
theorem dX0_areNumbersSound_55 : decode cX0_areNumbersSound 55 = .ok (.invokevirtual 83, 3) := by decide +kernel
theorem dX0_areNumbersSound_58 : decode cX0_areNumbersSound 58 = .ok (.if_icmp .lt 5, 3) := by decide +kernel
theorem dX0_areNumbersSound_61 : decode cX0_areNumbersSound 61 = .ok (.iconst 0, 1) := by decide +kernel
theorem dX0_areNumbersSound_62 : decode cX0_areNumbersSound 62 = .ok (.ireturn, 1) := by decide +kernel
theorem dX0_areNumbersSound_63 : decode cX0_areNumbersSound 63 = .ok (.iinc 2 1, 3) := by decide +kernel
theorem dX0_areNumbersSound_66 : decode cX0_areNumbersSound 66 = .ok (.goto (-64), 3) := by decide +kernel
theorem dX0_areNumbersSound_69 : decode cX0_areNumbersSound 69 = .ok (.iconst 1, 1) := by decide +kernel
theorem dX0_areNumbersSound_70 : decode cX0_areNumbersSound 70 = .ok (.ireturn, 1) := by decide +kernel
theorem dX0_isSortSound_0 : decode cX0_isSortSound 0 = .ok (.aload_n 0, 1) := by decide +kernel
theorem dX0_isSortSound_1 : decode cX0_isSortSound 1 = .ok (.getfield 14, 3) := by decide +kernel
theorem dX0_isSortSound_4 : decode cX0_isSortSound 4 = .ok (.aload_n 1, 1) := by decide +kernel
theorem dX0_isSortSound_5 : decode cX0_isSortSound 5 = .ok (.invokevirtual 95, 3) := by decide +kernel
theorem dX0_isSortSound_8 : decode cX0_isSortSound 8 = .ok (.aload_n 0, 1) := by decide +kernel
theorem dX0_isSortSound_9 : decode cX0_isSortSound 9 = .ok (.getfield 14, 3) := by decide +kernel
theorem dX0_isSortSound_12 : decode cX0_isSortSound 12 = .ok (.iconst 0, 1) := by decide +kernel
theorem dX0_isSortSound_13 : decode cX0_isSortSound 13 = .ok (.aload_n 0, 1) := by decide +kernel
theorem dX0_isSortSound_14 : decode cX0_isSortSound 14 = .ok (.getfield 14, 3) := by decide +kernel
theorem dX0_isSortSound_17 : decode cX0_isSortSound 17 = .ok (.getfield 99, 3) := by decide +kernel
theorem dX0_isSortSound_20 : decode cX0_isSortSound 20 = .ok (.iload_n 2, 1) := by decide +kernel
theorem dX0_isSortSound_21 : decode cX0_isSortSound 21 = .ok (.invokevirtual 102, 3) := by decide +kernel
theorem dX0_isSortSound_24 : decode cX0_isSortSound 24 = .ok (.iconst 0, 1) := by decide +kernel
theorem dX0_isSortSound_25 : decode cX0_isSortSound 25 = .ok (.istore_n 3, 1) := by decide +kernel
theorem dX0_isSortSound_26 : decode cX0_isSortSound 26 = .ok (.iconst 0, 1) := by decide +kernel
theorem dX0_isSortSound_27 : decode cX0_isSortSound 27 = .ok (.istore 4, 2) := by decide +kernel
theorem dX0_isSortSound_29 : decode cX0_isSortSound 29 = .ok (.iload 4, 2) := by decide +kernel
theorem dX0_isSortSound_31 : decode cX0_isSortSound 31 = .ok (.aload_n 0, 1) := by decide +kernel
theorem dX0_isSortSound_32 : decode cX0_isSortSound 32 = .ok (.getfield 14, 3) := by decide +kernel
theorem dX0_isSortSound_35 : decode cX0_isSortSound 35 = .ok (.getfield 99, 3) := by decide +kernel
theorem dX0_isSortSound_38 : decode cX0_isSortSound 38 = .ok (.if_icmp .ge 59, 3) := by decide +kernel
theorem dX0_isSortSound_41 : decode cX0_isSortSound 41 = .ok (.aload_n 0, 1) := by decide +kernel
theorem dX0_isSortSound_42 : decode cX0_isSortSound 42 = .ok (.getfield 14, 3) := by decide +kernel
theorem dX0_isSortSound_45 : decode cX0_isSortSound 45 = .ok (.iload 4, 2) := by decide +kernel
theorem dX0_isSortSound_47 : decode cX0_isSortSound 47 = .ok (.invokevirtual 106, 3) := by decide +kernel
theorem dX0_isSortSound_50 : decode cX0_isSortSound 50 = .ok (.istore 5, 2) := by decide +kernel
theorem dX0_isSortSound_52 : decode cX0_isSortSound 52 = .ok (.iload_n 3, 1) := by decide +kernel
theorem dX0_isSortSound_53 : decode cX0_isSortSound 53 = .ok (.iconst 1, 1) := by decide +kernel
theorem dX0_isSortSound_54 : decode cX0_isSortSound 54 = .ok (.iload 5, 2) := by decide +kernel
theorem dX0_isSortSound_56 : decode cX0_isSortSound 56 = .ok (.ishl, 1) := by decide +kernel
theorem dX0_isSortSound_57 : decode cX0_isSortSound 57 = .ok (.ior, 1) := by decide +kernel
theorem dX0_isSortSound_58 : decode cX0_isSortSound 58 = .ok (.istore_n 3, 1) := by decide +kernel
theorem dX0_isSortSound_59 : decode cX0_isSortSound 59 = .ok (.aload_n 0, 1) := by decide +kernel
theorem dX0_isSortSound_60 : decode cX0_isSortSound 60 = .ok (.getfield 25, 3) := by decide +kernel
theorem dX0_isSortSound_63 : decode cX0_isSortSound 63 = .ok (.iload 4, 2) := by decide +kernel
theorem dX0_isSortSound_65 : decode cX0_isSortSound 65 = .ok (.aload_n 1, 1) := by decide +kernel
theorem dX0_isSortSound_66 : decode cX0_isSortSound 66 = .ok (.iload 5, 2) := by decide +kernel
theorem dX0_isSortSound_68 : decode cX0_isSortSound 68 = .ok (.invokevirtual 79, 3) := by decide +kernel
theorem dX0_isSortSound_71 : decode cX0_isSortSound 71 = .ok (.ifCond .eq 18, 3) := by decide +kernel
theorem dX0_isSortSound_74 : decode cX0_isSortSound 74 = .ok (.iload 4, 2) := by decide +kernel
theorem dX0_isSortSound_76 : decode cX0_isSortSound 76 = .ok (.ifCond .le 15, 3) := by decide +kernel
theorem dX0_isSortSound_79 : decode cX0_isSortSound 79 = .ok (.aload_n 0, 1) := by decide +kernel
theorem dX0_isSortSound_80 : decode cX0_isSortSound 80 = .ok (.iload 4, 2) := by decide +kernel
theorem dX0_isSortSound_82 : decode cX0_isSortSound 82 = .ok (.iload_n 2, 1) := by decide +kernel
theorem dX0_isSortSound_83 : decode cX0_isSortSound 83 = .ok (.invokevirtual 109, 3) := by decide +kernel
theorem dX0_isSortSound_86 : decode cX0_isSortSound 86 = .ok (.ifCond .ne 5, 3) := by decide +kernel
theorem dX0_isSortSound_89 : decode cX0_isSortSound 89 = .ok (.iconst 0, 1) := by decide +kernel
theorem dX0_isSortSound_90 : decode cX0_isSortSound 90 = .ok (.ireturn, 1) := by decide +kernel
theorem dX0_isSortSound_91 : decode cX0_isSortSound 91 = .ok (.iinc 4 1, 3) := by decide +kernel
theorem dX0_isSortSound_94 : decode cX0_isSortSound 94 = .ok (.goto (-65), 3) := by decide +kernel
theorem dX0_isSortSound_97 : decode cX0_isSortSound 97 = .ok (.aload_n 0, 1) := by decide +kernel
theorem dX0_isSortSound_98 : decode cX0_isSortSound 98 = .ok (.getfield 14, 3) := by decide +kernel
theorem dX0_isSortSound_101 : decode cX0_isSortSound 101 = .ok (.getfield 99, 3) := by decide +kernel
theorem dX0_isSortSound_104 : decode cX0_isSortSound 104 = .ok (.aload_n 1, 1) := by decide +kernel
theorem dX0_isSortSound_105 : decode cX0_isSortSound 105 = .ok (.invokevirtual 70, 3) := by decide +kernel
theorem dX0_isSortSound_108 : decode cX0_isSortSound 108 = .ok (.if_icmp .ne 19, 3) := by decide +kernel
theorem dX0_isSortSound_111 : decode cX0_isSortSound 111 = .ok (.iload_n 3, 1) := by decide +kernel
theorem dX0_isSortSound_112 : decode cX0_isSortSound 112 = .ok (.iconst 1, 1) := by decide +kernel
theorem dX0_isSortSound_113 : decode cX0_isSortSound 113 = .ok (.aload_n 1, 1) := by decide +kernel
theorem dX0_isSortSound_114 : decode cX0_isSortSound 114 = .ok (.invokevirtual 70, 3) := by decide +kernel
theorem dX0_isSortSound_117 : decode cX0_isSortSound 117 = .ok (.ishl, 1) := by decide +kernel
theorem dX0_isSortSound_118 : decode cX0_isSortSound 118 = .ok (.iconst 1, 1) := by decide +kernel
theorem dX0_isSortSound_119 : decode cX0_isSortSound 119 = .ok (.isub, 1) := by decide +kernel
theorem dX0_isSortSound_120 : decode cX0_isSortSound 120 = .ok (.if_icmp .ne 7, 3) := by decide +kernel
theorem dX0_isSortSound_123 : decode cX0_isSortSound 123 = .ok (.iconst 1, 1) := by decide +kernel
theorem dX0_isSortSound_124 : decode cX0_isSortSound 124 = .ok (.goto 4, 3) := by decide +kernel
theorem dX0_isSortSound_127 : decode cX0_isSortSound 127 = .ok (.iconst 0, 1) := by decide +kernel
theorem dX0_isSortSound_128 : decode cX0_isSortSound 128 = .ok (.ireturn, 1) := by decide +kernel
theorem dX0_isBehind_0 : decode cX0_isBehind 0 = .ok (.iload_n 2, 1) := by decide +kernel
theorem dX0_isBehind_1 : decode cX0_isBehind 1 = .ok (.bipush 107, 2) := by decide +kernel
theorem dX0_isBehind_3 : decode cX0_isBehind 3 = .ok (.if_icmp .eq 9, 3) := by decide +kernel
theorem dX0_isBehind_6 : decode cX0_isBehind 6 = .ok (.iload_n 2, 1) := by decide +kernel
theorem dX0_isBehind_7 : decode cX0_isBehind 7 = .ok (.bipush 75, 2) := by decide +kernel
theorem dX0_isBehind_9 : decode cX0_isBehind 9 = .ok (.if_icmp .ne 7, 3) := by decide +kernel
theorem dX0_isBehind_12 : decode cX0_isBehind 12 = .ok (.iconst 1, 1) := by decide +kernel
theorem dX0_isBehind_13 : decode cX0_isBehind 13 = .ok (.goto 4, 3) := by decide +kernel
theorem dX0_isBehind_16 : decode cX0_isBehind 16 = .ok (.iconst 0, 1) := by decide +kernel
theorem dX0_isBehind_17 : decode cX0_isBehind 17 = .ok (.istore_n 3, 1) := by decide +kernel
theorem dX0_isBehind_18 : decode cX0_isBehind 18 = .ok (.iload_n 3, 1) := by decide +kernel
theorem dX0_isBehind_19 : decode cX0_isBehind 19 = .ok (.ifCond .eq 14, 3) := by decide +kernel
theorem dX0_isBehind_22 : decode cX0_isBehind 22 = .ok (.aload_n 0, 1) := by decide +kernel
theorem dX0_isBehind_23 : decode cX0_isBehind 23 = .ok (.getfield 14, 3) := by decide +kernel
theorem dX0_isBehind_26 : decode cX0_isBehind 26 = .ok (.iload_n 1, 1) := by decide +kernel
theorem dX0_isBehind_27 : decode cX0_isBehind 27 = .ok (.invokevirtual 113, 3) := by decide +kernel
theorem dX0_isBehind_30 : decode cX0_isBehind 30 = .ok (.goto 11, 3) := by decide +kernel
theorem dX0_isBehind_33 : decode cX0_isBehind 33 = .ok (.aload_n 0, 1) := by decide +kernel
theorem dX0_isBehind_34 : decode cX0_isBehind 34 = .ok (.getfield 14, 3) := by decide +kernel
theorem dX0_isBehind_37 : decode cX0_isBehind 37 = .ok (.iload_n 1, 1) := by decide +kernel
theorem dX0_isBehind_38 : decode cX0_isBehind 38 = .ok (.invokevirtual 116, 3) := by decide +kernel
theorem dX0_isBehind_41 : decode cX0_isBehind 41 = .ok (.istore 4, 2) := by decide +kernel
theorem dX0_isBehind_43 : decode cX0_isBehind 43 = .ok (.iload_n 3, 1) := by decide +kernel
theorem dX0_isBehind_44 : decode cX0_isBehind 44 = .ok (.ifCond .eq 16, 3) := by decide +kernel
theorem dX0_isBehind_47 : decode cX0_isBehind 47 = .ok (.aload_n 0, 1) := by decide +kernel
theorem dX0_isBehind_48 : decode cX0_isBehind 48 = .ok (.getfield 14, 3) := by decide +kernel
theorem dX0_isBehind_51 : decode cX0_isBehind 51 = .ok (.iload_n 1, 1) := by decide +kernel
theorem dX0_isBehind_52 : decode cX0_isBehind 52 = .ok (.iconst 1, 1) := by decide +kernel
theorem dX0_isBehind_53 : decode cX0_isBehind 53 = .ok (.isub, 1) := by decide +kernel
theorem dX0_isBehind_54 : decode cX0_isBehind 54 = .ok (.invokevirtual 113, 3) := by decide +kernel
theorem dX0_isBehind_57 : decode cX0_isBehind 57 = .ok (.goto 13, 3) := by decide +kernel
theorem dX0_isBehind_60 : decode cX0_isBehind 60 = .ok (.aload_n 0, 1) := by decide +kernel
theorem dX0_isBehind_61 : decode cX0_isBehind 61 = .ok (.getfield 14, 3) := by decide +kernel
theorem dX0_isBehind_64 : decode cX0_isBehind 64 = .ok (.iload_n 1, 1) := by decide +kernel
theorem dX0_isBehind_65 : decode cX0_isBehind 65 = .ok (.iconst 1, 1) := by decide +kernel
theorem dX0_isBehind_66 : decode cX0_isBehind 66 = .ok (.isub, 1) := by decide +kernel
theorem dX0_isBehind_67 : decode cX0_isBehind 67 = .ok (.invokevirtual 116, 3) := by decide +kernel
theorem dX0_isBehind_70 : decode cX0_isBehind 70 = .ok (.istore 5, 2) := by decide +kernel
theorem dX0_isBehind_72 : decode cX0_isBehind 72 = .ok (.iload 4, 2) := by decide +kernel
theorem dX0_isBehind_74 : decode cX0_isBehind 74 = .ok (.iload 5, 2) := by decide +kernel
theorem dX0_isBehind_76 : decode cX0_isBehind 76 = .ok (.if_icmp .ne 30, 3) := by decide +kernel
theorem dX0_isBehind_79 : decode cX0_isBehind 79 = .ok (.aload_n 0, 1) := by decide +kernel
theorem dX0_isBehind_80 : decode cX0_isBehind 80 = .ok (.getfield 14, 3) := by decide +kernel
theorem dX0_isBehind_83 : decode cX0_isBehind 83 = .ok (.iload_n 1, 1) := by decide +kernel
theorem dX0_isBehind_84 : decode cX0_isBehind 84 = .ok (.iconst 1, 1) := by decide +kernel
theorem dX0_isBehind_85 : decode cX0_isBehind 85 = .ok (.isub, 1) := by decide +kernel
theorem dX0_isBehind_86 : decode cX0_isBehind 86 = .ok (.invokevirtual 106, 3) := by decide +kernel
theorem dX0_isBehind_89 : decode cX0_isBehind 89 = .ok (.aload_n 0, 1) := by decide +kernel
theorem dX0_isBehind_90 : decode cX0_isBehind 90 = .ok (.getfield 14, 3) := by decide +kernel
theorem dX0_isBehind_93 : decode cX0_isBehind 93 = .ok (.iload_n 1, 1) := by decide +kernel
theorem dX0_isBehind_94 : decode cX0_isBehind 94 = .ok (.invokevirtual 106, 3) := by decide +kernel
theorem dX0_isBehind_97 : decode cX0_isBehind 97 = .ok (.if_icmp .ge 7, 3) := by decide +kernel
theorem dX0_isBehind_100 : decode cX0_isBehind 100 = .ok (.iconst 1, 1) := by decide +kernel
theorem dX0_isBehind_101 : decode cX0_isBehind 101 = .ok (.goto 4, 3) := by decide +kernel
theorem dX0_isBehind_104 : decode cX0_isBehind 104 = .ok (.iconst 0, 1) := by decide +kernel
theorem dX0_isBehind_105 : decode cX0_isBehind 105 = .ok (.ireturn, 1) := by decide +kernel
theorem dX0_isBehind_106 : decode cX0_isBehind 106 = .ok (.iload_n 2, 1) := by decide +kernel
theorem dX0_isBehind_107 : decode cX0_isBehind 107 = .ok (.bipush 75, 2) := by decide +kernel
theorem dX0_isBehind_109 : decode cX0_isBehind 109 = .ok (.if_icmp .eq 9, 3) := by decide +kernel
theorem dX0_isBehind_112 : decode cX0_isBehind 112 = .ok (.iload_n 2, 1) := by decide +kernel
theorem dX0_isBehind_113 : decode cX0_isBehind 113 = .ok (.bipush 77, 2) := by decide +kernel
theorem dX0_isBehind_115 : decode cX0_isBehind 115 = .ok (.if_icmp .ne 7, 3) := by decide +kernel
theorem dX0_isBehind_118 : decode cX0_isBehind 118 = .ok (.iconst 1, 1) := by decide +kernel
theorem dX0_isBehind_119 : decode cX0_isBehind 119 = .ok (.goto 4, 3) := by decide +kernel
theorem dX0_isBehind_122 : decode cX0_isBehind 122 = .ok (.iconst 0, 1) := by decide +kernel
theorem dX0_isBehind_123 : decode cX0_isBehind 123 = .ok (.istore 6, 2) := by decide +kernel
theorem dX0_isBehind_125 : decode cX0_isBehind 125 = .ok (.iload 6, 2) := by decide +kernel
theorem dX0_isBehind_127 : decode cX0_isBehind 127 = .ok (.iload 4, 2) := by decide +kernel
theorem dX0_isBehind_129 : decode cX0_isBehind 129 = .ok (.iload 5, 2) := by decide +kernel
theorem dX0_isBehind_131 : decode cX0_isBehind 131 = .ok (.if_icmp .ge 7, 3) := by decide +kernel
theorem dX0_isBehind_134 : decode cX0_isBehind 134 = .ok (.iconst 1, 1) := by decide +kernel
theorem dX0_isBehind_135 : decode cX0_isBehind 135 = .ok (.goto 4, 3) := by decide +kernel
theorem dX0_isBehind_138 : decode cX0_isBehind 138 = .ok (.iconst 0, 1) := by decide +kernel
theorem dX0_isBehind_139 : decode cX0_isBehind 139 = .ok (.if_icmp .ne 7, 3) := by decide +kernel
theorem dX0_isBehind_142 : decode cX0_isBehind 142 = .ok (.iconst 1, 1) := by decide +kernel
theorem dX0_isBehind_143 : decode cX0_isBehind 143 = .ok (.goto 4, 3) := by decide +kernel
theorem dX0_isBehind_146 : decode cX0_isBehind 146 = .ok (.iconst 0, 1) := by decide +kernel
theorem dX0_isBehind_147 : decode cX0_isBehind 147 = .ok (.ireturn, 1) := by decide +kernel
theorem dX0_isTurnSound_0 : decode cX0_isTurnSound 0 = .ok (.aload_n 1, 1) := by decide +kernel
theorem dX0_isTurnSound_1 : decode cX0_isTurnSound 1 = .ok (.invokevirtual 70, 3) := by decide +kernel
theorem dX0_isTurnSound_4 : decode cX0_isTurnSound 4 = .ok (.istore_n 2, 1) := by decide +kernel
theorem dX0_isTurnSound_5 : decode cX0_isTurnSound 5 = .ok (.aload_n 0, 1) := by decide +kernel
theorem dX0_isTurnSound_6 : decode cX0_isTurnSound 6 = .ok (.getfield 14, 3) := by decide +kernel
theorem dX0_isTurnSound_9 : decode cX0_isTurnSound 9 = .ok (.aload_n 1, 1) := by decide +kernel
theorem dX0_isTurnSound_10 : decode cX0_isTurnSound 10 = .ok (.invokevirtual 95, 3) := by decide +kernel
theorem dX0_isTurnSound_13 : decode cX0_isTurnSound 13 = .ok (.aload_n 0, 1) := by decide +kernel
theorem dX0_isTurnSound_14 : decode cX0_isTurnSound 14 = .ok (.getfield 14, 3) := by decide +kernel
theorem dX0_isTurnSound_17 : decode cX0_isTurnSound 17 = .ok (.iconst 0, 1) := by decide +kernel
theorem dX0_isTurnSound_18 : decode cX0_isTurnSound 18 = .ok (.iload_n 2, 1) := by decide +kernel
theorem dX0_isTurnSound_19 : decode cX0_isTurnSound 19 = .ok (.invokevirtual 119, 3) := by decide +kernel
theorem dX0_isTurnSound_22 : decode cX0_isTurnSound 22 = .ok (.iconst 0, 1) := by decide +kernel
theorem dX0_isTurnSound_23 : decode cX0_isTurnSound 23 = .ok (.istore_n 3, 1) := by decide +kernel
theorem dX0_isTurnSound_24 : decode cX0_isTurnSound 24 = .ok (.iload_n 3, 1) := by decide +kernel
theorem dX0_isTurnSound_25 : decode cX0_isTurnSound 25 = .ok (.iload_n 2, 1) := by decide +kernel
theorem dX0_isTurnSound_26 : decode cX0_isTurnSound 26 = .ok (.if_icmp .ge 28, 3) := by decide +kernel
theorem dX0_isTurnSound_29 : decode cX0_isTurnSound 29 = .ok (.aload_n 0, 1) := by decide +kernel
theorem dX0_isTurnSound_30 : decode cX0_isTurnSound 30 = .ok (.getfield 25, 3) := by decide +kernel
theorem dX0_isTurnSound_33 : decode cX0_isTurnSound 33 = .ok (.iload_n 3, 1) := by decide +kernel
theorem dX0_isTurnSound_34 : decode cX0_isTurnSound 34 = .ok (.aload_n 1, 1) := by decide +kernel
theorem dX0_isTurnSound_35 : decode cX0_isTurnSound 35 = .ok (.iload_n 2, 1) := by decide +kernel
theorem dX0_isTurnSound_36 : decode cX0_isTurnSound 36 = .ok (.iconst 1, 1) := by decide +kernel
theorem dX0_isTurnSound_37 : decode cX0_isTurnSound 37 = .ok (.isub, 1) := by decide +kernel
theorem dX0_isTurnSound_38 : decode cX0_isTurnSound 38 = .ok (.iload_n 3, 1) := by decide +kernel
theorem dX0_isTurnSound_39 : decode cX0_isTurnSound 39 = .ok (.isub, 1) := by decide +kernel
theorem dX0_isTurnSound_40 : decode cX0_isTurnSound 40 = .ok (.invokevirtual 79, 3) := by decide +kernel
theorem dX0_isTurnSound_43 : decode cX0_isTurnSound 43 = .ok (.ifCond .ne 5, 3) := by decide +kernel
theorem dX0_isTurnSound_46 : decode cX0_isTurnSound 46 = .ok (.iconst 0, 1) := by decide +kernel
theorem dX0_isTurnSound_47 : decode cX0_isTurnSound 47 = .ok (.ireturn, 1) := by decide +kernel
theorem dX0_isTurnSound_48 : decode cX0_isTurnSound 48 = .ok (.iinc 3 1, 3) := by decide +kernel
theorem dX0_isTurnSound_51 : decode cX0_isTurnSound 51 = .ok (.goto (-27), 3) := by decide +kernel
theorem dX0_isTurnSound_54 : decode cX0_isTurnSound 54 = .ok (.aload_n 0, 1) := by decide +kernel
theorem dX0_isTurnSound_55 : decode cX0_isTurnSound 55 = .ok (.getfield 14, 3) := by decide +kernel
theorem dX0_isTurnSound_58 : decode cX0_isTurnSound 58 = .ok (.iconst 0, 1) := by decide +kernel
theorem dX0_isTurnSound_59 : decode cX0_isTurnSound 59 = .ok (.iload_n 2, 1) := by decide +kernel
theorem dX0_isTurnSound_60 : decode cX0_isTurnSound 60 = .ok (.invokevirtual 119, 3) := by decide +kernel
theorem dX0_isTurnSound_63 : decode cX0_isTurnSound 63 = .ok (.aload_n 0, 1) := by decide +kernel
theorem dX0_isTurnSound_64 : decode cX0_isTurnSound 64 = .ok (.getfield 25, 3) := by decide +kernel
theorem dX0_isTurnSound_67 : decode cX0_isTurnSound 67 = .ok (.iconst 0, 1) := by decide +kernel
theorem dX0_isTurnSound_68 : decode cX0_isTurnSound 68 = .ok (.aload_n 1, 1) := by decide +kernel
theorem dX0_isTurnSound_69 : decode cX0_isTurnSound 69 = .ok (.invokevirtual 123, 3) := by decide +kernel
theorem dX0_isTurnSound_72 : decode cX0_isTurnSound 72 = .ok (.ireturn, 1) := by decide +kernel
theorem dX0_isRotateSound_0 : decode cX0_isRotateSound 0 = .ok (.aload_n 1, 1) := by decide +kernel
theorem dX0_isRotateSound_1 : decode cX0_isRotateSound 1 = .ok (.invokevirtual 70, 3) := by decide +kernel
theorem dX0_isRotateSound_4 : decode cX0_isRotateSound 4 = .ok (.istore_n 2, 1) := by decide +kernel
theorem dX0_isRotateSound_5 : decode cX0_isRotateSound 5 = .ok (.aload_n 0, 1) := by decide +kernel
theorem dX0_isRotateSound_6 : decode cX0_isRotateSound 6 = .ok (.getfield 14, 3) := by decide +kernel
theorem dX0_isRotateSound_9 : decode cX0_isRotateSound 9 = .ok (.aload_n 1, 1) := by decide +kernel
theorem dX0_isRotateSound_10 : decode cX0_isRotateSound 10 = .ok (.invokevirtual 95, 3) := by decide +kernel
theorem dX0_isRotateSound_13 : decode cX0_isRotateSound 13 = .ok (.aload_n 0, 1) := by decide +kernel
theorem dX0_isRotateSound_14 : decode cX0_isRotateSound 14 = .ok (.getfield 14, 3) := by decide +kernel
theorem dX0_isRotateSound_17 : decode cX0_isRotateSound 17 = .ok (.iconst 0, 1) := by decide +kernel
theorem dX0_isRotateSound_18 : decode cX0_isRotateSound 18 = .ok (.iload_n 2, 1) := by decide +kernel
theorem dX0_isRotateSound_19 : decode cX0_isRotateSound 19 = .ok (.iconst 5, 1) := by decide +kernel
theorem dX0_isRotateSound_20 : decode cX0_isRotateSound 20 = .ok (.invokevirtual 127, 3) := by decide +kernel
theorem dX0_isRotateSound_23 : decode cX0_isRotateSound 23 = .ok (.iconst 0, 1) := by decide +kernel
theorem dX0_isRotateSound_24 : decode cX0_isRotateSound 24 = .ok (.istore_n 3, 1) := by decide +kernel
theorem dX0_isRotateSound_25 : decode cX0_isRotateSound 25 = .ok (.iload_n 3, 1) := by decide +kernel
theorem dX0_isRotateSound_26 : decode cX0_isRotateSound 26 = .ok (.iload_n 2, 1) := by decide +kernel
theorem dX0_isRotateSound_27 : decode cX0_isRotateSound 27 = .ok (.if_icmp .ge 28, 3) := by decide +kernel
theorem dX0_isRotateSound_30 : decode cX0_isRotateSound 30 = .ok (.aload_n 0, 1) := by decide +kernel
theorem dX0_isRotateSound_31 : decode cX0_isRotateSound 31 = .ok (.getfield 25, 3) := by decide +kernel
theorem dX0_isRotateSound_34 : decode cX0_isRotateSound 34 = .ok (.iload_n 3, 1) := by decide +kernel
theorem dX0_isRotateSound_35 : decode cX0_isRotateSound 35 = .ok (.iconst 5, 1) := by decide +kernel
theorem dX0_isRotateSound_36 : decode cX0_isRotateSound 36 = .ok (.iadd, 1) := by decide +kernel
theorem dX0_isRotateSound_37 : decode cX0_isRotateSound 37 = .ok (.iload_n 2, 1) := by decide +kernel
theorem dX0_isRotateSound_38 : decode cX0_isRotateSound 38 = .ok (.irem, 1) := by decide +kernel
theorem dX0_isRotateSound_39 : decode cX0_isRotateSound 39 = .ok (.aload_n 1, 1) := by decide +kernel
theorem dX0_isRotateSound_40 : decode cX0_isRotateSound 40 = .ok (.iload_n 3, 1) := by decide +kernel
theorem dX0_isRotateSound_41 : decode cX0_isRotateSound 41 = .ok (.invokevirtual 79, 3) := by decide +kernel
theorem dX0_isRotateSound_44 : decode cX0_isRotateSound 44 = .ok (.ifCond .ne 5, 3) := by decide +kernel
theorem dX0_isRotateSound_47 : decode cX0_isRotateSound 47 = .ok (.iconst 0, 1) := by decide +kernel
theorem dX0_isRotateSound_48 : decode cX0_isRotateSound 48 = .ok (.ireturn, 1) := by decide +kernel
theorem dX0_isRotateSound_49 : decode cX0_isRotateSound 49 = .ok (.iinc 3 1, 3) := by decide +kernel
theorem dX0_isRotateSound_52 : decode cX0_isRotateSound 52 = .ok (.goto (-27), 3) := by decide +kernel
theorem dX0_isRotateSound_55 : decode cX0_isRotateSound 55 = .ok (.aload_n 0, 1) := by decide +kernel
theorem dX0_isRotateSound_56 : decode cX0_isRotateSound 56 = .ok (.getfield 14, 3) := by decide +kernel
theorem dX0_isRotateSound_59 : decode cX0_isRotateSound 59 = .ok (.iconst 0, 1) := by decide +kernel
theorem dX0_isRotateSound_60 : decode cX0_isRotateSound 60 = .ok (.iload_n 2, 1) := by decide +kernel
theorem dX0_isRotateSound_61 : decode cX0_isRotateSound 61 = .ok (.bipush (-5), 2) := by decide +kernel
theorem dX0_isRotateSound_63 : decode cX0_isRotateSound 63 = .ok (.invokevirtual 127, 3) := by decide +kernel
theorem dX0_isRotateSound_66 : decode cX0_isRotateSound 66 = .ok (.aload_n 0, 1) := by decide +kernel
theorem dX0_isRotateSound_67 : decode cX0_isRotateSound 67 = .ok (.getfield 25, 3) := by decide +kernel
theorem dX0_isRotateSound_70 : decode cX0_isRotateSound 70 = .ok (.iconst 0, 1) := by decide +kernel
theorem dX0_isRotateSound_71 : decode cX0_isRotateSound 71 = .ok (.aload_n 1, 1) := by decide +kernel
theorem dX0_isRotateSound_72 : decode cX0_isRotateSound 72 = .ok (.invokevirtual 123, 3) := by decide +kernel
theorem dX0_isRotateSound_75 : decode cX0_isRotateSound 75 = .ok (.ireturn, 1) := by decide +kernel
theorem dX0_isSearchSound_0 : decode cX0_isSearchSound 0 = .ok (.aload_n 0, 1) := by decide +kernel
theorem dX0_isSearchSound_1 : decode cX0_isSearchSound 1 = .ok (.getfield 14, 3) := by decide +kernel
theorem dX0_isSearchSound_4 : decode cX0_isSearchSound 4 = .ok (.aload_n 1, 1) := by decide +kernel
theorem dX0_isSearchSound_5 : decode cX0_isSearchSound 5 = .ok (.invokevirtual 95, 3) := by decide +kernel
theorem dX0_isSearchSound_8 : decode cX0_isSearchSound 8 = .ok (.aload_n 0, 1) := by decide +kernel
theorem dX0_isSearchSound_9 : decode cX0_isSearchSound 9 = .ok (.getfield 14, 3) := by decide +kernel
theorem dX0_isSearchSound_12 : decode cX0_isSearchSound 12 = .ok (.iconst 0, 1) := by decide +kernel
theorem dX0_isSearchSound_13 : decode cX0_isSearchSound 13 = .ok (.aload_n 0, 1) := by decide +kernel
theorem dX0_isSearchSound_14 : decode cX0_isSearchSound 14 = .ok (.getfield 14, 3) := by decide +kernel
theorem dX0_isSearchSound_17 : decode cX0_isSearchSound 17 = .ok (.getfield 99, 3) := by decide +kernel
theorem dX0_isSearchSound_20 : decode cX0_isSearchSound 20 = .ok (.bipush 107, 2) := by decide +kernel
theorem dX0_isSearchSound_22 : decode cX0_isSearchSound 22 = .ok (.invokevirtual 102, 3) := by decide +kernel
theorem dX0_isSearchSound_25 : decode cX0_isSearchSound 25 = .ok (.iconst 0, 1) := by decide +kernel
theorem dX0_isSearchSound_26 : decode cX0_isSearchSound 26 = .ok (.istore_n 2, 1) := by decide +kernel
theorem dX0_isSearchSound_27 : decode cX0_isSearchSound 27 = .ok (.iload_n 2, 1) := by decide +kernel
theorem dX0_isSearchSound_28 : decode cX0_isSearchSound 28 = .ok (.aload_n 1, 1) := by decide +kernel
theorem dX0_isSearchSound_29 : decode cX0_isSearchSound 29 = .ok (.invokevirtual 70, 3) := by decide +kernel
theorem dX0_isSearchSound_32 : decode cX0_isSearchSound 32 = .ok (.if_icmp .ge 51, 3) := by decide +kernel
theorem dX0_isSearchSound_35 : decode cX0_isSearchSound 35 = .ok (.aload_n 1, 1) := by decide +kernel
theorem dX0_isSearchSound_36 : decode cX0_isSearchSound 36 = .ok (.iload_n 2, 1) := by decide +kernel
theorem dX0_isSearchSound_37 : decode cX0_isSearchSound 37 = .ok (.invokevirtual 131, 3) := by decide +kernel
theorem dX0_isSearchSound_40 : decode cX0_isSearchSound 40 = .ok (.istore_n 3, 1) := by decide +kernel
theorem dX0_isSearchSound_41 : decode cX0_isSearchSound 41 = .ok (.aload_n 0, 1) := by decide +kernel
theorem dX0_isSearchSound_42 : decode cX0_isSearchSound 42 = .ok (.getfield 25, 3) := by decide +kernel
theorem dX0_isSearchSound_45 : decode cX0_isSearchSound 45 = .ok (.iload_n 3, 1) := by decide +kernel
theorem dX0_isSearchSound_46 : decode cX0_isSearchSound 46 = .ok (.invokevirtual 134, 3) := by decide +kernel
theorem dX0_isSearchSound_49 : decode cX0_isSearchSound 49 = .ok (.bipush 100, 2) := by decide +kernel
theorem dX0_isSearchSound_51 : decode cX0_isSearchSound 51 = .ok (.if_icmp .ne 24, 3) := by decide +kernel
theorem dX0_isSearchSound_54 : decode cX0_isSearchSound 54 = .ok (.aload_n 0, 1) := by decide +kernel
theorem dX0_isSearchSound_55 : decode cX0_isSearchSound 55 = .ok (.getfield 25, 3) := by decide +kernel
theorem dX0_isSearchSound_58 : decode cX0_isSearchSound 58 = .ok (.iload_n 3, 1) := by decide +kernel
theorem dX0_isSearchSound_59 : decode cX0_isSearchSound 59 = .ok (.iconst 1, 1) := by decide +kernel
theorem dX0_isSearchSound_60 : decode cX0_isSearchSound 60 = .ok (.iadd, 1) := by decide +kernel
theorem dX0_isSearchSound_61 : decode cX0_isSearchSound 61 = .ok (.invokevirtual 134, 3) := by decide +kernel
theorem dX0_isSearchSound_64 : decode cX0_isSearchSound 64 = .ok (.aload_n 0, 1) := by decide +kernel
theorem dX0_isSearchSound_65 : decode cX0_isSearchSound 65 = .ok (.aload_n 1, 1) := by decide +kernel
theorem dX0_isSearchSound_66 : decode cX0_isSearchSound 66 = .ok (.iload_n 3, 1) := by decide +kernel
theorem dX0_isSearchSound_67 : decode cX0_isSearchSound 67 = .ok (.iconst 1, 1) := by decide +kernel
theorem dX0_isSearchSound_68 : decode cX0_isSearchSound 68 = .ok (.iadd, 1) := by decide +kernel
theorem dX0_isSearchSound_69 : decode cX0_isSearchSound 69 = .ok (.invokevirtual 137, 3) := by decide +kernel
theorem dX0_isSearchSound_72 : decode cX0_isSearchSound 72 = .ok (.if_icmp .eq 5, 3) := by decide +kernel
theorem dX0_isSearchSound_75 : decode cX0_isSearchSound 75 = .ok (.iconst 0, 1) := by decide +kernel
theorem dX0_isSearchSound_76 : decode cX0_isSearchSound 76 = .ok (.ireturn, 1) := by decide +kernel
theorem dX0_isSearchSound_77 : decode cX0_isSearchSound 77 = .ok (.iinc 2 1, 3) := by decide +kernel
theorem dX0_isSearchSound_80 : decode cX0_isSearchSound 80 = .ok (.goto (-53), 3) := by decide +kernel
theorem dX0_isSearchSound_83 : decode cX0_isSearchSound 83 = .ok (.iconst 1, 1) := by decide +kernel
theorem dX0_isSearchSound_84 : decode cX0_isSearchSound 84 = .ok (.ireturn, 1) := by decide +kernel
theorem dX0_countedSearch_0 : decode cX0_countedSearch 0 = .ok (.iconst 0, 1) := by decide +kernel
theorem dX0_countedSearch_1 : decode cX0_countedSearch 1 = .ok (.istore_n 3, 1) := by decide +kernel
theorem dX0_countedSearch_2 : decode cX0_countedSearch 2 = .ok (.iconst 0, 1) := by decide +kernel
theorem dX0_countedSearch_3 : decode cX0_countedSearch 3 = .ok (.istore 4, 2) := by decide +kernel
theorem dX0_countedSearch_5 : decode cX0_countedSearch 5 = .ok (.iload 4, 2) := by decide +kernel
theorem dX0_countedSearch_7 : decode cX0_countedSearch 7 = .ok (.aload_n 1, 1) := by decide +kernel
theorem dX0_countedSearch_8 : decode cX0_countedSearch 8 = .ok (.invokevirtual 70, 3) := by decide +kernel
theorem dX0_countedSearch_11 : decode cX0_countedSearch 11 = .ok (.if_icmp .ge 22, 3) := by decide +kernel
theorem dX0_countedSearch_14 : decode cX0_countedSearch 14 = .ok (.aload_n 1, 1) := by decide +kernel
theorem dX0_countedSearch_15 : decode cX0_countedSearch 15 = .ok (.iload 4, 2) := by decide +kernel
theorem dX0_countedSearch_17 : decode cX0_countedSearch 17 = .ok (.invokevirtual 131, 3) := by decide +kernel
theorem dX0_countedSearch_20 : decode cX0_countedSearch 20 = .ok (.iload_n 2, 1) := by decide +kernel
theorem dX0_countedSearch_21 : decode cX0_countedSearch 21 = .ok (.if_icmp .ge 6, 3) := by decide +kernel
theorem dX0_countedSearch_24 : decode cX0_countedSearch 24 = .ok (.iinc 3 1, 3) := by decide +kernel
theorem dX0_countedSearch_27 : decode cX0_countedSearch 27 = .ok (.iinc 4 1, 3) := by decide +kernel
theorem dX0_countedSearch_30 : decode cX0_countedSearch 30 = .ok (.goto (-25), 3) := by decide +kernel
theorem dX0_countedSearch_33 : decode cX0_countedSearch 33 = .ok (.aload_n 1, 1) := by decide +kernel
theorem dX0_countedSearch_34 : decode cX0_countedSearch 34 = .ok (.iload_n 2, 1) := by decide +kernel
theorem dX0_countedSearch_35 : decode cX0_countedSearch 35 = .ok (.invokevirtual 141, 3) := by decide +kernel
theorem dX0_countedSearch_38 : decode cX0_countedSearch 38 = .ok (.ifCond .le 8, 3) := by decide +kernel
theorem dX0_countedSearch_41 : decode cX0_countedSearch 41 = .ok (.bipush 100, 2) := by decide +kernel
theorem dX0_countedSearch_43 : decode cX0_countedSearch 43 = .ok (.goto 6, 3) := by decide +kernel
theorem dX0_countedSearch_46 : decode cX0_countedSearch 46 = .ok (.iconst (-1), 1) := by decide +kernel
theorem dX0_countedSearch_47 : decode cX0_countedSearch 47 = .ok (.iload_n 3, 1) := by decide +kernel
theorem dX0_countedSearch_48 : decode cX0_countedSearch 48 = .ok (.isub, 1) := by decide +kernel
theorem dX0_countedSearch_49 : decode cX0_countedSearch 49 = .ok (.ireturn, 1) := by decide +kernel
theorem dX1_init_0 : decode cX1_init 0 = .ok (.aload_n 0, 1) := by decide +kernel
theorem dX1_init_1 : decode cX1_init 1 = .ok (.invokespecial 3, 3) := by decide +kernel
theorem dX1_init_4 : decode cX1_init 4 = .ok (.aload_n 0, 1) := by decide +kernel
theorem dX1_init_5 : decode cX1_init 5 = .ok (.iload_n 1, 1) := by decide +kernel
theorem dX1_init_6 : decode cX1_init 6 = .ok (.putfield 9, 3) := by decide +kernel
theorem dX1_init_9 : decode cX1_init 9 = .ok (.aload_n 0, 1) := by decide +kernel
theorem dX1_init_10 : decode cX1_init 10 = .ok (.iload_n 2, 1) := by decide +kernel
theorem dX1_init_11 : decode cX1_init 11 = .ok (.putfield 15, 3) := by decide +kernel
theorem dX1_init_14 : decode cX1_init 14 = .ok (.aload_n 0, 1) := by decide +kernel
theorem dX1_init_15 : decode cX1_init 15 = .ok (.aload_n 3, 1) := by decide +kernel
theorem dX1_init_16 : decode cX1_init 16 = .ok (.putfield 19, 3) := by decide +kernel
theorem dX1_init_19 : decode cX1_init 19 = .ok (.aload_n 0, 1) := by decide +kernel
theorem dX1_init_20 : decode cX1_init 20 = .ok (.aload 4, 2) := by decide +kernel
theorem dX1_init_22 : decode cX1_init 22 = .ok (.putfield 23, 3) := by decide +kernel
theorem dX1_init_25 : decode cX1_init 25 = .ok (.aload_n 0, 1) := by decide +kernel
theorem dX1_init_26 : decode cX1_init 26 = .ok (.iconst 0, 1) := by decide +kernel
theorem dX1_init_27 : decode cX1_init 27 = .ok (.putfield 27, 3) := by decide +kernel
theorem dX1_init_30 : decode cX1_init 30 = .ok (.aload_n 0, 1) := by decide +kernel
theorem dX1_init_31 : decode cX1_init 31 = .ok (.iconst 0, 1) := by decide +kernel
theorem dX1_init_32 : decode cX1_init 32 = .ok (.putfield 31, 3) := by decide +kernel
theorem dX1_init_35 : decode cX1_init 35 = .ok (.aload_n 0, 1) := by decide +kernel
theorem dX1_init_36 : decode cX1_init 36 = .ok (.iconst 0, 1) := by decide +kernel
theorem dX1_init_37 : decode cX1_init 37 = .ok (.putfield 34, 3) := by decide +kernel
theorem dX1_init_40 : decode cX1_init 40 = .ok (.return_, 1) := by decide +kernel
theorem dX1_init__0 : decode cX1_init_ 0 = .ok (.aload_n 0, 1) := by decide +kernel
theorem dX1_init__1 : decode cX1_init_ 1 = .ok (.invokespecial 3, 3) := by decide +kernel
theorem dX1_init__4 : decode cX1_init_ 4 = .ok (.aload_n 0, 1) := by decide +kernel
theorem dX1_init__5 : decode cX1_init_ 5 = .ok (.iload_n 1, 1) := by decide +kernel
theorem dX1_init__6 : decode cX1_init_ 6 = .ok (.putfield 9, 3) := by decide +kernel
theorem dX1_init__9 : decode cX1_init_ 9 = .ok (.aload_n 0, 1) := by decide +kernel
theorem dX1_init__10 : decode cX1_init_ 10 = .ok (.iload_n 2, 1) := by decide +kernel
theorem dX1_init__11 : decode cX1_init_ 11 = .ok (.putfield 27, 3) := by decide +kernel
theorem dX1_init__14 : decode cX1_init_ 14 = .ok (.aload_n 0, 1) := by decide +kernel
theorem dX1_init__15 : decode cX1_init_ 15 = .ok (.iload_n 3, 1) := by decide +kernel
theorem dX1_init__16 : decode cX1_init_ 16 = .ok (.putfield 31, 3) := by decide +kernel
theorem dX1_init__19 : decode cX1_init_ 19 = .ok (.aload_n 0, 1) := by decide +kernel
theorem dX1_init__20 : decode cX1_init_ 20 = .ok (.iload 4, 2) := by decide +kernel
theorem dX1_init__22 : decode cX1_init_ 22 = .ok (.putfield 34, 3) := by decide +kernel
theorem dX1_init__25 : decode cX1_init_ 25 = .ok (.aload_n 0, 1) := by decide +kernel
theorem dX1_init__26 : decode cX1_init_ 26 = .ok (.iconst 0, 1) := by decide +kernel
theorem dX1_init__27 : decode cX1_init_ 27 = .ok (.putfield 15, 3) := by decide +kernel
theorem dX1_init__30 : decode cX1_init_ 30 = .ok (.aload_n 0, 1) := by decide +kernel
theorem dX1_init__31 : decode cX1_init_ 31 = .ok (.aconst_null, 1) := by decide +kernel
theorem dX1_init__32 : decode cX1_init_ 32 = .ok (.putfield 19, 3) := by decide +kernel
theorem dX1_init__35 : decode cX1_init_ 35 = .ok (.aload_n 0, 1) := by decide +kernel
theorem dX1_init__36 : decode cX1_init_ 36 = .ok (.aconst_null, 1) := by decide +kernel
theorem dX1_init__37 : decode cX1_init_ 37 = .ok (.putfield 23, 3) := by decide +kernel
theorem dX1_init__40 : decode cX1_init_ 40 = .ok (.return_, 1) := by decide +kernel
theorem dX1_isList_0 : decode cX1_isList 0 = .ok (.aload_n 0, 1) := by decide +kernel
theorem dX1_isList_1 : decode cX1_isList 1 = .ok (.getfield 9, 3) := by decide +kernel
theorem dX1_isList_4 : decode cX1_isList 4 = .ok (.bipush 108, 2) := by decide +kernel
theorem dX1_isList_6 : decode cX1_isList 6 = .ok (.if_icmp .eq 48, 3) := by decide +kernel
theorem dX1_isList_9 : decode cX1_isList 9 = .ok (.aload_n 0, 1) := by decide +kernel
theorem dX1_isList_10 : decode cX1_isList 10 = .ok (.getfield 9, 3) := by decide +kernel
theorem dX1_isList_13 : decode cX1_isList 13 = .ok (.bipush 112, 2) := by decide +kernel
theorem dX1_isList_15 : decode cX1_isList 15 = .ok (.if_icmp .eq 39, 3) := by decide +kernel
theorem dX1_isList_18 : decode cX1_isList 18 = .ok (.aload_n 0, 1) := by decide +kernel
theorem dX1_isList_19 : decode cX1_isList 19 = .ok (.getfield 9, 3) := by decide +kernel
theorem dX1_isList_22 : decode cX1_isList 22 = .ok (.bipush 102, 2) := by decide +kernel
theorem dX1_isList_24 : decode cX1_isList 24 = .ok (.if_icmp .eq 30, 3) := by decide +kernel
theorem dX1_isList_27 : decode cX1_isList 27 = .ok (.aload_n 0, 1) := by decide +kernel
theorem dX1_isList_28 : decode cX1_isList 28 = .ok (.getfield 9, 3) := by decide +kernel
theorem dX1_isList_31 : decode cX1_isList 31 = .ok (.bipush 99, 2) := by decide +kernel
theorem dX1_isList_33 : decode cX1_isList 33 = .ok (.if_icmp .eq 21, 3) := by decide +kernel
theorem dX1_isList_36 : decode cX1_isList 36 = .ok (.aload_n 0, 1) := by decide +kernel
theorem dX1_isList_37 : decode cX1_isList 37 = .ok (.getfield 9, 3) := by decide +kernel
theorem dX1_isList_40 : decode cX1_isList 40 = .ok (.bipush 97, 2) := by decide +kernel
theorem dX1_isList_42 : decode cX1_isList 42 = .ok (.if_icmp .eq 12, 3) := by decide +kernel
theorem dX1_isList_45 : decode cX1_isList 45 = .ok (.aload_n 0, 1) := by decide +kernel
theorem dX1_isList_46 : decode cX1_isList 46 = .ok (.getfield 9, 3) := by decide +kernel
theorem dX1_isList_49 : decode cX1_isList 49 = .ok (.bipush 101, 2) := by decide +kernel
theorem dX1_isList_51 : decode cX1_isList 51 = .ok (.if_icmp .ne 7, 3) := by decide +kernel
theorem dX1_isList_54 : decode cX1_isList 54 = .ok (.iconst 1, 1) := by decide +kernel
theorem dX1_isList_55 : decode cX1_isList 55 = .ok (.goto 4, 3) := by decide +kernel
theorem dX1_isList_58 : decode cX1_isList 58 = .ok (.iconst 0, 1) := by decide +kernel
theorem dX1_isList_59 : decode cX1_isList 59 = .ok (.ireturn, 1) := by decide +kernel
theorem dX1_isRow_0 : decode cX1_isRow 0 = .ok (.aload_n 0, 1) := by decide +kernel
theorem dX1_isRow_1 : decode cX1_isRow 1 = .ok (.invokevirtual 37, 3) := by decide +kernel
theorem dX1_isRow_4 : decode cX1_isRow 4 = .ok (.ifCond .ne 12, 3) := by decide +kernel
theorem dX1_isRow_7 : decode cX1_isRow 7 = .ok (.aload_n 0, 1) := by decide +kernel
theorem dX1_isRow_8 : decode cX1_isRow 8 = .ok (.getfield 9, 3) := by decide +kernel
theorem dX1_isRow_11 : decode cX1_isRow 11 = .ok (.bipush 118, 2) := by decide +kernel
theorem dX1_isRow_13 : decode cX1_isRow 13 = .ok (.if_icmp .ne 7, 3) := by decide +kernel
theorem dX1_isRow_16 : decode cX1_isRow 16 = .ok (.iconst 1, 1) := by decide +kernel
theorem dX1_isRow_17 : decode cX1_isRow 17 = .ok (.goto 4, 3) := by decide +kernel
theorem dX1_isRow_20 : decode cX1_isRow 20 = .ok (.iconst 0, 1) := by decide +kernel
theorem dX1_isRow_21 : decode cX1_isRow 21 = .ok (.ireturn, 1) := by decide +kernel
theorem dX1_isMap_0 : decode cX1_isMap 0 = .ok (.aload_n 0, 1) := by decide +kernel
theorem dX1_isMap_1 : decode cX1_isMap 1 = .ok (.getfield 9, 3) := by decide +kernel
theorem dX1_isMap_4 : decode cX1_isMap 4 = .ok (.bipush 109, 2) := by decide +kernel
theorem dX1_isMap_6 : decode cX1_isMap 6 = .ok (.if_icmp .eq 12, 3) := by decide +kernel
theorem dX1_isMap_9 : decode cX1_isMap 9 = .ok (.aload_n 0, 1) := by decide +kernel
theorem dX1_isMap_10 : decode cX1_isMap 10 = .ok (.getfield 9, 3) := by decide +kernel
theorem dX1_isMap_13 : decode cX1_isMap 13 = .ok (.bipush 70, 2) := by decide +kernel
theorem dX1_isMap_15 : decode cX1_isMap 15 = .ok (.if_icmp .ne 7, 3) := by decide +kernel
theorem dX1_isMap_18 : decode cX1_isMap 18 = .ok (.iconst 1, 1) := by decide +kernel
theorem dX1_isMap_19 : decode cX1_isMap 19 = .ok (.goto 4, 3) := by decide +kernel
theorem dX1_isMap_22 : decode cX1_isMap 22 = .ok (.iconst 0, 1) := by decide +kernel
theorem dX1_isMap_23 : decode cX1_isMap 23 = .ok (.ireturn, 1) := by decide +kernel
theorem dX1_count_0 : decode cX1_count 0 = .ok (.aload_n 0, 1) := by decide +kernel
theorem dX1_count_1 : decode cX1_count 1 = .ok (.getfield 19, 3) := by decide +kernel
theorem dX1_count_4 : decode cX1_count 4 = .ok (.ifnonnull 8, 3) := by decide +kernel
theorem dX1_count_7 : decode cX1_count 7 = .ok (.aload_n 0, 1) := by decide +kernel
theorem dX1_count_8 : decode cX1_count 8 = .ok (.getfield 27, 3) := by decide +kernel
theorem dX1_count_11 : decode cX1_count 11 = .ok (.ireturn, 1) := by decide +kernel
theorem dX1_count_12 : decode cX1_count 12 = .ok (.aload_n 0, 1) := by decide +kernel
theorem dX1_count_13 : decode cX1_count 13 = .ok (.getfield 23, 3) := by decide +kernel
theorem dX1_count_16 : decode cX1_count 16 = .ok (.ifnonnull 13, 3) := by decide +kernel
theorem dX1_count_19 : decode cX1_count 19 = .ok (.aload_n 0, 1) := by decide +kernel
theorem dX1_count_20 : decode cX1_count 20 = .ok (.getfield 19, 3) := by decide +kernel
theorem dX1_count_23 : decode cX1_count 23 = .ok (.getfield 41, 3) := by decide +kernel
theorem dX1_count_26 : decode cX1_count 26 = .ok (.goto 10, 3) := by decide +kernel
theorem dX1_count_29 : decode cX1_count 29 = .ok (.aload_n 0, 1) := by decide +kernel
theorem dX1_count_30 : decode cX1_count 30 = .ok (.getfield 23, 3) := by decide +kernel
theorem dX1_count_33 : decode cX1_count 33 = .ok (.getfield 46, 3) := by decide +kernel
theorem dX1_count_36 : decode cX1_count 36 = .ok (.ireturn, 1) := by decide +kernel
theorem dX1_first_0 : decode cX1_first 0 = .ok (.aload_n 0, 1) := by decide +kernel
theorem dX1_first_1 : decode cX1_first 1 = .ok (.getfield 23, 3) := by decide +kernel
theorem dX1_first_4 : decode cX1_first 4 = .ok (.ifnonnull 7, 3) := by decide +kernel
theorem dX1_first_7 : decode cX1_first 7 = .ok (.iconst 0, 1) := by decide +kernel
theorem dX1_first_8 : decode cX1_first 8 = .ok (.goto 10, 3) := by decide +kernel
theorem dX1_first_11 : decode cX1_first 11 = .ok (.aload_n 0, 1) := by decide +kernel
theorem dX1_first_12 : decode cX1_first 12 = .ok (.getfield 23, 3) := by decide +kernel
theorem dX1_first_15 : decode cX1_first 15 = .ok (.getfield 49, 3) := by decide +kernel
theorem dX1_first_18 : decode cX1_first 18 = .ok (.ireturn, 1) := by decide +kernel
theorem dX1_numberOf_0 : decode cX1_numberOf 0 = .ok (.aload_n 0, 1) := by decide +kernel
theorem dX1_numberOf_1 : decode cX1_numberOf 1 = .ok (.getfield 19, 3) := by decide +kernel
theorem dX1_numberOf_4 : decode cX1_numberOf 4 = .ok (.ifnonnull 7, 3) := by decide +kernel
theorem dX1_numberOf_7 : decode cX1_numberOf 7 = .ok (.iconst 0, 1) := by decide +kernel
theorem dX1_numberOf_8 : decode cX1_numberOf 8 = .ok (.goto 16, 3) := by decide +kernel
theorem dX1_numberOf_11 : decode cX1_numberOf 11 = .ok (.aload_n 0, 1) := by decide +kernel
theorem dX1_numberOf_12 : decode cX1_numberOf 12 = .ok (.getfield 19, 3) := by decide +kernel
theorem dX1_numberOf_15 : decode cX1_numberOf 15 = .ok (.aload_n 0, 1) := by decide +kernel
theorem dX1_numberOf_16 : decode cX1_numberOf 16 = .ok (.invokevirtual 52, 3) := by decide +kernel
theorem dX1_numberOf_19 : decode cX1_numberOf 19 = .ok (.iload_n 1, 1) := by decide +kernel
theorem dX1_numberOf_20 : decode cX1_numberOf 20 = .ok (.iadd, 1) := by decide +kernel
theorem dX1_numberOf_21 : decode cX1_numberOf 21 = .ok (.invokevirtual 55, 3) := by decide +kernel
theorem dX1_numberOf_24 : decode cX1_numberOf 24 = .ok (.ireturn, 1) := by decide +kernel
theorem dX1_keyOf_0 : decode cX1_keyOf 0 = .ok (.aload_n 0, 1) := by decide +kernel
theorem dX1_keyOf_1 : decode cX1_keyOf 1 = .ok (.getfield 19, 3) := by decide +kernel
theorem dX1_keyOf_4 : decode cX1_keyOf 4 = .ok (.ifnonnull 10, 3) := by decide +kernel
theorem dX1_keyOf_7 : decode cX1_keyOf 7 = .ok (.aload_n 0, 1) := by decide +kernel
theorem dX1_keyOf_8 : decode cX1_keyOf 8 = .ok (.getfield 31, 3) := by decide +kernel
theorem dX1_keyOf_11 : decode cX1_keyOf 11 = .ok (.goto 16, 3) := by decide +kernel
theorem dX1_keyOf_14 : decode cX1_keyOf 14 = .ok (.aload_n 0, 1) := by decide +kernel
theorem dX1_keyOf_15 : decode cX1_keyOf 15 = .ok (.getfield 19, 3) := by decide +kernel
theorem dX1_keyOf_18 : decode cX1_keyOf 18 = .ok (.aload_n 0, 1) := by decide +kernel
theorem dX1_keyOf_19 : decode cX1_keyOf 19 = .ok (.invokevirtual 52, 3) := by decide +kernel
theorem dX1_keyOf_22 : decode cX1_keyOf 22 = .ok (.iload_n 1, 1) := by decide +kernel
theorem dX1_keyOf_23 : decode cX1_keyOf 23 = .ok (.iadd, 1) := by decide +kernel
theorem dX1_keyOf_24 : decode cX1_keyOf 24 = .ok (.invokevirtual 59, 3) := by decide +kernel
theorem dX1_keyOf_27 : decode cX1_keyOf 27 = .ok (.ireturn, 1) := by decide +kernel
theorem dX1_markOf_0 : decode cX1_markOf 0 = .ok (.aload_n 0, 1) := by decide +kernel
theorem dX1_markOf_1 : decode cX1_markOf 1 = .ok (.getfield 19, 3) := by decide +kernel
theorem dX1_markOf_4 : decode cX1_markOf 4 = .ok (.ifnonnull 10, 3) := by decide +kernel
theorem dX1_markOf_7 : decode cX1_markOf 7 = .ok (.aload_n 0, 1) := by decide +kernel
theorem dX1_markOf_8 : decode cX1_markOf 8 = .ok (.getfield 34, 3) := by decide +kernel
theorem dX1_markOf_11 : decode cX1_markOf 11 = .ok (.goto 16, 3) := by decide +kernel
theorem dX1_markOf_14 : decode cX1_markOf 14 = .ok (.aload_n 0, 1) := by decide +kernel
theorem dX1_markOf_15 : decode cX1_markOf 15 = .ok (.getfield 19, 3) := by decide +kernel
theorem dX1_markOf_18 : decode cX1_markOf 18 = .ok (.aload_n 0, 1) := by decide +kernel
theorem dX1_markOf_19 : decode cX1_markOf 19 = .ok (.invokevirtual 52, 3) := by decide +kernel
theorem dX1_markOf_22 : decode cX1_markOf 22 = .ok (.iload_n 1, 1) := by decide +kernel
theorem dX1_markOf_23 : decode cX1_markOf 23 = .ok (.iadd, 1) := by decide +kernel
theorem dX1_markOf_24 : decode cX1_markOf 24 = .ok (.invokevirtual 62, 3) := by decide +kernel
theorem dX1_markOf_27 : decode cX1_markOf 27 = .ok (.ireturn, 1) := by decide +kernel
theorem dX1_hashOf_0 : decode cX1_hashOf 0 = .ok (.bipush 31, 2) := by decide +kernel
theorem dX1_hashOf_2 : decode cX1_hashOf 2 = .ok (.aload_n 0, 1) := by decide +kernel
theorem dX1_hashOf_3 : decode cX1_hashOf 3 = .ok (.iload_n 1, 1) := by decide +kernel
theorem dX1_hashOf_4 : decode cX1_hashOf 4 = .ok (.invokevirtual 65, 3) := by decide +kernel
theorem dX1_hashOf_7 : decode cX1_hashOf 7 = .ok (.imul, 1) := by decide +kernel
theorem dX1_hashOf_8 : decode cX1_hashOf 8 = .ok (.aload_n 0, 1) := by decide +kernel
theorem dX1_hashOf_9 : decode cX1_hashOf 9 = .ok (.iload_n 1, 1) := by decide +kernel
theorem dX1_hashOf_10 : decode cX1_hashOf 10 = .ok (.invokevirtual 68, 3) := by decide +kernel
theorem dX1_hashOf_13 : decode cX1_hashOf 13 = .ok (.iadd, 1) := by decide +kernel
theorem dX1_hashOf_14 : decode cX1_hashOf 14 = .ok (.ireturn, 1) := by decide +kernel
theorem dX1_isThing_0 : decode cX1_isThing 0 = .ok (.aload_n 0, 1) := by decide +kernel
theorem dX1_isThing_1 : decode cX1_isThing 1 = .ok (.iload_n 1, 1) := by decide +kernel
theorem dX1_isThing_2 : decode cX1_isThing 2 = .ok (.invokevirtual 65, 3) := by decide +kernel
theorem dX1_isThing_5 : decode cX1_isThing 5 = .ok (.iload_n 2, 1) := by decide +kernel
theorem dX1_isThing_6 : decode cX1_isThing 6 = .ok (.if_icmp .ne 16, 3) := by decide +kernel
theorem dX1_isThing_9 : decode cX1_isThing 9 = .ok (.aload_n 0, 1) := by decide +kernel
theorem dX1_isThing_10 : decode cX1_isThing 10 = .ok (.iload_n 1, 1) := by decide +kernel
theorem dX1_isThing_11 : decode cX1_isThing 11 = .ok (.invokevirtual 68, 3) := by decide +kernel
theorem dX1_isThing_14 : decode cX1_isThing 14 = .ok (.iload_n 3, 1) := by decide +kernel
theorem dX1_isThing_15 : decode cX1_isThing 15 = .ok (.if_icmp .ne 7, 3) := by decide +kernel
theorem dX1_isThing_18 : decode cX1_isThing 18 = .ok (.iconst 1, 1) := by decide +kernel
theorem dX1_isThing_19 : decode cX1_isThing 19 = .ok (.goto 4, 3) := by decide +kernel
theorem dX1_isThing_22 : decode cX1_isThing 22 = .ok (.iconst 0, 1) := by decide +kernel
theorem dX1_isThing_23 : decode cX1_isThing 23 = .ok (.ireturn, 1) := by decide +kernel
theorem dX1_isAlike_0 : decode cX1_isAlike 0 = .ok (.aload_n 0, 1) := by decide +kernel
theorem dX1_isAlike_1 : decode cX1_isAlike 1 = .ok (.iload_n 1, 1) := by decide +kernel
theorem dX1_isAlike_2 : decode cX1_isAlike 2 = .ok (.invokevirtual 65, 3) := by decide +kernel
theorem dX1_isAlike_5 : decode cX1_isAlike 5 = .ok (.aload_n 2, 1) := by decide +kernel
theorem dX1_isAlike_6 : decode cX1_isAlike 6 = .ok (.iload_n 3, 1) := by decide +kernel
theorem dX1_isAlike_7 : decode cX1_isAlike 7 = .ok (.invokevirtual 65, 3) := by decide +kernel
theorem dX1_isAlike_10 : decode cX1_isAlike 10 = .ok (.if_icmp .ne 20, 3) := by decide +kernel
theorem dX1_isAlike_13 : decode cX1_isAlike 13 = .ok (.aload_n 0, 1) := by decide +kernel
theorem dX1_isAlike_14 : decode cX1_isAlike 14 = .ok (.iload_n 1, 1) := by decide +kernel
theorem dX1_isAlike_15 : decode cX1_isAlike 15 = .ok (.invokevirtual 68, 3) := by decide +kernel
theorem dX1_isAlike_18 : decode cX1_isAlike 18 = .ok (.aload_n 2, 1) := by decide +kernel
theorem dX1_isAlike_19 : decode cX1_isAlike 19 = .ok (.iload_n 3, 1) := by decide +kernel
theorem dX1_isAlike_20 : decode cX1_isAlike 20 = .ok (.invokevirtual 68, 3) := by decide +kernel
theorem dX1_isAlike_23 : decode cX1_isAlike 23 = .ok (.if_icmp .ne 7, 3) := by decide +kernel
theorem dX1_isAlike_26 : decode cX1_isAlike 26 = .ok (.iconst 1, 1) := by decide +kernel
theorem dX1_isAlike_27 : decode cX1_isAlike 27 = .ok (.goto 4, 3) := by decide +kernel
theorem dX1_isAlike_30 : decode cX1_isAlike 30 = .ok (.iconst 0, 1) := by decide +kernel
theorem dX1_isAlike_31 : decode cX1_isAlike 31 = .ok (.ireturn, 1) := by decide +kernel
theorem dX1_find_0 : decode cX1_find 0 = .ok (.aload_n 0, 1) := by decide +kernel
theorem dX1_find_1 : decode cX1_find 1 = .ok (.invokevirtual 71, 3) := by decide +kernel
theorem dX1_find_4 : decode cX1_find 4 = .ok (.istore 4, 2) := by decide +kernel
theorem dX1_find_6 : decode cX1_find 6 = .ok (.iconst 0, 1) := by decide +kernel
theorem dX1_find_7 : decode cX1_find 7 = .ok (.istore 5, 2) := by decide +kernel
theorem dX1_find_9 : decode cX1_find 9 = .ok (.iload 5, 2) := by decide +kernel
theorem dX1_find_11 : decode cX1_find 11 = .ok (.iload 4, 2) := by decide +kernel
theorem dX1_find_13 : decode cX1_find 13 = .ok (.if_icmp .ge 41, 3) := by decide +kernel
theorem dX1_find_16 : decode cX1_find 16 = .ok (.iload_n 3, 1) := by decide +kernel
theorem dX1_find_17 : decode cX1_find 17 = .ok (.ifCond .eq 13, 3) := by decide +kernel
theorem dX1_find_20 : decode cX1_find 20 = .ok (.iload 4, 2) := by decide +kernel
theorem dX1_find_22 : decode cX1_find 22 = .ok (.iconst 1, 1) := by decide +kernel
theorem dX1_find_23 : decode cX1_find 23 = .ok (.isub, 1) := by decide +kernel
theorem dX1_find_24 : decode cX1_find 24 = .ok (.iload 5, 2) := by decide +kernel
theorem dX1_find_26 : decode cX1_find 26 = .ok (.isub, 1) := by decide +kernel
theorem dX1_find_27 : decode cX1_find 27 = .ok (.goto 5, 3) := by decide +kernel
theorem dX1_find_30 : decode cX1_find 30 = .ok (.iload 5, 2) := by decide +kernel
theorem dX1_find_32 : decode cX1_find 32 = .ok (.istore 6, 2) := by decide +kernel
theorem dX1_find_34 : decode cX1_find 34 = .ok (.aload_n 0, 1) := by decide +kernel
theorem dX1_find_35 : decode cX1_find 35 = .ok (.iload 6, 2) := by decide +kernel
theorem dX1_find_37 : decode cX1_find 37 = .ok (.iload_n 1, 1) := by decide +kernel
theorem dX1_find_38 : decode cX1_find 38 = .ok (.iload_n 2, 1) := by decide +kernel
theorem dX1_find_39 : decode cX1_find 39 = .ok (.invokevirtual 73, 3) := by decide +kernel
theorem dX1_find_42 : decode cX1_find 42 = .ok (.ifCond .eq 6, 3) := by decide +kernel
theorem dX1_find_45 : decode cX1_find 45 = .ok (.iload 6, 2) := by decide +kernel
theorem dX1_find_47 : decode cX1_find 47 = .ok (.ireturn, 1) := by decide +kernel
theorem dX1_find_48 : decode cX1_find 48 = .ok (.iinc 5 1, 3) := by decide +kernel
theorem dX1_find_51 : decode cX1_find 51 = .ok (.goto (-42), 3) := by decide +kernel
theorem dX1_find_54 : decode cX1_find 54 = .ok (.iconst (-1), 1) := by decide +kernel
theorem dX1_find_55 : decode cX1_find 55 = .ok (.ireturn, 1) := by decide +kernel
theorem dX1_findNumber_0 : decode cX1_findNumber 0 = .ok (.aload_n 0, 1) := by decide +kernel
theorem dX1_findNumber_1 : decode cX1_findNumber 1 = .ok (.getfield 19, 3) := by decide +kernel
theorem dX1_findNumber_4 : decode cX1_findNumber 4 = .ok (.ifnonnull 7, 3) := by decide +kernel
theorem dX1_findNumber_7 : decode cX1_findNumber 7 = .ok (.iconst (-1), 1) := by decide +kernel
theorem dX1_findNumber_8 : decode cX1_findNumber 8 = .ok (.goto 11, 3) := by decide +kernel
theorem dX1_findNumber_11 : decode cX1_findNumber 11 = .ok (.aload_n 0, 1) := by decide +kernel
theorem dX1_findNumber_12 : decode cX1_findNumber 12 = .ok (.getfield 19, 3) := by decide +kernel
theorem dX1_findNumber_15 : decode cX1_findNumber 15 = .ok (.iload_n 1, 1) := by decide +kernel
theorem dX1_findNumber_16 : decode cX1_findNumber 16 = .ok (.invokevirtual 77, 3) := by decide +kernel
theorem dX1_findNumber_19 : decode cX1_findNumber 19 = .ok (.ireturn, 1) := by decide +kernel
theorem dX1_countKey_0 : decode cX1_countKey 0 = .ok (.iconst 0, 1) := by decide +kernel
theorem dX1_countKey_1 : decode cX1_countKey 1 = .ok (.istore_n 2, 1) := by decide +kernel
theorem dX1_countKey_2 : decode cX1_countKey 2 = .ok (.iconst 0, 1) := by decide +kernel
theorem dX1_countKey_3 : decode cX1_countKey 3 = .ok (.istore_n 3, 1) := by decide +kernel
theorem dX1_countKey_4 : decode cX1_countKey 4 = .ok (.iload_n 3, 1) := by decide +kernel
theorem dX1_countKey_5 : decode cX1_countKey 5 = .ok (.aload_n 0, 1) := by decide +kernel
theorem dX1_countKey_6 : decode cX1_countKey 6 = .ok (.invokevirtual 71, 3) := by decide +kernel
theorem dX1_countKey_9 : decode cX1_countKey 9 = .ok (.if_icmp .ge 21, 3) := by decide +kernel
theorem dX1_countKey_12 : decode cX1_countKey 12 = .ok (.aload_n 0, 1) := by decide +kernel
theorem dX1_countKey_13 : decode cX1_countKey 13 = .ok (.iload_n 3, 1) := by decide +kernel
theorem dX1_countKey_14 : decode cX1_countKey 14 = .ok (.invokevirtual 65, 3) := by decide +kernel
theorem dX1_countKey_17 : decode cX1_countKey 17 = .ok (.iload_n 1, 1) := by decide +kernel
theorem dX1_countKey_18 : decode cX1_countKey 18 = .ok (.if_icmp .ne 6, 3) := by decide +kernel
theorem dX1_countKey_21 : decode cX1_countKey 21 = .ok (.iinc 2 1, 3) := by decide +kernel
theorem dX1_countKey_24 : decode cX1_countKey 24 = .ok (.iinc 3 1, 3) := by decide +kernel
theorem dX1_countKey_27 : decode cX1_countKey 27 = .ok (.goto (-23), 3) := by decide +kernel
theorem dX1_countKey_30 : decode cX1_countKey 30 = .ok (.iload_n 2, 1) := by decide +kernel
theorem dX1_countKey_31 : decode cX1_countKey 31 = .ok (.ireturn, 1) := by decide +kernel
theorem dX1_hasTwins_0 : decode cX1_hasTwins 0 = .ok (.iconst 0, 1) := by decide +kernel
theorem dX1_hasTwins_1 : decode cX1_hasTwins 1 = .ok (.istore_n 1, 1) := by decide +kernel
theorem dX1_hasTwins_2 : decode cX1_hasTwins 2 = .ok (.iload_n 1, 1) := by decide +kernel
theorem dX1_hasTwins_3 : decode cX1_hasTwins 3 = .ok (.aload_n 0, 1) := by decide +kernel
theorem dX1_hasTwins_4 : decode cX1_hasTwins 4 = .ok (.invokevirtual 71, 3) := by decide +kernel
theorem dX1_hasTwins_7 : decode cX1_hasTwins 7 = .ok (.if_icmp .ge 30, 3) := by decide +kernel
theorem dX1_hasTwins_10 : decode cX1_hasTwins 10 = .ok (.aload_n 0, 1) := by decide +kernel
theorem dX1_hasTwins_11 : decode cX1_hasTwins 11 = .ok (.aload_n 0, 1) := by decide +kernel
theorem dX1_hasTwins_12 : decode cX1_hasTwins 12 = .ok (.iload_n 1, 1) := by decide +kernel
theorem dX1_hasTwins_13 : decode cX1_hasTwins 13 = .ok (.invokevirtual 65, 3) := by decide +kernel
theorem dX1_hasTwins_16 : decode cX1_hasTwins 16 = .ok (.aload_n 0, 1) := by decide +kernel
theorem dX1_hasTwins_17 : decode cX1_hasTwins 17 = .ok (.iload_n 1, 1) := by decide +kernel
theorem dX1_hasTwins_18 : decode cX1_hasTwins 18 = .ok (.invokevirtual 68, 3) := by decide +kernel
theorem dX1_hasTwins_21 : decode cX1_hasTwins 21 = .ok (.iconst 1, 1) := by decide +kernel
theorem dX1_hasTwins_22 : decode cX1_hasTwins 22 = .ok (.invokevirtual 80, 3) := by decide +kernel
theorem dX1_hasTwins_25 : decode cX1_hasTwins 25 = .ok (.iload_n 1, 1) := by decide +kernel
theorem dX1_hasTwins_26 : decode cX1_hasTwins 26 = .ok (.if_icmp .eq 5, 3) := by decide +kernel
theorem dX1_hasTwins_29 : decode cX1_hasTwins 29 = .ok (.iconst 1, 1) := by decide +kernel
theorem dX1_hasTwins_30 : decode cX1_hasTwins 30 = .ok (.ireturn, 1) := by decide +kernel
theorem dX1_hasTwins_31 : decode cX1_hasTwins 31 = .ok (.iinc 1 1, 3) := by decide +kernel
theorem dX1_hasTwins_34 : decode cX1_hasTwins 34 = .ok (.goto (-32), 3) := by decide +kernel
theorem dX1_hasTwins_37 : decode cX1_hasTwins 37 = .ok (.iconst 0, 1) := by decide +kernel
theorem dX1_hasTwins_38 : decode cX1_hasTwins 38 = .ok (.ireturn, 1) := by decide +kernel
theorem dX1_hasRisingKeys_0 : decode cX1_hasRisingKeys 0 = .ok (.iconst 1, 1) := by decide +kernel
theorem dX1_hasRisingKeys_1 : decode cX1_hasRisingKeys 1 = .ok (.istore_n 1, 1) := by decide +kernel
theorem dX1_hasRisingKeys_2 : decode cX1_hasRisingKeys 2 = .ok (.iload_n 1, 1) := by decide +kernel
theorem dX1_hasRisingKeys_3 : decode cX1_hasRisingKeys 3 = .ok (.aload_n 0, 1) := by decide +kernel
theorem dX1_hasRisingKeys_4 : decode cX1_hasRisingKeys 4 = .ok (.invokevirtual 71, 3) := by decide +kernel
theorem dX1_hasRisingKeys_7 : decode cX1_hasRisingKeys 7 = .ok (.if_icmp .ge 26, 3) := by decide +kernel
theorem dX1_hasRisingKeys_10 : decode cX1_hasRisingKeys 10 = .ok (.aload_n 0, 1) := by decide +kernel
theorem dX1_hasRisingKeys_11 : decode cX1_hasRisingKeys 11 = .ok (.iload_n 1, 1) := by decide +kernel
theorem dX1_hasRisingKeys_12 : decode cX1_hasRisingKeys 12 = .ok (.invokevirtual 65, 3) := by decide +kernel
theorem dX1_hasRisingKeys_15 : decode cX1_hasRisingKeys 15 = .ok (.aload_n 0, 1) := by decide +kernel
theorem dX1_hasRisingKeys_16 : decode cX1_hasRisingKeys 16 = .ok (.iload_n 1, 1) := by decide +kernel
theorem dX1_hasRisingKeys_17 : decode cX1_hasRisingKeys 17 = .ok (.iconst 1, 1) := by decide +kernel
theorem dX1_hasRisingKeys_18 : decode cX1_hasRisingKeys 18 = .ok (.isub, 1) := by decide +kernel
theorem dX1_hasRisingKeys_19 : decode cX1_hasRisingKeys 19 = .ok (.invokevirtual 65, 3) := by decide +kernel
theorem dX1_hasRisingKeys_22 : decode cX1_hasRisingKeys 22 = .ok (.if_icmp .ge 5, 3) := by decide +kernel
theorem dX1_hasRisingKeys_25 : decode cX1_hasRisingKeys 25 = .ok (.iconst 0, 1) := by decide +kernel
theorem dX1_hasRisingKeys_26 : decode cX1_hasRisingKeys 26 = .ok (.ireturn, 1) := by decide +kernel
theorem dX1_hasRisingKeys_27 : decode cX1_hasRisingKeys 27 = .ok (.iinc 1 1, 3) := by decide +kernel
theorem dX1_hasRisingKeys_30 : decode cX1_hasRisingKeys 30 = .ok (.goto (-28), 3) := by decide +kernel
theorem dX1_hasRisingKeys_33 : decode cX1_hasRisingKeys 33 = .ok (.iconst 1, 1) := by decide +kernel
theorem dX1_hasRisingKeys_34 : decode cX1_hasRisingKeys 34 = .ok (.ireturn, 1) := by decide +kernel
theorem dX1_searchKey_0 : decode cX1_searchKey 0 = .ok (.iconst 0, 1) := by decide +kernel
theorem dX1_searchKey_1 : decode cX1_searchKey 1 = .ok (.istore_n 2, 1) := by decide +kernel
theorem dX1_searchKey_2 : decode cX1_searchKey 2 = .ok (.iload_n 2, 1) := by decide +kernel
theorem dX1_searchKey_3 : decode cX1_searchKey 3 = .ok (.aload_n 0, 1) := by decide +kernel
theorem dX1_searchKey_4 : decode cX1_searchKey 4 = .ok (.invokevirtual 71, 3) := by decide +kernel
theorem dX1_searchKey_7 : decode cX1_searchKey 7 = .ok (.if_icmp .ge 18, 3) := by decide +kernel
theorem dX1_searchKey_10 : decode cX1_searchKey 10 = .ok (.aload_n 0, 1) := by decide +kernel
theorem dX1_searchKey_11 : decode cX1_searchKey 11 = .ok (.iload_n 2, 1) := by decide +kernel
theorem dX1_searchKey_12 : decode cX1_searchKey 12 = .ok (.invokevirtual 65, 3) := by decide +kernel
theorem dX1_searchKey_15 : decode cX1_searchKey 15 = .ok (.iload_n 1, 1) := by decide +kernel
theorem dX1_searchKey_16 : decode cX1_searchKey 16 = .ok (.if_icmp .ge 9, 3) := by decide +kernel
theorem dX1_searchKey_19 : decode cX1_searchKey 19 = .ok (.iinc 2 1, 3) := by decide +kernel
theorem dX1_searchKey_22 : decode cX1_searchKey 22 = .ok (.goto (-20), 3) := by decide +kernel
theorem dX1_searchKey_25 : decode cX1_searchKey 25 = .ok (.iload_n 2, 1) := by decide +kernel
theorem dX1_searchKey_26 : decode cX1_searchKey 26 = .ok (.aload_n 0, 1) := by decide +kernel
theorem dX1_searchKey_27 : decode cX1_searchKey 27 = .ok (.invokevirtual 71, 3) := by decide +kernel
theorem dX1_searchKey_30 : decode cX1_searchKey 30 = .ok (.if_icmp .ge 16, 3) := by decide +kernel
theorem dX1_searchKey_33 : decode cX1_searchKey 33 = .ok (.aload_n 0, 1) := by decide +kernel
theorem dX1_searchKey_34 : decode cX1_searchKey 34 = .ok (.iload_n 2, 1) := by decide +kernel
theorem dX1_searchKey_35 : decode cX1_searchKey 35 = .ok (.invokevirtual 65, 3) := by decide +kernel
theorem dX1_searchKey_38 : decode cX1_searchKey 38 = .ok (.iload_n 1, 1) := by decide +kernel
theorem dX1_searchKey_39 : decode cX1_searchKey 39 = .ok (.if_icmp .ne 7, 3) := by decide +kernel
theorem dX1_searchKey_42 : decode cX1_searchKey 42 = .ok (.iconst 1, 1) := by decide +kernel
theorem dX1_searchKey_43 : decode cX1_searchKey 43 = .ok (.goto 4, 3) := by decide +kernel
theorem dX1_searchKey_46 : decode cX1_searchKey 46 = .ok (.iconst 0, 1) := by decide +kernel
theorem dX1_searchKey_47 : decode cX1_searchKey 47 = .ok (.istore_n 3, 1) := by decide +kernel
theorem dX1_searchKey_48 : decode cX1_searchKey 48 = .ok (.iload_n 3, 1) := by decide +kernel
theorem dX1_searchKey_49 : decode cX1_searchKey 49 = .ok (.ifCond .eq 8, 3) := by decide +kernel
theorem dX1_searchKey_52 : decode cX1_searchKey 52 = .ok (.bipush 100, 2) := by decide +kernel
theorem dX1_searchKey_54 : decode cX1_searchKey 54 = .ok (.goto 6, 3) := by decide +kernel
theorem dX1_searchKey_57 : decode cX1_searchKey 57 = .ok (.iconst (-1), 1) := by decide +kernel
theorem dX1_searchKey_58 : decode cX1_searchKey 58 = .ok (.iload_n 2, 1) := by decide +kernel
theorem dX1_searchKey_59 : decode cX1_searchKey 59 = .ok (.isub, 1) := by decide +kernel
theorem dX1_searchKey_60 : decode cX1_searchKey 60 = .ok (.ireturn, 1) := by decide +kernel
theorem dX1_standsAt_0 : decode cX1_standsAt 0 = .ok (.iconst 0, 1) := by decide +kernel
theorem dX1_standsAt_1 : decode cX1_standsAt 1 = .ok (.istore_n 3, 1) := by decide +kernel
theorem dX1_standsAt_2 : decode cX1_standsAt 2 = .ok (.iload_n 3, 1) := by decide +kernel
theorem dX1_standsAt_3 : decode cX1_standsAt 3 = .ok (.aload_n 2, 1) := by decide +kernel
theorem dX1_standsAt_4 : decode cX1_standsAt 4 = .ok (.invokevirtual 71, 3) := by decide +kernel
theorem dX1_standsAt_7 : decode cX1_standsAt 7 = .ok (.if_icmp .ge 23, 3) := by decide +kernel
theorem dX1_standsAt_10 : decode cX1_standsAt 10 = .ok (.aload_n 0, 1) := by decide +kernel
theorem dX1_standsAt_11 : decode cX1_standsAt 11 = .ok (.iload_n 1, 1) := by decide +kernel
theorem dX1_standsAt_12 : decode cX1_standsAt 12 = .ok (.iload_n 3, 1) := by decide +kernel
theorem dX1_standsAt_13 : decode cX1_standsAt 13 = .ok (.iadd, 1) := by decide +kernel
theorem dX1_standsAt_14 : decode cX1_standsAt 14 = .ok (.aload_n 2, 1) := by decide +kernel
theorem dX1_standsAt_15 : decode cX1_standsAt 15 = .ok (.iload_n 3, 1) := by decide +kernel
theorem dX1_standsAt_16 : decode cX1_standsAt 16 = .ok (.invokevirtual 84, 3) := by decide +kernel
theorem dX1_standsAt_19 : decode cX1_standsAt 19 = .ok (.ifCond .ne 5, 3) := by decide +kernel
theorem dX1_standsAt_22 : decode cX1_standsAt 22 = .ok (.iconst 0, 1) := by decide +kernel
theorem dX1_standsAt_23 : decode cX1_standsAt 23 = .ok (.ireturn, 1) := by decide +kernel
theorem dX1_standsAt_24 : decode cX1_standsAt 24 = .ok (.iinc 3 1, 3) := by decide +kernel
theorem dX1_standsAt_27 : decode cX1_standsAt 27 = .ok (.goto (-25), 3) := by decide +kernel
theorem dX1_standsAt_30 : decode cX1_standsAt 30 = .ok (.iconst 1, 1) := by decide +kernel
theorem dX1_standsAt_31 : decode cX1_standsAt 31 = .ok (.ireturn, 1) := by decide +kernel
theorem dX1_addAllTo_0 : decode cX1_addAllTo 0 = .ok (.aload_n 0, 1) := by decide +kernel
theorem dX1_addAllTo_1 : decode cX1_addAllTo 1 = .ok (.invokevirtual 71, 3) := by decide +kernel
theorem dX1_addAllTo_4 : decode cX1_addAllTo 4 = .ok (.istore 4, 2) := by decide +kernel
theorem dX1_addAllTo_6 : decode cX1_addAllTo 6 = .ok (.iconst 0, 1) := by decide +kernel
theorem dX1_addAllTo_7 : decode cX1_addAllTo 7 = .ok (.istore 5, 2) := by decide +kernel
theorem dX1_addAllTo_9 : decode cX1_addAllTo 9 = .ok (.iload 5, 2) := by decide +kernel
theorem dX1_addAllTo_11 : decode cX1_addAllTo 11 = .ok (.iload 4, 2) := by decide +kernel
theorem dX1_addAllTo_13 : decode cX1_addAllTo 13 = .ok (.if_icmp .ge 80, 3) := by decide +kernel
theorem dX1_addAllTo_16 : decode cX1_addAllTo 16 = .ok (.iload_n 3, 1) := by decide +kernel
theorem dX1_addAllTo_17 : decode cX1_addAllTo 17 = .ok (.ifCond .eq 13, 3) := by decide +kernel
theorem dX1_addAllTo_20 : decode cX1_addAllTo 20 = .ok (.iload 4, 2) := by decide +kernel
theorem dX1_addAllTo_22 : decode cX1_addAllTo 22 = .ok (.iconst 1, 1) := by decide +kernel
theorem dX1_addAllTo_23 : decode cX1_addAllTo 23 = .ok (.isub, 1) := by decide +kernel
theorem dX1_addAllTo_24 : decode cX1_addAllTo 24 = .ok (.iload 5, 2) := by decide +kernel
theorem dX1_addAllTo_26 : decode cX1_addAllTo 26 = .ok (.isub, 1) := by decide +kernel
theorem dX1_addAllTo_27 : decode cX1_addAllTo 27 = .ok (.goto 5, 3) := by decide +kernel
theorem dX1_addAllTo_30 : decode cX1_addAllTo 30 = .ok (.iload 5, 2) := by decide +kernel
theorem dX1_addAllTo_32 : decode cX1_addAllTo 32 = .ok (.istore 6, 2) := by decide +kernel
theorem dX1_addAllTo_34 : decode cX1_addAllTo 34 = .ok (.aload_n 0, 1) := by decide +kernel
theorem dX1_addAllTo_35 : decode cX1_addAllTo 35 = .ok (.invokevirtual 88, 3) := by decide +kernel
theorem dX1_addAllTo_38 : decode cX1_addAllTo 38 = .ok (.ifCond .ne 12, 3) := by decide +kernel
theorem dX1_addAllTo_41 : decode cX1_addAllTo 41 = .ok (.aload_n 0, 1) := by decide +kernel
theorem dX1_addAllTo_42 : decode cX1_addAllTo 42 = .ok (.getfield 9, 3) := by decide +kernel
theorem dX1_addAllTo_45 : decode cX1_addAllTo 45 = .ok (.bipush 107, 2) := by decide +kernel
theorem dX1_addAllTo_47 : decode cX1_addAllTo 47 = .ok (.if_icmp .ne 17, 3) := by decide +kernel
theorem dX1_addAllTo_50 : decode cX1_addAllTo 50 = .ok (.ldc2_w 91, 3) := by decide +kernel
theorem dX1_addAllTo_53 : decode cX1_addAllTo 53 = .ok (.lload_n 1, 1) := by decide +kernel
theorem dX1_addAllTo_54 : decode cX1_addAllTo 54 = .ok (.lmul, 1) := by decide +kernel
theorem dX1_addAllTo_55 : decode cX1_addAllTo 55 = .ok (.aload_n 0, 1) := by decide +kernel
theorem dX1_addAllTo_56 : decode cX1_addAllTo 56 = .ok (.iload 6, 2) := by decide +kernel
theorem dX1_addAllTo_58 : decode cX1_addAllTo 58 = .ok (.invokevirtual 93, 3) := by decide +kernel
theorem dX1_addAllTo_61 : decode cX1_addAllTo 61 = .ok (.i2l, 1) := by decide +kernel
theorem dX1_addAllTo_62 : decode cX1_addAllTo 62 = .ok (.ladd, 1) := by decide +kernel
theorem dX1_addAllTo_63 : decode cX1_addAllTo 63 = .ok (.lstore_n 1, 1) := by decide +kernel
theorem dX1_addAllTo_64 : decode cX1_addAllTo 64 = .ok (.aload_n 0, 1) := by decide +kernel
theorem dX1_addAllTo_65 : decode cX1_addAllTo 65 = .ok (.getfield 9, 3) := by decide +kernel
theorem dX1_addAllTo_68 : decode cX1_addAllTo 68 = .ok (.bipush 107, 2) := by decide +kernel
theorem dX1_addAllTo_70 : decode cX1_addAllTo 70 = .ok (.if_icmp .eq 17, 3) := by decide +kernel
theorem dX1_addAllTo_73 : decode cX1_addAllTo 73 = .ok (.ldc2_w 91, 3) := by decide +kernel
theorem dX1_addAllTo_76 : decode cX1_addAllTo 76 = .ok (.lload_n 1, 1) := by decide +kernel
theorem dX1_addAllTo_77 : decode cX1_addAllTo 77 = .ok (.lmul, 1) := by decide +kernel
theorem dX1_addAllTo_78 : decode cX1_addAllTo 78 = .ok (.aload_n 0, 1) := by decide +kernel
theorem dX1_addAllTo_79 : decode cX1_addAllTo 79 = .ok (.iload 6, 2) := by decide +kernel
theorem dX1_addAllTo_81 : decode cX1_addAllTo 81 = .ok (.invokevirtual 96, 3) := by decide +kernel
theorem dX1_addAllTo_84 : decode cX1_addAllTo 84 = .ok (.i2l, 1) := by decide +kernel
theorem dX1_addAllTo_85 : decode cX1_addAllTo 85 = .ok (.ladd, 1) := by decide +kernel
theorem dX1_addAllTo_86 : decode cX1_addAllTo 86 = .ok (.lstore_n 1, 1) := by decide +kernel
theorem dX1_addAllTo_87 : decode cX1_addAllTo 87 = .ok (.iinc 5 1, 3) := by decide +kernel
theorem dX1_addAllTo_90 : decode cX1_addAllTo 90 = .ok (.goto (-81), 3) := by decide +kernel
theorem dX1_addAllTo_93 : decode cX1_addAllTo 93 = .ok (.lload_n 1, 1) := by decide +kernel
theorem dX1_addAllTo_94 : decode cX1_addAllTo 94 = .ok (.lreturn, 1) := by decide +kernel
theorem dX1_listHash_0 : decode cX1_listHash 0 = .ok (.iconst 1, 1) := by decide +kernel
theorem dX1_listHash_1 : decode cX1_listHash 1 = .ok (.istore_n 1, 1) := by decide +kernel
theorem dX1_listHash_2 : decode cX1_listHash 2 = .ok (.iconst 0, 1) := by decide +kernel
theorem dX1_listHash_3 : decode cX1_listHash 3 = .ok (.istore_n 2, 1) := by decide +kernel
theorem dX1_listHash_4 : decode cX1_listHash 4 = .ok (.iload_n 2, 1) := by decide +kernel
theorem dX1_listHash_5 : decode cX1_listHash 5 = .ok (.aload_n 0, 1) := by decide +kernel
theorem dX1_listHash_6 : decode cX1_listHash 6 = .ok (.invokevirtual 71, 3) := by decide +kernel
theorem dX1_listHash_9 : decode cX1_listHash 9 = .ok (.if_icmp .ge 20, 3) := by decide +kernel
theorem dX1_listHash_12 : decode cX1_listHash 12 = .ok (.bipush 31, 2) := by decide +kernel
theorem dX1_listHash_14 : decode cX1_listHash 14 = .ok (.iload_n 1, 1) := by decide +kernel
theorem dX1_listHash_15 : decode cX1_listHash 15 = .ok (.imul, 1) := by decide +kernel
theorem dX1_listHash_16 : decode cX1_listHash 16 = .ok (.aload_n 0, 1) := by decide +kernel
theorem dX1_listHash_17 : decode cX1_listHash 17 = .ok (.iload_n 2, 1) := by decide +kernel
theorem dX1_listHash_18 : decode cX1_listHash 18 = .ok (.invokevirtual 96, 3) := by decide +kernel
theorem dX1_listHash_21 : decode cX1_listHash 21 = .ok (.iadd, 1) := by decide +kernel
theorem dX1_listHash_22 : decode cX1_listHash 22 = .ok (.istore_n 1, 1) := by decide +kernel
theorem dX1_listHash_23 : decode cX1_listHash 23 = .ok (.iinc 2 1, 3) := by decide +kernel
theorem dX1_listHash_26 : decode cX1_listHash 26 = .ok (.goto (-22), 3) := by decide +kernel
theorem dX1_listHash_29 : decode cX1_listHash 29 = .ok (.iload_n 1, 1) := by decide +kernel
theorem dX1_listHash_30 : decode cX1_listHash 30 = .ok (.ireturn, 1) := by decide +kernel
theorem dX1_keysHash_0 : decode cX1_keysHash 0 = .ok (.iconst 0, 1) := by decide +kernel
theorem dX1_keysHash_1 : decode cX1_keysHash 1 = .ok (.istore_n 1, 1) := by decide +kernel
theorem dX1_keysHash_2 : decode cX1_keysHash 2 = .ok (.iconst 0, 1) := by decide +kernel
theorem dX1_keysHash_3 : decode cX1_keysHash 3 = .ok (.istore_n 2, 1) := by decide +kernel
theorem dX1_keysHash_4 : decode cX1_keysHash 4 = .ok (.iload_n 2, 1) := by decide +kernel
theorem dX1_keysHash_5 : decode cX1_keysHash 5 = .ok (.aload_n 0, 1) := by decide +kernel
theorem dX1_keysHash_6 : decode cX1_keysHash 6 = .ok (.invokevirtual 71, 3) := by decide +kernel
theorem dX1_keysHash_9 : decode cX1_keysHash 9 = .ok (.if_icmp .ge 17, 3) := by decide +kernel
theorem dX1_keysHash_12 : decode cX1_keysHash 12 = .ok (.iload_n 1, 1) := by decide +kernel
theorem dX1_keysHash_13 : decode cX1_keysHash 13 = .ok (.aload_n 0, 1) := by decide +kernel
theorem dX1_keysHash_14 : decode cX1_keysHash 14 = .ok (.iload_n 2, 1) := by decide +kernel
theorem dX1_keysHash_15 : decode cX1_keysHash 15 = .ok (.invokevirtual 93, 3) := by decide +kernel
theorem dX1_keysHash_18 : decode cX1_keysHash 18 = .ok (.iadd, 1) := by decide +kernel
theorem dX1_keysHash_19 : decode cX1_keysHash 19 = .ok (.istore_n 1, 1) := by decide +kernel
theorem dX1_keysHash_20 : decode cX1_keysHash 20 = .ok (.iinc 2 1, 3) := by decide +kernel
theorem dX1_keysHash_23 : decode cX1_keysHash 23 = .ok (.goto (-19), 3) := by decide +kernel
theorem dX1_keysHash_26 : decode cX1_keysHash 26 = .ok (.iload_n 1, 1) := by decide +kernel
theorem dX1_keysHash_27 : decode cX1_keysHash 27 = .ok (.ireturn, 1) := by decide +kernel
theorem dX1_mapHash_0 : decode cX1_mapHash 0 = .ok (.iconst 0, 1) := by decide +kernel
theorem dX1_mapHash_1 : decode cX1_mapHash 1 = .ok (.istore_n 1, 1) := by decide +kernel
theorem dX1_mapHash_2 : decode cX1_mapHash 2 = .ok (.iconst 0, 1) := by decide +kernel
theorem dX1_mapHash_3 : decode cX1_mapHash 3 = .ok (.istore_n 2, 1) := by decide +kernel
theorem dX1_mapHash_4 : decode cX1_mapHash 4 = .ok (.iload_n 2, 1) := by decide +kernel
theorem dX1_mapHash_5 : decode cX1_mapHash 5 = .ok (.aload_n 0, 1) := by decide +kernel
theorem dX1_mapHash_6 : decode cX1_mapHash 6 = .ok (.invokevirtual 71, 3) := by decide +kernel
theorem dX1_mapHash_9 : decode cX1_mapHash 9 = .ok (.if_icmp .ge 23, 3) := by decide +kernel
theorem dX1_mapHash_12 : decode cX1_mapHash 12 = .ok (.iload_n 1, 1) := by decide +kernel
theorem dX1_mapHash_13 : decode cX1_mapHash 13 = .ok (.aload_n 0, 1) := by decide +kernel
theorem dX1_mapHash_14 : decode cX1_mapHash 14 = .ok (.iload_n 2, 1) := by decide +kernel
theorem dX1_mapHash_15 : decode cX1_mapHash 15 = .ok (.invokevirtual 93, 3) := by decide +kernel
theorem dX1_mapHash_18 : decode cX1_mapHash 18 = .ok (.aload_n 0, 1) := by decide +kernel
theorem dX1_mapHash_19 : decode cX1_mapHash 19 = .ok (.iload_n 2, 1) := by decide +kernel
theorem dX1_mapHash_20 : decode cX1_mapHash 20 = .ok (.invokevirtual 96, 3) := by decide +kernel
theorem dX1_mapHash_23 : decode cX1_mapHash 23 = .ok (.ixor, 1) := by decide +kernel
theorem dX1_mapHash_24 : decode cX1_mapHash 24 = .ok (.iadd, 1) := by decide +kernel
theorem dX1_mapHash_25 : decode cX1_mapHash 25 = .ok (.istore_n 1, 1) := by decide +kernel
theorem dX1_mapHash_26 : decode cX1_mapHash 26 = .ok (.iinc 2 1, 3) := by decide +kernel
theorem dX1_mapHash_29 : decode cX1_mapHash 29 = .ok (.goto (-25), 3) := by decide +kernel
theorem dX1_mapHash_32 : decode cX1_mapHash 32 = .ok (.iload_n 1, 1) := by decide +kernel
theorem dX1_mapHash_33 : decode cX1_mapHash 33 = .ok (.ireturn, 1) := by decide +kernel
theorem dX1_isListLike_0 : decode cX1_isListLike 0 = .ok (.aload_n 0, 1) := by decide +kernel
theorem dX1_isListLike_1 : decode cX1_isListLike 1 = .ok (.invokevirtual 71, 3) := by decide +kernel
theorem dX1_isListLike_4 : decode cX1_isListLike 4 = .ok (.aload_n 1, 1) := by decide +kernel
theorem dX1_isListLike_5 : decode cX1_isListLike 5 = .ok (.invokevirtual 71, 3) := by decide +kernel
theorem dX1_isListLike_8 : decode cX1_isListLike 8 = .ok (.if_icmp .ne 16, 3) := by decide +kernel
theorem dX1_isListLike_11 : decode cX1_isListLike 11 = .ok (.aload_n 0, 1) := by decide +kernel
theorem dX1_isListLike_12 : decode cX1_isListLike 12 = .ok (.iconst 0, 1) := by decide +kernel
theorem dX1_isListLike_13 : decode cX1_isListLike 13 = .ok (.aload_n 1, 1) := by decide +kernel
theorem dX1_isListLike_14 : decode cX1_isListLike 14 = .ok (.invokevirtual 99, 3) := by decide +kernel
theorem dX1_isListLike_17 : decode cX1_isListLike 17 = .ok (.ifCond .eq 7, 3) := by decide +kernel
theorem dX1_isListLike_20 : decode cX1_isListLike 20 = .ok (.iconst 1, 1) := by decide +kernel
theorem dX1_isListLike_21 : decode cX1_isListLike 21 = .ok (.goto 4, 3) := by decide +kernel
theorem dX1_isListLike_24 : decode cX1_isListLike 24 = .ok (.iconst 0, 1) := by decide +kernel
theorem dX1_isListLike_25 : decode cX1_isListLike 25 = .ok (.ireturn, 1) := by decide +kernel
theorem dX1_hasNumbersLike_0 : decode cX1_hasNumbersLike 0 = .ok (.iconst 0, 1) := by decide +kernel
theorem dX1_hasNumbersLike_1 : decode cX1_hasNumbersLike 1 = .ok (.istore_n 2, 1) := by decide +kernel
theorem dX1_hasNumbersLike_2 : decode cX1_hasNumbersLike 2 = .ok (.iload_n 2, 1) := by decide +kernel
theorem dX1_hasNumbersLike_3 : decode cX1_hasNumbersLike 3 = .ok (.aload_n 0, 1) := by decide +kernel
theorem dX1_hasNumbersLike_4 : decode cX1_hasNumbersLike 4 = .ok (.invokevirtual 71, 3) := by decide +kernel
theorem dX1_hasNumbersLike_7 : decode cX1_hasNumbersLike 7 = .ok (.if_icmp .ge 23, 3) := by decide +kernel
theorem dX1_hasNumbersLike_10 : decode cX1_hasNumbersLike 10 = .ok (.aload_n 1, 1) := by decide +kernel
theorem dX1_hasNumbersLike_11 : decode cX1_hasNumbersLike 11 = .ok (.aload_n 0, 1) := by decide +kernel
theorem dX1_hasNumbersLike_12 : decode cX1_hasNumbersLike 12 = .ok (.iload_n 2, 1) := by decide +kernel
theorem dX1_hasNumbersLike_13 : decode cX1_hasNumbersLike 13 = .ok (.invokevirtual 93, 3) := by decide +kernel
theorem dX1_hasNumbersLike_16 : decode cX1_hasNumbersLike 16 = .ok (.invokevirtual 103, 3) := by decide +kernel
theorem dX1_hasNumbersLike_19 : decode cX1_hasNumbersLike 19 = .ok (.ifCond .ge 5, 3) := by decide +kernel
theorem dX1_hasNumbersLike_22 : decode cX1_hasNumbersLike 22 = .ok (.iconst 0, 1) := by decide +kernel
theorem dX1_hasNumbersLike_23 : decode cX1_hasNumbersLike 23 = .ok (.ireturn, 1) := by decide +kernel
theorem dX1_hasNumbersLike_24 : decode cX1_hasNumbersLike 24 = .ok (.iinc 2 1, 3) := by decide +kernel
theorem dX1_hasNumbersLike_27 : decode cX1_hasNumbersLike 27 = .ok (.goto (-25), 3) := by decide +kernel
theorem dX1_hasNumbersLike_30 : decode cX1_hasNumbersLike 30 = .ok (.aload_n 0, 1) := by decide +kernel
theorem dX1_hasNumbersLike_31 : decode cX1_hasNumbersLike 31 = .ok (.invokevirtual 71, 3) := by decide +kernel
theorem dX1_hasNumbersLike_34 : decode cX1_hasNumbersLike 34 = .ok (.aload_n 1, 1) := by decide +kernel
theorem dX1_hasNumbersLike_35 : decode cX1_hasNumbersLike 35 = .ok (.invokevirtual 71, 3) := by decide +kernel
theorem dX1_hasNumbersLike_38 : decode cX1_hasNumbersLike 38 = .ok (.if_icmp .ne 7, 3) := by decide +kernel
theorem dX1_hasNumbersLike_41 : decode cX1_hasNumbersLike 41 = .ok (.iconst 1, 1) := by decide +kernel
theorem dX1_hasNumbersLike_42 : decode cX1_hasNumbersLike 42 = .ok (.goto 4, 3) := by decide +kernel
theorem dX1_hasNumbersLike_45 : decode cX1_hasNumbersLike 45 = .ok (.iconst 0, 1) := by decide +kernel
theorem dX1_hasNumbersLike_46 : decode cX1_hasNumbersLike 46 = .ok (.ireturn, 1) := by decide +kernel
theorem dX1_isMapLike_0 : decode cX1_isMapLike 0 = .ok (.iconst 0, 1) := by decide +kernel
theorem dX1_isMapLike_1 : decode cX1_isMapLike 1 = .ok (.istore_n 2, 1) := by decide +kernel
theorem dX1_isMapLike_2 : decode cX1_isMapLike 2 = .ok (.iload_n 2, 1) := by decide +kernel
theorem dX1_isMapLike_3 : decode cX1_isMapLike 3 = .ok (.aload_n 0, 1) := by decide +kernel
theorem dX1_isMapLike_4 : decode cX1_isMapLike 4 = .ok (.invokevirtual 71, 3) := by decide +kernel
theorem dX1_isMapLike_7 : decode cX1_isMapLike 7 = .ok (.if_icmp .ge 35, 3) := by decide +kernel
theorem dX1_isMapLike_10 : decode cX1_isMapLike 10 = .ok (.aload_n 1, 1) := by decide +kernel
theorem dX1_isMapLike_11 : decode cX1_isMapLike 11 = .ok (.aload_n 0, 1) := by decide +kernel
theorem dX1_isMapLike_12 : decode cX1_isMapLike 12 = .ok (.iload_n 2, 1) := by decide +kernel
theorem dX1_isMapLike_13 : decode cX1_isMapLike 13 = .ok (.invokevirtual 93, 3) := by decide +kernel
theorem dX1_isMapLike_16 : decode cX1_isMapLike 16 = .ok (.invokevirtual 103, 3) := by decide +kernel
theorem dX1_isMapLike_19 : decode cX1_isMapLike 19 = .ok (.istore_n 3, 1) := by decide +kernel
theorem dX1_isMapLike_20 : decode cX1_isMapLike 20 = .ok (.iload_n 3, 1) := by decide +kernel
theorem dX1_isMapLike_21 : decode cX1_isMapLike 21 = .ok (.ifCond .lt 13, 3) := by decide +kernel
theorem dX1_isMapLike_24 : decode cX1_isMapLike 24 = .ok (.aload_n 0, 1) := by decide +kernel
theorem dX1_isMapLike_25 : decode cX1_isMapLike 25 = .ok (.iload_n 2, 1) := by decide +kernel
theorem dX1_isMapLike_26 : decode cX1_isMapLike 26 = .ok (.aload_n 1, 1) := by decide +kernel
theorem dX1_isMapLike_27 : decode cX1_isMapLike 27 = .ok (.iload_n 3, 1) := by decide +kernel
theorem dX1_isMapLike_28 : decode cX1_isMapLike 28 = .ok (.invokevirtual 84, 3) := by decide +kernel
theorem dX1_isMapLike_31 : decode cX1_isMapLike 31 = .ok (.ifCond .ne 5, 3) := by decide +kernel
theorem dX1_isMapLike_34 : decode cX1_isMapLike 34 = .ok (.iconst 0, 1) := by decide +kernel
theorem dX1_isMapLike_35 : decode cX1_isMapLike 35 = .ok (.ireturn, 1) := by decide +kernel
theorem dX1_isMapLike_36 : decode cX1_isMapLike 36 = .ok (.iinc 2 1, 3) := by decide +kernel
theorem dX1_isMapLike_39 : decode cX1_isMapLike 39 = .ok (.goto (-37), 3) := by decide +kernel
theorem dX1_isMapLike_42 : decode cX1_isMapLike 42 = .ok (.aload_n 0, 1) := by decide +kernel
theorem dX1_isMapLike_43 : decode cX1_isMapLike 43 = .ok (.invokevirtual 71, 3) := by decide +kernel
theorem dX1_isMapLike_46 : decode cX1_isMapLike 46 = .ok (.aload_n 1, 1) := by decide +kernel
theorem dX1_isMapLike_47 : decode cX1_isMapLike 47 = .ok (.invokevirtual 71, 3) := by decide +kernel
theorem dX1_isMapLike_50 : decode cX1_isMapLike 50 = .ok (.if_icmp .ne 7, 3) := by decide +kernel
theorem dX1_isMapLike_53 : decode cX1_isMapLike 53 = .ok (.iconst 1, 1) := by decide +kernel
theorem dX1_isMapLike_54 : decode cX1_isMapLike 54 = .ok (.goto 4, 3) := by decide +kernel
theorem dX1_isMapLike_57 : decode cX1_isMapLike 57 = .ok (.iconst 0, 1) := by decide +kernel
theorem dX1_isMapLike_58 : decode cX1_isMapLike 58 = .ok (.ireturn, 1) := by decide +kernel
theorem dX1_looksOn_0 : decode cX1_looksOn 0 = .ok (.aload_n 1, 1) := by decide +kernel
theorem dX1_looksOn_1 : decode cX1_looksOn 1 = .ok (.ifnonnull 16, 3) := by decide +kernel
theorem dX1_looksOn_4 : decode cX1_looksOn 4 = .ok (.aload_n 0, 1) := by decide +kernel
theorem dX1_looksOn_5 : decode cX1_looksOn 5 = .ok (.getfield 19, 3) := by decide +kernel
theorem dX1_looksOn_8 : decode cX1_looksOn 8 = .ok (.ifnonnull 7, 3) := by decide +kernel
theorem dX1_looksOn_11 : decode cX1_looksOn 11 = .ok (.iconst 1, 1) := by decide +kernel
theorem dX1_looksOn_12 : decode cX1_looksOn 12 = .ok (.goto 4, 3) := by decide +kernel
theorem dX1_looksOn_15 : decode cX1_looksOn 15 = .ok (.iconst 0, 1) := by decide +kernel
theorem dX1_looksOn_16 : decode cX1_looksOn 16 = .ok (.ireturn, 1) := by decide +kernel
theorem dX1_looksOn_17 : decode cX1_looksOn 17 = .ok (.aload_n 0, 1) := by decide +kernel
theorem dX1_looksOn_18 : decode cX1_looksOn 18 = .ok (.getfield 23, 3) := by decide +kernel
theorem dX1_looksOn_21 : decode cX1_looksOn 21 = .ok (.ifnonnull 14, 3) := by decide +kernel
theorem dX1_looksOn_24 : decode cX1_looksOn 24 = .ok (.aload_n 0, 1) := by decide +kernel
theorem dX1_looksOn_25 : decode cX1_looksOn 25 = .ok (.invokevirtual 71, 3) := by decide +kernel
theorem dX1_looksOn_28 : decode cX1_looksOn 28 = .ok (.aload_n 1, 1) := by decide +kernel
theorem dX1_looksOn_29 : decode cX1_looksOn 29 = .ok (.invokevirtual 71, 3) := by decide +kernel
theorem dX1_looksOn_32 : decode cX1_looksOn 32 = .ok (.if_icmp .ne 14, 3) := by decide +kernel
theorem dX1_looksOn_35 : decode cX1_looksOn 35 = .ok (.aload_n 0, 1) := by decide +kernel
theorem dX1_looksOn_36 : decode cX1_looksOn 36 = .ok (.aload_n 1, 1) := by decide +kernel
theorem dX1_looksOn_37 : decode cX1_looksOn 37 = .ok (.invokevirtual 71, 3) := by decide +kernel
theorem dX1_looksOn_40 : decode cX1_looksOn 40 = .ok (.invokevirtual 106, 3) := by decide +kernel
theorem dX1_looksOn_43 : decode cX1_looksOn 43 = .ok (.ifCond .ne 5, 3) := by decide +kernel
theorem dX1_looksOn_46 : decode cX1_looksOn 46 = .ok (.iconst 0, 1) := by decide +kernel
theorem dX1_looksOn_47 : decode cX1_looksOn 47 = .ok (.ireturn, 1) := by decide +kernel
theorem dX1_looksOn_48 : decode cX1_looksOn 48 = .ok (.iconst 0, 1) := by decide +kernel
theorem dX1_looksOn_49 : decode cX1_looksOn 49 = .ok (.istore_n 2, 1) := by decide +kernel
theorem dX1_looksOn_50 : decode cX1_looksOn 50 = .ok (.iload_n 2, 1) := by decide +kernel
theorem dX1_looksOn_51 : decode cX1_looksOn 51 = .ok (.aload_n 0, 1) := by decide +kernel
theorem dX1_looksOn_52 : decode cX1_looksOn 52 = .ok (.invokevirtual 71, 3) := by decide +kernel
theorem dX1_looksOn_55 : decode cX1_looksOn 55 = .ok (.if_icmp .ge 41, 3) := by decide +kernel
theorem dX1_looksOn_58 : decode cX1_looksOn 58 = .ok (.aload_n 0, 1) := by decide +kernel
theorem dX1_looksOn_59 : decode cX1_looksOn 59 = .ok (.invokevirtual 52, 3) := by decide +kernel
theorem dX1_looksOn_62 : decode cX1_looksOn 62 = .ok (.iload_n 2, 1) := by decide +kernel
theorem dX1_looksOn_63 : decode cX1_looksOn 63 = .ok (.iadd, 1) := by decide +kernel
theorem dX1_looksOn_64 : decode cX1_looksOn 64 = .ok (.istore_n 3, 1) := by decide +kernel
theorem dX1_looksOn_65 : decode cX1_looksOn 65 = .ok (.aload_n 0, 1) := by decide +kernel
theorem dX1_looksOn_66 : decode cX1_looksOn 66 = .ok (.iload_n 2, 1) := by decide +kernel
theorem dX1_looksOn_67 : decode cX1_looksOn 67 = .ok (.invokevirtual 93, 3) := by decide +kernel
theorem dX1_looksOn_70 : decode cX1_looksOn 70 = .ok (.aload_n 1, 1) := by decide +kernel
theorem dX1_looksOn_71 : decode cX1_looksOn 71 = .ok (.iload_n 3, 1) := by decide +kernel
theorem dX1_looksOn_72 : decode cX1_looksOn 72 = .ok (.invokevirtual 93, 3) := by decide +kernel
theorem dX1_looksOn_75 : decode cX1_looksOn 75 = .ok (.if_icmp .ne 13, 3) := by decide +kernel
theorem dX1_looksOn_78 : decode cX1_looksOn 78 = .ok (.aload_n 0, 1) := by decide +kernel
theorem dX1_looksOn_79 : decode cX1_looksOn 79 = .ok (.iload_n 2, 1) := by decide +kernel
theorem dX1_looksOn_80 : decode cX1_looksOn 80 = .ok (.aload_n 1, 1) := by decide +kernel
theorem dX1_looksOn_81 : decode cX1_looksOn 81 = .ok (.iload_n 3, 1) := by decide +kernel
theorem dX1_looksOn_82 : decode cX1_looksOn 82 = .ok (.invokevirtual 84, 3) := by decide +kernel
theorem dX1_looksOn_85 : decode cX1_looksOn 85 = .ok (.ifCond .ne 5, 3) := by decide +kernel
theorem dX1_looksOn_88 : decode cX1_looksOn 88 = .ok (.iconst 0, 1) := by decide +kernel
theorem dX1_looksOn_89 : decode cX1_looksOn 89 = .ok (.ireturn, 1) := by decide +kernel
theorem dX1_looksOn_90 : decode cX1_looksOn 90 = .ok (.iinc 2 1, 3) := by decide +kernel
theorem dX1_looksOn_93 : decode cX1_looksOn 93 = .ok (.goto (-43), 3) := by decide +kernel
theorem dX1_looksOn_96 : decode cX1_looksOn 96 = .ok (.iconst 1, 1) := by decide +kernel
theorem dX1_looksOn_97 : decode cX1_looksOn 97 = .ok (.ireturn, 1) := by decide +kernel
theorem dX1_isPartWithin_0 : decode cX1_isPartWithin 0 = .ok (.aload_n 0, 1) := by decide +kernel
theorem dX1_isPartWithin_1 : decode cX1_isPartWithin 1 = .ok (.getfield 23, 3) := by decide +kernel
theorem dX1_isPartWithin_4 : decode cX1_isPartWithin 4 = .ok (.ifnonnull 5, 3) := by decide +kernel
theorem dX1_isPartWithin_7 : decode cX1_isPartWithin 7 = .ok (.iconst 1, 1) := by decide +kernel
theorem dX1_isPartWithin_8 : decode cX1_isPartWithin 8 = .ok (.ireturn, 1) := by decide +kernel
theorem dX1_isPartWithin_9 : decode cX1_isPartWithin 9 = .ok (.aload_n 0, 1) := by decide +kernel
theorem dX1_isPartWithin_10 : decode cX1_isPartWithin 10 = .ok (.getfield 23, 3) := by decide +kernel
theorem dX1_isPartWithin_13 : decode cX1_isPartWithin 13 = .ok (.getfield 110, 3) := by decide +kernel
theorem dX1_isPartWithin_16 : decode cX1_isPartWithin 16 = .ok (.astore_n 2, 1) := by decide +kernel
theorem dX1_isPartWithin_17 : decode cX1_isPartWithin 17 = .ok (.aload_n 2, 1) := by decide +kernel
theorem dX1_isPartWithin_18 : decode cX1_isPartWithin 18 = .ok (.ifnonnull 7, 3) := by decide +kernel
theorem dX1_isPartWithin_21 : decode cX1_isPartWithin 21 = .ok (.iconst 0, 1) := by decide +kernel
theorem dX1_isPartWithin_22 : decode cX1_isPartWithin 22 = .ok (.goto 7, 3) := by decide +kernel
theorem dX1_isPartWithin_25 : decode cX1_isPartWithin 25 = .ok (.aload_n 2, 1) := by decide +kernel
theorem dX1_isPartWithin_26 : decode cX1_isPartWithin 26 = .ok (.getfield 49, 3) := by decide +kernel
theorem dX1_isPartWithin_29 : decode cX1_isPartWithin 29 = .ok (.istore_n 3, 1) := by decide +kernel
theorem dX1_isPartWithin_30 : decode cX1_isPartWithin 30 = .ok (.aload_n 2, 1) := by decide +kernel
theorem dX1_isPartWithin_31 : decode cX1_isPartWithin 31 = .ok (.ifnonnull 7, 3) := by decide +kernel
theorem dX1_isPartWithin_34 : decode cX1_isPartWithin 34 = .ok (.iload_n 1, 1) := by decide +kernel
theorem dX1_isPartWithin_35 : decode cX1_isPartWithin 35 = .ok (.goto 12, 3) := by decide +kernel
theorem dX1_isPartWithin_38 : decode cX1_isPartWithin 38 = .ok (.aload_n 2, 1) := by decide +kernel
theorem dX1_isPartWithin_39 : decode cX1_isPartWithin 39 = .ok (.getfield 49, 3) := by decide +kernel
theorem dX1_isPartWithin_42 : decode cX1_isPartWithin 42 = .ok (.aload_n 2, 1) := by decide +kernel
theorem dX1_isPartWithin_43 : decode cX1_isPartWithin 43 = .ok (.getfield 46, 3) := by decide +kernel
theorem dX1_isPartWithin_46 : decode cX1_isPartWithin 46 = .ok (.iadd, 1) := by decide +kernel
theorem dX1_isPartWithin_47 : decode cX1_isPartWithin 47 = .ok (.istore 4, 2) := by decide +kernel
theorem dX1_isPartWithin_49 : decode cX1_isPartWithin 49 = .ok (.aload_n 0, 1) := by decide +kernel
theorem dX1_isPartWithin_50 : decode cX1_isPartWithin 50 = .ok (.getfield 23, 3) := by decide +kernel
theorem dX1_isPartWithin_53 : decode cX1_isPartWithin 53 = .ok (.getfield 49, 3) := by decide +kernel
theorem dX1_isPartWithin_56 : decode cX1_isPartWithin 56 = .ok (.iload_n 3, 1) := by decide +kernel
theorem dX1_isPartWithin_57 : decode cX1_isPartWithin 57 = .ok (.if_icmp .lt 43, 3) := by decide +kernel
theorem dX1_isPartWithin_60 : decode cX1_isPartWithin 60 = .ok (.aload_n 0, 1) := by decide +kernel
theorem dX1_isPartWithin_61 : decode cX1_isPartWithin 61 = .ok (.getfield 23, 3) := by decide +kernel
theorem dX1_isPartWithin_64 : decode cX1_isPartWithin 64 = .ok (.getfield 46, 3) := by decide +kernel
theorem dX1_isPartWithin_67 : decode cX1_isPartWithin 67 = .ok (.ifCond .lt 33, 3) := by decide +kernel
theorem dX1_isPartWithin_70 : decode cX1_isPartWithin 70 = .ok (.aload_n 0, 1) := by decide +kernel
theorem dX1_isPartWithin_71 : decode cX1_isPartWithin 71 = .ok (.getfield 23, 3) := by decide +kernel
theorem dX1_isPartWithin_74 : decode cX1_isPartWithin 74 = .ok (.getfield 49, 3) := by decide +kernel
theorem dX1_isPartWithin_77 : decode cX1_isPartWithin 77 = .ok (.aload_n 0, 1) := by decide +kernel
theorem dX1_isPartWithin_78 : decode cX1_isPartWithin 78 = .ok (.getfield 23, 3) := by decide +kernel
theorem dX1_isPartWithin_81 : decode cX1_isPartWithin 81 = .ok (.getfield 46, 3) := by decide +kernel
theorem dX1_isPartWithin_84 : decode cX1_isPartWithin 84 = .ok (.iadd, 1) := by decide +kernel
theorem dX1_isPartWithin_85 : decode cX1_isPartWithin 85 = .ok (.iload 4, 2) := by decide +kernel
theorem dX1_isPartWithin_87 : decode cX1_isPartWithin 87 = .ok (.if_icmp .gt 13, 3) := by decide +kernel
theorem dX1_isPartWithin_90 : decode cX1_isPartWithin 90 = .ok (.iload 4, 2) := by decide +kernel
theorem dX1_isPartWithin_92 : decode cX1_isPartWithin 92 = .ok (.iload_n 1, 1) := by decide +kernel
theorem dX1_isPartWithin_93 : decode cX1_isPartWithin 93 = .ok (.if_icmp .gt 7, 3) := by decide +kernel
theorem dX1_isPartWithin_96 : decode cX1_isPartWithin 96 = .ok (.iconst 1, 1) := by decide +kernel
theorem dX1_isPartWithin_97 : decode cX1_isPartWithin 97 = .ok (.goto 4, 3) := by decide +kernel
theorem dX1_isPartWithin_100 : decode cX1_isPartWithin 100 = .ok (.iconst 0, 1) := by decide +kernel
theorem dX1_isPartWithin_101 : decode cX1_isPartWithin 101 = .ok (.ireturn, 1) := by decide +kernel
theorem dX2_init_0 : decode cX2_init 0 = .ok (.aload_n 0, 1) := by decide +kernel
theorem dX2_init_1 : decode cX2_init 1 = .ok (.invokespecial 1, 3) := by decide +kernel
theorem dX2_init_4 : decode cX2_init 4 = .ok (.aload_n 0, 1) := by decide +kernel
theorem dX2_init_5 : decode cX2_init 5 = .ok (.aload_n 1, 1) := by decide +kernel
theorem dX2_init_6 : decode cX2_init 6 = .ok (.putfield 7, 3) := by decide +kernel
theorem dX2_init_9 : decode cX2_init 9 = .ok (.aload_n 0, 1) := by decide +kernel
theorem dX2_init_10 : decode cX2_init 10 = .ok (.iload_n 2, 1) := by decide +kernel
theorem dX2_init_11 : decode cX2_init 11 = .ok (.putfield 13, 3) := by decide +kernel
theorem dX2_init_14 : decode cX2_init 14 = .ok (.aload_n 0, 1) := by decide +kernel
theorem dX2_init_15 : decode cX2_init 15 = .ok (.iload_n 3, 1) := by decide +kernel
theorem dX2_init_16 : decode cX2_init 16 = .ok (.putfield 17, 3) := by decide +kernel
theorem dX2_init_19 : decode cX2_init 19 = .ok (.return_, 1) := by decide +kernel
theorem dX3_init_0 : decode cX3_init 0 = .ok (.aload_n 0, 1) := by decide +kernel
theorem dX3_init_1 : decode cX3_init 1 = .ok (.invokespecial 3, 3) := by decide +kernel
theorem dX3_init_4 : decode cX3_init 4 = .ok (.aload_n 0, 1) := by decide +kernel
theorem dX3_init_5 : decode cX3_init 5 = .ok (.iload_n 1, 1) := by decide +kernel
theorem dX3_init_6 : decode cX3_init 6 = .ok (.putfield 9, 3) := by decide +kernel
theorem dX3_init_9 : decode cX3_init 9 = .ok (.aload_n 0, 1) := by decide +kernel
theorem dX3_init_10 : decode cX3_init 10 = .ok (.bipush 24, 2) := by decide +kernel
theorem dX3_init_12 : decode cX3_init 12 = .ok (.newarray .int, 2) := by decide +kernel
theorem dX3_init_14 : decode cX3_init 14 = .ok (.putfield 15, 3) := by decide +kernel
theorem dX3_init_17 : decode cX3_init 17 = .ok (.aload_n 0, 1) := by decide +kernel
theorem dX3_init_18 : decode cX3_init 18 = .ok (.bipush 24, 2) := by decide +kernel
theorem dX3_init_20 : decode cX3_init 20 = .ok (.newarray .int, 2) := by decide +kernel
theorem dX3_init_22 : decode cX3_init 22 = .ok (.putfield 19, 3) := by decide +kernel
theorem dX3_init_25 : decode cX3_init 25 = .ok (.aload_n 0, 1) := by decide +kernel
theorem dX3_init_26 : decode cX3_init 26 = .ok (.bipush 24, 2) := by decide +kernel
theorem dX3_init_28 : decode cX3_init 28 = .ok (.newarray .int, 2) := by decide +kernel
theorem dX3_init_30 : decode cX3_init 30 = .ok (.putfield 22, 3) := by decide +kernel
theorem dX3_init_33 : decode cX3_init 33 = .ok (.return_, 1) := by decide +kernel
theorem dX3_hasPlace_0 : decode cX3_hasPlace 0 = .ok (.iload_n 1, 1) := by decide +kernel
theorem dX3_hasPlace_1 : decode cX3_hasPlace 1 = .ok (.ifCond .lt 15, 3) := by decide +kernel
theorem dX3_hasPlace_4 : decode cX3_hasPlace 4 = .ok (.iload_n 1, 1) := by decide +kernel
theorem dX3_hasPlace_5 : decode cX3_hasPlace 5 = .ok (.aload_n 0, 1) := by decide +kernel
theorem dX3_hasPlace_6 : decode cX3_hasPlace 6 = .ok (.getfield 25, 3) := by decide +kernel
theorem dX3_hasPlace_9 : decode cX3_hasPlace 9 = .ok (.if_icmp .ge 7, 3) := by decide +kernel
theorem dX3_hasPlace_12 : decode cX3_hasPlace 12 = .ok (.iconst 1, 1) := by decide +kernel
theorem dX3_hasPlace_13 : decode cX3_hasPlace 13 = .ok (.goto 4, 3) := by decide +kernel
theorem dX3_hasPlace_16 : decode cX3_hasPlace 16 = .ok (.iconst 0, 1) := by decide +kernel
theorem dX3_hasPlace_17 : decode cX3_hasPlace 17 = .ok (.ireturn, 1) := by decide +kernel
theorem dX3_numberIn_0 : decode cX3_numberIn 0 = .ok (.iload_n 1, 1) := by decide +kernel
theorem dX3_numberIn_1 : decode cX3_numberIn 1 = .ok (.ifCond .lt 20, 3) := by decide +kernel
theorem dX3_numberIn_4 : decode cX3_numberIn 4 = .ok (.iload_n 1, 1) := by decide +kernel
theorem dX3_numberIn_5 : decode cX3_numberIn 5 = .ok (.aload_n 0, 1) := by decide +kernel
theorem dX3_numberIn_6 : decode cX3_numberIn 6 = .ok (.getfield 25, 3) := by decide +kernel
theorem dX3_numberIn_9 : decode cX3_numberIn 9 = .ok (.if_icmp .ge 12, 3) := by decide +kernel
theorem dX3_numberIn_12 : decode cX3_numberIn 12 = .ok (.aload_n 0, 1) := by decide +kernel
theorem dX3_numberIn_13 : decode cX3_numberIn 13 = .ok (.getfield 15, 3) := by decide +kernel
theorem dX3_numberIn_16 : decode cX3_numberIn 16 = .ok (.iload_n 1, 1) := by decide +kernel
theorem dX3_numberIn_17 : decode cX3_numberIn 17 = .ok (.iaload, 1) := by decide +kernel
theorem dX3_numberIn_18 : decode cX3_numberIn 18 = .ok (.goto 4, 3) := by decide +kernel
theorem dX3_numberIn_21 : decode cX3_numberIn 21 = .ok (.iconst 0, 1) := by decide +kernel
theorem dX3_numberIn_22 : decode cX3_numberIn 22 = .ok (.ireturn, 1) := by decide +kernel
theorem dX3_keyIn_0 : decode cX3_keyIn 0 = .ok (.iload_n 1, 1) := by decide +kernel
theorem dX3_keyIn_1 : decode cX3_keyIn 1 = .ok (.ifCond .lt 20, 3) := by decide +kernel
theorem dX3_keyIn_4 : decode cX3_keyIn 4 = .ok (.iload_n 1, 1) := by decide +kernel
theorem dX3_keyIn_5 : decode cX3_keyIn 5 = .ok (.aload_n 0, 1) := by decide +kernel
theorem dX3_keyIn_6 : decode cX3_keyIn 6 = .ok (.getfield 25, 3) := by decide +kernel
theorem dX3_keyIn_9 : decode cX3_keyIn 9 = .ok (.if_icmp .ge 12, 3) := by decide +kernel
theorem dX3_keyIn_12 : decode cX3_keyIn 12 = .ok (.aload_n 0, 1) := by decide +kernel
theorem dX3_keyIn_13 : decode cX3_keyIn 13 = .ok (.getfield 19, 3) := by decide +kernel
theorem dX3_keyIn_16 : decode cX3_keyIn 16 = .ok (.iload_n 1, 1) := by decide +kernel
theorem dX3_keyIn_17 : decode cX3_keyIn 17 = .ok (.iaload, 1) := by decide +kernel
theorem dX3_keyIn_18 : decode cX3_keyIn 18 = .ok (.goto 4, 3) := by decide +kernel
theorem dX3_keyIn_21 : decode cX3_keyIn 21 = .ok (.iconst 0, 1) := by decide +kernel
theorem dX3_keyIn_22 : decode cX3_keyIn 22 = .ok (.ireturn, 1) := by decide +kernel
theorem dX3_markIn_0 : decode cX3_markIn 0 = .ok (.iload_n 1, 1) := by decide +kernel
theorem dX3_markIn_1 : decode cX3_markIn 1 = .ok (.ifCond .lt 20, 3) := by decide +kernel
theorem dX3_markIn_4 : decode cX3_markIn 4 = .ok (.iload_n 1, 1) := by decide +kernel
theorem dX3_markIn_5 : decode cX3_markIn 5 = .ok (.aload_n 0, 1) := by decide +kernel
theorem dX3_markIn_6 : decode cX3_markIn 6 = .ok (.getfield 25, 3) := by decide +kernel
theorem dX3_markIn_9 : decode cX3_markIn 9 = .ok (.if_icmp .ge 12, 3) := by decide +kernel
theorem dX3_markIn_12 : decode cX3_markIn 12 = .ok (.aload_n 0, 1) := by decide +kernel
theorem dX3_markIn_13 : decode cX3_markIn 13 = .ok (.getfield 22, 3) := by decide +kernel
theorem dX3_markIn_16 : decode cX3_markIn 16 = .ok (.iload_n 1, 1) := by decide +kernel
theorem dX3_markIn_17 : decode cX3_markIn 17 = .ok (.iaload, 1) := by decide +kernel
theorem dX3_markIn_18 : decode cX3_markIn 18 = .ok (.goto 4, 3) := by decide +kernel
theorem dX3_markIn_21 : decode cX3_markIn 21 = .ok (.iconst 0, 1) := by decide +kernel
theorem dX3_markIn_22 : decode cX3_markIn 22 = .ok (.ireturn, 1) := by decide +kernel
theorem dX3_lay_0 : decode cX3_lay 0 = .ok (.aload_n 0, 1) := by decide +kernel
theorem dX3_lay_1 : decode cX3_lay 1 = .ok (.iload_n 1, 1) := by decide +kernel
theorem dX3_lay_2 : decode cX3_lay 2 = .ok (.invokevirtual 29, 3) := by decide +kernel
theorem dX3_lay_5 : decode cX3_lay 5 = .ok (.ifCond .eq 17, 3) := by decide +kernel
theorem dX3_lay_8 : decode cX3_lay 8 = .ok (.aload_n 0, 1) := by decide +kernel
theorem dX3_lay_9 : decode cX3_lay 9 = .ok (.getfield 19, 3) := by decide +kernel
theorem dX3_lay_12 : decode cX3_lay 12 = .ok (.iload_n 1, 1) := by decide +kernel
theorem dX3_lay_13 : decode cX3_lay 13 = .ok (.iload_n 2, 1) := by decide +kernel
theorem dX3_lay_14 : decode cX3_lay 14 = .ok (.iastore, 1) := by decide +kernel
theorem dX3_lay_15 : decode cX3_lay 15 = .ok (.aload_n 0, 1) := by decide +kernel
theorem dX3_lay_16 : decode cX3_lay 16 = .ok (.getfield 22, 3) := by decide +kernel
theorem dX3_lay_19 : decode cX3_lay 19 = .ok (.iload_n 1, 1) := by decide +kernel
theorem dX3_lay_20 : decode cX3_lay 20 = .ok (.iload_n 3, 1) := by decide +kernel
theorem dX3_lay_21 : decode cX3_lay 21 = .ok (.iastore, 1) := by decide +kernel
theorem dX3_lay_22 : decode cX3_lay 22 = .ok (.return_, 1) := by decide +kernel
theorem dX3_insert_0 : decode cX3_insert 0 = .ok (.iload_n 1, 1) := by decide +kernel
theorem dX3_insert_1 : decode cX3_insert 1 = .ok (.ifCond .lt 20, 3) := by decide +kernel
theorem dX3_insert_4 : decode cX3_insert 4 = .ok (.iload_n 1, 1) := by decide +kernel
theorem dX3_insert_5 : decode cX3_insert 5 = .ok (.aload_n 0, 1) := by decide +kernel
theorem dX3_insert_6 : decode cX3_insert 6 = .ok (.getfield 25, 3) := by decide +kernel
theorem dX3_insert_9 : decode cX3_insert 9 = .ok (.if_icmp .gt 12, 3) := by decide +kernel
theorem dX3_insert_12 : decode cX3_insert 12 = .ok (.aload_n 0, 1) := by decide +kernel
theorem dX3_insert_13 : decode cX3_insert 13 = .ok (.getfield 25, 3) := by decide +kernel
theorem dX3_insert_16 : decode cX3_insert 16 = .ok (.bipush 24, 2) := by decide +kernel
theorem dX3_insert_18 : decode cX3_insert 18 = .ok (.if_icmp .lt 4, 3) := by decide +kernel
theorem dX3_insert_21 : decode cX3_insert 21 = .ok (.return_, 1) := by decide +kernel
theorem dX3_insert_22 : decode cX3_insert 22 = .ok (.aload_n 0, 1) := by decide +kernel
theorem dX3_insert_23 : decode cX3_insert 23 = .ok (.dup, 1) := by decide +kernel
theorem dX3_insert_24 : decode cX3_insert 24 = .ok (.getfield 25, 3) := by decide +kernel
theorem dX3_insert_27 : decode cX3_insert 27 = .ok (.iconst 1, 1) := by decide +kernel
theorem dX3_insert_28 : decode cX3_insert 28 = .ok (.iadd, 1) := by decide +kernel
theorem dX3_insert_29 : decode cX3_insert 29 = .ok (.putfield 25, 3) := by decide +kernel
theorem dX3_insert_32 : decode cX3_insert 32 = .ok (.aload_n 0, 1) := by decide +kernel
theorem dX3_insert_33 : decode cX3_insert 33 = .ok (.getfield 25, 3) := by decide +kernel
theorem dX3_insert_36 : decode cX3_insert 36 = .ok (.iconst 1, 1) := by decide +kernel
theorem dX3_insert_37 : decode cX3_insert 37 = .ok (.isub, 1) := by decide +kernel
theorem dX3_insert_38 : decode cX3_insert 38 = .ok (.istore 5, 2) := by decide +kernel
theorem dX3_insert_40 : decode cX3_insert 40 = .ok (.iload 5, 2) := by decide +kernel
theorem dX3_insert_42 : decode cX3_insert 42 = .ok (.iload_n 1, 1) := by decide +kernel
theorem dX3_insert_43 : decode cX3_insert 43 = .ok (.if_icmp .le 19, 3) := by decide +kernel
theorem dX3_insert_46 : decode cX3_insert 46 = .ok (.aload_n 0, 1) := by decide +kernel
theorem dX3_insert_47 : decode cX3_insert 47 = .ok (.iload 5, 2) := by decide +kernel
theorem dX3_insert_49 : decode cX3_insert 49 = .ok (.iconst 1, 1) := by decide +kernel
theorem dX3_insert_50 : decode cX3_insert 50 = .ok (.isub, 1) := by decide +kernel
theorem dX3_insert_51 : decode cX3_insert 51 = .ok (.iload 5, 2) := by decide +kernel
theorem dX3_insert_53 : decode cX3_insert 53 = .ok (.invokevirtual 33, 3) := by decide +kernel
theorem dX3_insert_56 : decode cX3_insert 56 = .ok (.iinc 5 (-1), 3) := by decide +kernel
theorem dX3_insert_59 : decode cX3_insert 59 = .ok (.goto (-19), 3) := by decide +kernel
theorem dX3_insert_62 : decode cX3_insert 62 = .ok (.aload_n 0, 1) := by decide +kernel
theorem dX3_insert_63 : decode cX3_insert 63 = .ok (.getfield 15, 3) := by decide +kernel
theorem dX3_insert_66 : decode cX3_insert 66 = .ok (.iload_n 1, 1) := by decide +kernel
theorem dX3_insert_67 : decode cX3_insert 67 = .ok (.iload_n 2, 1) := by decide +kernel
theorem dX3_insert_68 : decode cX3_insert 68 = .ok (.iastore, 1) := by decide +kernel
theorem dX3_insert_69 : decode cX3_insert 69 = .ok (.aload_n 0, 1) := by decide +kernel
theorem dX3_insert_70 : decode cX3_insert 70 = .ok (.iload_n 1, 1) := by decide +kernel
theorem dX3_insert_71 : decode cX3_insert 71 = .ok (.iload_n 3, 1) := by decide +kernel
theorem dX3_insert_72 : decode cX3_insert 72 = .ok (.iload 4, 2) := by decide +kernel
theorem dX3_insert_74 : decode cX3_insert 74 = .ok (.invokevirtual 37, 3) := by decide +kernel
theorem dX3_insert_77 : decode cX3_insert 77 = .ok (.return_, 1) := by decide +kernel
theorem dX3_remove_0 : decode cX3_remove 0 = .ok (.aload_n 0, 1) := by decide +kernel
theorem dX3_remove_1 : decode cX3_remove 1 = .ok (.iload_n 1, 1) := by decide +kernel
theorem dX3_remove_2 : decode cX3_remove 2 = .ok (.invokevirtual 29, 3) := by decide +kernel
theorem dX3_remove_5 : decode cX3_remove 5 = .ok (.ifCond .ne 4, 3) := by decide +kernel
theorem dX3_remove_8 : decode cX3_remove 8 = .ok (.return_, 1) := by decide +kernel
theorem dX3_remove_9 : decode cX3_remove 9 = .ok (.iload_n 1, 1) := by decide +kernel
theorem dX3_remove_10 : decode cX3_remove 10 = .ok (.iconst 1, 1) := by decide +kernel
theorem dX3_remove_11 : decode cX3_remove 11 = .ok (.iadd, 1) := by decide +kernel
theorem dX3_remove_12 : decode cX3_remove 12 = .ok (.istore_n 2, 1) := by decide +kernel
theorem dX3_remove_13 : decode cX3_remove 13 = .ok (.iload_n 2, 1) := by decide +kernel
theorem dX3_remove_14 : decode cX3_remove 14 = .ok (.aload_n 0, 1) := by decide +kernel
theorem dX3_remove_15 : decode cX3_remove 15 = .ok (.getfield 25, 3) := by decide +kernel
theorem dX3_remove_18 : decode cX3_remove 18 = .ok (.if_icmp .ge 17, 3) := by decide +kernel
theorem dX3_remove_21 : decode cX3_remove 21 = .ok (.aload_n 0, 1) := by decide +kernel
theorem dX3_remove_22 : decode cX3_remove 22 = .ok (.iload_n 2, 1) := by decide +kernel
theorem dX3_remove_23 : decode cX3_remove 23 = .ok (.iload_n 2, 1) := by decide +kernel
theorem dX3_remove_24 : decode cX3_remove 24 = .ok (.iconst 1, 1) := by decide +kernel
theorem dX3_remove_25 : decode cX3_remove 25 = .ok (.isub, 1) := by decide +kernel
theorem dX3_remove_26 : decode cX3_remove 26 = .ok (.invokevirtual 33, 3) := by decide +kernel
theorem dX3_remove_29 : decode cX3_remove 29 = .ok (.iinc 2 1, 3) := by decide +kernel
theorem dX3_remove_32 : decode cX3_remove 32 = .ok (.goto (-19), 3) := by decide +kernel
theorem dX3_remove_35 : decode cX3_remove 35 = .ok (.aload_n 0, 1) := by decide +kernel
theorem dX3_remove_36 : decode cX3_remove 36 = .ok (.dup, 1) := by decide +kernel
theorem dX3_remove_37 : decode cX3_remove 37 = .ok (.getfield 25, 3) := by decide +kernel
theorem dX3_remove_40 : decode cX3_remove 40 = .ok (.iconst 1, 1) := by decide +kernel
theorem dX3_remove_41 : decode cX3_remove 41 = .ok (.isub, 1) := by decide +kernel
theorem dX3_remove_42 : decode cX3_remove 42 = .ok (.putfield 25, 3) := by decide +kernel
theorem dX3_remove_45 : decode cX3_remove 45 = .ok (.return_, 1) := by decide +kernel
theorem dX3_move_0 : decode cX3_move 0 = .ok (.aload_n 0, 1) := by decide +kernel
theorem dX3_move_1 : decode cX3_move 1 = .ok (.iload_n 1, 1) := by decide +kernel
theorem dX3_move_2 : decode cX3_move 2 = .ok (.invokevirtual 29, 3) := by decide +kernel
theorem dX3_move_5 : decode cX3_move 5 = .ok (.ifCond .eq 47, 3) := by decide +kernel
theorem dX3_move_8 : decode cX3_move 8 = .ok (.aload_n 0, 1) := by decide +kernel
theorem dX3_move_9 : decode cX3_move 9 = .ok (.iload_n 2, 1) := by decide +kernel
theorem dX3_move_10 : decode cX3_move 10 = .ok (.invokevirtual 29, 3) := by decide +kernel
theorem dX3_move_13 : decode cX3_move 13 = .ok (.ifCond .eq 39, 3) := by decide +kernel
theorem dX3_move_16 : decode cX3_move 16 = .ok (.aload_n 0, 1) := by decide +kernel
theorem dX3_move_17 : decode cX3_move 17 = .ok (.getfield 15, 3) := by decide +kernel
theorem dX3_move_20 : decode cX3_move 20 = .ok (.iload_n 2, 1) := by decide +kernel
theorem dX3_move_21 : decode cX3_move 21 = .ok (.aload_n 0, 1) := by decide +kernel
theorem dX3_move_22 : decode cX3_move 22 = .ok (.getfield 15, 3) := by decide +kernel
theorem dX3_move_25 : decode cX3_move 25 = .ok (.iload_n 1, 1) := by decide +kernel
theorem dX3_move_26 : decode cX3_move 26 = .ok (.iaload, 1) := by decide +kernel
theorem dX3_move_27 : decode cX3_move 27 = .ok (.iastore, 1) := by decide +kernel
theorem dX3_move_28 : decode cX3_move 28 = .ok (.aload_n 0, 1) := by decide +kernel
theorem dX3_move_29 : decode cX3_move 29 = .ok (.getfield 19, 3) := by decide +kernel
theorem dX3_move_32 : decode cX3_move 32 = .ok (.iload_n 2, 1) := by decide +kernel
theorem dX3_move_33 : decode cX3_move 33 = .ok (.aload_n 0, 1) := by decide +kernel
theorem dX3_move_34 : decode cX3_move 34 = .ok (.getfield 19, 3) := by decide +kernel
theorem dX3_move_37 : decode cX3_move 37 = .ok (.iload_n 1, 1) := by decide +kernel
theorem dX3_move_38 : decode cX3_move 38 = .ok (.iaload, 1) := by decide +kernel
theorem dX3_move_39 : decode cX3_move 39 = .ok (.iastore, 1) := by decide +kernel
theorem dX3_move_40 : decode cX3_move 40 = .ok (.aload_n 0, 1) := by decide +kernel
theorem dX3_move_41 : decode cX3_move 41 = .ok (.getfield 22, 3) := by decide +kernel
theorem dX3_move_44 : decode cX3_move 44 = .ok (.iload_n 2, 1) := by decide +kernel
theorem dX3_move_45 : decode cX3_move 45 = .ok (.aload_n 0, 1) := by decide +kernel
theorem dX3_move_46 : decode cX3_move 46 = .ok (.getfield 22, 3) := by decide +kernel
theorem dX3_move_49 : decode cX3_move 49 = .ok (.iload_n 1, 1) := by decide +kernel
theorem dX3_move_50 : decode cX3_move 50 = .ok (.iaload, 1) := by decide +kernel
theorem dX3_move_51 : decode cX3_move 51 = .ok (.iastore, 1) := by decide +kernel
theorem dX3_move_52 : decode cX3_move 52 = .ok (.return_, 1) := by decide +kernel
theorem dX3_exchange_0 : decode cX3_exchange 0 = .ok (.aload_n 0, 1) := by decide +kernel
theorem dX3_exchange_1 : decode cX3_exchange 1 = .ok (.iload_n 1, 1) := by decide +kernel
theorem dX3_exchange_2 : decode cX3_exchange 2 = .ok (.invokevirtual 29, 3) := by decide +kernel
theorem dX3_exchange_5 : decode cX3_exchange 5 = .ok (.ifCond .eq 11, 3) := by decide +kernel
theorem dX3_exchange_8 : decode cX3_exchange 8 = .ok (.aload_n 0, 1) := by decide +kernel
theorem dX3_exchange_9 : decode cX3_exchange 9 = .ok (.iload_n 2, 1) := by decide +kernel
theorem dX3_exchange_10 : decode cX3_exchange 10 = .ok (.invokevirtual 29, 3) := by decide +kernel
theorem dX3_exchange_13 : decode cX3_exchange 13 = .ok (.ifCond .ne 4, 3) := by decide +kernel
theorem dX3_exchange_16 : decode cX3_exchange 16 = .ok (.return_, 1) := by decide +kernel
theorem dX3_exchange_17 : decode cX3_exchange 17 = .ok (.aload_n 0, 1) := by decide +kernel
theorem dX3_exchange_18 : decode cX3_exchange 18 = .ok (.getfield 15, 3) := by decide +kernel
theorem dX3_exchange_21 : decode cX3_exchange 21 = .ok (.iload_n 1, 1) := by decide +kernel
theorem dX3_exchange_22 : decode cX3_exchange 22 = .ok (.iaload, 1) := by decide +kernel
theorem dX3_exchange_23 : decode cX3_exchange 23 = .ok (.istore_n 3, 1) := by decide +kernel
theorem dX3_exchange_24 : decode cX3_exchange 24 = .ok (.aload_n 0, 1) := by decide +kernel
theorem dX3_exchange_25 : decode cX3_exchange 25 = .ok (.getfield 19, 3) := by decide +kernel
theorem dX3_exchange_28 : decode cX3_exchange 28 = .ok (.iload_n 1, 1) := by decide +kernel
theorem dX3_exchange_29 : decode cX3_exchange 29 = .ok (.iaload, 1) := by decide +kernel
theorem dX3_exchange_30 : decode cX3_exchange 30 = .ok (.istore 4, 2) := by decide +kernel
theorem dX3_exchange_32 : decode cX3_exchange 32 = .ok (.aload_n 0, 1) := by decide +kernel
theorem dX3_exchange_33 : decode cX3_exchange 33 = .ok (.getfield 22, 3) := by decide +kernel
theorem dX3_exchange_36 : decode cX3_exchange 36 = .ok (.iload_n 1, 1) := by decide +kernel
theorem dX3_exchange_37 : decode cX3_exchange 37 = .ok (.iaload, 1) := by decide +kernel
theorem dX3_exchange_38 : decode cX3_exchange 38 = .ok (.istore 5, 2) := by decide +kernel
theorem dX3_exchange_40 : decode cX3_exchange 40 = .ok (.aload_n 0, 1) := by decide +kernel
theorem dX3_exchange_41 : decode cX3_exchange 41 = .ok (.getfield 15, 3) := by decide +kernel
theorem dX3_exchange_44 : decode cX3_exchange 44 = .ok (.iload_n 1, 1) := by decide +kernel
theorem dX3_exchange_45 : decode cX3_exchange 45 = .ok (.aload_n 0, 1) := by decide +kernel
theorem dX3_exchange_46 : decode cX3_exchange 46 = .ok (.getfield 15, 3) := by decide +kernel
theorem dX3_exchange_49 : decode cX3_exchange 49 = .ok (.iload_n 2, 1) := by decide +kernel
theorem dX3_exchange_50 : decode cX3_exchange 50 = .ok (.iaload, 1) := by decide +kernel
theorem dX3_exchange_51 : decode cX3_exchange 51 = .ok (.iastore, 1) := by decide +kernel
theorem dX3_exchange_52 : decode cX3_exchange 52 = .ok (.aload_n 0, 1) := by decide +kernel
theorem dX3_exchange_53 : decode cX3_exchange 53 = .ok (.getfield 19, 3) := by decide +kernel
theorem dX3_exchange_56 : decode cX3_exchange 56 = .ok (.iload_n 1, 1) := by decide +kernel
theorem dX3_exchange_57 : decode cX3_exchange 57 = .ok (.aload_n 0, 1) := by decide +kernel
theorem dX3_exchange_58 : decode cX3_exchange 58 = .ok (.getfield 19, 3) := by decide +kernel
theorem dX3_exchange_61 : decode cX3_exchange 61 = .ok (.iload_n 2, 1) := by decide +kernel
theorem dX3_exchange_62 : decode cX3_exchange 62 = .ok (.iaload, 1) := by decide +kernel
theorem dX3_exchange_63 : decode cX3_exchange 63 = .ok (.iastore, 1) := by decide +kernel
theorem dX3_exchange_64 : decode cX3_exchange 64 = .ok (.aload_n 0, 1) := by decide +kernel
theorem dX3_exchange_65 : decode cX3_exchange 65 = .ok (.getfield 22, 3) := by decide +kernel
theorem dX3_exchange_68 : decode cX3_exchange 68 = .ok (.iload_n 1, 1) := by decide +kernel
theorem dX3_exchange_69 : decode cX3_exchange 69 = .ok (.aload_n 0, 1) := by decide +kernel
theorem dX3_exchange_70 : decode cX3_exchange 70 = .ok (.getfield 22, 3) := by decide +kernel
theorem dX3_exchange_73 : decode cX3_exchange 73 = .ok (.iload_n 2, 1) := by decide +kernel
theorem dX3_exchange_74 : decode cX3_exchange 74 = .ok (.iaload, 1) := by decide +kernel
theorem dX3_exchange_75 : decode cX3_exchange 75 = .ok (.iastore, 1) := by decide +kernel
theorem dX3_exchange_76 : decode cX3_exchange 76 = .ok (.aload_n 0, 1) := by decide +kernel
theorem dX3_exchange_77 : decode cX3_exchange 77 = .ok (.getfield 15, 3) := by decide +kernel
theorem dX3_exchange_80 : decode cX3_exchange 80 = .ok (.iload_n 2, 1) := by decide +kernel
theorem dX3_exchange_81 : decode cX3_exchange 81 = .ok (.iload_n 3, 1) := by decide +kernel
theorem dX3_exchange_82 : decode cX3_exchange 82 = .ok (.iastore, 1) := by decide +kernel
theorem dX3_exchange_83 : decode cX3_exchange 83 = .ok (.aload_n 0, 1) := by decide +kernel
theorem dX3_exchange_84 : decode cX3_exchange 84 = .ok (.getfield 19, 3) := by decide +kernel
theorem dX3_exchange_87 : decode cX3_exchange 87 = .ok (.iload_n 2, 1) := by decide +kernel
theorem dX3_exchange_88 : decode cX3_exchange 88 = .ok (.iload 4, 2) := by decide +kernel
theorem dX3_exchange_90 : decode cX3_exchange 90 = .ok (.iastore, 1) := by decide +kernel
theorem dX3_exchange_91 : decode cX3_exchange 91 = .ok (.aload_n 0, 1) := by decide +kernel
theorem dX3_exchange_92 : decode cX3_exchange 92 = .ok (.getfield 22, 3) := by decide +kernel
theorem dX3_exchange_95 : decode cX3_exchange 95 = .ok (.iload_n 2, 1) := by decide +kernel
theorem dX3_exchange_96 : decode cX3_exchange 96 = .ok (.iload 5, 2) := by decide +kernel
theorem dX3_exchange_98 : decode cX3_exchange 98 = .ok (.iastore, 1) := by decide +kernel
theorem dX3_exchange_99 : decode cX3_exchange 99 = .ok (.return_, 1) := by decide +kernel
theorem dX3_reverse_0 : decode cX3_reverse 0 = .ok (.iconst 0, 1) := by decide +kernel
theorem dX3_reverse_1 : decode cX3_reverse 1 = .ok (.istore_n 3, 1) := by decide +kernel
theorem dX3_reverse_2 : decode cX3_reverse 2 = .ok (.iload_n 3, 1) := by decide +kernel
theorem dX3_reverse_3 : decode cX3_reverse 3 = .ok (.iload_n 2, 1) := by decide +kernel
theorem dX3_reverse_4 : decode cX3_reverse 4 = .ok (.iconst 2, 1) := by decide +kernel
theorem dX3_reverse_5 : decode cX3_reverse 5 = .ok (.idiv, 1) := by decide +kernel
theorem dX3_reverse_6 : decode cX3_reverse 6 = .ok (.if_icmp .ge 23, 3) := by decide +kernel
theorem dX3_reverse_9 : decode cX3_reverse 9 = .ok (.aload_n 0, 1) := by decide +kernel
theorem dX3_reverse_10 : decode cX3_reverse 10 = .ok (.iload_n 1, 1) := by decide +kernel
theorem dX3_reverse_11 : decode cX3_reverse 11 = .ok (.iload_n 3, 1) := by decide +kernel
theorem dX3_reverse_12 : decode cX3_reverse 12 = .ok (.iadd, 1) := by decide +kernel
theorem dX3_reverse_13 : decode cX3_reverse 13 = .ok (.iload_n 1, 1) := by decide +kernel
theorem dX3_reverse_14 : decode cX3_reverse 14 = .ok (.iload_n 2, 1) := by decide +kernel
theorem dX3_reverse_15 : decode cX3_reverse 15 = .ok (.iadd, 1) := by decide +kernel
theorem dX3_reverse_16 : decode cX3_reverse 16 = .ok (.iconst 1, 1) := by decide +kernel
theorem dX3_reverse_17 : decode cX3_reverse 17 = .ok (.isub, 1) := by decide +kernel
theorem dX3_reverse_18 : decode cX3_reverse 18 = .ok (.iload_n 3, 1) := by decide +kernel
theorem dX3_reverse_19 : decode cX3_reverse 19 = .ok (.isub, 1) := by decide +kernel
theorem dX3_reverse_20 : decode cX3_reverse 20 = .ok (.invokevirtual 41, 3) := by decide +kernel
theorem dX3_reverse_23 : decode cX3_reverse 23 = .ok (.iinc 3 1, 3) := by decide +kernel
theorem dX3_reverse_26 : decode cX3_reverse 26 = .ok (.goto (-24), 3) := by decide +kernel
theorem dX3_reverse_29 : decode cX3_reverse 29 = .ok (.return_, 1) := by decide +kernel
theorem dX3_moveRound_0 : decode cX3_moveRound 0 = .ok (.iload_n 2, 1) := by decide +kernel
theorem dX3_moveRound_1 : decode cX3_moveRound 1 = .ok (.ifCond .gt 4, 3) := by decide +kernel
theorem dX3_moveRound_4 : decode cX3_moveRound 4 = .ok (.return_, 1) := by decide +kernel
theorem dX3_moveRound_5 : decode cX3_moveRound 5 = .ok (.iload_n 3, 1) := by decide +kernel
theorem dX3_moveRound_6 : decode cX3_moveRound 6 = .ok (.iload_n 2, 1) := by decide +kernel
theorem dX3_moveRound_7 : decode cX3_moveRound 7 = .ok (.invokestatic 44, 3) := by decide +kernel
theorem dX3_moveRound_10 : decode cX3_moveRound 10 = .ok (.istore 4, 2) := by decide +kernel
theorem dX3_moveRound_12 : decode cX3_moveRound 12 = .ok (.aload_n 0, 1) := by decide +kernel
theorem dX3_moveRound_13 : decode cX3_moveRound 13 = .ok (.iload_n 1, 1) := by decide +kernel
theorem dX3_moveRound_14 : decode cX3_moveRound 14 = .ok (.iload_n 2, 1) := by decide +kernel
theorem dX3_moveRound_15 : decode cX3_moveRound 15 = .ok (.invokevirtual 50, 3) := by decide +kernel
theorem dX3_moveRound_18 : decode cX3_moveRound 18 = .ok (.aload_n 0, 1) := by decide +kernel
theorem dX3_moveRound_19 : decode cX3_moveRound 19 = .ok (.iload_n 1, 1) := by decide +kernel
theorem dX3_moveRound_20 : decode cX3_moveRound 20 = .ok (.iload 4, 2) := by decide +kernel
theorem dX3_moveRound_22 : decode cX3_moveRound 22 = .ok (.invokevirtual 50, 3) := by decide +kernel
theorem dX3_moveRound_25 : decode cX3_moveRound 25 = .ok (.aload_n 0, 1) := by decide +kernel
theorem dX3_moveRound_26 : decode cX3_moveRound 26 = .ok (.iload_n 1, 1) := by decide +kernel
theorem dX3_moveRound_27 : decode cX3_moveRound 27 = .ok (.iload 4, 2) := by decide +kernel
theorem dX3_moveRound_29 : decode cX3_moveRound 29 = .ok (.iadd, 1) := by decide +kernel
theorem dX3_moveRound_30 : decode cX3_moveRound 30 = .ok (.iload_n 2, 1) := by decide +kernel
theorem dX3_moveRound_31 : decode cX3_moveRound 31 = .ok (.iload 4, 2) := by decide +kernel
theorem dX3_moveRound_33 : decode cX3_moveRound 33 = .ok (.isub, 1) := by decide +kernel
theorem dX3_moveRound_34 : decode cX3_moveRound 34 = .ok (.invokevirtual 50, 3) := by decide +kernel
theorem dX3_moveRound_37 : decode cX3_moveRound 37 = .ok (.return_, 1) := by decide +kernel
theorem dX3_order_0 : decode cX3_order 0 = .ok (.iload_n 1, 1) := by decide +kernel
theorem dX3_order_1 : decode cX3_order 1 = .ok (.iconst 1, 1) := by decide +kernel
theorem dX3_order_2 : decode cX3_order 2 = .ok (.iadd, 1) := by decide +kernel
theorem dX3_order_3 : decode cX3_order 3 = .ok (.istore 4, 2) := by decide +kernel
theorem dX3_order_5 : decode cX3_order 5 = .ok (.iload 4, 2) := by decide +kernel
theorem dX3_order_7 : decode cX3_order 7 = .ok (.iload_n 1, 1) := by decide +kernel
theorem dX3_order_8 : decode cX3_order 8 = .ok (.iload_n 2, 1) := by decide +kernel
theorem dX3_order_9 : decode cX3_order 9 = .ok (.iadd, 1) := by decide +kernel
theorem dX3_order_10 : decode cX3_order 10 = .ok (.if_icmp .ge 54, 3) := by decide +kernel
theorem dX3_order_13 : decode cX3_order 13 = .ok (.iload 4, 2) := by decide +kernel
theorem dX3_order_15 : decode cX3_order 15 = .ok (.istore 5, 2) := by decide +kernel
theorem dX3_order_17 : decode cX3_order 17 = .ok (.iload 5, 2) := by decide +kernel
theorem dX3_order_19 : decode cX3_order 19 = .ok (.iload_n 1, 1) := by decide +kernel
theorem dX3_order_20 : decode cX3_order 20 = .ok (.if_icmp .le 38, 3) := by decide +kernel
theorem dX3_order_23 : decode cX3_order 23 = .ok (.aload_n 0, 1) := by decide +kernel
theorem dX3_order_24 : decode cX3_order 24 = .ok (.iload 5, 2) := by decide +kernel
theorem dX3_order_26 : decode cX3_order 26 = .ok (.iconst 1, 1) := by decide +kernel
theorem dX3_order_27 : decode cX3_order 27 = .ok (.isub, 1) := by decide +kernel
theorem dX3_order_28 : decode cX3_order 28 = .ok (.iload_n 3, 1) := by decide +kernel
theorem dX3_order_29 : decode cX3_order 29 = .ok (.invokevirtual 53, 3) := by decide +kernel
theorem dX3_order_32 : decode cX3_order 32 = .ok (.aload_n 0, 1) := by decide +kernel
theorem dX3_order_33 : decode cX3_order 33 = .ok (.iload 5, 2) := by decide +kernel
theorem dX3_order_35 : decode cX3_order 35 = .ok (.iload_n 3, 1) := by decide +kernel
theorem dX3_order_36 : decode cX3_order 36 = .ok (.invokevirtual 53, 3) := by decide +kernel
theorem dX3_order_39 : decode cX3_order 39 = .ok (.if_icmp .le 19, 3) := by decide +kernel
theorem dX3_order_42 : decode cX3_order 42 = .ok (.aload_n 0, 1) := by decide +kernel
theorem dX3_order_43 : decode cX3_order 43 = .ok (.iload 5, 2) := by decide +kernel
theorem dX3_order_45 : decode cX3_order 45 = .ok (.iconst 1, 1) := by decide +kernel
theorem dX3_order_46 : decode cX3_order 46 = .ok (.isub, 1) := by decide +kernel
theorem dX3_order_47 : decode cX3_order 47 = .ok (.iload 5, 2) := by decide +kernel
theorem dX3_order_49 : decode cX3_order 49 = .ok (.invokevirtual 41, 3) := by decide +kernel
theorem dX3_order_52 : decode cX3_order 52 = .ok (.iinc 5 (-1), 3) := by decide +kernel
theorem dX3_order_55 : decode cX3_order 55 = .ok (.goto (-38), 3) := by decide +kernel
theorem dX3_order_58 : decode cX3_order 58 = .ok (.iinc 4 1, 3) := by decide +kernel
theorem dX3_order_61 : decode cX3_order 61 = .ok (.goto (-56), 3) := by decide +kernel
theorem dX3_order_64 : decode cX3_order 64 = .ok (.return_, 1) := by decide +kernel
theorem dX3_rank_0 : decode cX3_rank 0 = .ok (.iload_n 2, 1) := by decide +kernel
theorem dX3_rank_1 : decode cX3_rank 1 = .ok (.bipush 107, 2) := by decide +kernel
theorem dX3_rank_3 : decode cX3_rank 3 = .ok (.if_icmp .eq 9, 3) := by decide +kernel
theorem dX3_rank_6 : decode cX3_rank 6 = .ok (.iload_n 2, 1) := by decide +kernel
theorem dX3_rank_7 : decode cX3_rank 7 = .ok (.bipush 75, 2) := by decide +kernel
theorem dX3_rank_9 : decode cX3_rank 9 = .ok (.if_icmp .ne 11, 3) := by decide +kernel
theorem dX3_rank_12 : decode cX3_rank 12 = .ok (.aload_n 0, 1) := by decide +kernel
theorem dX3_rank_13 : decode cX3_rank 13 = .ok (.iload_n 1, 1) := by decide +kernel
theorem dX3_rank_14 : decode cX3_rank 14 = .ok (.invokevirtual 57, 3) := by decide +kernel
theorem dX3_rank_17 : decode cX3_rank 17 = .ok (.goto 8, 3) := by decide +kernel
theorem dX3_rank_20 : decode cX3_rank 20 = .ok (.aload_n 0, 1) := by decide +kernel
theorem dX3_rank_21 : decode cX3_rank 21 = .ok (.iload_n 1, 1) := by decide +kernel
theorem dX3_rank_22 : decode cX3_rank 22 = .ok (.invokevirtual 61, 3) := by decide +kernel
theorem dX3_rank_25 : decode cX3_rank 25 = .ok (.istore_n 3, 1) := by decide +kernel
theorem dX3_rank_26 : decode cX3_rank 26 = .ok (.iload_n 2, 1) := by decide +kernel
theorem dX3_rank_27 : decode cX3_rank 27 = .ok (.bipush 75, 2) := by decide +kernel
theorem dX3_rank_29 : decode cX3_rank 29 = .ok (.if_icmp .eq 9, 3) := by decide +kernel
theorem dX3_rank_32 : decode cX3_rank 32 = .ok (.iload_n 2, 1) := by decide +kernel
theorem dX3_rank_33 : decode cX3_rank 33 = .ok (.bipush 77, 2) := by decide +kernel
theorem dX3_rank_35 : decode cX3_rank 35 = .ok (.if_icmp .ne 8, 3) := by decide +kernel
theorem dX3_rank_38 : decode cX3_rank 38 = .ok (.iload_n 3, 1) := by decide +kernel
theorem dX3_rank_39 : decode cX3_rank 39 = .ok (.ineg, 1) := by decide +kernel
theorem dX3_rank_40 : decode cX3_rank 40 = .ok (.goto 4, 3) := by decide +kernel
theorem dX3_rank_43 : decode cX3_rank 43 = .ok (.iload_n 3, 1) := by decide +kernel
theorem dX3_rank_44 : decode cX3_rank 44 = .ok (.ireturn, 1) := by decide +kernel
theorem dX3_placeOfNumber_0 : decode cX3_placeOfNumber 0 = .ok (.iconst 0, 1) := by decide +kernel
theorem dX3_placeOfNumber_1 : decode cX3_placeOfNumber 1 = .ok (.istore_n 2, 1) := by decide +kernel
theorem dX3_placeOfNumber_2 : decode cX3_placeOfNumber 2 = .ok (.iload_n 2, 1) := by decide +kernel
theorem dX3_placeOfNumber_3 : decode cX3_placeOfNumber 3 = .ok (.aload_n 0, 1) := by decide +kernel
theorem dX3_placeOfNumber_4 : decode cX3_placeOfNumber 4 = .ok (.getfield 25, 3) := by decide +kernel
theorem dX3_placeOfNumber_7 : decode cX3_placeOfNumber 7 = .ok (.if_icmp .ge 20, 3) := by decide +kernel
theorem dX3_placeOfNumber_10 : decode cX3_placeOfNumber 10 = .ok (.aload_n 0, 1) := by decide +kernel
theorem dX3_placeOfNumber_11 : decode cX3_placeOfNumber 11 = .ok (.iload_n 2, 1) := by decide +kernel
theorem dX3_placeOfNumber_12 : decode cX3_placeOfNumber 12 = .ok (.invokevirtual 64, 3) := by decide +kernel
theorem dX3_placeOfNumber_15 : decode cX3_placeOfNumber 15 = .ok (.iload_n 1, 1) := by decide +kernel
theorem dX3_placeOfNumber_16 : decode cX3_placeOfNumber 16 = .ok (.if_icmp .ne 5, 3) := by decide +kernel
theorem dX3_placeOfNumber_19 : decode cX3_placeOfNumber 19 = .ok (.iload_n 2, 1) := by decide +kernel
theorem dX3_placeOfNumber_20 : decode cX3_placeOfNumber 20 = .ok (.ireturn, 1) := by decide +kernel
theorem dX3_placeOfNumber_21 : decode cX3_placeOfNumber 21 = .ok (.iinc 2 1, 3) := by decide +kernel
theorem dX3_placeOfNumber_24 : decode cX3_placeOfNumber 24 = .ok (.goto (-22), 3) := by decide +kernel
theorem dX3_placeOfNumber_27 : decode cX3_placeOfNumber 27 = .ok (.iconst (-1), 1) := by decide +kernel
theorem dX3_placeOfNumber_28 : decode cX3_placeOfNumber 28 = .ok (.ireturn, 1) := by decide +kernel
theorem dX3_placeToEnter_0 : decode cX3_placeToEnter 0 = .ok (.aload_n 0, 1) := by decide +kernel
theorem dX3_placeToEnter_1 : decode cX3_placeToEnter 1 = .ok (.getfield 25, 3) := by decide +kernel
theorem dX3_placeToEnter_4 : decode cX3_placeToEnter 4 = .ok (.istore_n 2, 1) := by decide +kernel
theorem dX3_placeToEnter_5 : decode cX3_placeToEnter 5 = .ok (.aload_n 0, 1) := by decide +kernel
theorem dX3_placeToEnter_6 : decode cX3_placeToEnter 6 = .ok (.getfield 9, 3) := by decide +kernel
theorem dX3_placeToEnter_9 : decode cX3_placeToEnter 9 = .ok (.ifCond .eq 24, 3) := by decide +kernel
theorem dX3_placeToEnter_12 : decode cX3_placeToEnter 12 = .ok (.iload_n 2, 1) := by decide +kernel
theorem dX3_placeToEnter_13 : decode cX3_placeToEnter 13 = .ok (.ifCond .le 20, 3) := by decide +kernel
theorem dX3_placeToEnter_16 : decode cX3_placeToEnter 16 = .ok (.aload_n 0, 1) := by decide +kernel
theorem dX3_placeToEnter_17 : decode cX3_placeToEnter 17 = .ok (.iload_n 2, 1) := by decide +kernel
theorem dX3_placeToEnter_18 : decode cX3_placeToEnter 18 = .ok (.iconst 1, 1) := by decide +kernel
theorem dX3_placeToEnter_19 : decode cX3_placeToEnter 19 = .ok (.isub, 1) := by decide +kernel
theorem dX3_placeToEnter_20 : decode cX3_placeToEnter 20 = .ok (.invokevirtual 64, 3) := by decide +kernel
theorem dX3_placeToEnter_23 : decode cX3_placeToEnter 23 = .ok (.iload_n 1, 1) := by decide +kernel
theorem dX3_placeToEnter_24 : decode cX3_placeToEnter 24 = .ok (.if_icmp .le 9, 3) := by decide +kernel
theorem dX3_placeToEnter_27 : decode cX3_placeToEnter 27 = .ok (.iinc 2 (-1), 3) := by decide +kernel
theorem dX3_placeToEnter_30 : decode cX3_placeToEnter 30 = .ok (.goto (-25), 3) := by decide +kernel
theorem dX3_placeToEnter_33 : decode cX3_placeToEnter 33 = .ok (.iload_n 2, 1) := by decide +kernel
theorem dX3_placeToEnter_34 : decode cX3_placeToEnter 34 = .ok (.ireturn, 1) := by decide +kernel
theorem dX3_copyThings_0 : decode cX3_copyThings 0 = .ok (.aload_n 0, 1) := by decide +kernel
theorem dX3_copyThings_1 : decode cX3_copyThings 1 = .ok (.iconst 0, 1) := by decide +kernel
theorem dX3_copyThings_2 : decode cX3_copyThings 2 = .ok (.putfield 25, 3) := by decide +kernel
theorem dX3_copyThings_5 : decode cX3_copyThings 5 = .ok (.iconst 0, 1) := by decide +kernel
theorem dX3_copyThings_6 : decode cX3_copyThings 6 = .ok (.istore_n 2, 1) := by decide +kernel
theorem dX3_copyThings_7 : decode cX3_copyThings 7 = .ok (.iload_n 2, 1) := by decide +kernel
theorem dX3_copyThings_8 : decode cX3_copyThings 8 = .ok (.aload_n 1, 1) := by decide +kernel
theorem dX3_copyThings_9 : decode cX3_copyThings 9 = .ok (.invokevirtual 67, 3) := by decide +kernel
theorem dX3_copyThings_12 : decode cX3_copyThings 12 = .ok (.if_icmp .ge 25, 3) := by decide +kernel
theorem dX3_copyThings_15 : decode cX3_copyThings 15 = .ok (.aload_n 0, 1) := by decide +kernel
theorem dX3_copyThings_16 : decode cX3_copyThings 16 = .ok (.iload_n 2, 1) := by decide +kernel
theorem dX3_copyThings_17 : decode cX3_copyThings 17 = .ok (.iload_n 2, 1) := by decide +kernel
theorem dX3_copyThings_18 : decode cX3_copyThings 18 = .ok (.aload_n 1, 1) := by decide +kernel
theorem dX3_copyThings_19 : decode cX3_copyThings 19 = .ok (.iload_n 2, 1) := by decide +kernel
theorem dX3_copyThings_20 : decode cX3_copyThings 20 = .ok (.invokevirtual 72, 3) := by decide +kernel
theorem dX3_copyThings_23 : decode cX3_copyThings 23 = .ok (.aload_n 1, 1) := by decide +kernel
theorem dX3_copyThings_24 : decode cX3_copyThings 24 = .ok (.iload_n 2, 1) := by decide +kernel
theorem dX3_copyThings_25 : decode cX3_copyThings 25 = .ok (.invokevirtual 75, 3) := by decide +kernel
theorem dX3_copyThings_28 : decode cX3_copyThings 28 = .ok (.invokevirtual 78, 3) := by decide +kernel
theorem dX3_copyThings_31 : decode cX3_copyThings 31 = .ok (.iinc 2 1, 3) := by decide +kernel
theorem dX3_copyThings_34 : decode cX3_copyThings 34 = .ok (.goto (-27), 3) := by decide +kernel
theorem dX3_copyThings_37 : decode cX3_copyThings 37 = .ok (.return_, 1) := by decide +kernel
theorem dX4_init_0 : decode cX4_init 0 = .ok (.aload_n 0, 1) := by decide +kernel
theorem dX4_init_1 : decode cX4_init 1 = .ok (.invokespecial 1, 3) := by decide +kernel
theorem dX4_init_4 : decode cX4_init 4 = .ok (.aload_n 0, 1) := by decide +kernel
theorem dX4_init_5 : decode cX4_init 5 = .ok (.bipush 12, 2) := by decide +kernel
theorem dX4_init_7 : decode cX4_init 7 = .ok (.anewarray 9, 3) := by decide +kernel
theorem dX4_init_10 : decode cX4_init 10 = .ok (.putfield 11, 3) := by decide +kernel
theorem dX4_init_13 : decode cX4_init 13 = .ok (.aload_n 0, 1) := by decide +kernel
theorem dX4_init_14 : decode cX4_init 14 = .ok (.getfield 11, 3) := by decide +kernel
theorem dX4_init_17 : decode cX4_init 17 = .ok (.iconst 0, 1) := by decide +kernel
theorem dX4_init_18 : decode cX4_init 18 = .ok (.new 9, 3) := by decide +kernel
theorem dX4_init_21 : decode cX4_init 21 = .ok (.dup, 1) := by decide +kernel
theorem dX4_init_22 : decode cX4_init 22 = .ok (.bipush 108, 2) := by decide +kernel
theorem dX4_init_24 : decode cX4_init 24 = .ok (.iconst 1, 1) := by decide +kernel
theorem dX4_init_25 : decode cX4_init 25 = .ok (.new 15, 3) := by decide +kernel
theorem dX4_init_28 : decode cX4_init 28 = .ok (.dup, 1) := by decide +kernel
theorem dX4_init_29 : decode cX4_init 29 = .ok (.iconst 0, 1) := by decide +kernel
theorem dX4_init_30 : decode cX4_init 30 = .ok (.invokespecial 17, 3) := by decide +kernel
theorem dX4_init_33 : decode cX4_init 33 = .ok (.aconst_null, 1) := by decide +kernel
theorem dX4_init_34 : decode cX4_init 34 = .ok (.invokespecial 20, 3) := by decide +kernel
theorem dX4_init_37 : decode cX4_init 37 = .ok (.aastore, 1) := by decide +kernel
theorem dX4_init_38 : decode cX4_init 38 = .ok (.aload_n 0, 1) := by decide +kernel
theorem dX4_init_39 : decode cX4_init 39 = .ok (.getfield 11, 3) := by decide +kernel
theorem dX4_init_42 : decode cX4_init 42 = .ok (.iconst 1, 1) := by decide +kernel
theorem dX4_init_43 : decode cX4_init 43 = .ok (.new 9, 3) := by decide +kernel
theorem dX4_init_46 : decode cX4_init 46 = .ok (.dup, 1) := by decide +kernel
theorem dX4_init_47 : decode cX4_init 47 = .ok (.bipush 108, 2) := by decide +kernel
theorem dX4_init_49 : decode cX4_init 49 = .ok (.iconst 1, 1) := by decide +kernel
theorem dX4_init_50 : decode cX4_init 50 = .ok (.new 15, 3) := by decide +kernel
theorem dX4_init_53 : decode cX4_init 53 = .ok (.dup, 1) := by decide +kernel
theorem dX4_init_54 : decode cX4_init 54 = .ok (.iconst 0, 1) := by decide +kernel
theorem dX4_init_55 : decode cX4_init 55 = .ok (.invokespecial 17, 3) := by decide +kernel
theorem dX4_init_58 : decode cX4_init 58 = .ok (.aconst_null, 1) := by decide +kernel
theorem dX4_init_59 : decode cX4_init 59 = .ok (.invokespecial 20, 3) := by decide +kernel
theorem dX4_init_62 : decode cX4_init 62 = .ok (.aastore, 1) := by decide +kernel
theorem dX4_init_63 : decode cX4_init 63 = .ok (.aload_n 0, 1) := by decide +kernel
theorem dX4_init_64 : decode cX4_init 64 = .ok (.getfield 11, 3) := by decide +kernel
theorem dX4_init_67 : decode cX4_init 67 = .ok (.iconst 2, 1) := by decide +kernel
theorem dX4_init_68 : decode cX4_init 68 = .ok (.new 9, 3) := by decide +kernel
theorem dX4_init_71 : decode cX4_init 71 = .ok (.dup, 1) := by decide +kernel
theorem dX4_init_72 : decode cX4_init 72 = .ok (.bipush 109, 2) := by decide +kernel
theorem dX4_init_74 : decode cX4_init 74 = .ok (.iconst 1, 1) := by decide +kernel
theorem dX4_init_75 : decode cX4_init 75 = .ok (.new 15, 3) := by decide +kernel
theorem dX4_init_78 : decode cX4_init 78 = .ok (.dup, 1) := by decide +kernel
theorem dX4_init_79 : decode cX4_init 79 = .ok (.iconst 0, 1) := by decide +kernel
theorem dX4_init_80 : decode cX4_init 80 = .ok (.invokespecial 17, 3) := by decide +kernel
theorem dX4_init_83 : decode cX4_init 83 = .ok (.aconst_null, 1) := by decide +kernel
theorem dX4_init_84 : decode cX4_init 84 = .ok (.invokespecial 20, 3) := by decide +kernel
theorem dX4_init_87 : decode cX4_init 87 = .ok (.aastore, 1) := by decide +kernel
theorem dX4_init_88 : decode cX4_init 88 = .ok (.aload_n 0, 1) := by decide +kernel
theorem dX4_init_89 : decode cX4_init 89 = .ok (.getfield 11, 3) := by decide +kernel
theorem dX4_init_92 : decode cX4_init 92 = .ok (.iconst 3, 1) := by decide +kernel
theorem dX4_init_93 : decode cX4_init 93 = .ok (.new 9, 3) := by decide +kernel
theorem dX4_init_96 : decode cX4_init 96 = .ok (.dup, 1) := by decide +kernel
theorem dX4_init_97 : decode cX4_init 97 = .ok (.bipush 109, 2) := by decide +kernel
theorem dX4_init_99 : decode cX4_init 99 = .ok (.iconst 1, 1) := by decide +kernel
theorem dX4_init_100 : decode cX4_init 100 = .ok (.new 15, 3) := by decide +kernel
theorem dX4_init_103 : decode cX4_init 103 = .ok (.dup, 1) := by decide +kernel
theorem dX4_init_104 : decode cX4_init 104 = .ok (.iconst 1, 1) := by decide +kernel
theorem dX4_init_105 : decode cX4_init 105 = .ok (.invokespecial 17, 3) := by decide +kernel
theorem dX4_init_108 : decode cX4_init 108 = .ok (.aconst_null, 1) := by decide +kernel
theorem dX4_init_109 : decode cX4_init 109 = .ok (.invokespecial 20, 3) := by decide +kernel
theorem dX4_init_112 : decode cX4_init 112 = .ok (.aastore, 1) := by decide +kernel
theorem dX4_init_113 : decode cX4_init 113 = .ok (.aload_n 0, 1) := by decide +kernel
theorem dX4_init_114 : decode cX4_init 114 = .ok (.new 15, 3) := by decide +kernel
theorem dX4_init_117 : decode cX4_init 117 = .ok (.dup, 1) := by decide +kernel
theorem dX4_init_118 : decode cX4_init 118 = .ok (.iconst 0, 1) := by decide +kernel
theorem dX4_init_119 : decode cX4_init 119 = .ok (.invokespecial 17, 3) := by decide +kernel
theorem dX4_init_122 : decode cX4_init 122 = .ok (.putfield 23, 3) := by decide +kernel
theorem dX4_init_125 : decode cX4_init 125 = .ok (.aload_n 0, 1) := by decide +kernel
theorem dX4_init_126 : decode cX4_init 126 = .ok (.bipush 24, 2) := by decide +kernel
theorem dX4_init_128 : decode cX4_init 128 = .ok (.newarray .boolean, 2) := by decide +kernel
theorem dX4_init_130 : decode cX4_init 130 = .ok (.putfield 27, 3) := by decide +kernel
theorem dX4_init_133 : decode cX4_init 133 = .ok (.aload_n 0, 1) := by decide +kernel
theorem dX4_init_134 : decode cX4_init 134 = .ok (.new 31, 3) := by decide +kernel
theorem dX4_init_137 : decode cX4_init 137 = .ok (.dup, 1) := by decide +kernel
theorem dX4_init_138 : decode cX4_init 138 = .ok (.invokespecial 33, 3) := by decide +kernel
theorem dX4_init_141 : decode cX4_init 141 = .ok (.putfield 34, 3) := by decide +kernel
theorem dX4_init_144 : decode cX4_init 144 = .ok (.return_, 1) := by decide +kernel
theorem dX4_part_0 : decode cX4_part 0 = .ok (.iload_n 1, 1) := by decide +kernel
theorem dX4_part_1 : decode cX4_part 1 = .ok (.invokestatic 38, 3) := by decide +kernel
theorem dX4_part_4 : decode cX4_part 4 = .ok (.aload_n 0, 1) := by decide +kernel
theorem dX4_part_5 : decode cX4_part 5 = .ok (.iload_n 2, 1) := by decide +kernel
theorem dX4_part_6 : decode cX4_part 6 = .ok (.invokevirtual 42, 3) := by decide +kernel
theorem dX4_part_9 : decode cX4_part 9 = .ok (.astore 5, 2) := by decide +kernel
theorem dX4_part_11 : decode cX4_part 11 = .ok (.aload 5, 2) := by decide +kernel
theorem dX4_part_13 : decode cX4_part 13 = .ok (.ifnull 23, 3) := by decide +kernel
theorem dX4_part_16 : decode cX4_part 16 = .ok (.aload 5, 2) := by decide +kernel
theorem dX4_part_18 : decode cX4_part 18 = .ok (.getfield 46, 3) := by decide +kernel
theorem dX4_part_21 : decode cX4_part 21 = .ok (.bipush 108, 2) := by decide +kernel
theorem dX4_part_23 : decode cX4_part 23 = .ok (.if_icmp .eq 21, 3) := by decide +kernel
theorem dX4_part_26 : decode cX4_part 26 = .ok (.aload 5, 2) := by decide +kernel
theorem dX4_part_28 : decode cX4_part 28 = .ok (.getfield 46, 3) := by decide +kernel
theorem dX4_part_31 : decode cX4_part 31 = .ok (.bipush 112, 2) := by decide +kernel
theorem dX4_part_33 : decode cX4_part 33 = .ok (.if_icmp .eq 11, 3) := by decide +kernel
theorem dX4_part_36 : decode cX4_part 36 = .ok (.new 50, 3) := by decide +kernel
theorem dX4_part_39 : decode cX4_part 39 = .ok (.dup, 1) := by decide +kernel
theorem dX4_part_40 : decode cX4_part 40 = .ok (.invokespecial 52, 3) := by decide +kernel
theorem dX4_part_43 : decode cX4_part 43 = .ok (.athrow, 1) := by decide +kernel
theorem dX4_part_44 : decode cX4_part 44 = .ok (.iload_n 3, 1) := by decide +kernel
theorem dX4_part_45 : decode cX4_part 45 = .ok (.ifCond .lt 19, 3) := by decide +kernel
theorem dX4_part_48 : decode cX4_part 48 = .ok (.iload_n 3, 1) := by decide +kernel
theorem dX4_part_49 : decode cX4_part 49 = .ok (.iload 4, 2) := by decide +kernel
theorem dX4_part_51 : decode cX4_part 51 = .ok (.if_icmp .gt 13, 3) := by decide +kernel
theorem dX4_part_54 : decode cX4_part 54 = .ok (.iload 4, 2) := by decide +kernel
theorem dX4_part_56 : decode cX4_part 56 = .ok (.aload 5, 2) := by decide +kernel
theorem dX4_part_58 : decode cX4_part 58 = .ok (.invokevirtual 53, 3) := by decide +kernel
theorem dX4_part_61 : decode cX4_part 61 = .ok (.if_icmp .le 11, 3) := by decide +kernel
theorem dX4_part_64 : decode cX4_part 64 = .ok (.new 57, 3) := by decide +kernel
theorem dX4_part_67 : decode cX4_part 67 = .ok (.dup, 1) := by decide +kernel
theorem dX4_part_68 : decode cX4_part 68 = .ok (.invokespecial 59, 3) := by decide +kernel
theorem dX4_part_71 : decode cX4_part 71 = .ok (.athrow, 1) := by decide +kernel
theorem dX4_part_72 : decode cX4_part 72 = .ok (.new 60, 3) := by decide +kernel
theorem dX4_part_75 : decode cX4_part 75 = .ok (.dup, 1) := by decide +kernel
theorem dX4_part_76 : decode cX4_part 76 = .ok (.aload 5, 2) := by decide +kernel
theorem dX4_part_78 : decode cX4_part 78 = .ok (.getfield 62, 3) := by decide +kernel
theorem dX4_part_81 : decode cX4_part 81 = .ok (.aload 5, 2) := by decide +kernel
theorem dX4_part_83 : decode cX4_part 83 = .ok (.invokevirtual 66, 3) := by decide +kernel
theorem dX4_part_86 : decode cX4_part 86 = .ok (.iload_n 3, 1) := by decide +kernel
theorem dX4_part_87 : decode cX4_part 87 = .ok (.iadd, 1) := by decide +kernel
theorem dX4_part_88 : decode cX4_part 88 = .ok (.iload 4, 2) := by decide +kernel
theorem dX4_part_90 : decode cX4_part 90 = .ok (.iload_n 3, 1) := by decide +kernel
theorem dX4_part_91 : decode cX4_part 91 = .ok (.isub, 1) := by decide +kernel
theorem dX4_part_92 : decode cX4_part 92 = .ok (.invokespecial 69, 3) := by decide +kernel
theorem dX4_part_95 : decode cX4_part 95 = .ok (.astore 6, 2) := by decide +kernel
theorem dX4_part_97 : decode cX4_part 97 = .ok (.aload_n 0, 1) := by decide +kernel
theorem dX4_part_98 : decode cX4_part 98 = .ok (.getfield 11, 3) := by decide +kernel
theorem dX4_part_101 : decode cX4_part 101 = .ok (.iload_n 1, 1) := by decide +kernel
theorem dX4_part_102 : decode cX4_part 102 = .ok (.new 9, 3) := by decide +kernel
theorem dX4_part_105 : decode cX4_part 105 = .ok (.dup, 1) := by decide +kernel
theorem dX4_part_106 : decode cX4_part 106 = .ok (.bipush 112, 2) := by decide +kernel
theorem dX4_part_108 : decode cX4_part 108 = .ok (.iconst 1, 1) := by decide +kernel
theorem dX4_part_109 : decode cX4_part 109 = .ok (.aload 5, 2) := by decide +kernel
theorem dX4_part_111 : decode cX4_part 111 = .ok (.getfield 72, 3) := by decide +kernel
theorem dX4_part_114 : decode cX4_part 114 = .ok (.aload 6, 2) := by decide +kernel
theorem dX4_part_116 : decode cX4_part 116 = .ok (.invokespecial 20, 3) := by decide +kernel
theorem dX4_part_119 : decode cX4_part 119 = .ok (.aastore, 1) := by decide +kernel
theorem dX4_part_120 : decode cX4_part 120 = .ok (.iload 4, 2) := by decide +kernel
theorem dX4_part_122 : decode cX4_part 122 = .ok (.iload_n 3, 1) := by decide +kernel
theorem dX4_part_123 : decode cX4_part 123 = .ok (.isub, 1) := by decide +kernel
theorem dX4_part_124 : decode cX4_part 124 = .ok (.ireturn, 1) := by decide +kernel
theorem dX4_fixed_0 : decode cX4_fixed 0 = .ok (.iload_n 1, 1) := by decide +kernel
theorem dX4_fixed_1 : decode cX4_fixed 1 = .ok (.invokestatic 38, 3) := by decide +kernel
theorem dX4_fixed_4 : decode cX4_fixed 4 = .ok (.aload_n 0, 1) := by decide +kernel
theorem dX4_fixed_5 : decode cX4_fixed 5 = .ok (.iload_n 2, 1) := by decide +kernel
theorem dX4_fixed_6 : decode cX4_fixed 6 = .ok (.invokevirtual 42, 3) := by decide +kernel
theorem dX4_fixed_9 : decode cX4_fixed 9 = .ok (.astore_n 3, 1) := by decide +kernel
theorem dX4_fixed_10 : decode cX4_fixed 10 = .ok (.aload_n 3, 1) := by decide +kernel
theorem dX4_fixed_11 : decode cX4_fixed 11 = .ok (.ifnull 30, 3) := by decide +kernel
theorem dX4_fixed_14 : decode cX4_fixed 14 = .ok (.aload_n 3, 1) := by decide +kernel
theorem dX4_fixed_15 : decode cX4_fixed 15 = .ok (.getfield 46, 3) := by decide +kernel
theorem dX4_fixed_18 : decode cX4_fixed 18 = .ok (.bipush 108, 2) := by decide +kernel
theorem dX4_fixed_20 : decode cX4_fixed 20 = .ok (.if_icmp .eq 29, 3) := by decide +kernel
theorem dX4_fixed_23 : decode cX4_fixed 23 = .ok (.aload_n 3, 1) := by decide +kernel
theorem dX4_fixed_24 : decode cX4_fixed 24 = .ok (.getfield 46, 3) := by decide +kernel
theorem dX4_fixed_27 : decode cX4_fixed 27 = .ok (.bipush 112, 2) := by decide +kernel
theorem dX4_fixed_29 : decode cX4_fixed 29 = .ok (.if_icmp .eq 20, 3) := by decide +kernel
theorem dX4_fixed_32 : decode cX4_fixed 32 = .ok (.aload_n 3, 1) := by decide +kernel
theorem dX4_fixed_33 : decode cX4_fixed 33 = .ok (.getfield 46, 3) := by decide +kernel
theorem dX4_fixed_36 : decode cX4_fixed 36 = .ok (.bipush 109, 2) := by decide +kernel
theorem dX4_fixed_38 : decode cX4_fixed 38 = .ok (.if_icmp .eq 11, 3) := by decide +kernel
theorem dX4_fixed_41 : decode cX4_fixed 41 = .ok (.new 50, 3) := by decide +kernel
theorem dX4_fixed_44 : decode cX4_fixed 44 = .ok (.dup, 1) := by decide +kernel
theorem dX4_fixed_45 : decode cX4_fixed 45 = .ok (.invokespecial 52, 3) := by decide +kernel
theorem dX4_fixed_48 : decode cX4_fixed 48 = .ok (.athrow, 1) := by decide +kernel
theorem dX4_fixed_49 : decode cX4_fixed 49 = .ok (.aload_n 0, 1) := by decide +kernel
theorem dX4_fixed_50 : decode cX4_fixed 50 = .ok (.getfield 11, 3) := by decide +kernel
theorem dX4_fixed_53 : decode cX4_fixed 53 = .ok (.iload_n 1, 1) := by decide +kernel
theorem dX4_fixed_54 : decode cX4_fixed 54 = .ok (.new 9, 3) := by decide +kernel
theorem dX4_fixed_57 : decode cX4_fixed 57 = .ok (.dup, 1) := by decide +kernel
theorem dX4_fixed_58 : decode cX4_fixed 58 = .ok (.aload_n 3, 1) := by decide +kernel
theorem dX4_fixed_59 : decode cX4_fixed 59 = .ok (.getfield 46, 3) := by decide +kernel
theorem dX4_fixed_62 : decode cX4_fixed 62 = .ok (.bipush 109, 2) := by decide +kernel
theorem dX4_fixed_64 : decode cX4_fixed 64 = .ok (.if_icmp .ne 8, 3) := by decide +kernel
theorem dX4_fixed_67 : decode cX4_fixed 67 = .ok (.bipush 70, 2) := by decide +kernel
theorem dX4_fixed_69 : decode cX4_fixed 69 = .ok (.goto 5, 3) := by decide +kernel
theorem dX4_fixed_72 : decode cX4_fixed 72 = .ok (.bipush 102, 2) := by decide +kernel
theorem dX4_fixed_74 : decode cX4_fixed 74 = .ok (.iconst 0, 1) := by decide +kernel
theorem dX4_fixed_75 : decode cX4_fixed 75 = .ok (.aload_n 3, 1) := by decide +kernel
theorem dX4_fixed_76 : decode cX4_fixed 76 = .ok (.getfield 72, 3) := by decide +kernel
theorem dX4_fixed_79 : decode cX4_fixed 79 = .ok (.aload_n 3, 1) := by decide +kernel
theorem dX4_fixed_80 : decode cX4_fixed 80 = .ok (.getfield 62, 3) := by decide +kernel
theorem dX4_fixed_83 : decode cX4_fixed 83 = .ok (.invokespecial 20, 3) := by decide +kernel
theorem dX4_fixed_86 : decode cX4_fixed 86 = .ok (.aastore, 1) := by decide +kernel
theorem dX4_fixed_87 : decode cX4_fixed 87 = .ok (.aload_n 3, 1) := by decide +kernel
theorem dX4_fixed_88 : decode cX4_fixed 88 = .ok (.invokevirtual 53, 3) := by decide +kernel
theorem dX4_fixed_91 : decode cX4_fixed 91 = .ok (.ireturn, 1) := by decide +kernel
theorem dX4_copies_0 : decode cX4_copies 0 = .ok (.iload_n 1, 1) := by decide +kernel
theorem dX4_copies_1 : decode cX4_copies 1 = .ok (.invokestatic 38, 3) := by decide +kernel
theorem dX4_copies_4 : decode cX4_copies 4 = .ok (.iload_n 2, 1) := by decide +kernel
theorem dX4_copies_5 : decode cX4_copies 5 = .ok (.ifCond .lt 9, 3) := by decide +kernel
theorem dX4_copies_8 : decode cX4_copies 8 = .ok (.iload_n 2, 1) := by decide +kernel
theorem dX4_copies_9 : decode cX4_copies 9 = .ok (.bipush 24, 2) := by decide +kernel
theorem dX4_copies_11 : decode cX4_copies 11 = .ok (.if_icmp .le 11, 3) := by decide +kernel
theorem dX4_copies_14 : decode cX4_copies 14 = .ok (.new 57, 3) := by decide +kernel
theorem dX4_copies_17 : decode cX4_copies 17 = .ok (.dup, 1) := by decide +kernel
theorem dX4_copies_18 : decode cX4_copies 18 = .ok (.invokespecial 59, 3) := by decide +kernel
theorem dX4_copies_21 : decode cX4_copies 21 = .ok (.athrow, 1) := by decide +kernel
theorem dX4_copies_22 : decode cX4_copies 22 = .ok (.iload_n 3, 1) := by decide +kernel
theorem dX4_copies_23 : decode cX4_copies 23 = .ok (.iload 4, 2) := by decide +kernel
theorem dX4_copies_25 : decode cX4_copies 25 = .ok (.invokestatic 75, 3) := by decide +kernel
theorem dX4_copies_28 : decode cX4_copies 28 = .ok (.aload_n 0, 1) := by decide +kernel
theorem dX4_copies_29 : decode cX4_copies 29 = .ok (.getfield 11, 3) := by decide +kernel
theorem dX4_copies_32 : decode cX4_copies 32 = .ok (.iload_n 1, 1) := by decide +kernel
theorem dX4_copies_33 : decode cX4_copies 33 = .ok (.new 9, 3) := by decide +kernel
theorem dX4_copies_36 : decode cX4_copies 36 = .ok (.dup, 1) := by decide +kernel
theorem dX4_copies_37 : decode cX4_copies 37 = .ok (.bipush 99, 2) := by decide +kernel
theorem dX4_copies_39 : decode cX4_copies 39 = .ok (.iload_n 2, 1) := by decide +kernel
theorem dX4_copies_40 : decode cX4_copies 40 = .ok (.iload_n 3, 1) := by decide +kernel
theorem dX4_copies_41 : decode cX4_copies 41 = .ok (.iload 4, 2) := by decide +kernel
theorem dX4_copies_43 : decode cX4_copies 43 = .ok (.invokespecial 79, 3) := by decide +kernel
theorem dX4_copies_46 : decode cX4_copies 46 = .ok (.aastore, 1) := by decide +kernel
theorem dX4_copies_47 : decode cX4_copies 47 = .ok (.iload_n 2, 1) := by decide +kernel
theorem dX4_copies_48 : decode cX4_copies 48 = .ok (.ireturn, 1) := by decide +kernel
theorem dX4_alone_0 : decode cX4_alone 0 = .ok (.iload_n 1, 1) := by decide +kernel
theorem dX4_alone_1 : decode cX4_alone 1 = .ok (.invokestatic 38, 3) := by decide +kernel
theorem dX4_alone_4 : decode cX4_alone 4 = .ok (.iload_n 2, 1) := by decide +kernel
theorem dX4_alone_5 : decode cX4_alone 5 = .ok (.iload_n 3, 1) := by decide +kernel
theorem dX4_alone_6 : decode cX4_alone 6 = .ok (.invokestatic 75, 3) := by decide +kernel
theorem dX4_alone_9 : decode cX4_alone 9 = .ok (.new 9, 3) := by decide +kernel
theorem dX4_alone_12 : decode cX4_alone 12 = .ok (.dup, 1) := by decide +kernel
theorem dX4_alone_13 : decode cX4_alone 13 = .ok (.bipush 97, 2) := by decide +kernel
theorem dX4_alone_15 : decode cX4_alone 15 = .ok (.iconst 1, 1) := by decide +kernel
theorem dX4_alone_16 : decode cX4_alone 16 = .ok (.iload_n 2, 1) := by decide +kernel
theorem dX4_alone_17 : decode cX4_alone 17 = .ok (.iload_n 3, 1) := by decide +kernel
theorem dX4_alone_18 : decode cX4_alone 18 = .ok (.invokespecial 79, 3) := by decide +kernel
theorem dX4_alone_21 : decode cX4_alone 21 = .ok (.astore 4, 2) := by decide +kernel
theorem dX4_alone_23 : decode cX4_alone 23 = .ok (.aload_n 0, 1) := by decide +kernel
theorem dX4_alone_24 : decode cX4_alone 24 = .ok (.getfield 11, 3) := by decide +kernel
theorem dX4_alone_27 : decode cX4_alone 27 = .ok (.iload_n 1, 1) := by decide +kernel
theorem dX4_alone_28 : decode cX4_alone 28 = .ok (.aload 4, 2) := by decide +kernel
theorem dX4_alone_30 : decode cX4_alone 30 = .ok (.aastore, 1) := by decide +kernel
theorem dX4_alone_31 : decode cX4_alone 31 = .ok (.aload 4, 2) := by decide +kernel
theorem dX4_alone_33 : decode cX4_alone 33 = .ok (.invokevirtual 82, 3) := by decide +kernel
theorem dX4_alone_36 : decode cX4_alone 36 = .ok (.ireturn, 1) := by decide +kernel
theorem dX4_none_0 : decode cX4_none 0 = .ok (.iload_n 1, 1) := by decide +kernel
theorem dX4_none_1 : decode cX4_none 1 = .ok (.invokestatic 38, 3) := by decide +kernel
theorem dX4_none_4 : decode cX4_none 4 = .ok (.aload_n 0, 1) := by decide +kernel
theorem dX4_none_5 : decode cX4_none 5 = .ok (.getfield 11, 3) := by decide +kernel
theorem dX4_none_8 : decode cX4_none 8 = .ok (.iload_n 1, 1) := by decide +kernel
theorem dX4_none_9 : decode cX4_none 9 = .ok (.new 9, 3) := by decide +kernel
theorem dX4_none_12 : decode cX4_none 12 = .ok (.dup, 1) := by decide +kernel
theorem dX4_none_13 : decode cX4_none 13 = .ok (.bipush 101, 2) := by decide +kernel
theorem dX4_none_15 : decode cX4_none 15 = .ok (.iconst 0, 1) := by decide +kernel
theorem dX4_none_16 : decode cX4_none 16 = .ok (.iconst 0, 1) := by decide +kernel
theorem dX4_none_17 : decode cX4_none 17 = .ok (.iconst 0, 1) := by decide +kernel
theorem dX4_none_18 : decode cX4_none 18 = .ok (.invokespecial 79, 3) := by decide +kernel
theorem dX4_none_21 : decode cX4_none 21 = .ok (.aastore, 1) := by decide +kernel
theorem dX4_none_22 : decode cX4_none 22 = .ok (.iconst 0, 1) := by decide +kernel
theorem dX4_none_23 : decode cX4_none 23 = .ok (.istore_n 2, 1) := by decide +kernel
theorem dX4_none_24 : decode cX4_none 24 = .ok (.iconst 4, 1) := by decide +kernel
theorem dX4_none_25 : decode cX4_none 25 = .ok (.istore_n 3, 1) := by decide +kernel
theorem dX4_none_26 : decode cX4_none 26 = .ok (.iload_n 3, 1) := by decide +kernel
theorem dX4_none_27 : decode cX4_none 27 = .ok (.bipush 12, 2) := by decide +kernel
theorem dX4_none_29 : decode cX4_none 29 = .ok (.if_icmp .ge 21, 3) := by decide +kernel
theorem dX4_none_32 : decode cX4_none 32 = .ok (.aload_n 0, 1) := by decide +kernel
theorem dX4_none_33 : decode cX4_none 33 = .ok (.getfield 11, 3) := by decide +kernel
theorem dX4_none_36 : decode cX4_none 36 = .ok (.iload_n 3, 1) := by decide +kernel
theorem dX4_none_37 : decode cX4_none 37 = .ok (.aaload, 1) := by decide +kernel
theorem dX4_none_38 : decode cX4_none 38 = .ok (.ifnull 6, 3) := by decide +kernel
theorem dX4_none_41 : decode cX4_none 41 = .ok (.iinc 2 1, 3) := by decide +kernel
theorem dX4_none_44 : decode cX4_none 44 = .ok (.iinc 3 1, 3) := by decide +kernel
theorem dX4_none_47 : decode cX4_none 47 = .ok (.goto (-21), 3) := by decide +kernel
theorem dX4_none_50 : decode cX4_none 50 = .ok (.iload_n 2, 1) := by decide +kernel
theorem dX4_none_51 : decode cX4_none 51 = .ok (.ireturn, 1) := by decide +kernel
theorem dX4_keys_0 : decode cX4_keys 0 = .ok (.aload_n 0, 1) := by decide +kernel
theorem dX4_keys_1 : decode cX4_keys 1 = .ok (.iload_n 1, 1) := by decide +kernel
theorem dX4_keys_2 : decode cX4_keys 2 = .ok (.iload_n 2, 1) := by decide +kernel
theorem dX4_keys_3 : decode cX4_keys 3 = .ok (.bipush 107, 2) := by decide +kernel
theorem dX4_keys_5 : decode cX4_keys 5 = .ok (.invokevirtual 85, 3) := by decide +kernel
theorem dX4_keys_8 : decode cX4_keys 8 = .ok (.ireturn, 1) := by decide +kernel
theorem dX4_values_0 : decode cX4_values 0 = .ok (.aload_n 0, 1) := by decide +kernel
theorem dX4_values_1 : decode cX4_values 1 = .ok (.iload_n 1, 1) := by decide +kernel
theorem dX4_values_2 : decode cX4_values 2 = .ok (.iload_n 2, 1) := by decide +kernel
theorem dX4_values_3 : decode cX4_values 3 = .ok (.bipush 118, 2) := by decide +kernel
theorem dX4_values_5 : decode cX4_values 5 = .ok (.invokevirtual 85, 3) := by decide +kernel
theorem dX4_values_8 : decode cX4_values 8 = .ok (.ireturn, 1) := by decide +kernel
theorem dX4_lookOnMap_0 : decode cX4_lookOnMap 0 = .ok (.iload_n 1, 1) := by decide +kernel
theorem dX4_lookOnMap_1 : decode cX4_lookOnMap 1 = .ok (.invokestatic 38, 3) := by decide +kernel
theorem dX4_lookOnMap_4 : decode cX4_lookOnMap 4 = .ok (.aload_n 0, 1) := by decide +kernel
theorem dX4_lookOnMap_5 : decode cX4_lookOnMap 5 = .ok (.iload_n 2, 1) := by decide +kernel
theorem dX4_lookOnMap_6 : decode cX4_lookOnMap 6 = .ok (.invokevirtual 89, 3) := by decide +kernel
theorem dX4_lookOnMap_9 : decode cX4_lookOnMap 9 = .ok (.astore 4, 2) := by decide +kernel
theorem dX4_lookOnMap_11 : decode cX4_lookOnMap 11 = .ok (.aload_n 0, 1) := by decide +kernel
theorem dX4_lookOnMap_12 : decode cX4_lookOnMap 12 = .ok (.getfield 11, 3) := by decide +kernel
theorem dX4_lookOnMap_15 : decode cX4_lookOnMap 15 = .ok (.iload_n 1, 1) := by decide +kernel
theorem dX4_lookOnMap_16 : decode cX4_lookOnMap 16 = .ok (.new 9, 3) := by decide +kernel
theorem dX4_lookOnMap_19 : decode cX4_lookOnMap 19 = .ok (.dup, 1) := by decide +kernel
theorem dX4_lookOnMap_20 : decode cX4_lookOnMap 20 = .ok (.iload_n 3, 1) := by decide +kernel
theorem dX4_lookOnMap_21 : decode cX4_lookOnMap 21 = .ok (.aload 4, 2) := by decide +kernel
theorem dX4_lookOnMap_23 : decode cX4_lookOnMap 23 = .ok (.getfield 92, 3) := by decide +kernel
theorem dX4_lookOnMap_26 : decode cX4_lookOnMap 26 = .ok (.aload 4, 2) := by decide +kernel
theorem dX4_lookOnMap_28 : decode cX4_lookOnMap 28 = .ok (.getfield 72, 3) := by decide +kernel
theorem dX4_lookOnMap_31 : decode cX4_lookOnMap 31 = .ok (.aconst_null, 1) := by decide +kernel
theorem dX4_lookOnMap_32 : decode cX4_lookOnMap 32 = .ok (.invokespecial 20, 3) := by decide +kernel
theorem dX4_lookOnMap_35 : decode cX4_lookOnMap 35 = .ok (.aastore, 1) := by decide +kernel
theorem dX4_lookOnMap_36 : decode cX4_lookOnMap 36 = .ok (.aload 4, 2) := by decide +kernel
theorem dX4_lookOnMap_38 : decode cX4_lookOnMap 38 = .ok (.invokevirtual 53, 3) := by decide +kernel
theorem dX4_lookOnMap_41 : decode cX4_lookOnMap 41 = .ok (.ireturn, 1) := by decide +kernel
theorem dX4_kind_0 : decode cX4_kind 0 = .ok (.aload_n 0, 1) := by decide +kernel
theorem dX4_kind_1 : decode cX4_kind 1 = .ok (.iload_n 1, 1) := by decide +kernel
theorem dX4_kind_2 : decode cX4_kind 2 = .ok (.invokevirtual 42, 3) := by decide +kernel
theorem dX4_kind_5 : decode cX4_kind 5 = .ok (.astore_n 2, 1) := by decide +kernel
theorem dX4_kind_6 : decode cX4_kind 6 = .ok (.aload_n 2, 1) := by decide +kernel
theorem dX4_kind_7 : decode cX4_kind 7 = .ok (.ifnonnull 8, 3) := by decide +kernel
theorem dX4_kind_10 : decode cX4_kind 10 = .ok (.bipush 45, 2) := by decide +kernel
theorem dX4_kind_12 : decode cX4_kind 12 = .ok (.goto 7, 3) := by decide +kernel
theorem dX4_kind_15 : decode cX4_kind 15 = .ok (.aload_n 2, 1) := by decide +kernel
theorem dX4_kind_16 : decode cX4_kind 16 = .ok (.getfield 46, 3) := by decide +kernel
theorem dX4_kind_19 : decode cX4_kind 19 = .ok (.ireturn, 1) := by decide +kernel
theorem dX4_size_0 : decode cX4_size 0 = .ok (.aload_n 0, 1) := by decide +kernel
theorem dX4_size_1 : decode cX4_size 1 = .ok (.iload_n 1, 1) := by decide +kernel
theorem dX4_size_2 : decode cX4_size 2 = .ok (.invokevirtual 96, 3) := by decide +kernel
theorem dX4_size_5 : decode cX4_size 5 = .ok (.invokevirtual 53, 3) := by decide +kernel
theorem dX4_size_8 : decode cX4_size 8 = .ok (.ireturn, 1) := by decide +kernel
theorem dX4_walk_0 : decode cX4_walk 0 = .ok (.aload_n 0, 1) := by decide +kernel
theorem dX4_walk_1 : decode cX4_walk 1 = .ok (.iload_n 1, 1) := by decide +kernel
theorem dX4_walk_2 : decode cX4_walk 2 = .ok (.invokevirtual 96, 3) := by decide +kernel
theorem dX4_walk_5 : decode cX4_walk 5 = .ok (.astore_n 3, 1) := by decide +kernel
theorem dX4_walk_6 : decode cX4_walk 6 = .ok (.iload_n 2, 1) := by decide +kernel
theorem dX4_walk_7 : decode cX4_walk 7 = .ok (.ifCond .eq 18, 3) := by decide +kernel
theorem dX4_walk_10 : decode cX4_walk 10 = .ok (.aload_n 3, 1) := by decide +kernel
theorem dX4_walk_11 : decode cX4_walk 11 = .ok (.invokevirtual 99, 3) := by decide +kernel
theorem dX4_walk_14 : decode cX4_walk 14 = .ok (.ifCond .ne 11, 3) := by decide +kernel
theorem dX4_walk_17 : decode cX4_walk 17 = .ok (.new 57, 3) := by decide +kernel
theorem dX4_walk_20 : decode cX4_walk 20 = .ok (.dup, 1) := by decide +kernel
theorem dX4_walk_21 : decode cX4_walk 21 = .ok (.invokespecial 59, 3) := by decide +kernel
theorem dX4_walk_24 : decode cX4_walk 24 = .ok (.athrow, 1) := by decide +kernel
theorem dX4_walk_25 : decode cX4_walk 25 = .ok (.aload_n 3, 1) := by decide +kernel
theorem dX4_walk_26 : decode cX4_walk 26 = .ok (.ldc2_w 103, 3) := by decide +kernel
theorem dX4_walk_29 : decode cX4_walk 29 = .ok (.iload_n 2, 1) := by decide +kernel
theorem dX4_walk_30 : decode cX4_walk 30 = .ok (.invokevirtual 105, 3) := by decide +kernel
theorem dX4_walk_33 : decode cX4_walk 33 = .ok (.lreturn, 1) := by decide +kernel
theorem dX4_isSame_0 : decode cX4_isSame 0 = .ok (.aload_n 0, 1) := by decide +kernel
theorem dX4_isSame_1 : decode cX4_isSame 1 = .ok (.iload_n 1, 1) := by decide +kernel
theorem dX4_isSame_2 : decode cX4_isSame 2 = .ok (.invokevirtual 42, 3) := by decide +kernel
theorem dX4_isSame_5 : decode cX4_isSame 5 = .ok (.astore_n 3, 1) := by decide +kernel
theorem dX4_isSame_6 : decode cX4_isSame 6 = .ok (.aload_n 0, 1) := by decide +kernel
theorem dX4_isSame_7 : decode cX4_isSame 7 = .ok (.iload_n 2, 1) := by decide +kernel
theorem dX4_isSame_8 : decode cX4_isSame 8 = .ok (.invokevirtual 42, 3) := by decide +kernel
theorem dX4_isSame_11 : decode cX4_isSame 11 = .ok (.astore 4, 2) := by decide +kernel
theorem dX4_isSame_13 : decode cX4_isSame 13 = .ok (.aload_n 3, 1) := by decide +kernel
theorem dX4_isSame_14 : decode cX4_isSame 14 = .ok (.ifnull 8, 3) := by decide +kernel
theorem dX4_isSame_17 : decode cX4_isSame 17 = .ok (.aload 4, 2) := by decide +kernel
theorem dX4_isSame_19 : decode cX4_isSame 19 = .ok (.ifnonnull 11, 3) := by decide +kernel
theorem dX4_isSame_22 : decode cX4_isSame 22 = .ok (.new 50, 3) := by decide +kernel
theorem dX4_isSame_25 : decode cX4_isSame 25 = .ok (.dup, 1) := by decide +kernel
theorem dX4_isSame_26 : decode cX4_isSame 26 = .ok (.invokespecial 52, 3) := by decide +kernel
theorem dX4_isSame_29 : decode cX4_isSame 29 = .ok (.athrow, 1) := by decide +kernel
theorem dX4_isSame_30 : decode cX4_isSame 30 = .ok (.aload_n 3, 1) := by decide +kernel
theorem dX4_isSame_31 : decode cX4_isSame 31 = .ok (.invokevirtual 99, 3) := by decide +kernel
theorem dX4_isSame_34 : decode cX4_isSame 34 = .ok (.ifCond .eq 18, 3) := by decide +kernel
theorem dX4_isSame_37 : decode cX4_isSame 37 = .ok (.aload 4, 2) := by decide +kernel
theorem dX4_isSame_39 : decode cX4_isSame 39 = .ok (.invokevirtual 99, 3) := by decide +kernel
theorem dX4_isSame_42 : decode cX4_isSame 42 = .ok (.ifCond .eq 10, 3) := by decide +kernel
theorem dX4_isSame_45 : decode cX4_isSame 45 = .ok (.aload_n 3, 1) := by decide +kernel
theorem dX4_isSame_46 : decode cX4_isSame 46 = .ok (.aload 4, 2) := by decide +kernel
theorem dX4_isSame_48 : decode cX4_isSame 48 = .ok (.invokevirtual 109, 3) := by decide +kernel
theorem dX4_isSame_51 : decode cX4_isSame 51 = .ok (.ireturn, 1) := by decide +kernel
theorem dX4_isSame_52 : decode cX4_isSame 52 = .ok (.aload_n 3, 1) := by decide +kernel
theorem dX4_isSame_53 : decode cX4_isSame 53 = .ok (.getfield 46, 3) := by decide +kernel
theorem dX4_isSame_56 : decode cX4_isSame 56 = .ok (.bipush 107, 2) := by decide +kernel
theorem dX4_isSame_58 : decode cX4_isSame 58 = .ok (.if_icmp .ne 20, 3) := by decide +kernel
theorem dX4_isSame_61 : decode cX4_isSame 61 = .ok (.aload 4, 2) := by decide +kernel
theorem dX4_isSame_63 : decode cX4_isSame 63 = .ok (.getfield 46, 3) := by decide +kernel
theorem dX4_isSame_66 : decode cX4_isSame 66 = .ok (.bipush 107, 2) := by decide +kernel
theorem dX4_isSame_68 : decode cX4_isSame 68 = .ok (.if_icmp .ne 10, 3) := by decide +kernel
theorem dX4_isSame_71 : decode cX4_isSame 71 = .ok (.aload_n 3, 1) := by decide +kernel
theorem dX4_isSame_72 : decode cX4_isSame 72 = .ok (.aload 4, 2) := by decide +kernel
theorem dX4_isSame_74 : decode cX4_isSame 74 = .ok (.invokevirtual 113, 3) := by decide +kernel
theorem dX4_isSame_77 : decode cX4_isSame 77 = .ok (.ireturn, 1) := by decide +kernel
theorem dX4_isSame_78 : decode cX4_isSame 78 = .ok (.aload_n 3, 1) := by decide +kernel
theorem dX4_isSame_79 : decode cX4_isSame 79 = .ok (.invokevirtual 116, 3) := by decide +kernel
theorem dX4_isSame_82 : decode cX4_isSame 82 = .ok (.ifCond .eq 18, 3) := by decide +kernel
theorem dX4_isSame_85 : decode cX4_isSame 85 = .ok (.aload 4, 2) := by decide +kernel
theorem dX4_isSame_87 : decode cX4_isSame 87 = .ok (.invokevirtual 116, 3) := by decide +kernel
theorem dX4_isSame_90 : decode cX4_isSame 90 = .ok (.ifCond .eq 10, 3) := by decide +kernel
theorem dX4_isSame_93 : decode cX4_isSame 93 = .ok (.aload_n 3, 1) := by decide +kernel
theorem dX4_isSame_94 : decode cX4_isSame 94 = .ok (.aload 4, 2) := by decide +kernel
theorem dX4_isSame_96 : decode cX4_isSame 96 = .ok (.invokevirtual 119, 3) := by decide +kernel
theorem dX4_isSame_99 : decode cX4_isSame 99 = .ok (.ireturn, 1) := by decide +kernel
theorem dX4_isSame_100 : decode cX4_isSame 100 = .ok (.new 50, 3) := by decide +kernel
theorem dX4_isSame_103 : decode cX4_isSame 103 = .ok (.dup, 1) := by decide +kernel
theorem dX4_isSame_104 : decode cX4_isSame 104 = .ok (.invokespecial 52, 3) := by decide +kernel
theorem dX4_isSame_107 : decode cX4_isSame 107 = .ok (.athrow, 1) := by decide +kernel
theorem dX4_hash_0 : decode cX4_hash 0 = .ok (.aload_n 0, 1) := by decide +kernel
theorem dX4_hash_1 : decode cX4_hash 1 = .ok (.iload_n 1, 1) := by decide +kernel
theorem dX4_hash_2 : decode cX4_hash 2 = .ok (.invokevirtual 96, 3) := by decide +kernel
theorem dX4_hash_5 : decode cX4_hash 5 = .ok (.astore_n 2, 1) := by decide +kernel
theorem dX4_hash_6 : decode cX4_hash 6 = .ok (.aload_n 2, 1) := by decide +kernel
theorem dX4_hash_7 : decode cX4_hash 7 = .ok (.invokevirtual 99, 3) := by decide +kernel
theorem dX4_hash_10 : decode cX4_hash 10 = .ok (.ifCond .eq 8, 3) := by decide +kernel
theorem dX4_hash_13 : decode cX4_hash 13 = .ok (.aload_n 2, 1) := by decide +kernel
theorem dX4_hash_14 : decode cX4_hash 14 = .ok (.invokevirtual 82, 3) := by decide +kernel
theorem dX4_hash_17 : decode cX4_hash 17 = .ok (.ireturn, 1) := by decide +kernel
theorem dX4_hash_18 : decode cX4_hash 18 = .ok (.aload_n 2, 1) := by decide +kernel
theorem dX4_hash_19 : decode cX4_hash 19 = .ok (.getfield 46, 3) := by decide +kernel
theorem dX4_hash_22 : decode cX4_hash 22 = .ok (.bipush 107, 2) := by decide +kernel
theorem dX4_hash_24 : decode cX4_hash 24 = .ok (.if_icmp .ne 8, 3) := by decide +kernel
theorem dX4_hash_27 : decode cX4_hash 27 = .ok (.aload_n 2, 1) := by decide +kernel
theorem dX4_hash_28 : decode cX4_hash 28 = .ok (.invokevirtual 122, 3) := by decide +kernel
theorem dX4_hash_31 : decode cX4_hash 31 = .ok (.ireturn, 1) := by decide +kernel
theorem dX4_hash_32 : decode cX4_hash 32 = .ok (.aload_n 2, 1) := by decide +kernel
theorem dX4_hash_33 : decode cX4_hash 33 = .ok (.invokevirtual 116, 3) := by decide +kernel
theorem dX4_hash_36 : decode cX4_hash 36 = .ok (.ifCond .eq 8, 3) := by decide +kernel
theorem dX4_hash_39 : decode cX4_hash 39 = .ok (.aload_n 2, 1) := by decide +kernel
theorem dX4_hash_40 : decode cX4_hash 40 = .ok (.invokevirtual 125, 3) := by decide +kernel
theorem dX4_hash_43 : decode cX4_hash 43 = .ok (.ireturn, 1) := by decide +kernel
theorem dX4_hash_44 : decode cX4_hash 44 = .ok (.new 50, 3) := by decide +kernel
theorem dX4_hash_47 : decode cX4_hash 47 = .ok (.dup, 1) := by decide +kernel
theorem dX4_hash_48 : decode cX4_hash 48 = .ok (.invokespecial 52, 3) := by decide +kernel
theorem dX4_hash_51 : decode cX4_hash 51 = .ok (.athrow, 1) := by decide +kernel
theorem dX4_keyAt_0 : decode cX4_keyAt 0 = .ok (.aload_n 0, 1) := by decide +kernel
theorem dX4_keyAt_1 : decode cX4_keyAt 1 = .ok (.iload_n 1, 1) := by decide +kernel
theorem dX4_keyAt_2 : decode cX4_keyAt 2 = .ok (.invokevirtual 128, 3) := by decide +kernel
theorem dX4_keyAt_5 : decode cX4_keyAt 5 = .ok (.astore_n 3, 1) := by decide +kernel
theorem dX4_keyAt_6 : decode cX4_keyAt 6 = .ok (.aload_n 3, 1) := by decide +kernel
theorem dX4_keyAt_7 : decode cX4_keyAt 7 = .ok (.iload_n 2, 1) := by decide +kernel
theorem dX4_keyAt_8 : decode cX4_keyAt 8 = .ok (.invokestatic 131, 3) := by decide +kernel
theorem dX4_keyAt_11 : decode cX4_keyAt 11 = .ok (.aload_n 3, 1) := by decide +kernel
theorem dX4_keyAt_12 : decode cX4_keyAt 12 = .ok (.iload_n 2, 1) := by decide +kernel
theorem dX4_keyAt_13 : decode cX4_keyAt 13 = .ok (.invokevirtual 135, 3) := by decide +kernel
theorem dX4_keyAt_16 : decode cX4_keyAt 16 = .ok (.ireturn, 1) := by decide +kernel
theorem dX4_markAt_0 : decode cX4_markAt 0 = .ok (.aload_n 0, 1) := by decide +kernel
theorem dX4_markAt_1 : decode cX4_markAt 1 = .ok (.iload_n 1, 1) := by decide +kernel
theorem dX4_markAt_2 : decode cX4_markAt 2 = .ok (.invokevirtual 128, 3) := by decide +kernel
theorem dX4_markAt_5 : decode cX4_markAt 5 = .ok (.astore_n 3, 1) := by decide +kernel
theorem dX4_markAt_6 : decode cX4_markAt 6 = .ok (.aload_n 3, 1) := by decide +kernel
theorem dX4_markAt_7 : decode cX4_markAt 7 = .ok (.iload_n 2, 1) := by decide +kernel
theorem dX4_markAt_8 : decode cX4_markAt 8 = .ok (.invokestatic 131, 3) := by decide +kernel
theorem dX4_markAt_11 : decode cX4_markAt 11 = .ok (.aload_n 3, 1) := by decide +kernel
theorem dX4_markAt_12 : decode cX4_markAt 12 = .ok (.iload_n 2, 1) := by decide +kernel
theorem dX4_markAt_13 : decode cX4_markAt 13 = .ok (.invokevirtual 139, 3) := by decide +kernel
theorem dX4_markAt_16 : decode cX4_markAt 16 = .ok (.ireturn, 1) := by decide +kernel
theorem dX4_placeOf_0 : decode cX4_placeOf 0 = .ok (.aload_n 0, 1) := by decide +kernel
theorem dX4_placeOf_1 : decode cX4_placeOf 1 = .ok (.iload_n 1, 1) := by decide +kernel
theorem dX4_placeOf_2 : decode cX4_placeOf 2 = .ok (.invokevirtual 128, 3) := by decide +kernel
theorem dX4_placeOf_5 : decode cX4_placeOf 5 = .ok (.iload_n 2, 1) := by decide +kernel
theorem dX4_placeOf_6 : decode cX4_placeOf 6 = .ok (.iload_n 3, 1) := by decide +kernel
theorem dX4_placeOf_7 : decode cX4_placeOf 7 = .ok (.iload 4, 2) := by decide +kernel
theorem dX4_placeOf_9 : decode cX4_placeOf 9 = .ok (.invokevirtual 142, 3) := by decide +kernel
theorem dX4_placeOf_12 : decode cX4_placeOf 12 = .ok (.ireturn, 1) := by decide +kernel
theorem dX4_put_0 : decode cX4_put 0 = .ok (.aload_n 0, 1) := by decide +kernel
theorem dX4_put_1 : decode cX4_put 1 = .ok (.iload_n 1, 1) := by decide +kernel
theorem dX4_put_2 : decode cX4_put 2 = .ok (.invokevirtual 128, 3) := by decide +kernel
theorem dX4_put_5 : decode cX4_put 5 = .ok (.astore 5, 2) := by decide +kernel
theorem dX4_put_7 : decode cX4_put 7 = .ok (.aload 5, 2) := by decide +kernel
theorem dX4_put_9 : decode cX4_put 9 = .ok (.invokestatic 146, 3) := by decide +kernel
theorem dX4_put_12 : decode cX4_put 12 = .ok (.astore 6, 2) := by decide +kernel
theorem dX4_put_14 : decode cX4_put 14 = .ok (.aload 5, 2) := by decide +kernel
theorem dX4_put_16 : decode cX4_put 16 = .ok (.iload_n 2, 1) := by decide +kernel
theorem dX4_put_17 : decode cX4_put 17 = .ok (.invokestatic 150, 3) := by decide +kernel
theorem dX4_put_20 : decode cX4_put 20 = .ok (.iload_n 3, 1) := by decide +kernel
theorem dX4_put_21 : decode cX4_put 21 = .ok (.iload 4, 2) := by decide +kernel
theorem dX4_put_23 : decode cX4_put 23 = .ok (.invokestatic 75, 3) := by decide +kernel
theorem dX4_put_26 : decode cX4_put 26 = .ok (.aload 6, 2) := by decide +kernel
theorem dX4_put_28 : decode cX4_put 28 = .ok (.iconst 1, 1) := by decide +kernel
theorem dX4_put_29 : decode cX4_put 29 = .ok (.invokestatic 153, 3) := by decide +kernel
theorem dX4_put_32 : decode cX4_put 32 = .ok (.aload 6, 2) := by decide +kernel
theorem dX4_put_34 : decode cX4_put 34 = .ok (.aload 5, 2) := by decide +kernel
theorem dX4_put_36 : decode cX4_put 36 = .ok (.invokevirtual 66, 3) := by decide +kernel
theorem dX4_put_39 : decode cX4_put 39 = .ok (.iload_n 2, 1) := by decide +kernel
theorem dX4_put_40 : decode cX4_put 40 = .ok (.iadd, 1) := by decide +kernel
theorem dX4_put_41 : decode cX4_put 41 = .ok (.iconst 0, 1) := by decide +kernel
theorem dX4_put_42 : decode cX4_put 42 = .ok (.iload_n 3, 1) := by decide +kernel
theorem dX4_put_43 : decode cX4_put 43 = .ok (.iload 4, 2) := by decide +kernel
theorem dX4_put_45 : decode cX4_put 45 = .ok (.invokevirtual 157, 3) := by decide +kernel
theorem dX4_put_48 : decode cX4_put 48 = .ok (.aload_n 0, 1) := by decide +kernel
theorem dX4_put_49 : decode cX4_put 49 = .ok (.aload 5, 2) := by decide +kernel
theorem dX4_put_51 : decode cX4_put 51 = .ok (.iconst 1, 1) := by decide +kernel
theorem dX4_put_52 : decode cX4_put 52 = .ok (.invokevirtual 161, 3) := by decide +kernel
theorem dX4_put_55 : decode cX4_put 55 = .ok (.aload 5, 2) := by decide +kernel
theorem dX4_put_57 : decode cX4_put 57 = .ok (.invokevirtual 53, 3) := by decide +kernel
theorem dX4_put_60 : decode cX4_put 60 = .ok (.ireturn, 1) := by decide +kernel
theorem dX4_set_0 : decode cX4_set 0 = .ok (.aload_n 0, 1) := by decide +kernel
theorem dX4_set_1 : decode cX4_set 1 = .ok (.iload_n 1, 1) := by decide +kernel
theorem dX4_set_2 : decode cX4_set 2 = .ok (.invokevirtual 128, 3) := by decide +kernel
theorem dX4_set_5 : decode cX4_set 5 = .ok (.astore 5, 2) := by decide +kernel
theorem dX4_set_7 : decode cX4_set 7 = .ok (.aload 5, 2) := by decide +kernel
theorem dX4_set_9 : decode cX4_set 9 = .ok (.invokestatic 146, 3) := by decide +kernel
theorem dX4_set_12 : decode cX4_set 12 = .ok (.astore 6, 2) := by decide +kernel
theorem dX4_set_14 : decode cX4_set 14 = .ok (.aload 5, 2) := by decide +kernel
theorem dX4_set_16 : decode cX4_set 16 = .ok (.iload_n 2, 1) := by decide +kernel
theorem dX4_set_17 : decode cX4_set 17 = .ok (.invokestatic 131, 3) := by decide +kernel
theorem dX4_set_20 : decode cX4_set 20 = .ok (.iload_n 3, 1) := by decide +kernel
theorem dX4_set_21 : decode cX4_set 21 = .ok (.iload 4, 2) := by decide +kernel
theorem dX4_set_23 : decode cX4_set 23 = .ok (.invokestatic 75, 3) := by decide +kernel
theorem dX4_set_26 : decode cX4_set 26 = .ok (.aload 5, 2) := by decide +kernel
theorem dX4_set_28 : decode cX4_set 28 = .ok (.iload_n 2, 1) := by decide +kernel
theorem dX4_set_29 : decode cX4_set 29 = .ok (.invokevirtual 164, 3) := by decide +kernel
theorem dX4_set_32 : decode cX4_set 32 = .ok (.istore 7, 2) := by decide +kernel
theorem dX4_set_34 : decode cX4_set 34 = .ok (.aload 6, 2) := by decide +kernel
theorem dX4_set_36 : decode cX4_set 36 = .ok (.aload 5, 2) := by decide +kernel
theorem dX4_set_38 : decode cX4_set 38 = .ok (.invokevirtual 66, 3) := by decide +kernel
theorem dX4_set_41 : decode cX4_set 41 = .ok (.iload_n 2, 1) := by decide +kernel
theorem dX4_set_42 : decode cX4_set 42 = .ok (.iadd, 1) := by decide +kernel
theorem dX4_set_43 : decode cX4_set 43 = .ok (.iload_n 3, 1) := by decide +kernel
theorem dX4_set_44 : decode cX4_set 44 = .ok (.iload 4, 2) := by decide +kernel
theorem dX4_set_46 : decode cX4_set 46 = .ok (.invokevirtual 167, 3) := by decide +kernel
theorem dX4_set_49 : decode cX4_set 49 = .ok (.iload 7, 2) := by decide +kernel
theorem dX4_set_51 : decode cX4_set 51 = .ok (.ireturn, 1) := by decide +kernel
theorem dX4_take_0 : decode cX4_take 0 = .ok (.aload_n 0, 1) := by decide +kernel
theorem dX4_take_1 : decode cX4_take 1 = .ok (.iload_n 1, 1) := by decide +kernel
theorem dX4_take_2 : decode cX4_take 2 = .ok (.invokevirtual 128, 3) := by decide +kernel
theorem dX4_take_5 : decode cX4_take 5 = .ok (.astore_n 3, 1) := by decide +kernel
theorem dX4_take_6 : decode cX4_take 6 = .ok (.aload_n 3, 1) := by decide +kernel
theorem dX4_take_7 : decode cX4_take 7 = .ok (.invokestatic 146, 3) := by decide +kernel
theorem dX4_take_10 : decode cX4_take 10 = .ok (.astore 4, 2) := by decide +kernel
theorem dX4_take_12 : decode cX4_take 12 = .ok (.aload_n 3, 1) := by decide +kernel
theorem dX4_take_13 : decode cX4_take 13 = .ok (.iload_n 2, 1) := by decide +kernel
theorem dX4_take_14 : decode cX4_take 14 = .ok (.invokestatic 131, 3) := by decide +kernel
theorem dX4_take_17 : decode cX4_take 17 = .ok (.aload_n 3, 1) := by decide +kernel
theorem dX4_take_18 : decode cX4_take 18 = .ok (.iload_n 2, 1) := by decide +kernel
theorem dX4_take_19 : decode cX4_take 19 = .ok (.invokevirtual 164, 3) := by decide +kernel
theorem dX4_take_22 : decode cX4_take 22 = .ok (.istore 5, 2) := by decide +kernel
theorem dX4_take_24 : decode cX4_take 24 = .ok (.aload 4, 2) := by decide +kernel
theorem dX4_take_26 : decode cX4_take 26 = .ok (.aload_n 3, 1) := by decide +kernel
theorem dX4_take_27 : decode cX4_take 27 = .ok (.invokevirtual 66, 3) := by decide +kernel
theorem dX4_take_30 : decode cX4_take 30 = .ok (.iload_n 2, 1) := by decide +kernel
theorem dX4_take_31 : decode cX4_take 31 = .ok (.iadd, 1) := by decide +kernel
theorem dX4_take_32 : decode cX4_take 32 = .ok (.invokevirtual 171, 3) := by decide +kernel
theorem dX4_take_35 : decode cX4_take 35 = .ok (.aload_n 0, 1) := by decide +kernel
theorem dX4_take_36 : decode cX4_take 36 = .ok (.aload_n 3, 1) := by decide +kernel
theorem dX4_take_37 : decode cX4_take 37 = .ok (.iconst (-1), 1) := by decide +kernel
theorem dX4_take_38 : decode cX4_take 38 = .ok (.invokevirtual 161, 3) := by decide +kernel
theorem dX4_take_41 : decode cX4_take 41 = .ok (.iload 5, 2) := by decide +kernel
theorem dX4_take_43 : decode cX4_take 43 = .ok (.ireturn, 1) := by decide +kernel
theorem dX4_drop_0 : decode cX4_drop 0 = .ok (.aload_n 0, 1) := by decide +kernel
theorem dX4_drop_1 : decode cX4_drop 1 = .ok (.iload_n 1, 1) := by decide +kernel
theorem dX4_drop_2 : decode cX4_drop 2 = .ok (.invokevirtual 174, 3) := by decide +kernel
theorem dX4_drop_5 : decode cX4_drop 5 = .ok (.astore 4, 2) := by decide +kernel
theorem dX4_drop_7 : decode cX4_drop 7 = .ok (.aload 4, 2) := by decide +kernel
theorem dX4_drop_9 : decode cX4_drop 9 = .ok (.invokestatic 146, 3) := by decide +kernel
theorem dX4_drop_12 : decode cX4_drop 12 = .ok (.astore 5, 2) := by decide +kernel
theorem dX4_drop_14 : decode cX4_drop 14 = .ok (.aload 4, 2) := by decide +kernel
theorem dX4_drop_16 : decode cX4_drop 16 = .ok (.getfield 46, 3) := by decide +kernel
theorem dX4_drop_19 : decode cX4_drop 19 = .ok (.bipush 118, 2) := by decide +kernel
theorem dX4_drop_21 : decode cX4_drop 21 = .ok (.if_icmp .ne 19, 3) := by decide +kernel
theorem dX4_drop_24 : decode cX4_drop 24 = .ok (.aload 4, 2) := by decide +kernel
theorem dX4_drop_26 : decode cX4_drop 26 = .ok (.invokevirtual 177, 3) := by decide +kernel
theorem dX4_drop_29 : decode cX4_drop 29 = .ok (.ifCond .eq 11, 3) := by decide +kernel
theorem dX4_drop_32 : decode cX4_drop 32 = .ok (.new 180, 3) := by decide +kernel
theorem dX4_drop_35 : decode cX4_drop 35 = .ok (.dup, 1) := by decide +kernel
theorem dX4_drop_36 : decode cX4_drop 36 = .ok (.invokespecial 182, 3) := by decide +kernel
theorem dX4_drop_39 : decode cX4_drop 39 = .ok (.athrow, 1) := by decide +kernel
theorem dX4_drop_40 : decode cX4_drop 40 = .ok (.aload 4, 2) := by decide +kernel
theorem dX4_drop_42 : decode cX4_drop 42 = .ok (.iload_n 2, 1) := by decide +kernel
theorem dX4_drop_43 : decode cX4_drop 43 = .ok (.iload_n 3, 1) := by decide +kernel
theorem dX4_drop_44 : decode cX4_drop 44 = .ok (.iconst 0, 1) := by decide +kernel
theorem dX4_drop_45 : decode cX4_drop 45 = .ok (.invokevirtual 142, 3) := by decide +kernel
theorem dX4_drop_48 : decode cX4_drop 48 = .ok (.istore 6, 2) := by decide +kernel
theorem dX4_drop_50 : decode cX4_drop 50 = .ok (.iload 6, 2) := by decide +kernel
theorem dX4_drop_52 : decode cX4_drop 52 = .ok (.ifCond .ge 5, 3) := by decide +kernel
theorem dX4_drop_55 : decode cX4_drop 55 = .ok (.iconst 0, 1) := by decide +kernel
theorem dX4_drop_56 : decode cX4_drop 56 = .ok (.ireturn, 1) := by decide +kernel
theorem dX4_drop_57 : decode cX4_drop 57 = .ok (.aload 5, 2) := by decide +kernel
theorem dX4_drop_59 : decode cX4_drop 59 = .ok (.aload 4, 2) := by decide +kernel
theorem dX4_drop_61 : decode cX4_drop 61 = .ok (.invokevirtual 66, 3) := by decide +kernel
theorem dX4_drop_64 : decode cX4_drop 64 = .ok (.iload 6, 2) := by decide +kernel
theorem dX4_drop_66 : decode cX4_drop 66 = .ok (.iadd, 1) := by decide +kernel
theorem dX4_drop_67 : decode cX4_drop 67 = .ok (.invokevirtual 171, 3) := by decide +kernel
theorem dX4_drop_70 : decode cX4_drop 70 = .ok (.aload_n 0, 1) := by decide +kernel
theorem dX4_drop_71 : decode cX4_drop 71 = .ok (.aload 4, 2) := by decide +kernel
theorem dX4_drop_73 : decode cX4_drop 73 = .ok (.iconst (-1), 1) := by decide +kernel
theorem dX4_drop_74 : decode cX4_drop 74 = .ok (.invokevirtual 161, 3) := by decide +kernel
theorem dX4_drop_77 : decode cX4_drop 77 = .ok (.iconst 1, 1) := by decide +kernel
theorem dX4_drop_78 : decode cX4_drop 78 = .ok (.ireturn, 1) := by decide +kernel
theorem dX4_wipe_0 : decode cX4_wipe 0 = .ok (.aload_n 0, 1) := by decide +kernel
theorem dX4_wipe_1 : decode cX4_wipe 1 = .ok (.iload_n 1, 1) := by decide +kernel
theorem dX4_wipe_2 : decode cX4_wipe 2 = .ok (.invokevirtual 96, 3) := by decide +kernel
theorem dX4_wipe_5 : decode cX4_wipe 5 = .ok (.astore_n 2, 1) := by decide +kernel
theorem dX4_wipe_6 : decode cX4_wipe 6 = .ok (.aload_n 2, 1) := by decide +kernel
theorem dX4_wipe_7 : decode cX4_wipe 7 = .ok (.invokestatic 146, 3) := by decide +kernel
theorem dX4_wipe_10 : decode cX4_wipe 10 = .ok (.astore_n 3, 1) := by decide +kernel
theorem dX4_wipe_11 : decode cX4_wipe 11 = .ok (.iconst 0, 1) := by decide +kernel
theorem dX4_wipe_12 : decode cX4_wipe 12 = .ok (.istore 4, 2) := by decide +kernel
theorem dX4_wipe_14 : decode cX4_wipe 14 = .ok (.iload 4, 2) := by decide +kernel
theorem dX4_wipe_16 : decode cX4_wipe 16 = .ok (.aload_n 2, 1) := by decide +kernel
theorem dX4_wipe_17 : decode cX4_wipe 17 = .ok (.invokevirtual 53, 3) := by decide +kernel
theorem dX4_wipe_20 : decode cX4_wipe 20 = .ok (.if_icmp .ge 16, 3) := by decide +kernel
theorem dX4_wipe_23 : decode cX4_wipe 23 = .ok (.aload_n 0, 1) := by decide +kernel
theorem dX4_wipe_24 : decode cX4_wipe 24 = .ok (.iload 4, 2) := by decide +kernel
theorem dX4_wipe_26 : decode cX4_wipe 26 = .ok (.iconst 1, 1) := by decide +kernel
theorem dX4_wipe_27 : decode cX4_wipe 27 = .ok (.invokevirtual 183, 3) := by decide +kernel
theorem dX4_wipe_30 : decode cX4_wipe 30 = .ok (.iinc 4 1, 3) := by decide +kernel
theorem dX4_wipe_33 : decode cX4_wipe 33 = .ok (.goto (-19), 3) := by decide +kernel
theorem dX4_wipe_36 : decode cX4_wipe 36 = .ok (.aload_n 0, 1) := by decide +kernel
theorem dX4_wipe_37 : decode cX4_wipe 37 = .ok (.aload_n 2, 1) := by decide +kernel
theorem dX4_wipe_38 : decode cX4_wipe 38 = .ok (.aload_n 3, 1) := by decide +kernel
theorem dX4_wipe_39 : decode cX4_wipe 39 = .ok (.invokevirtual 187, 3) := by decide +kernel
theorem dX4_wipe_42 : decode cX4_wipe 42 = .ok (.ireturn, 1) := by decide +kernel
theorem dX4_putAll_0 : decode cX4_putAll 0 = .ok (.iload_n 1, 1) := by decide +kernel
theorem dX4_putAll_1 : decode cX4_putAll 1 = .ok (.iload_n 3, 1) := by decide +kernel
theorem dX4_putAll_2 : decode cX4_putAll 2 = .ok (.invokestatic 191, 3) := by decide +kernel
theorem dX4_putAll_5 : decode cX4_putAll 5 = .ok (.aload_n 0, 1) := by decide +kernel
theorem dX4_putAll_6 : decode cX4_putAll 6 = .ok (.iload_n 1, 1) := by decide +kernel
theorem dX4_putAll_7 : decode cX4_putAll 7 = .ok (.invokevirtual 128, 3) := by decide +kernel
theorem dX4_putAll_10 : decode cX4_putAll 10 = .ok (.astore 4, 2) := by decide +kernel
theorem dX4_putAll_12 : decode cX4_putAll 12 = .ok (.aload_n 0, 1) := by decide +kernel
theorem dX4_putAll_13 : decode cX4_putAll 13 = .ok (.iload_n 3, 1) := by decide +kernel
theorem dX4_putAll_14 : decode cX4_putAll 14 = .ok (.invokevirtual 174, 3) := by decide +kernel
theorem dX4_putAll_17 : decode cX4_putAll 17 = .ok (.astore 5, 2) := by decide +kernel
theorem dX4_putAll_19 : decode cX4_putAll 19 = .ok (.aload 4, 2) := by decide +kernel
theorem dX4_putAll_21 : decode cX4_putAll 21 = .ok (.invokestatic 146, 3) := by decide +kernel
theorem dX4_putAll_24 : decode cX4_putAll 24 = .ok (.astore 6, 2) := by decide +kernel
theorem dX4_putAll_26 : decode cX4_putAll 26 = .ok (.aload 4, 2) := by decide +kernel
theorem dX4_putAll_28 : decode cX4_putAll 28 = .ok (.iload_n 2, 1) := by decide +kernel
theorem dX4_putAll_29 : decode cX4_putAll 29 = .ok (.invokestatic 150, 3) := by decide +kernel
theorem dX4_putAll_32 : decode cX4_putAll 32 = .ok (.aload 6, 2) := by decide +kernel
theorem dX4_putAll_34 : decode cX4_putAll 34 = .ok (.aload 5, 2) := by decide +kernel
theorem dX4_putAll_36 : decode cX4_putAll 36 = .ok (.invokevirtual 53, 3) := by decide +kernel
theorem dX4_putAll_39 : decode cX4_putAll 39 = .ok (.invokestatic 153, 3) := by decide +kernel
theorem dX4_putAll_42 : decode cX4_putAll 42 = .ok (.aload_n 0, 1) := by decide +kernel
theorem dX4_putAll_43 : decode cX4_putAll 43 = .ok (.getfield 23, 3) := by decide +kernel
theorem dX4_putAll_46 : decode cX4_putAll 46 = .ok (.aload 5, 2) := by decide +kernel
theorem dX4_putAll_48 : decode cX4_putAll 48 = .ok (.invokevirtual 194, 3) := by decide +kernel
theorem dX4_putAll_51 : decode cX4_putAll 51 = .ok (.iconst 0, 1) := by decide +kernel
theorem dX4_putAll_52 : decode cX4_putAll 52 = .ok (.istore 7, 2) := by decide +kernel
theorem dX4_putAll_54 : decode cX4_putAll 54 = .ok (.iload 7, 2) := by decide +kernel
theorem dX4_putAll_56 : decode cX4_putAll 56 = .ok (.aload_n 0, 1) := by decide +kernel
theorem dX4_putAll_57 : decode cX4_putAll 57 = .ok (.getfield 23, 3) := by decide +kernel
theorem dX4_putAll_60 : decode cX4_putAll 60 = .ok (.getfield 198, 3) := by decide +kernel
theorem dX4_putAll_63 : decode cX4_putAll 63 = .ok (.if_icmp .ge 43, 3) := by decide +kernel
theorem dX4_putAll_66 : decode cX4_putAll 66 = .ok (.aload 6, 2) := by decide +kernel
theorem dX4_putAll_68 : decode cX4_putAll 68 = .ok (.aload 4, 2) := by decide +kernel
theorem dX4_putAll_70 : decode cX4_putAll 70 = .ok (.invokevirtual 66, 3) := by decide +kernel
theorem dX4_putAll_73 : decode cX4_putAll 73 = .ok (.iload_n 2, 1) := by decide +kernel
theorem dX4_putAll_74 : decode cX4_putAll 74 = .ok (.iadd, 1) := by decide +kernel
theorem dX4_putAll_75 : decode cX4_putAll 75 = .ok (.iload 7, 2) := by decide +kernel
theorem dX4_putAll_77 : decode cX4_putAll 77 = .ok (.iadd, 1) := by decide +kernel
theorem dX4_putAll_78 : decode cX4_putAll 78 = .ok (.iconst 0, 1) := by decide +kernel
theorem dX4_putAll_79 : decode cX4_putAll 79 = .ok (.aload_n 0, 1) := by decide +kernel
theorem dX4_putAll_80 : decode cX4_putAll 80 = .ok (.getfield 23, 3) := by decide +kernel
theorem dX4_putAll_83 : decode cX4_putAll 83 = .ok (.iload 7, 2) := by decide +kernel
theorem dX4_putAll_85 : decode cX4_putAll 85 = .ok (.invokevirtual 201, 3) := by decide +kernel
theorem dX4_putAll_88 : decode cX4_putAll 88 = .ok (.aload_n 0, 1) := by decide +kernel
theorem dX4_putAll_89 : decode cX4_putAll 89 = .ok (.getfield 23, 3) := by decide +kernel
theorem dX4_putAll_92 : decode cX4_putAll 92 = .ok (.iload 7, 2) := by decide +kernel
theorem dX4_putAll_94 : decode cX4_putAll 94 = .ok (.invokevirtual 204, 3) := by decide +kernel
theorem dX4_putAll_97 : decode cX4_putAll 97 = .ok (.invokevirtual 157, 3) := by decide +kernel
theorem dX4_putAll_100 : decode cX4_putAll 100 = .ok (.iinc 7 1, 3) := by decide +kernel
theorem dX4_putAll_103 : decode cX4_putAll 103 = .ok (.goto (-49), 3) := by decide +kernel
theorem dX4_putAll_106 : decode cX4_putAll 106 = .ok (.aload_n 0, 1) := by decide +kernel
theorem dX4_putAll_107 : decode cX4_putAll 107 = .ok (.aload 4, 2) := by decide +kernel
theorem dX4_putAll_109 : decode cX4_putAll 109 = .ok (.aload_n 0, 1) := by decide +kernel
theorem dX4_putAll_110 : decode cX4_putAll 110 = .ok (.getfield 23, 3) := by decide +kernel
theorem dX4_putAll_113 : decode cX4_putAll 113 = .ok (.getfield 198, 3) := by decide +kernel
theorem dX4_putAll_116 : decode cX4_putAll 116 = .ok (.invokevirtual 161, 3) := by decide +kernel
theorem dX4_putAll_119 : decode cX4_putAll 119 = .ok (.aload 4, 2) := by decide +kernel
theorem dX4_putAll_121 : decode cX4_putAll 121 = .ok (.invokevirtual 53, 3) := by decide +kernel
theorem dX4_putAll_124 : decode cX4_putAll 124 = .ok (.ireturn, 1) := by decide +kernel
theorem dX4_keep_0 : decode cX4_keep 0 = .ok (.iload_n 1, 1) := by decide +kernel
theorem dX4_keep_1 : decode cX4_keep 1 = .ok (.iload_n 2, 1) := by decide +kernel
theorem dX4_keep_2 : decode cX4_keep 2 = .ok (.invokestatic 191, 3) := by decide +kernel
theorem dX4_keep_5 : decode cX4_keep 5 = .ok (.aload_n 0, 1) := by decide +kernel
theorem dX4_keep_6 : decode cX4_keep 6 = .ok (.iload_n 1, 1) := by decide +kernel
theorem dX4_keep_7 : decode cX4_keep 7 = .ok (.invokevirtual 174, 3) := by decide +kernel
theorem dX4_keep_10 : decode cX4_keep 10 = .ok (.astore 4, 2) := by decide +kernel
theorem dX4_keep_12 : decode cX4_keep 12 = .ok (.aload_n 0, 1) := by decide +kernel
theorem dX4_keep_13 : decode cX4_keep 13 = .ok (.iload_n 2, 1) := by decide +kernel
theorem dX4_keep_14 : decode cX4_keep 14 = .ok (.invokevirtual 174, 3) := by decide +kernel
theorem dX4_keep_17 : decode cX4_keep 17 = .ok (.astore 5, 2) := by decide +kernel
theorem dX4_keep_19 : decode cX4_keep 19 = .ok (.aload 4, 2) := by decide +kernel
theorem dX4_keep_21 : decode cX4_keep 21 = .ok (.invokestatic 146, 3) := by decide +kernel
theorem dX4_keep_24 : decode cX4_keep 24 = .ok (.astore 6, 2) := by decide +kernel
theorem dX4_keep_26 : decode cX4_keep 26 = .ok (.iconst 0, 1) := by decide +kernel
theorem dX4_keep_27 : decode cX4_keep 27 = .ok (.istore 7, 2) := by decide +kernel
theorem dX4_keep_29 : decode cX4_keep 29 = .ok (.iload 7, 2) := by decide +kernel
theorem dX4_keep_31 : decode cX4_keep 31 = .ok (.aload 4, 2) := by decide +kernel
theorem dX4_keep_33 : decode cX4_keep 33 = .ok (.invokevirtual 53, 3) := by decide +kernel
theorem dX4_keep_36 : decode cX4_keep 36 = .ok (.if_icmp .ge 56, 3) := by decide +kernel
theorem dX4_keep_39 : decode cX4_keep 39 = .ok (.aload 5, 2) := by decide +kernel
theorem dX4_keep_41 : decode cX4_keep 41 = .ok (.aload 4, 2) := by decide +kernel
theorem dX4_keep_43 : decode cX4_keep 43 = .ok (.iload 7, 2) := by decide +kernel
theorem dX4_keep_45 : decode cX4_keep 45 = .ok (.invokevirtual 135, 3) := by decide +kernel
theorem dX4_keep_48 : decode cX4_keep 48 = .ok (.aload 4, 2) := by decide +kernel
theorem dX4_keep_50 : decode cX4_keep 50 = .ok (.iload 7, 2) := by decide +kernel
theorem dX4_keep_52 : decode cX4_keep 52 = .ok (.invokevirtual 139, 3) := by decide +kernel
theorem dX4_keep_55 : decode cX4_keep 55 = .ok (.iconst 0, 1) := by decide +kernel
theorem dX4_keep_56 : decode cX4_keep 56 = .ok (.invokevirtual 142, 3) := by decide +kernel
theorem dX4_keep_59 : decode cX4_keep 59 = .ok (.ifCond .lt 7, 3) := by decide +kernel
theorem dX4_keep_62 : decode cX4_keep 62 = .ok (.iconst 1, 1) := by decide +kernel
theorem dX4_keep_63 : decode cX4_keep 63 = .ok (.goto 4, 3) := by decide +kernel
theorem dX4_keep_66 : decode cX4_keep 66 = .ok (.iconst 0, 1) := by decide +kernel
theorem dX4_keep_67 : decode cX4_keep 67 = .ok (.istore 8, 2) := by decide +kernel
theorem dX4_keep_69 : decode cX4_keep 69 = .ok (.aload_n 0, 1) := by decide +kernel
theorem dX4_keep_70 : decode cX4_keep 70 = .ok (.iload 7, 2) := by decide +kernel
theorem dX4_keep_72 : decode cX4_keep 72 = .ok (.iload 8, 2) := by decide +kernel
theorem dX4_keep_74 : decode cX4_keep 74 = .ok (.iload_n 3, 1) := by decide +kernel
theorem dX4_keep_75 : decode cX4_keep 75 = .ok (.if_icmp .eq 7, 3) := by decide +kernel
theorem dX4_keep_78 : decode cX4_keep 78 = .ok (.iconst 1, 1) := by decide +kernel
theorem dX4_keep_79 : decode cX4_keep 79 = .ok (.goto 4, 3) := by decide +kernel
theorem dX4_keep_82 : decode cX4_keep 82 = .ok (.iconst 0, 1) := by decide +kernel
theorem dX4_keep_83 : decode cX4_keep 83 = .ok (.invokevirtual 183, 3) := by decide +kernel
theorem dX4_keep_86 : decode cX4_keep 86 = .ok (.iinc 7 1, 3) := by decide +kernel
theorem dX4_keep_89 : decode cX4_keep 89 = .ok (.goto (-60), 3) := by decide +kernel
theorem dX4_keep_92 : decode cX4_keep 92 = .ok (.aload_n 0, 1) := by decide +kernel
theorem dX4_keep_93 : decode cX4_keep 93 = .ok (.aload 4, 2) := by decide +kernel
theorem dX4_keep_95 : decode cX4_keep 95 = .ok (.aload 6, 2) := by decide +kernel
theorem dX4_keep_97 : decode cX4_keep 97 = .ok (.invokevirtual 187, 3) := by decide +kernel
theorem dX4_keep_100 : decode cX4_keep 100 = .ok (.ireturn, 1) := by decide +kernel
theorem dX4_strip_0 : decode cX4_strip 0 = .ok (.aload_n 0, 1) := by decide +kernel
theorem dX4_strip_1 : decode cX4_strip 1 = .ok (.iload_n 1, 1) := by decide +kernel
theorem dX4_strip_2 : decode cX4_strip 2 = .ok (.invokevirtual 42, 3) := by decide +kernel
theorem dX4_strip_5 : decode cX4_strip 5 = .ok (.astore_n 3, 1) := by decide +kernel
theorem dX4_strip_6 : decode cX4_strip 6 = .ok (.aload_n 3, 1) := by decide +kernel
theorem dX4_strip_7 : decode cX4_strip 7 = .ok (.ifnull 19, 3) := by decide +kernel
theorem dX4_strip_10 : decode cX4_strip 10 = .ok (.aload_n 3, 1) := by decide +kernel
theorem dX4_strip_11 : decode cX4_strip 11 = .ok (.invokevirtual 207, 3) := by decide +kernel
theorem dX4_strip_14 : decode cX4_strip 14 = .ok (.ifCond .ne 20, 3) := by decide +kernel
theorem dX4_strip_17 : decode cX4_strip 17 = .ok (.aload_n 3, 1) := by decide +kernel
theorem dX4_strip_18 : decode cX4_strip 18 = .ok (.getfield 46, 3) := by decide +kernel
theorem dX4_strip_21 : decode cX4_strip 21 = .ok (.bipush 107, 2) := by decide +kernel
theorem dX4_strip_23 : decode cX4_strip 23 = .ok (.if_icmp .eq 11, 3) := by decide +kernel
theorem dX4_strip_26 : decode cX4_strip 26 = .ok (.new 50, 3) := by decide +kernel
theorem dX4_strip_29 : decode cX4_strip 29 = .ok (.dup, 1) := by decide +kernel
theorem dX4_strip_30 : decode cX4_strip 30 = .ok (.invokespecial 52, 3) := by decide +kernel
theorem dX4_strip_33 : decode cX4_strip 33 = .ok (.athrow, 1) := by decide +kernel
theorem dX4_strip_34 : decode cX4_strip 34 = .ok (.aload_n 3, 1) := by decide +kernel
theorem dX4_strip_35 : decode cX4_strip 35 = .ok (.invokestatic 146, 3) := by decide +kernel
theorem dX4_strip_38 : decode cX4_strip 38 = .ok (.astore 4, 2) := by decide +kernel
theorem dX4_strip_40 : decode cX4_strip 40 = .ok (.iload_n 2, 1) := by decide +kernel
theorem dX4_strip_41 : decode cX4_strip 41 = .ok (.iconst 2, 1) := by decide +kernel
theorem dX4_strip_42 : decode cX4_strip 42 = .ok (.if_icmp .lt 9, 3) := by decide +kernel
theorem dX4_strip_45 : decode cX4_strip 45 = .ok (.iload_n 2, 1) := by decide +kernel
theorem dX4_strip_46 : decode cX4_strip 46 = .ok (.bipush 9, 2) := by decide +kernel
theorem dX4_strip_48 : decode cX4_strip 48 = .ok (.if_icmp .le 11, 3) := by decide +kernel
theorem dX4_strip_51 : decode cX4_strip 51 = .ok (.new 57, 3) := by decide +kernel
theorem dX4_strip_54 : decode cX4_strip 54 = .ok (.dup, 1) := by decide +kernel
theorem dX4_strip_55 : decode cX4_strip 55 = .ok (.invokespecial 59, 3) := by decide +kernel
theorem dX4_strip_58 : decode cX4_strip 58 = .ok (.athrow, 1) := by decide +kernel
theorem dX4_strip_59 : decode cX4_strip 59 = .ok (.iconst 0, 1) := by decide +kernel
theorem dX4_strip_60 : decode cX4_strip 60 = .ok (.istore 5, 2) := by decide +kernel
theorem dX4_strip_62 : decode cX4_strip 62 = .ok (.iload 5, 2) := by decide +kernel
theorem dX4_strip_64 : decode cX4_strip 64 = .ok (.aload_n 3, 1) := by decide +kernel
theorem dX4_strip_65 : decode cX4_strip 65 = .ok (.invokevirtual 53, 3) := by decide +kernel
theorem dX4_strip_68 : decode cX4_strip 68 = .ok (.if_icmp .ge 53, 3) := by decide +kernel
theorem dX4_strip_71 : decode cX4_strip 71 = .ok (.aload_n 3, 1) := by decide +kernel
theorem dX4_strip_72 : decode cX4_strip 72 = .ok (.getfield 46, 3) := by decide +kernel
theorem dX4_strip_75 : decode cX4_strip 75 = .ok (.bipush 107, 2) := by decide +kernel
theorem dX4_strip_77 : decode cX4_strip 77 = .ok (.if_icmp .ne 12, 3) := by decide +kernel
theorem dX4_strip_80 : decode cX4_strip 80 = .ok (.aload_n 3, 1) := by decide +kernel
theorem dX4_strip_81 : decode cX4_strip 81 = .ok (.iload 5, 2) := by decide +kernel
theorem dX4_strip_83 : decode cX4_strip 83 = .ok (.invokevirtual 210, 3) := by decide +kernel
theorem dX4_strip_86 : decode cX4_strip 86 = .ok (.goto 9, 3) := by decide +kernel
theorem dX4_strip_89 : decode cX4_strip 89 = .ok (.aload_n 3, 1) := by decide +kernel
theorem dX4_strip_90 : decode cX4_strip 90 = .ok (.iload 5, 2) := by decide +kernel
theorem dX4_strip_92 : decode cX4_strip 92 = .ok (.invokevirtual 135, 3) := by decide +kernel
theorem dX4_strip_95 : decode cX4_strip 95 = .ok (.istore 6, 2) := by decide +kernel
theorem dX4_strip_97 : decode cX4_strip 97 = .ok (.aload_n 0, 1) := by decide +kernel
theorem dX4_strip_98 : decode cX4_strip 98 = .ok (.iload 5, 2) := by decide +kernel
theorem dX4_strip_100 : decode cX4_strip 100 = .ok (.iload 6, 2) := by decide +kernel
theorem dX4_strip_102 : decode cX4_strip 102 = .ok (.iload_n 2, 1) := by decide +kernel
theorem dX4_strip_103 : decode cX4_strip 103 = .ok (.irem, 1) := by decide +kernel
theorem dX4_strip_104 : decode cX4_strip 104 = .ok (.ifCond .ne 7, 3) := by decide +kernel
theorem dX4_strip_107 : decode cX4_strip 107 = .ok (.iconst 1, 1) := by decide +kernel
theorem dX4_strip_108 : decode cX4_strip 108 = .ok (.goto 4, 3) := by decide +kernel
theorem dX4_strip_111 : decode cX4_strip 111 = .ok (.iconst 0, 1) := by decide +kernel
theorem dX4_strip_112 : decode cX4_strip 112 = .ok (.invokevirtual 183, 3) := by decide +kernel
theorem dX4_strip_115 : decode cX4_strip 115 = .ok (.iinc 5 1, 3) := by decide +kernel
theorem dX4_strip_118 : decode cX4_strip 118 = .ok (.goto (-56), 3) := by decide +kernel
theorem dX4_strip_121 : decode cX4_strip 121 = .ok (.aload_n 0, 1) := by decide +kernel
theorem dX4_strip_122 : decode cX4_strip 122 = .ok (.aload_n 3, 1) := by decide +kernel
theorem dX4_strip_123 : decode cX4_strip 123 = .ok (.aload 4, 2) := by decide +kernel
theorem dX4_strip_125 : decode cX4_strip 125 = .ok (.invokevirtual 187, 3) := by decide +kernel
theorem dX4_strip_128 : decode cX4_strip 128 = .ok (.ireturn, 1) := by decide +kernel
theorem dX4_weave_0 : decode cX4_weave 0 = .ok (.aload_n 0, 1) := by decide +kernel
theorem dX4_weave_1 : decode cX4_weave 1 = .ok (.iload_n 1, 1) := by decide +kernel
theorem dX4_weave_2 : decode cX4_weave 2 = .ok (.invokevirtual 128, 3) := by decide +kernel
theorem dX4_weave_5 : decode cX4_weave 5 = .ok (.astore 4, 2) := by decide +kernel
theorem dX4_weave_7 : decode cX4_weave 7 = .ok (.aload 4, 2) := by decide +kernel
theorem dX4_weave_9 : decode cX4_weave 9 = .ok (.invokestatic 146, 3) := by decide +kernel
theorem dX4_weave_12 : decode cX4_weave 12 = .ok (.astore 5, 2) := by decide +kernel
theorem dX4_weave_14 : decode cX4_weave 14 = .ok (.iload_n 2, 1) := by decide +kernel
theorem dX4_weave_15 : decode cX4_weave 15 = .ok (.iload_n 3, 1) := by decide +kernel
theorem dX4_weave_16 : decode cX4_weave 16 = .ok (.invokestatic 75, 3) := by decide +kernel
theorem dX4_weave_19 : decode cX4_weave 19 = .ok (.aload 4, 2) := by decide +kernel
theorem dX4_weave_21 : decode cX4_weave 21 = .ok (.iload_n 2, 1) := by decide +kernel
theorem dX4_weave_22 : decode cX4_weave 22 = .ok (.invokevirtual 213, 3) := by decide +kernel
theorem dX4_weave_25 : decode cX4_weave 25 = .ok (.istore 6, 2) := by decide +kernel
theorem dX4_weave_27 : decode cX4_weave 27 = .ok (.aload 5, 2) := by decide +kernel
theorem dX4_weave_29 : decode cX4_weave 29 = .ok (.iload 6, 2) := by decide +kernel
theorem dX4_weave_31 : decode cX4_weave 31 = .ok (.invokestatic 153, 3) := by decide +kernel
theorem dX4_weave_34 : decode cX4_weave 34 = .ok (.aload 4, 2) := by decide +kernel
theorem dX4_weave_36 : decode cX4_weave 36 = .ok (.invokevirtual 53, 3) := by decide +kernel
theorem dX4_weave_39 : decode cX4_weave 39 = .ok (.iconst 1, 1) := by decide +kernel
theorem dX4_weave_40 : decode cX4_weave 40 = .ok (.isub, 1) := by decide +kernel
theorem dX4_weave_41 : decode cX4_weave 41 = .ok (.istore 7, 2) := by decide +kernel
theorem dX4_weave_43 : decode cX4_weave 43 = .ok (.iload 7, 2) := by decide +kernel
theorem dX4_weave_45 : decode cX4_weave 45 = .ok (.ifCond .lt 38, 3) := by decide +kernel
theorem dX4_weave_48 : decode cX4_weave 48 = .ok (.aload 4, 2) := by decide +kernel
theorem dX4_weave_50 : decode cX4_weave 50 = .ok (.iload 7, 2) := by decide +kernel
theorem dX4_weave_52 : decode cX4_weave 52 = .ok (.invokevirtual 135, 3) := by decide +kernel
theorem dX4_weave_55 : decode cX4_weave 55 = .ok (.iload_n 2, 1) := by decide +kernel
theorem dX4_weave_56 : decode cX4_weave 56 = .ok (.if_icmp .ne 21, 3) := by decide +kernel
theorem dX4_weave_59 : decode cX4_weave 59 = .ok (.aload 5, 2) := by decide +kernel
theorem dX4_weave_61 : decode cX4_weave 61 = .ok (.aload 4, 2) := by decide +kernel
theorem dX4_weave_63 : decode cX4_weave 63 = .ok (.invokevirtual 66, 3) := by decide +kernel
theorem dX4_weave_66 : decode cX4_weave 66 = .ok (.iload 7, 2) := by decide +kernel
theorem dX4_weave_68 : decode cX4_weave 68 = .ok (.iadd, 1) := by decide +kernel
theorem dX4_weave_69 : decode cX4_weave 69 = .ok (.iconst 1, 1) := by decide +kernel
theorem dX4_weave_70 : decode cX4_weave 70 = .ok (.iadd, 1) := by decide +kernel
theorem dX4_weave_71 : decode cX4_weave 71 = .ok (.iconst 0, 1) := by decide +kernel
theorem dX4_weave_72 : decode cX4_weave 72 = .ok (.iload_n 2, 1) := by decide +kernel
theorem dX4_weave_73 : decode cX4_weave 73 = .ok (.iload_n 3, 1) := by decide +kernel
theorem dX4_weave_74 : decode cX4_weave 74 = .ok (.invokevirtual 157, 3) := by decide +kernel
theorem dX4_weave_77 : decode cX4_weave 77 = .ok (.iinc 7 (-1), 3) := by decide +kernel
theorem dX4_weave_80 : decode cX4_weave 80 = .ok (.goto (-37), 3) := by decide +kernel
theorem dX4_weave_83 : decode cX4_weave 83 = .ok (.aload_n 0, 1) := by decide +kernel
theorem dX4_weave_84 : decode cX4_weave 84 = .ok (.aload 4, 2) := by decide +kernel
theorem dX4_weave_86 : decode cX4_weave 86 = .ok (.iload 6, 2) := by decide +kernel
theorem dX4_weave_88 : decode cX4_weave 88 = .ok (.invokevirtual 161, 3) := by decide +kernel
theorem dX4_weave_91 : decode cX4_weave 91 = .ok (.iload 6, 2) := by decide +kernel
theorem dX4_weave_93 : decode cX4_weave 93 = .ok (.ireturn, 1) := by decide +kernel
theorem dX4_raise_0 : decode cX4_raise 0 = .ok (.aload_n 0, 1) := by decide +kernel
theorem dX4_raise_1 : decode cX4_raise 1 = .ok (.iload_n 1, 1) := by decide +kernel
theorem dX4_raise_2 : decode cX4_raise 2 = .ok (.invokevirtual 42, 3) := by decide +kernel
theorem dX4_raise_5 : decode cX4_raise 5 = .ok (.astore_n 3, 1) := by decide +kernel
theorem dX4_raise_6 : decode cX4_raise 6 = .ok (.aload_n 3, 1) := by decide +kernel
theorem dX4_raise_7 : decode cX4_raise 7 = .ok (.ifnull 17, 3) := by decide +kernel
theorem dX4_raise_10 : decode cX4_raise 10 = .ok (.aload_n 3, 1) := by decide +kernel
theorem dX4_raise_11 : decode cX4_raise 11 = .ok (.invokevirtual 99, 3) := by decide +kernel
theorem dX4_raise_14 : decode cX4_raise 14 = .ok (.ifCond .ne 18, 3) := by decide +kernel
theorem dX4_raise_17 : decode cX4_raise 17 = .ok (.aload_n 3, 1) := by decide +kernel
theorem dX4_raise_18 : decode cX4_raise 18 = .ok (.invokevirtual 116, 3) := by decide +kernel
theorem dX4_raise_21 : decode cX4_raise 21 = .ok (.ifCond .ne 11, 3) := by decide +kernel
theorem dX4_raise_24 : decode cX4_raise 24 = .ok (.new 50, 3) := by decide +kernel
theorem dX4_raise_27 : decode cX4_raise 27 = .ok (.dup, 1) := by decide +kernel
theorem dX4_raise_28 : decode cX4_raise 28 = .ok (.invokespecial 52, 3) := by decide +kernel
theorem dX4_raise_31 : decode cX4_raise 31 = .ok (.athrow, 1) := by decide +kernel
theorem dX4_raise_32 : decode cX4_raise 32 = .ok (.aload_n 3, 1) := by decide +kernel
theorem dX4_raise_33 : decode cX4_raise 33 = .ok (.invokestatic 146, 3) := by decide +kernel
theorem dX4_raise_36 : decode cX4_raise 36 = .ok (.astore 4, 2) := by decide +kernel
theorem dX4_raise_38 : decode cX4_raise 38 = .ok (.iload_n 2, 1) := by decide +kernel
theorem dX4_raise_39 : decode cX4_raise 39 = .ok (.bipush (-9), 2) := by decide +kernel
theorem dX4_raise_41 : decode cX4_raise 41 = .ok (.if_icmp .lt 9, 3) := by decide +kernel
theorem dX4_raise_44 : decode cX4_raise 44 = .ok (.iload_n 2, 1) := by decide +kernel
theorem dX4_raise_45 : decode cX4_raise 45 = .ok (.bipush 9, 2) := by decide +kernel
theorem dX4_raise_47 : decode cX4_raise 47 = .ok (.if_icmp .le 11, 3) := by decide +kernel
theorem dX4_raise_50 : decode cX4_raise 50 = .ok (.new 57, 3) := by decide +kernel
theorem dX4_raise_53 : decode cX4_raise 53 = .ok (.dup, 1) := by decide +kernel
theorem dX4_raise_54 : decode cX4_raise 54 = .ok (.invokespecial 59, 3) := by decide +kernel
theorem dX4_raise_57 : decode cX4_raise 57 = .ok (.athrow, 1) := by decide +kernel
theorem dX4_raise_58 : decode cX4_raise 58 = .ok (.iconst 0, 1) := by decide +kernel
theorem dX4_raise_59 : decode cX4_raise 59 = .ok (.istore 5, 2) := by decide +kernel
theorem dX4_raise_61 : decode cX4_raise 61 = .ok (.iload 5, 2) := by decide +kernel
theorem dX4_raise_63 : decode cX4_raise 63 = .ok (.aload_n 3, 1) := by decide +kernel
theorem dX4_raise_64 : decode cX4_raise 64 = .ok (.invokevirtual 53, 3) := by decide +kernel
theorem dX4_raise_67 : decode cX4_raise 67 = .ok (.if_icmp .ge 26, 3) := by decide +kernel
theorem dX4_raise_70 : decode cX4_raise 70 = .ok (.aload_n 3, 1) := by decide +kernel
theorem dX4_raise_71 : decode cX4_raise 71 = .ok (.iload 5, 2) := by decide +kernel
theorem dX4_raise_73 : decode cX4_raise 73 = .ok (.invokevirtual 135, 3) := by decide +kernel
theorem dX4_raise_76 : decode cX4_raise 76 = .ok (.iload_n 2, 1) := by decide +kernel
theorem dX4_raise_77 : decode cX4_raise 77 = .ok (.iadd, 1) := by decide +kernel
theorem dX4_raise_78 : decode cX4_raise 78 = .ok (.aload_n 3, 1) := by decide +kernel
theorem dX4_raise_79 : decode cX4_raise 79 = .ok (.iload 5, 2) := by decide +kernel
theorem dX4_raise_81 : decode cX4_raise 81 = .ok (.invokevirtual 139, 3) := by decide +kernel
theorem dX4_raise_84 : decode cX4_raise 84 = .ok (.invokestatic 75, 3) := by decide +kernel
theorem dX4_raise_87 : decode cX4_raise 87 = .ok (.iinc 5 1, 3) := by decide +kernel
theorem dX4_raise_90 : decode cX4_raise 90 = .ok (.goto (-29), 3) := by decide +kernel
theorem dX4_raise_93 : decode cX4_raise 93 = .ok (.iconst 0, 1) := by decide +kernel
theorem dX4_raise_94 : decode cX4_raise 94 = .ok (.istore 5, 2) := by decide +kernel
theorem dX4_raise_96 : decode cX4_raise 96 = .ok (.iload 5, 2) := by decide +kernel
theorem dX4_raise_98 : decode cX4_raise 98 = .ok (.aload_n 3, 1) := by decide +kernel
theorem dX4_raise_99 : decode cX4_raise 99 = .ok (.invokevirtual 53, 3) := by decide +kernel
theorem dX4_raise_102 : decode cX4_raise 102 = .ok (.if_icmp .ge 35, 3) := by decide +kernel
theorem dX4_raise_105 : decode cX4_raise 105 = .ok (.aload 4, 2) := by decide +kernel
theorem dX4_raise_107 : decode cX4_raise 107 = .ok (.aload_n 3, 1) := by decide +kernel
theorem dX4_raise_108 : decode cX4_raise 108 = .ok (.invokevirtual 66, 3) := by decide +kernel
theorem dX4_raise_111 : decode cX4_raise 111 = .ok (.iload 5, 2) := by decide +kernel
theorem dX4_raise_113 : decode cX4_raise 113 = .ok (.iadd, 1) := by decide +kernel
theorem dX4_raise_114 : decode cX4_raise 114 = .ok (.aload_n 3, 1) := by decide +kernel
theorem dX4_raise_115 : decode cX4_raise 115 = .ok (.iload 5, 2) := by decide +kernel
theorem dX4_raise_117 : decode cX4_raise 117 = .ok (.invokevirtual 135, 3) := by decide +kernel
theorem dX4_raise_120 : decode cX4_raise 120 = .ok (.iload_n 2, 1) := by decide +kernel
theorem dX4_raise_121 : decode cX4_raise 121 = .ok (.iadd, 1) := by decide +kernel
theorem dX4_raise_122 : decode cX4_raise 122 = .ok (.aload_n 3, 1) := by decide +kernel
theorem dX4_raise_123 : decode cX4_raise 123 = .ok (.iload 5, 2) := by decide +kernel
theorem dX4_raise_125 : decode cX4_raise 125 = .ok (.invokevirtual 139, 3) := by decide +kernel
theorem dX4_raise_128 : decode cX4_raise 128 = .ok (.invokevirtual 167, 3) := by decide +kernel
theorem dX4_raise_131 : decode cX4_raise 131 = .ok (.iinc 5 1, 3) := by decide +kernel
theorem dX4_raise_134 : decode cX4_raise 134 = .ok (.goto (-38), 3) := by decide +kernel
theorem dX4_raise_137 : decode cX4_raise 137 = .ok (.aload_n 3, 1) := by decide +kernel
theorem dX4_raise_138 : decode cX4_raise 138 = .ok (.invokevirtual 53, 3) := by decide +kernel
theorem dX4_raise_141 : decode cX4_raise 141 = .ok (.ireturn, 1) := by decide +kernel
theorem dX4_sort_0 : decode cX4_sort 0 = .ok (.aload_n 0, 1) := by decide +kernel
theorem dX4_sort_1 : decode cX4_sort 1 = .ok (.iload_n 1, 1) := by decide +kernel
theorem dX4_sort_2 : decode cX4_sort 2 = .ok (.invokevirtual 128, 3) := by decide +kernel
theorem dX4_sort_5 : decode cX4_sort 5 = .ok (.astore_n 3, 1) := by decide +kernel
theorem dX4_sort_6 : decode cX4_sort 6 = .ok (.aload_n 3, 1) := by decide +kernel
theorem dX4_sort_7 : decode cX4_sort 7 = .ok (.invokestatic 146, 3) := by decide +kernel
theorem dX4_sort_10 : decode cX4_sort 10 = .ok (.astore 4, 2) := by decide +kernel
theorem dX4_sort_12 : decode cX4_sort 12 = .ok (.iload_n 2, 1) := by decide +kernel
theorem dX4_sort_13 : decode cX4_sort 13 = .ok (.bipush 107, 2) := by decide +kernel
theorem dX4_sort_15 : decode cX4_sort 15 = .ok (.if_icmp .eq 29, 3) := by decide +kernel
theorem dX4_sort_18 : decode cX4_sort 18 = .ok (.iload_n 2, 1) := by decide +kernel
theorem dX4_sort_19 : decode cX4_sort 19 = .ok (.bipush 75, 2) := by decide +kernel
theorem dX4_sort_21 : decode cX4_sort 21 = .ok (.if_icmp .eq 23, 3) := by decide +kernel
theorem dX4_sort_24 : decode cX4_sort 24 = .ok (.iload_n 2, 1) := by decide +kernel
theorem dX4_sort_25 : decode cX4_sort 25 = .ok (.bipush 109, 2) := by decide +kernel
theorem dX4_sort_27 : decode cX4_sort 27 = .ok (.if_icmp .eq 17, 3) := by decide +kernel
theorem dX4_sort_30 : decode cX4_sort 30 = .ok (.iload_n 2, 1) := by decide +kernel
theorem dX4_sort_31 : decode cX4_sort 31 = .ok (.bipush 77, 2) := by decide +kernel
theorem dX4_sort_33 : decode cX4_sort 33 = .ok (.if_icmp .eq 11, 3) := by decide +kernel
theorem dX4_sort_36 : decode cX4_sort 36 = .ok (.new 57, 3) := by decide +kernel
theorem dX4_sort_39 : decode cX4_sort 39 = .ok (.dup, 1) := by decide +kernel
theorem dX4_sort_40 : decode cX4_sort 40 = .ok (.invokespecial 59, 3) := by decide +kernel
theorem dX4_sort_43 : decode cX4_sort 43 = .ok (.athrow, 1) := by decide +kernel
theorem dX4_sort_44 : decode cX4_sort 44 = .ok (.aload 4, 2) := by decide +kernel
theorem dX4_sort_46 : decode cX4_sort 46 = .ok (.aload_n 3, 1) := by decide +kernel
theorem dX4_sort_47 : decode cX4_sort 47 = .ok (.invokevirtual 66, 3) := by decide +kernel
theorem dX4_sort_50 : decode cX4_sort 50 = .ok (.aload_n 3, 1) := by decide +kernel
theorem dX4_sort_51 : decode cX4_sort 51 = .ok (.invokevirtual 53, 3) := by decide +kernel
theorem dX4_sort_54 : decode cX4_sort 54 = .ok (.iload_n 2, 1) := by decide +kernel
theorem dX4_sort_55 : decode cX4_sort 55 = .ok (.invokevirtual 216, 3) := by decide +kernel
theorem dX4_sort_58 : decode cX4_sort 58 = .ok (.aload_n 0, 1) := by decide +kernel
theorem dX4_sort_59 : decode cX4_sort 59 = .ok (.aload_n 3, 1) := by decide +kernel
theorem dX4_sort_60 : decode cX4_sort 60 = .ok (.aload 4, 2) := by decide +kernel
theorem dX4_sort_62 : decode cX4_sort 62 = .ok (.invokevirtual 220, 3) := by decide +kernel
theorem dX4_sort_65 : decode cX4_sort 65 = .ok (.aload_n 3, 1) := by decide +kernel
theorem dX4_sort_66 : decode cX4_sort 66 = .ok (.invokevirtual 53, 3) := by decide +kernel
theorem dX4_sort_69 : decode cX4_sort 69 = .ok (.ireturn, 1) := by decide +kernel
theorem dX4_search_0 : decode cX4_search 0 = .ok (.aload_n 0, 1) := by decide +kernel
theorem dX4_search_1 : decode cX4_search 1 = .ok (.iload_n 1, 1) := by decide +kernel
theorem dX4_search_2 : decode cX4_search 2 = .ok (.invokevirtual 128, 3) := by decide +kernel
theorem dX4_search_5 : decode cX4_search 5 = .ok (.astore_n 3, 1) := by decide +kernel
theorem dX4_search_6 : decode cX4_search 6 = .ok (.aload_n 3, 1) := by decide +kernel
theorem dX4_search_7 : decode cX4_search 7 = .ok (.invokevirtual 224, 3) := by decide +kernel
theorem dX4_search_10 : decode cX4_search 10 = .ok (.ifCond .ne 11, 3) := by decide +kernel
theorem dX4_search_13 : decode cX4_search 13 = .ok (.new 180, 3) := by decide +kernel
theorem dX4_search_16 : decode cX4_search 16 = .ok (.dup, 1) := by decide +kernel
theorem dX4_search_17 : decode cX4_search 17 = .ok (.invokespecial 182, 3) := by decide +kernel
theorem dX4_search_20 : decode cX4_search 20 = .ok (.athrow, 1) := by decide +kernel
theorem dX4_search_21 : decode cX4_search 21 = .ok (.aload_n 3, 1) := by decide +kernel
theorem dX4_search_22 : decode cX4_search 22 = .ok (.iload_n 2, 1) := by decide +kernel
theorem dX4_search_23 : decode cX4_search 23 = .ok (.invokevirtual 227, 3) := by decide +kernel
theorem dX4_search_26 : decode cX4_search 26 = .ok (.ireturn, 1) := by decide +kernel
theorem dX4_turn_0 : decode cX4_turn 0 = .ok (.aload_n 0, 1) := by decide +kernel
theorem dX4_turn_1 : decode cX4_turn 1 = .ok (.iload_n 1, 1) := by decide +kernel
theorem dX4_turn_2 : decode cX4_turn 2 = .ok (.invokevirtual 128, 3) := by decide +kernel
theorem dX4_turn_5 : decode cX4_turn 5 = .ok (.astore_n 2, 1) := by decide +kernel
theorem dX4_turn_6 : decode cX4_turn 6 = .ok (.aload_n 2, 1) := by decide +kernel
theorem dX4_turn_7 : decode cX4_turn 7 = .ok (.invokestatic 146, 3) := by decide +kernel
theorem dX4_turn_10 : decode cX4_turn 10 = .ok (.aload_n 2, 1) := by decide +kernel
theorem dX4_turn_11 : decode cX4_turn 11 = .ok (.invokevirtual 66, 3) := by decide +kernel
theorem dX4_turn_14 : decode cX4_turn 14 = .ok (.aload_n 2, 1) := by decide +kernel
theorem dX4_turn_15 : decode cX4_turn 15 = .ok (.invokevirtual 53, 3) := by decide +kernel
theorem dX4_turn_18 : decode cX4_turn 18 = .ok (.invokevirtual 230, 3) := by decide +kernel
theorem dX4_turn_21 : decode cX4_turn 21 = .ok (.aload_n 2, 1) := by decide +kernel
theorem dX4_turn_22 : decode cX4_turn 22 = .ok (.invokevirtual 53, 3) := by decide +kernel
theorem dX4_turn_25 : decode cX4_turn 25 = .ok (.ireturn, 1) := by decide +kernel
theorem dX4_swap_0 : decode cX4_swap 0 = .ok (.aload_n 0, 1) := by decide +kernel
theorem dX4_swap_1 : decode cX4_swap 1 = .ok (.iload_n 1, 1) := by decide +kernel
theorem dX4_swap_2 : decode cX4_swap 2 = .ok (.invokevirtual 128, 3) := by decide +kernel
theorem dX4_swap_5 : decode cX4_swap 5 = .ok (.astore 4, 2) := by decide +kernel
theorem dX4_swap_7 : decode cX4_swap 7 = .ok (.aload 4, 2) := by decide +kernel
theorem dX4_swap_9 : decode cX4_swap 9 = .ok (.invokestatic 146, 3) := by decide +kernel
theorem dX4_swap_12 : decode cX4_swap 12 = .ok (.astore 5, 2) := by decide +kernel
theorem dX4_swap_14 : decode cX4_swap 14 = .ok (.aload 4, 2) := by decide +kernel
theorem dX4_swap_16 : decode cX4_swap 16 = .ok (.iload_n 2, 1) := by decide +kernel
theorem dX4_swap_17 : decode cX4_swap 17 = .ok (.invokestatic 131, 3) := by decide +kernel
theorem dX4_swap_20 : decode cX4_swap 20 = .ok (.aload 4, 2) := by decide +kernel
theorem dX4_swap_22 : decode cX4_swap 22 = .ok (.iload_n 3, 1) := by decide +kernel
theorem dX4_swap_23 : decode cX4_swap 23 = .ok (.invokestatic 131, 3) := by decide +kernel
theorem dX4_swap_26 : decode cX4_swap 26 = .ok (.aload 5, 2) := by decide +kernel
theorem dX4_swap_28 : decode cX4_swap 28 = .ok (.aload 4, 2) := by decide +kernel
theorem dX4_swap_30 : decode cX4_swap 30 = .ok (.invokevirtual 66, 3) := by decide +kernel
theorem dX4_swap_33 : decode cX4_swap 33 = .ok (.iload_n 2, 1) := by decide +kernel
theorem dX4_swap_34 : decode cX4_swap 34 = .ok (.iadd, 1) := by decide +kernel
theorem dX4_swap_35 : decode cX4_swap 35 = .ok (.aload 4, 2) := by decide +kernel
theorem dX4_swap_37 : decode cX4_swap 37 = .ok (.invokevirtual 66, 3) := by decide +kernel
theorem dX4_swap_40 : decode cX4_swap 40 = .ok (.iload_n 3, 1) := by decide +kernel
theorem dX4_swap_41 : decode cX4_swap 41 = .ok (.iadd, 1) := by decide +kernel
theorem dX4_swap_42 : decode cX4_swap 42 = .ok (.invokevirtual 233, 3) := by decide +kernel
theorem dX4_swap_45 : decode cX4_swap 45 = .ok (.aload 4, 2) := by decide +kernel
theorem dX4_swap_47 : decode cX4_swap 47 = .ok (.invokevirtual 53, 3) := by decide +kernel
theorem dX4_swap_50 : decode cX4_swap 50 = .ok (.ireturn, 1) := by decide +kernel
theorem dX4_rotate_0 : decode cX4_rotate 0 = .ok (.aload_n 0, 1) := by decide +kernel
theorem dX4_rotate_1 : decode cX4_rotate 1 = .ok (.iload_n 1, 1) := by decide +kernel
theorem dX4_rotate_2 : decode cX4_rotate 2 = .ok (.invokevirtual 128, 3) := by decide +kernel
theorem dX4_rotate_5 : decode cX4_rotate 5 = .ok (.astore_n 3, 1) := by decide +kernel
theorem dX4_rotate_6 : decode cX4_rotate 6 = .ok (.aload_n 3, 1) := by decide +kernel
theorem dX4_rotate_7 : decode cX4_rotate 7 = .ok (.invokestatic 146, 3) := by decide +kernel
theorem dX4_rotate_10 : decode cX4_rotate 10 = .ok (.astore 4, 2) := by decide +kernel
theorem dX4_rotate_12 : decode cX4_rotate 12 = .ok (.iload_n 2, 1) := by decide +kernel
theorem dX4_rotate_13 : decode cX4_rotate 13 = .ok (.bipush (-100), 2) := by decide +kernel
theorem dX4_rotate_15 : decode cX4_rotate 15 = .ok (.if_icmp .lt 9, 3) := by decide +kernel
theorem dX4_rotate_18 : decode cX4_rotate 18 = .ok (.iload_n 2, 1) := by decide +kernel
theorem dX4_rotate_19 : decode cX4_rotate 19 = .ok (.bipush 100, 2) := by decide +kernel
theorem dX4_rotate_21 : decode cX4_rotate 21 = .ok (.if_icmp .le 11, 3) := by decide +kernel
theorem dX4_rotate_24 : decode cX4_rotate 24 = .ok (.new 57, 3) := by decide +kernel
theorem dX4_rotate_27 : decode cX4_rotate 27 = .ok (.dup, 1) := by decide +kernel
theorem dX4_rotate_28 : decode cX4_rotate 28 = .ok (.invokespecial 59, 3) := by decide +kernel
theorem dX4_rotate_31 : decode cX4_rotate 31 = .ok (.athrow, 1) := by decide +kernel
theorem dX4_rotate_32 : decode cX4_rotate 32 = .ok (.aload 4, 2) := by decide +kernel
theorem dX4_rotate_34 : decode cX4_rotate 34 = .ok (.aload_n 3, 1) := by decide +kernel
theorem dX4_rotate_35 : decode cX4_rotate 35 = .ok (.invokevirtual 66, 3) := by decide +kernel
theorem dX4_rotate_38 : decode cX4_rotate 38 = .ok (.aload_n 3, 1) := by decide +kernel
theorem dX4_rotate_39 : decode cX4_rotate 39 = .ok (.invokevirtual 53, 3) := by decide +kernel
theorem dX4_rotate_42 : decode cX4_rotate 42 = .ok (.iload_n 2, 1) := by decide +kernel
theorem dX4_rotate_43 : decode cX4_rotate 43 = .ok (.invokevirtual 236, 3) := by decide +kernel
theorem dX4_rotate_46 : decode cX4_rotate 46 = .ok (.aload_n 3, 1) := by decide +kernel
theorem dX4_rotate_47 : decode cX4_rotate 47 = .ok (.invokevirtual 53, 3) := by decide +kernel
theorem dX4_rotate_50 : decode cX4_rotate 50 = .ok (.ireturn, 1) := by decide +kernel
theorem dX4_fill_0 : decode cX4_fill 0 = .ok (.aload_n 0, 1) := by decide +kernel
theorem dX4_fill_1 : decode cX4_fill 1 = .ok (.iload_n 1, 1) := by decide +kernel
theorem dX4_fill_2 : decode cX4_fill 2 = .ok (.invokevirtual 128, 3) := by decide +kernel
theorem dX4_fill_5 : decode cX4_fill 5 = .ok (.astore 4, 2) := by decide +kernel
theorem dX4_fill_7 : decode cX4_fill 7 = .ok (.aload 4, 2) := by decide +kernel
theorem dX4_fill_9 : decode cX4_fill 9 = .ok (.invokestatic 146, 3) := by decide +kernel
theorem dX4_fill_12 : decode cX4_fill 12 = .ok (.astore 5, 2) := by decide +kernel
theorem dX4_fill_14 : decode cX4_fill 14 = .ok (.iload_n 2, 1) := by decide +kernel
theorem dX4_fill_15 : decode cX4_fill 15 = .ok (.iload_n 3, 1) := by decide +kernel
theorem dX4_fill_16 : decode cX4_fill 16 = .ok (.invokestatic 75, 3) := by decide +kernel
theorem dX4_fill_19 : decode cX4_fill 19 = .ok (.iconst 0, 1) := by decide +kernel
theorem dX4_fill_20 : decode cX4_fill 20 = .ok (.istore 6, 2) := by decide +kernel
theorem dX4_fill_22 : decode cX4_fill 22 = .ok (.iload 6, 2) := by decide +kernel
theorem dX4_fill_24 : decode cX4_fill 24 = .ok (.aload 4, 2) := by decide +kernel
theorem dX4_fill_26 : decode cX4_fill 26 = .ok (.invokevirtual 53, 3) := by decide +kernel
theorem dX4_fill_29 : decode cX4_fill 29 = .ok (.if_icmp .ge 24, 3) := by decide +kernel
theorem dX4_fill_32 : decode cX4_fill 32 = .ok (.aload 5, 2) := by decide +kernel
theorem dX4_fill_34 : decode cX4_fill 34 = .ok (.aload 4, 2) := by decide +kernel
theorem dX4_fill_36 : decode cX4_fill 36 = .ok (.invokevirtual 66, 3) := by decide +kernel
theorem dX4_fill_39 : decode cX4_fill 39 = .ok (.iload 6, 2) := by decide +kernel
theorem dX4_fill_41 : decode cX4_fill 41 = .ok (.iadd, 1) := by decide +kernel
theorem dX4_fill_42 : decode cX4_fill 42 = .ok (.iload_n 2, 1) := by decide +kernel
theorem dX4_fill_43 : decode cX4_fill 43 = .ok (.iload_n 3, 1) := by decide +kernel
theorem dX4_fill_44 : decode cX4_fill 44 = .ok (.invokevirtual 167, 3) := by decide +kernel
theorem dX4_fill_47 : decode cX4_fill 47 = .ok (.iinc 6 1, 3) := by decide +kernel
theorem dX4_fill_50 : decode cX4_fill 50 = .ok (.goto (-28), 3) := by decide +kernel
theorem dX4_fill_53 : decode cX4_fill 53 = .ok (.aload 4, 2) := by decide +kernel
theorem dX4_fill_55 : decode cX4_fill 55 = .ok (.invokevirtual 53, 3) := by decide +kernel
theorem dX4_fill_58 : decode cX4_fill 58 = .ok (.ireturn, 1) := by decide +kernel
theorem dX4_rowIn_0 : decode cX4_rowIn 0 = .ok (.iload_n 1, 1) := by decide +kernel
theorem dX4_rowIn_1 : decode cX4_rowIn 1 = .ok (.iload_n 2, 1) := by decide +kernel
theorem dX4_rowIn_2 : decode cX4_rowIn 2 = .ok (.invokestatic 191, 3) := by decide +kernel
theorem dX4_rowIn_5 : decode cX4_rowIn 5 = .ok (.aload_n 0, 1) := by decide +kernel
theorem dX4_rowIn_6 : decode cX4_rowIn 6 = .ok (.iload_n 1, 1) := by decide +kernel
theorem dX4_rowIn_7 : decode cX4_rowIn 7 = .ok (.invokevirtual 128, 3) := by decide +kernel
theorem dX4_rowIn_10 : decode cX4_rowIn 10 = .ok (.astore 4, 2) := by decide +kernel
theorem dX4_rowIn_12 : decode cX4_rowIn 12 = .ok (.aload_n 0, 1) := by decide +kernel
theorem dX4_rowIn_13 : decode cX4_rowIn 13 = .ok (.iload_n 2, 1) := by decide +kernel
theorem dX4_rowIn_14 : decode cX4_rowIn 14 = .ok (.invokevirtual 128, 3) := by decide +kernel
theorem dX4_rowIn_17 : decode cX4_rowIn 17 = .ok (.astore 5, 2) := by decide +kernel
theorem dX4_rowIn_19 : decode cX4_rowIn 19 = .ok (.aload 4, 2) := by decide +kernel
theorem dX4_rowIn_21 : decode cX4_rowIn 21 = .ok (.invokevirtual 53, 3) := by decide +kernel
theorem dX4_rowIn_24 : decode cX4_rowIn 24 = .ok (.aload 5, 2) := by decide +kernel
theorem dX4_rowIn_26 : decode cX4_rowIn 26 = .ok (.invokevirtual 53, 3) := by decide +kernel
theorem dX4_rowIn_29 : decode cX4_rowIn 29 = .ok (.isub, 1) := by decide +kernel
theorem dX4_rowIn_30 : decode cX4_rowIn 30 = .ok (.istore 6, 2) := by decide +kernel
theorem dX4_rowIn_32 : decode cX4_rowIn 32 = .ok (.iconst 0, 1) := by decide +kernel
theorem dX4_rowIn_33 : decode cX4_rowIn 33 = .ok (.istore 7, 2) := by decide +kernel
theorem dX4_rowIn_35 : decode cX4_rowIn 35 = .ok (.iload 7, 2) := by decide +kernel
theorem dX4_rowIn_37 : decode cX4_rowIn 37 = .ok (.iload 6, 2) := by decide +kernel
theorem dX4_rowIn_39 : decode cX4_rowIn 39 = .ok (.if_icmp .gt 40, 3) := by decide +kernel
theorem dX4_rowIn_42 : decode cX4_rowIn 42 = .ok (.iload_n 3, 1) := by decide +kernel
theorem dX4_rowIn_43 : decode cX4_rowIn 43 = .ok (.ifCond .eq 11, 3) := by decide +kernel
theorem dX4_rowIn_46 : decode cX4_rowIn 46 = .ok (.iload 6, 2) := by decide +kernel
theorem dX4_rowIn_48 : decode cX4_rowIn 48 = .ok (.iload 7, 2) := by decide +kernel
theorem dX4_rowIn_50 : decode cX4_rowIn 50 = .ok (.isub, 1) := by decide +kernel
theorem dX4_rowIn_51 : decode cX4_rowIn 51 = .ok (.goto 5, 3) := by decide +kernel
theorem dX4_rowIn_54 : decode cX4_rowIn 54 = .ok (.iload 7, 2) := by decide +kernel
theorem dX4_rowIn_56 : decode cX4_rowIn 56 = .ok (.istore 8, 2) := by decide +kernel
theorem dX4_rowIn_58 : decode cX4_rowIn 58 = .ok (.aload 4, 2) := by decide +kernel
theorem dX4_rowIn_60 : decode cX4_rowIn 60 = .ok (.iload 8, 2) := by decide +kernel
theorem dX4_rowIn_62 : decode cX4_rowIn 62 = .ok (.aload 5, 2) := by decide +kernel
theorem dX4_rowIn_64 : decode cX4_rowIn 64 = .ok (.invokevirtual 239, 3) := by decide +kernel
theorem dX4_rowIn_67 : decode cX4_rowIn 67 = .ok (.ifCond .eq 6, 3) := by decide +kernel
theorem dX4_rowIn_70 : decode cX4_rowIn 70 = .ok (.iload 8, 2) := by decide +kernel
theorem dX4_rowIn_72 : decode cX4_rowIn 72 = .ok (.ireturn, 1) := by decide +kernel
theorem dX4_rowIn_73 : decode cX4_rowIn 73 = .ok (.iinc 7 1, 3) := by decide +kernel
theorem dX4_rowIn_76 : decode cX4_rowIn 76 = .ok (.goto (-41), 3) := by decide +kernel
theorem dX4_rowIn_79 : decode cX4_rowIn 79 = .ok (.iconst (-1), 1) := by decide +kernel
theorem dX4_rowIn_80 : decode cX4_rowIn 80 = .ok (.ireturn, 1) := by decide +kernel
theorem dX4_often_0 : decode cX4_often 0 = .ok (.aload_n 0, 1) := by decide +kernel
theorem dX4_often_1 : decode cX4_often 1 = .ok (.iload_n 1, 1) := by decide +kernel
theorem dX4_often_2 : decode cX4_often 2 = .ok (.invokevirtual 174, 3) := by decide +kernel
theorem dX4_often_5 : decode cX4_often 5 = .ok (.astore 4, 2) := by decide +kernel
theorem dX4_often_7 : decode cX4_often 7 = .ok (.iconst 0, 1) := by decide +kernel
theorem dX4_often_8 : decode cX4_often 8 = .ok (.istore 5, 2) := by decide +kernel
theorem dX4_often_10 : decode cX4_often 10 = .ok (.iconst 0, 1) := by decide +kernel
theorem dX4_often_11 : decode cX4_often 11 = .ok (.istore 6, 2) := by decide +kernel
theorem dX4_often_13 : decode cX4_often 13 = .ok (.iload 6, 2) := by decide +kernel
theorem dX4_often_15 : decode cX4_often 15 = .ok (.aload 4, 2) := by decide +kernel
theorem dX4_often_17 : decode cX4_often 17 = .ok (.invokevirtual 53, 3) := by decide +kernel
theorem dX4_often_20 : decode cX4_often 20 = .ok (.if_icmp .ge 24, 3) := by decide +kernel
theorem dX4_often_23 : decode cX4_often 23 = .ok (.aload 4, 2) := by decide +kernel
theorem dX4_often_25 : decode cX4_often 25 = .ok (.iload 6, 2) := by decide +kernel
theorem dX4_often_27 : decode cX4_often 27 = .ok (.iload_n 2, 1) := by decide +kernel
theorem dX4_often_28 : decode cX4_often 28 = .ok (.iload_n 3, 1) := by decide +kernel
theorem dX4_often_29 : decode cX4_often 29 = .ok (.invokevirtual 243, 3) := by decide +kernel
theorem dX4_often_32 : decode cX4_often 32 = .ok (.ifCond .eq 6, 3) := by decide +kernel
theorem dX4_often_35 : decode cX4_often 35 = .ok (.iinc 5 1, 3) := by decide +kernel
theorem dX4_often_38 : decode cX4_often 38 = .ok (.iinc 6 1, 3) := by decide +kernel
theorem dX4_often_41 : decode cX4_often 41 = .ok (.goto (-28), 3) := by decide +kernel
theorem dX4_often_44 : decode cX4_often 44 = .ok (.iload 5, 2) := by decide +kernel
theorem dX4_often_46 : decode cX4_often 46 = .ok (.ireturn, 1) := by decide +kernel
theorem dX4_areApart_0 : decode cX4_areApart 0 = .ok (.iload_n 1, 1) := by decide +kernel
theorem dX4_areApart_1 : decode cX4_areApart 1 = .ok (.iload_n 2, 1) := by decide +kernel
theorem dX4_areApart_2 : decode cX4_areApart 2 = .ok (.invokestatic 191, 3) := by decide +kernel
theorem dX4_areApart_5 : decode cX4_areApart 5 = .ok (.aload_n 0, 1) := by decide +kernel
theorem dX4_areApart_6 : decode cX4_areApart 6 = .ok (.iload_n 1, 1) := by decide +kernel
theorem dX4_areApart_7 : decode cX4_areApart 7 = .ok (.invokevirtual 174, 3) := by decide +kernel
theorem dX4_areApart_10 : decode cX4_areApart 10 = .ok (.astore_n 3, 1) := by decide +kernel
theorem dX4_areApart_11 : decode cX4_areApart 11 = .ok (.aload_n 0, 1) := by decide +kernel
theorem dX4_areApart_12 : decode cX4_areApart 12 = .ok (.iload_n 2, 1) := by decide +kernel
theorem dX4_areApart_13 : decode cX4_areApart 13 = .ok (.invokevirtual 174, 3) := by decide +kernel
theorem dX4_areApart_16 : decode cX4_areApart 16 = .ok (.astore 4, 2) := by decide +kernel
theorem dX4_areApart_18 : decode cX4_areApart 18 = .ok (.iconst 0, 1) := by decide +kernel
theorem dX4_areApart_19 : decode cX4_areApart 19 = .ok (.istore 5, 2) := by decide +kernel
theorem dX4_areApart_21 : decode cX4_areApart 21 = .ok (.iload 5, 2) := by decide +kernel
theorem dX4_areApart_23 : decode cX4_areApart 23 = .ok (.aload_n 3, 1) := by decide +kernel
theorem dX4_areApart_24 : decode cX4_areApart 24 = .ok (.invokevirtual 53, 3) := by decide +kernel
theorem dX4_areApart_27 : decode cX4_areApart 27 = .ok (.if_icmp .ge 32, 3) := by decide +kernel
theorem dX4_areApart_30 : decode cX4_areApart 30 = .ok (.aload 4, 2) := by decide +kernel
theorem dX4_areApart_32 : decode cX4_areApart 32 = .ok (.aload_n 3, 1) := by decide +kernel
theorem dX4_areApart_33 : decode cX4_areApart 33 = .ok (.iload 5, 2) := by decide +kernel
theorem dX4_areApart_35 : decode cX4_areApart 35 = .ok (.invokevirtual 135, 3) := by decide +kernel
theorem dX4_areApart_38 : decode cX4_areApart 38 = .ok (.aload_n 3, 1) := by decide +kernel
theorem dX4_areApart_39 : decode cX4_areApart 39 = .ok (.iload 5, 2) := by decide +kernel
theorem dX4_areApart_41 : decode cX4_areApart 41 = .ok (.invokevirtual 139, 3) := by decide +kernel
theorem dX4_areApart_44 : decode cX4_areApart 44 = .ok (.iconst 0, 1) := by decide +kernel
theorem dX4_areApart_45 : decode cX4_areApart 45 = .ok (.invokevirtual 142, 3) := by decide +kernel
theorem dX4_areApart_48 : decode cX4_areApart 48 = .ok (.ifCond .lt 5, 3) := by decide +kernel
theorem dX4_areApart_51 : decode cX4_areApart 51 = .ok (.iconst 0, 1) := by decide +kernel
theorem dX4_areApart_52 : decode cX4_areApart 52 = .ok (.ireturn, 1) := by decide +kernel
theorem dX4_areApart_53 : decode cX4_areApart 53 = .ok (.iinc 5 1, 3) := by decide +kernel
theorem dX4_areApart_56 : decode cX4_areApart 56 = .ok (.goto (-35), 3) := by decide +kernel
theorem dX4_areApart_59 : decode cX4_areApart 59 = .ok (.iconst 1, 1) := by decide +kernel
theorem dX4_areApart_60 : decode cX4_areApart 60 = .ok (.ireturn, 1) := by decide +kernel
theorem dX4_end_0 : decode cX4_end 0 = .ok (.aload_n 0, 1) := by decide +kernel
theorem dX4_end_1 : decode cX4_end 1 = .ok (.iload_n 1, 1) := by decide +kernel
theorem dX4_end_2 : decode cX4_end 2 = .ok (.invokevirtual 174, 3) := by decide +kernel
theorem dX4_end_5 : decode cX4_end 5 = .ok (.astore_n 3, 1) := by decide +kernel
theorem dX4_end_6 : decode cX4_end 6 = .ok (.aload_n 3, 1) := by decide +kernel
theorem dX4_end_7 : decode cX4_end 7 = .ok (.invokevirtual 53, 3) := by decide +kernel
theorem dX4_end_10 : decode cX4_end 10 = .ok (.ifCond .ne 11, 3) := by decide +kernel
theorem dX4_end_13 : decode cX4_end 13 = .ok (.new 180, 3) := by decide +kernel
theorem dX4_end_16 : decode cX4_end 16 = .ok (.dup, 1) := by decide +kernel
theorem dX4_end_17 : decode cX4_end 17 = .ok (.invokespecial 182, 3) := by decide +kernel
theorem dX4_end_20 : decode cX4_end 20 = .ok (.athrow, 1) := by decide +kernel
theorem dX4_end_21 : decode cX4_end 21 = .ok (.aload_n 3, 1) := by decide +kernel
theorem dX4_end_22 : decode cX4_end 22 = .ok (.iconst 0, 1) := by decide +kernel
theorem dX4_end_23 : decode cX4_end 23 = .ok (.invokevirtual 135, 3) := by decide +kernel
theorem dX4_end_26 : decode cX4_end 26 = .ok (.istore 4, 2) := by decide +kernel
theorem dX4_end_28 : decode cX4_end 28 = .ok (.iconst 1, 1) := by decide +kernel
theorem dX4_end_29 : decode cX4_end 29 = .ok (.istore 5, 2) := by decide +kernel
theorem dX4_end_31 : decode cX4_end 31 = .ok (.iload 5, 2) := by decide +kernel
theorem dX4_end_33 : decode cX4_end 33 = .ok (.aload_n 3, 1) := by decide +kernel
theorem dX4_end_34 : decode cX4_end 34 = .ok (.invokevirtual 53, 3) := by decide +kernel
theorem dX4_end_37 : decode cX4_end 37 = .ok (.if_icmp .ge 40, 3) := by decide +kernel
theorem dX4_end_40 : decode cX4_end 40 = .ok (.iload_n 2, 1) := by decide +kernel
theorem dX4_end_41 : decode cX4_end 41 = .ok (.ifCond .eq 17, 3) := by decide +kernel
theorem dX4_end_44 : decode cX4_end 44 = .ok (.iload 4, 2) := by decide +kernel
theorem dX4_end_46 : decode cX4_end 46 = .ok (.aload_n 3, 1) := by decide +kernel
theorem dX4_end_47 : decode cX4_end 47 = .ok (.iload 5, 2) := by decide +kernel
theorem dX4_end_49 : decode cX4_end 49 = .ok (.invokevirtual 135, 3) := by decide +kernel
theorem dX4_end_52 : decode cX4_end 52 = .ok (.invokestatic 247, 3) := by decide +kernel
theorem dX4_end_55 : decode cX4_end 55 = .ok (.goto 14, 3) := by decide +kernel
theorem dX4_end_58 : decode cX4_end 58 = .ok (.iload 4, 2) := by decide +kernel
theorem dX4_end_60 : decode cX4_end 60 = .ok (.aload_n 3, 1) := by decide +kernel
theorem dX4_end_61 : decode cX4_end 61 = .ok (.iload 5, 2) := by decide +kernel
theorem dX4_end_63 : decode cX4_end 63 = .ok (.invokevirtual 135, 3) := by decide +kernel
theorem dX4_end_66 : decode cX4_end 66 = .ok (.invokestatic 253, 3) := by decide +kernel
theorem dX4_end_69 : decode cX4_end 69 = .ok (.istore 4, 2) := by decide +kernel
theorem dX4_end_71 : decode cX4_end 71 = .ok (.iinc 5 1, 3) := by decide +kernel
theorem dX4_end_74 : decode cX4_end 74 = .ok (.goto (-43), 3) := by decide +kernel
theorem dX4_end_77 : decode cX4_end 77 = .ok (.iload 4, 2) := by decide +kernel
theorem dX4_end_79 : decode cX4_end 79 = .ok (.ireturn, 1) := by decide +kernel
theorem dX4_enter_0 : decode cX4_enter 0 = .ok (.aload_n 0, 1) := by decide +kernel
theorem dX4_enter_1 : decode cX4_enter 1 = .ok (.iload_n 1, 1) := by decide +kernel
theorem dX4_enter_2 : decode cX4_enter 2 = .ok (.invokevirtual 89, 3) := by decide +kernel
theorem dX4_enter_5 : decode cX4_enter 5 = .ok (.invokestatic 146, 3) := by decide +kernel
theorem dX4_enter_8 : decode cX4_enter 8 = .ok (.astore 5, 2) := by decide +kernel
theorem dX4_enter_10 : decode cX4_enter 10 = .ok (.iload_n 3, 1) := by decide +kernel
theorem dX4_enter_11 : decode cX4_enter 11 = .ok (.iload 4, 2) := by decide +kernel
theorem dX4_enter_13 : decode cX4_enter 13 = .ok (.invokestatic 75, 3) := by decide +kernel
theorem dX4_enter_16 : decode cX4_enter 16 = .ok (.aload 5, 2) := by decide +kernel
theorem dX4_enter_18 : decode cX4_enter 18 = .ok (.iload_n 2, 1) := by decide +kernel
theorem dX4_enter_19 : decode cX4_enter 19 = .ok (.invokevirtual 256, 3) := by decide +kernel
theorem dX4_enter_22 : decode cX4_enter 22 = .ok (.istore 6, 2) := by decide +kernel
theorem dX4_enter_24 : decode cX4_enter 24 = .ok (.iload 6, 2) := by decide +kernel
theorem dX4_enter_26 : decode cX4_enter 26 = .ok (.ifCond .lt 15, 3) := by decide +kernel
theorem dX4_enter_29 : decode cX4_enter 29 = .ok (.aload 5, 2) := by decide +kernel
theorem dX4_enter_31 : decode cX4_enter 31 = .ok (.iload 6, 2) := by decide +kernel
theorem dX4_enter_33 : decode cX4_enter 33 = .ok (.iload_n 3, 1) := by decide +kernel
theorem dX4_enter_34 : decode cX4_enter 34 = .ok (.iload 4, 2) := by decide +kernel
theorem dX4_enter_36 : decode cX4_enter 36 = .ok (.invokevirtual 167, 3) := by decide +kernel
theorem dX4_enter_39 : decode cX4_enter 39 = .ok (.iconst 1, 1) := by decide +kernel
theorem dX4_enter_40 : decode cX4_enter 40 = .ok (.ireturn, 1) := by decide +kernel
theorem dX4_enter_41 : decode cX4_enter 41 = .ok (.aload 5, 2) := by decide +kernel
theorem dX4_enter_43 : decode cX4_enter 43 = .ok (.iconst 1, 1) := by decide +kernel
theorem dX4_enter_44 : decode cX4_enter 44 = .ok (.invokestatic 153, 3) := by decide +kernel
theorem dX4_enter_47 : decode cX4_enter 47 = .ok (.aload 5, 2) := by decide +kernel
theorem dX4_enter_49 : decode cX4_enter 49 = .ok (.aload 5, 2) := by decide +kernel
theorem dX4_enter_51 : decode cX4_enter 51 = .ok (.iload_n 2, 1) := by decide +kernel
theorem dX4_enter_52 : decode cX4_enter 52 = .ok (.invokevirtual 259, 3) := by decide +kernel
theorem dX4_enter_55 : decode cX4_enter 55 = .ok (.iload_n 2, 1) := by decide +kernel
theorem dX4_enter_56 : decode cX4_enter 56 = .ok (.iload_n 3, 1) := by decide +kernel
theorem dX4_enter_57 : decode cX4_enter 57 = .ok (.iload 4, 2) := by decide +kernel
theorem dX4_enter_59 : decode cX4_enter 59 = .ok (.invokevirtual 157, 3) := by decide +kernel
theorem dX4_enter_62 : decode cX4_enter 62 = .ok (.iconst 0, 1) := by decide +kernel
theorem dX4_enter_63 : decode cX4_enter 63 = .ok (.ireturn, 1) := by decide +kernel
theorem dX4_strike_0 : decode cX4_strike 0 = .ok (.aload_n 0, 1) := by decide +kernel
theorem dX4_strike_1 : decode cX4_strike 1 = .ok (.iload_n 1, 1) := by decide +kernel
theorem dX4_strike_2 : decode cX4_strike 2 = .ok (.invokevirtual 262, 3) := by decide +kernel
theorem dX4_strike_5 : decode cX4_strike 5 = .ok (.invokestatic 146, 3) := by decide +kernel
theorem dX4_strike_8 : decode cX4_strike 8 = .ok (.astore_n 3, 1) := by decide +kernel
theorem dX4_strike_9 : decode cX4_strike 9 = .ok (.aload_n 3, 1) := by decide +kernel
theorem dX4_strike_10 : decode cX4_strike 10 = .ok (.iload_n 2, 1) := by decide +kernel
theorem dX4_strike_11 : decode cX4_strike 11 = .ok (.invokevirtual 256, 3) := by decide +kernel
theorem dX4_strike_14 : decode cX4_strike 14 = .ok (.istore 4, 2) := by decide +kernel
theorem dX4_strike_16 : decode cX4_strike 16 = .ok (.aload_n 3, 1) := by decide +kernel
theorem dX4_strike_17 : decode cX4_strike 17 = .ok (.iload 4, 2) := by decide +kernel
theorem dX4_strike_19 : decode cX4_strike 19 = .ok (.invokevirtual 171, 3) := by decide +kernel
theorem dX4_strike_22 : decode cX4_strike 22 = .ok (.iload 4, 2) := by decide +kernel
theorem dX4_strike_24 : decode cX4_strike 24 = .ok (.ifCond .lt 7, 3) := by decide +kernel
theorem dX4_strike_27 : decode cX4_strike 27 = .ok (.iconst 1, 1) := by decide +kernel
theorem dX4_strike_28 : decode cX4_strike 28 = .ok (.goto 4, 3) := by decide +kernel
theorem dX4_strike_31 : decode cX4_strike 31 = .ok (.iconst 0, 1) := by decide +kernel
theorem dX4_strike_32 : decode cX4_strike 32 = .ok (.ireturn, 1) := by decide +kernel
theorem dX4_hasNumber_0 : decode cX4_hasNumber 0 = .ok (.aload_n 0, 1) := by decide +kernel
theorem dX4_hasNumber_1 : decode cX4_hasNumber 1 = .ok (.iload_n 1, 1) := by decide +kernel
theorem dX4_hasNumber_2 : decode cX4_hasNumber 2 = .ok (.invokevirtual 262, 3) := by decide +kernel
theorem dX4_hasNumber_5 : decode cX4_hasNumber 5 = .ok (.iload_n 2, 1) := by decide +kernel
theorem dX4_hasNumber_6 : decode cX4_hasNumber 6 = .ok (.invokevirtual 265, 3) := by decide +kernel
theorem dX4_hasNumber_9 : decode cX4_hasNumber 9 = .ok (.ifCond .lt 7, 3) := by decide +kernel
theorem dX4_hasNumber_12 : decode cX4_hasNumber 12 = .ok (.iconst 1, 1) := by decide +kernel
theorem dX4_hasNumber_13 : decode cX4_hasNumber 13 = .ok (.goto 4, 3) := by decide +kernel
theorem dX4_hasNumber_16 : decode cX4_hasNumber 16 = .ok (.iconst 0, 1) := by decide +kernel
theorem dX4_hasNumber_17 : decode cX4_hasNumber 17 = .ok (.ireturn, 1) := by decide +kernel
theorem dX4_thingOf_0 : decode cX4_thingOf 0 = .ok (.aload_n 0, 1) := by decide +kernel
theorem dX4_thingOf_1 : decode cX4_thingOf 1 = .ok (.iload_n 1, 1) := by decide +kernel
theorem dX4_thingOf_2 : decode cX4_thingOf 2 = .ok (.invokevirtual 89, 3) := by decide +kernel
theorem dX4_thingOf_5 : decode cX4_thingOf 5 = .ok (.astore_n 3, 1) := by decide +kernel
theorem dX4_thingOf_6 : decode cX4_thingOf 6 = .ok (.aload_n 3, 1) := by decide +kernel
theorem dX4_thingOf_7 : decode cX4_thingOf 7 = .ok (.iload_n 2, 1) := by decide +kernel
theorem dX4_thingOf_8 : decode cX4_thingOf 8 = .ok (.invokevirtual 265, 3) := by decide +kernel
theorem dX4_thingOf_11 : decode cX4_thingOf 11 = .ok (.istore 4, 2) := by decide +kernel
theorem dX4_thingOf_13 : decode cX4_thingOf 13 = .ok (.iload 4, 2) := by decide +kernel
theorem dX4_thingOf_15 : decode cX4_thingOf 15 = .ok (.ifCond .ge 11, 3) := by decide +kernel
theorem dX4_thingOf_18 : decode cX4_thingOf 18 = .ok (.new 57, 3) := by decide +kernel
theorem dX4_thingOf_21 : decode cX4_thingOf 21 = .ok (.dup, 1) := by decide +kernel
theorem dX4_thingOf_22 : decode cX4_thingOf 22 = .ok (.invokespecial 59, 3) := by decide +kernel
theorem dX4_thingOf_25 : decode cX4_thingOf 25 = .ok (.athrow, 1) := by decide +kernel
theorem dX4_thingOf_26 : decode cX4_thingOf 26 = .ok (.aload_n 3, 1) := by decide +kernel
theorem dX4_thingOf_27 : decode cX4_thingOf 27 = .ok (.iload 4, 2) := by decide +kernel
theorem dX4_thingOf_29 : decode cX4_thingOf 29 = .ok (.invokevirtual 164, 3) := by decide +kernel
theorem dX4_thingOf_32 : decode cX4_thingOf 32 = .ok (.ireturn, 1) := by decide +kernel
theorem dX4_numberAt_0 : decode cX4_numberAt 0 = .ok (.aload_n 0, 1) := by decide +kernel
theorem dX4_numberAt_1 : decode cX4_numberAt 1 = .ok (.iload_n 1, 1) := by decide +kernel
theorem dX4_numberAt_2 : decode cX4_numberAt 2 = .ok (.invokevirtual 262, 3) := by decide +kernel
theorem dX4_numberAt_5 : decode cX4_numberAt 5 = .ok (.astore_n 3, 1) := by decide +kernel
theorem dX4_numberAt_6 : decode cX4_numberAt 6 = .ok (.aload_n 3, 1) := by decide +kernel
theorem dX4_numberAt_7 : decode cX4_numberAt 7 = .ok (.iload_n 2, 1) := by decide +kernel
theorem dX4_numberAt_8 : decode cX4_numberAt 8 = .ok (.invokestatic 131, 3) := by decide +kernel
theorem dX4_numberAt_11 : decode cX4_numberAt 11 = .ok (.aload_n 3, 1) := by decide +kernel
theorem dX4_numberAt_12 : decode cX4_numberAt 12 = .ok (.iload_n 2, 1) := by decide +kernel
theorem dX4_numberAt_13 : decode cX4_numberAt 13 = .ok (.invokevirtual 210, 3) := by decide +kernel
theorem dX4_numberAt_16 : decode cX4_numberAt 16 = .ok (.ireturn, 1) := by decide +kernel
theorem dX4_keepKeys_0 : decode cX4_keepKeys 0 = .ok (.iload_n 1, 1) := by decide +kernel
theorem dX4_keepKeys_1 : decode cX4_keepKeys 1 = .ok (.iload_n 2, 1) := by decide +kernel
theorem dX4_keepKeys_2 : decode cX4_keepKeys 2 = .ok (.invokestatic 191, 3) := by decide +kernel
theorem dX4_keepKeys_5 : decode cX4_keepKeys 5 = .ok (.aload_n 0, 1) := by decide +kernel
theorem dX4_keepKeys_6 : decode cX4_keepKeys 6 = .ok (.iload_n 1, 1) := by decide +kernel
theorem dX4_keepKeys_7 : decode cX4_keepKeys 7 = .ok (.invokevirtual 268, 3) := by decide +kernel
theorem dX4_keepKeys_10 : decode cX4_keepKeys 10 = .ok (.astore 4, 2) := by decide +kernel
theorem dX4_keepKeys_12 : decode cX4_keepKeys 12 = .ok (.aload_n 0, 1) := by decide +kernel
theorem dX4_keepKeys_13 : decode cX4_keepKeys 13 = .ok (.iload_n 2, 1) := by decide +kernel
theorem dX4_keepKeys_14 : decode cX4_keepKeys 14 = .ok (.invokevirtual 268, 3) := by decide +kernel
theorem dX4_keepKeys_17 : decode cX4_keepKeys 17 = .ok (.astore 5, 2) := by decide +kernel
theorem dX4_keepKeys_19 : decode cX4_keepKeys 19 = .ok (.aload 4, 2) := by decide +kernel
theorem dX4_keepKeys_21 : decode cX4_keepKeys 21 = .ok (.invokestatic 146, 3) := by decide +kernel
theorem dX4_keepKeys_24 : decode cX4_keepKeys 24 = .ok (.astore 6, 2) := by decide +kernel
theorem dX4_keepKeys_26 : decode cX4_keepKeys 26 = .ok (.iconst 0, 1) := by decide +kernel
theorem dX4_keepKeys_27 : decode cX4_keepKeys 27 = .ok (.istore 7, 2) := by decide +kernel
theorem dX4_keepKeys_29 : decode cX4_keepKeys 29 = .ok (.iload 7, 2) := by decide +kernel
theorem dX4_keepKeys_31 : decode cX4_keepKeys 31 = .ok (.aload 4, 2) := by decide +kernel
theorem dX4_keepKeys_33 : decode cX4_keepKeys 33 = .ok (.invokevirtual 53, 3) := by decide +kernel
theorem dX4_keepKeys_36 : decode cX4_keepKeys 36 = .ok (.if_icmp .ge 48, 3) := by decide +kernel
theorem dX4_keepKeys_39 : decode cX4_keepKeys 39 = .ok (.aload 5, 2) := by decide +kernel
theorem dX4_keepKeys_41 : decode cX4_keepKeys 41 = .ok (.aload 4, 2) := by decide +kernel
theorem dX4_keepKeys_43 : decode cX4_keepKeys 43 = .ok (.iload 7, 2) := by decide +kernel
theorem dX4_keepKeys_45 : decode cX4_keepKeys 45 = .ok (.invokevirtual 210, 3) := by decide +kernel
theorem dX4_keepKeys_48 : decode cX4_keepKeys 48 = .ok (.invokevirtual 265, 3) := by decide +kernel
theorem dX4_keepKeys_51 : decode cX4_keepKeys 51 = .ok (.ifCond .lt 7, 3) := by decide +kernel
theorem dX4_keepKeys_54 : decode cX4_keepKeys 54 = .ok (.iconst 1, 1) := by decide +kernel
theorem dX4_keepKeys_55 : decode cX4_keepKeys 55 = .ok (.goto 4, 3) := by decide +kernel
theorem dX4_keepKeys_58 : decode cX4_keepKeys 58 = .ok (.iconst 0, 1) := by decide +kernel
theorem dX4_keepKeys_59 : decode cX4_keepKeys 59 = .ok (.istore 8, 2) := by decide +kernel
theorem dX4_keepKeys_61 : decode cX4_keepKeys 61 = .ok (.aload_n 0, 1) := by decide +kernel
theorem dX4_keepKeys_62 : decode cX4_keepKeys 62 = .ok (.iload 7, 2) := by decide +kernel
theorem dX4_keepKeys_64 : decode cX4_keepKeys 64 = .ok (.iload 8, 2) := by decide +kernel
theorem dX4_keepKeys_66 : decode cX4_keepKeys 66 = .ok (.iload_n 3, 1) := by decide +kernel
theorem dX4_keepKeys_67 : decode cX4_keepKeys 67 = .ok (.if_icmp .eq 7, 3) := by decide +kernel
theorem dX4_keepKeys_70 : decode cX4_keepKeys 70 = .ok (.iconst 1, 1) := by decide +kernel
theorem dX4_keepKeys_71 : decode cX4_keepKeys 71 = .ok (.goto 4, 3) := by decide +kernel
theorem dX4_keepKeys_74 : decode cX4_keepKeys 74 = .ok (.iconst 0, 1) := by decide +kernel
theorem dX4_keepKeys_75 : decode cX4_keepKeys 75 = .ok (.invokevirtual 183, 3) := by decide +kernel
theorem dX4_keepKeys_78 : decode cX4_keepKeys 78 = .ok (.iinc 7 1, 3) := by decide +kernel
theorem dX4_keepKeys_81 : decode cX4_keepKeys 81 = .ok (.goto (-52), 3) := by decide +kernel
theorem dX4_keepKeys_84 : decode cX4_keepKeys 84 = .ok (.aload_n 0, 1) := by decide +kernel
theorem dX4_keepKeys_85 : decode cX4_keepKeys 85 = .ok (.aload 4, 2) := by decide +kernel
theorem dX4_keepKeys_87 : decode cX4_keepKeys 87 = .ok (.aload 6, 2) := by decide +kernel
theorem dX4_keepKeys_89 : decode cX4_keepKeys 89 = .ok (.invokevirtual 187, 3) := by decide +kernel
theorem dX4_keepKeys_92 : decode cX4_keepKeys 92 = .ok (.ireturn, 1) := by decide +kernel
theorem dX4_share_0 : decode cX4_share 0 = .ok (.aload_n 0, 1) := by decide +kernel
theorem dX4_share_1 : decode cX4_share 1 = .ok (.iload_n 1, 1) := by decide +kernel
theorem dX4_share_2 : decode cX4_share 2 = .ok (.invokevirtual 174, 3) := by decide +kernel
theorem dX4_share_5 : decode cX4_share 5 = .ok (.astore_n 2, 1) := by decide +kernel
theorem dX4_share_6 : decode cX4_share 6 = .ok (.aload_n 2, 1) := by decide +kernel
theorem dX4_share_7 : decode cX4_share 7 = .ok (.invokevirtual 53, 3) := by decide +kernel
theorem dX4_share_10 : decode cX4_share 10 = .ok (.istore_n 3, 1) := by decide +kernel
theorem dX4_share_11 : decode cX4_share 11 = .ok (.iload_n 3, 1) := by decide +kernel
theorem dX4_share_12 : decode cX4_share 12 = .ok (.ifCond .ne 11, 3) := by decide +kernel
theorem dX4_share_15 : decode cX4_share 15 = .ok (.new 271, 3) := by decide +kernel
theorem dX4_share_18 : decode cX4_share 18 = .ok (.dup, 1) := by decide +kernel
theorem dX4_share_19 : decode cX4_share 19 = .ok (.invokespecial 273, 3) := by decide +kernel
theorem dX4_share_22 : decode cX4_share 22 = .ok (.athrow, 1) := by decide +kernel
theorem dX4_share_23 : decode cX4_share 23 = .ok (.iconst 0, 1) := by decide +kernel
theorem dX4_share_24 : decode cX4_share 24 = .ok (.istore 4, 2) := by decide +kernel
theorem dX4_share_26 : decode cX4_share 26 = .ok (.iconst 0, 1) := by decide +kernel
theorem dX4_share_27 : decode cX4_share 27 = .ok (.istore 5, 2) := by decide +kernel
theorem dX4_share_29 : decode cX4_share 29 = .ok (.iload 5, 2) := by decide +kernel
theorem dX4_share_31 : decode cX4_share 31 = .ok (.iload_n 3, 1) := by decide +kernel
theorem dX4_share_32 : decode cX4_share 32 = .ok (.if_icmp .ge 21, 3) := by decide +kernel
theorem dX4_share_35 : decode cX4_share 35 = .ok (.aload_n 2, 1) := by decide +kernel
theorem dX4_share_36 : decode cX4_share 36 = .ok (.iload 5, 2) := by decide +kernel
theorem dX4_share_38 : decode cX4_share 38 = .ok (.invokevirtual 135, 3) := by decide +kernel
theorem dX4_share_41 : decode cX4_share 41 = .ok (.ifCond .le 6, 3) := by decide +kernel
theorem dX4_share_44 : decode cX4_share 44 = .ok (.iinc 4 1, 3) := by decide +kernel
theorem dX4_share_47 : decode cX4_share 47 = .ok (.iinc 5 1, 3) := by decide +kernel
theorem dX4_share_50 : decode cX4_share 50 = .ok (.goto (-21), 3) := by decide +kernel
theorem dX4_share_53 : decode cX4_share 53 = .ok (.iload 4, 2) := by decide +kernel
theorem dX4_share_55 : decode cX4_share 55 = .ok (.i2f, 1) := by decide +kernel
theorem dX4_share_56 : decode cX4_share 56 = .ok (.iload_n 3, 1) := by decide +kernel
theorem dX4_share_57 : decode cX4_share 57 = .ok (.i2f, 1) := by decide +kernel
theorem dX4_share_58 : decode cX4_share 58 = .ok (.fdiv, 1) := by decide +kernel
theorem dX4_share_59 : decode cX4_share 59 = .ok (.freturn, 1) := by decide +kernel
theorem dX4_meanKey_0 : decode cX4_meanKey 0 = .ok (.aload_n 0, 1) := by decide +kernel
theorem dX4_meanKey_1 : decode cX4_meanKey 1 = .ok (.iload_n 1, 1) := by decide +kernel
theorem dX4_meanKey_2 : decode cX4_meanKey 2 = .ok (.invokevirtual 174, 3) := by decide +kernel
theorem dX4_meanKey_5 : decode cX4_meanKey 5 = .ok (.astore_n 2, 1) := by decide +kernel
theorem dX4_meanKey_6 : decode cX4_meanKey 6 = .ok (.aload_n 2, 1) := by decide +kernel
theorem dX4_meanKey_7 : decode cX4_meanKey 7 = .ok (.invokevirtual 53, 3) := by decide +kernel
theorem dX4_meanKey_10 : decode cX4_meanKey 10 = .ok (.istore_n 3, 1) := by decide +kernel
theorem dX4_meanKey_11 : decode cX4_meanKey 11 = .ok (.iload_n 3, 1) := by decide +kernel
theorem dX4_meanKey_12 : decode cX4_meanKey 12 = .ok (.ifCond .ne 11, 3) := by decide +kernel
theorem dX4_meanKey_15 : decode cX4_meanKey 15 = .ok (.new 271, 3) := by decide +kernel
theorem dX4_meanKey_18 : decode cX4_meanKey 18 = .ok (.dup, 1) := by decide +kernel
theorem dX4_meanKey_19 : decode cX4_meanKey 19 = .ok (.invokespecial 273, 3) := by decide +kernel
theorem dX4_meanKey_22 : decode cX4_meanKey 22 = .ok (.athrow, 1) := by decide +kernel
theorem dX4_meanKey_23 : decode cX4_meanKey 23 = .ok (.iconst 0, 1) := by decide +kernel
theorem dX4_meanKey_24 : decode cX4_meanKey 24 = .ok (.istore 4, 2) := by decide +kernel
theorem dX4_meanKey_26 : decode cX4_meanKey 26 = .ok (.iconst 0, 1) := by decide +kernel
theorem dX4_meanKey_27 : decode cX4_meanKey 27 = .ok (.istore 5, 2) := by decide +kernel
theorem dX4_meanKey_29 : decode cX4_meanKey 29 = .ok (.iload 5, 2) := by decide +kernel
theorem dX4_meanKey_31 : decode cX4_meanKey 31 = .ok (.iload_n 3, 1) := by decide +kernel
theorem dX4_meanKey_32 : decode cX4_meanKey 32 = .ok (.if_icmp .ge 20, 3) := by decide +kernel
theorem dX4_meanKey_35 : decode cX4_meanKey 35 = .ok (.iload 4, 2) := by decide +kernel
theorem dX4_meanKey_37 : decode cX4_meanKey 37 = .ok (.aload_n 2, 1) := by decide +kernel
theorem dX4_meanKey_38 : decode cX4_meanKey 38 = .ok (.iload 5, 2) := by decide +kernel
theorem dX4_meanKey_40 : decode cX4_meanKey 40 = .ok (.invokevirtual 135, 3) := by decide +kernel
theorem dX4_meanKey_43 : decode cX4_meanKey 43 = .ok (.iadd, 1) := by decide +kernel
theorem dX4_meanKey_44 : decode cX4_meanKey 44 = .ok (.istore 4, 2) := by decide +kernel
theorem dX4_meanKey_46 : decode cX4_meanKey 46 = .ok (.iinc 5 1, 3) := by decide +kernel
theorem dX4_meanKey_49 : decode cX4_meanKey 49 = .ok (.goto (-20), 3) := by decide +kernel
theorem dX4_meanKey_52 : decode cX4_meanKey 52 = .ok (.iload 4, 2) := by decide +kernel
theorem dX4_meanKey_54 : decode cX4_meanKey 54 = .ok (.i2d, 1) := by decide +kernel
theorem dX4_meanKey_55 : decode cX4_meanKey 55 = .ok (.iload_n 3, 1) := by decide +kernel
theorem dX4_meanKey_56 : decode cX4_meanKey 56 = .ok (.i2d, 1) := by decide +kernel
theorem dX4_meanKey_57 : decode cX4_meanKey 57 = .ok (.ddiv, 1) := by decide +kernel
theorem dX4_meanKey_58 : decode cX4_meanKey 58 = .ok (.dreturn, 1) := by decide +kernel
theorem dX4_checksum_0 : decode cX4_checksum 0 = .ok (.ldc2_w 103, 3) := by decide +kernel
theorem dX4_checksum_3 : decode cX4_checksum 3 = .ok (.lstore_n 1, 1) := by decide +kernel
theorem dX4_checksum_4 : decode cX4_checksum 4 = .ok (.iconst 0, 1) := by decide +kernel
theorem dX4_checksum_5 : decode cX4_checksum 5 = .ok (.istore_n 3, 1) := by decide +kernel
theorem dX4_checksum_6 : decode cX4_checksum 6 = .ok (.iload_n 3, 1) := by decide +kernel
theorem dX4_checksum_7 : decode cX4_checksum 7 = .ok (.bipush 12, 2) := by decide +kernel
theorem dX4_checksum_9 : decode cX4_checksum 9 = .ok (.if_icmp .ge 69, 3) := by decide +kernel
theorem dX4_checksum_12 : decode cX4_checksum 12 = .ok (.aload_n 0, 1) := by decide +kernel
theorem dX4_checksum_13 : decode cX4_checksum 13 = .ok (.getfield 11, 3) := by decide +kernel
theorem dX4_checksum_16 : decode cX4_checksum 16 = .ok (.iload_n 3, 1) := by decide +kernel
theorem dX4_checksum_17 : decode cX4_checksum 17 = .ok (.aaload, 1) := by decide +kernel
theorem dX4_checksum_18 : decode cX4_checksum 18 = .ok (.astore 4, 2) := by decide +kernel
theorem dX4_checksum_20 : decode cX4_checksum 20 = .ok (.aload 4, 2) := by decide +kernel
theorem dX4_checksum_22 : decode cX4_checksum 22 = .ok (.ifnonnull 16, 3) := by decide +kernel
theorem dX4_checksum_25 : decode cX4_checksum 25 = .ok (.ldc2_w 274, 3) := by decide +kernel
theorem dX4_checksum_28 : decode cX4_checksum 28 = .ok (.lload_n 1, 1) := by decide +kernel
theorem dX4_checksum_29 : decode cX4_checksum 29 = .ok (.lmul, 1) := by decide +kernel
theorem dX4_checksum_30 : decode cX4_checksum 30 = .ok (.ldc2_w 276, 3) := by decide +kernel
theorem dX4_checksum_33 : decode cX4_checksum 33 = .ok (.ladd, 1) := by decide +kernel
theorem dX4_checksum_34 : decode cX4_checksum 34 = .ok (.lstore_n 1, 1) := by decide +kernel
theorem dX4_checksum_35 : decode cX4_checksum 35 = .ok (.goto 37, 3) := by decide +kernel
theorem dX4_checksum_38 : decode cX4_checksum 38 = .ok (.ldc2_w 274, 3) := by decide +kernel
theorem dX4_checksum_41 : decode cX4_checksum 41 = .ok (.lload_n 1, 1) := by decide +kernel
theorem dX4_checksum_42 : decode cX4_checksum 42 = .ok (.lmul, 1) := by decide +kernel
theorem dX4_checksum_43 : decode cX4_checksum 43 = .ok (.aload 4, 2) := by decide +kernel
theorem dX4_checksum_45 : decode cX4_checksum 45 = .ok (.getfield 46, 3) := by decide +kernel
theorem dX4_checksum_48 : decode cX4_checksum 48 = .ok (.i2l, 1) := by decide +kernel
theorem dX4_checksum_49 : decode cX4_checksum 49 = .ok (.ladd, 1) := by decide +kernel
theorem dX4_checksum_50 : decode cX4_checksum 50 = .ok (.lstore_n 1, 1) := by decide +kernel
theorem dX4_checksum_51 : decode cX4_checksum 51 = .ok (.ldc2_w 274, 3) := by decide +kernel
theorem dX4_checksum_54 : decode cX4_checksum 54 = .ok (.lload_n 1, 1) := by decide +kernel
theorem dX4_checksum_55 : decode cX4_checksum 55 = .ok (.lmul, 1) := by decide +kernel
theorem dX4_checksum_56 : decode cX4_checksum 56 = .ok (.aload 4, 2) := by decide +kernel
theorem dX4_checksum_58 : decode cX4_checksum 58 = .ok (.invokevirtual 53, 3) := by decide +kernel
theorem dX4_checksum_61 : decode cX4_checksum 61 = .ok (.i2l, 1) := by decide +kernel
theorem dX4_checksum_62 : decode cX4_checksum 62 = .ok (.ladd, 1) := by decide +kernel
theorem dX4_checksum_63 : decode cX4_checksum 63 = .ok (.lstore_n 1, 1) := by decide +kernel
theorem dX4_checksum_64 : decode cX4_checksum 64 = .ok (.aload 4, 2) := by decide +kernel
theorem dX4_checksum_66 : decode cX4_checksum 66 = .ok (.lload_n 1, 1) := by decide +kernel
theorem dX4_checksum_67 : decode cX4_checksum 67 = .ok (.iconst 0, 1) := by decide +kernel
theorem dX4_checksum_68 : decode cX4_checksum 68 = .ok (.invokevirtual 105, 3) := by decide +kernel
theorem dX4_checksum_71 : decode cX4_checksum 71 = .ok (.lstore_n 1, 1) := by decide +kernel
theorem dX4_checksum_72 : decode cX4_checksum 72 = .ok (.iinc 3 1, 3) := by decide +kernel
theorem dX4_checksum_75 : decode cX4_checksum 75 = .ok (.goto (-69), 3) := by decide +kernel
theorem dX4_checksum_78 : decode cX4_checksum 78 = .ok (.lload_n 1, 1) := by decide +kernel
theorem dX4_checksum_79 : decode cX4_checksum 79 = .ok (.lreturn, 1) := by decide +kernel
theorem dX4_isSound_0 : decode cX4_isSound 0 = .ok (.iconst 0, 1) := by decide +kernel
theorem dX4_isSound_1 : decode cX4_isSound 1 = .ok (.istore_n 1, 1) := by decide +kernel
theorem dX4_isSound_2 : decode cX4_isSound 2 = .ok (.iload_n 1, 1) := by decide +kernel
theorem dX4_isSound_3 : decode cX4_isSound 3 = .ok (.bipush 12, 2) := by decide +kernel
theorem dX4_isSound_5 : decode cX4_isSound 5 = .ok (.if_icmp .ge 90, 3) := by decide +kernel
theorem dX4_isSound_8 : decode cX4_isSound 8 = .ok (.aload_n 0, 1) := by decide +kernel
theorem dX4_isSound_9 : decode cX4_isSound 9 = .ok (.getfield 11, 3) := by decide +kernel
theorem dX4_isSound_12 : decode cX4_isSound 12 = .ok (.iload_n 1, 1) := by decide +kernel
theorem dX4_isSound_13 : decode cX4_isSound 13 = .ok (.aaload, 1) := by decide +kernel
theorem dX4_isSound_14 : decode cX4_isSound 14 = .ok (.astore_n 2, 1) := by decide +kernel
theorem dX4_isSound_15 : decode cX4_isSound 15 = .ok (.aload_n 2, 1) := by decide +kernel
theorem dX4_isSound_16 : decode cX4_isSound 16 = .ok (.ifnull 28, 3) := by decide +kernel
theorem dX4_isSound_19 : decode cX4_isSound 19 = .ok (.aload_n 0, 1) := by decide +kernel
theorem dX4_isSound_20 : decode cX4_isSound 20 = .ok (.getfield 34, 3) := by decide +kernel
theorem dX4_isSound_23 : decode cX4_isSound 23 = .ok (.aload_n 2, 1) := by decide +kernel
theorem dX4_isSound_24 : decode cX4_isSound 24 = .ok (.invokevirtual 278, 3) := by decide +kernel
theorem dX4_isSound_27 : decode cX4_isSound 27 = .ok (.ifCond .eq 15, 3) := by decide +kernel
theorem dX4_isSound_30 : decode cX4_isSound 30 = .ok (.aload_n 2, 1) := by decide +kernel
theorem dX4_isSound_31 : decode cX4_isSound 31 = .ok (.aload_n 0, 1) := by decide +kernel
theorem dX4_isSound_32 : decode cX4_isSound 32 = .ok (.aload_n 2, 1) := by decide +kernel
theorem dX4_isSound_33 : decode cX4_isSound 33 = .ok (.invokevirtual 281, 3) := by decide +kernel
theorem dX4_isSound_36 : decode cX4_isSound 36 = .ok (.invokevirtual 285, 3) := by decide +kernel
theorem dX4_isSound_39 : decode cX4_isSound 39 = .ok (.ifCond .ne 5, 3) := by decide +kernel
theorem dX4_isSound_42 : decode cX4_isSound 42 = .ok (.iconst 0, 1) := by decide +kernel
theorem dX4_isSound_43 : decode cX4_isSound 43 = .ok (.ireturn, 1) := by decide +kernel
theorem dX4_isSound_44 : decode cX4_isSound 44 = .ok (.iconst 0, 1) := by decide +kernel
theorem dX4_isSound_45 : decode cX4_isSound 45 = .ok (.istore_n 3, 1) := by decide +kernel
theorem dX4_isSound_46 : decode cX4_isSound 46 = .ok (.iload_n 3, 1) := by decide +kernel
theorem dX4_isSound_47 : decode cX4_isSound 47 = .ok (.iload_n 1, 1) := by decide +kernel
theorem dX4_isSound_48 : decode cX4_isSound 48 = .ok (.if_icmp .ge 41, 3) := by decide +kernel
theorem dX4_isSound_51 : decode cX4_isSound 51 = .ok (.aload_n 2, 1) := by decide +kernel
theorem dX4_isSound_52 : decode cX4_isSound 52 = .ok (.ifnull 31, 3) := by decide +kernel
theorem dX4_isSound_55 : decode cX4_isSound 55 = .ok (.aload_n 0, 1) := by decide +kernel
theorem dX4_isSound_56 : decode cX4_isSound 56 = .ok (.getfield 11, 3) := by decide +kernel
theorem dX4_isSound_59 : decode cX4_isSound 59 = .ok (.iload_n 3, 1) := by decide +kernel
theorem dX4_isSound_60 : decode cX4_isSound 60 = .ok (.aaload, 1) := by decide +kernel
theorem dX4_isSound_61 : decode cX4_isSound 61 = .ok (.ifnull 22, 3) := by decide +kernel
theorem dX4_isSound_64 : decode cX4_isSound 64 = .ok (.aload_n 0, 1) := by decide +kernel
theorem dX4_isSound_65 : decode cX4_isSound 65 = .ok (.getfield 34, 3) := by decide +kernel
theorem dX4_isSound_68 : decode cX4_isSound 68 = .ok (.aload_n 2, 1) := by decide +kernel
theorem dX4_isSound_69 : decode cX4_isSound 69 = .ok (.aload_n 0, 1) := by decide +kernel
theorem dX4_isSound_70 : decode cX4_isSound 70 = .ok (.getfield 11, 3) := by decide +kernel
theorem dX4_isSound_73 : decode cX4_isSound 73 = .ok (.iload_n 3, 1) := by decide +kernel
theorem dX4_isSound_74 : decode cX4_isSound 74 = .ok (.aaload, 1) := by decide +kernel
theorem dX4_isSound_75 : decode cX4_isSound 75 = .ok (.invokevirtual 288, 3) := by decide +kernel
theorem dX4_isSound_78 : decode cX4_isSound 78 = .ok (.ifCond .ne 5, 3) := by decide +kernel
theorem dX4_isSound_81 : decode cX4_isSound 81 = .ok (.iconst 0, 1) := by decide +kernel
theorem dX4_isSound_82 : decode cX4_isSound 82 = .ok (.ireturn, 1) := by decide +kernel
theorem dX4_isSound_83 : decode cX4_isSound 83 = .ok (.iinc 3 1, 3) := by decide +kernel
theorem dX4_isSound_86 : decode cX4_isSound 86 = .ok (.goto (-40), 3) := by decide +kernel
theorem dX4_isSound_89 : decode cX4_isSound 89 = .ok (.iinc 1 1, 3) := by decide +kernel
theorem dX4_isSound_92 : decode cX4_isSound 92 = .ok (.goto (-90), 3) := by decide +kernel
theorem dX4_isSound_95 : decode cX4_isSound 95 = .ok (.iconst 1, 1) := by decide +kernel
theorem dX4_isSound_96 : decode cX4_isSound 96 = .ok (.ireturn, 1) := by decide +kernel
theorem dX4_bottomOf_0 : decode cX4_bottomOf 0 = .ok (.iconst 0, 1) := by decide +kernel
theorem dX4_bottomOf_1 : decode cX4_bottomOf 1 = .ok (.istore_n 2, 1) := by decide +kernel
theorem dX4_bottomOf_2 : decode cX4_bottomOf 2 = .ok (.iload_n 2, 1) := by decide +kernel
theorem dX4_bottomOf_3 : decode cX4_bottomOf 3 = .ok (.iconst 4, 1) := by decide +kernel
theorem dX4_bottomOf_4 : decode cX4_bottomOf 4 = .ok (.if_icmp .ge 41, 3) := by decide +kernel
theorem dX4_bottomOf_7 : decode cX4_bottomOf 7 = .ok (.aload_n 0, 1) := by decide +kernel
theorem dX4_bottomOf_8 : decode cX4_bottomOf 8 = .ok (.getfield 11, 3) := by decide +kernel
theorem dX4_bottomOf_11 : decode cX4_bottomOf 11 = .ok (.iload_n 2, 1) := by decide +kernel
theorem dX4_bottomOf_12 : decode cX4_bottomOf 12 = .ok (.aaload, 1) := by decide +kernel
theorem dX4_bottomOf_13 : decode cX4_bottomOf 13 = .ok (.ifnull 26, 3) := by decide +kernel
theorem dX4_bottomOf_16 : decode cX4_bottomOf 16 = .ok (.aload_n 0, 1) := by decide +kernel
theorem dX4_bottomOf_17 : decode cX4_bottomOf 17 = .ok (.getfield 11, 3) := by decide +kernel
theorem dX4_bottomOf_20 : decode cX4_bottomOf 20 = .ok (.iload_n 2, 1) := by decide +kernel
theorem dX4_bottomOf_21 : decode cX4_bottomOf 21 = .ok (.aaload, 1) := by decide +kernel
theorem dX4_bottomOf_22 : decode cX4_bottomOf 22 = .ok (.getfield 72, 3) := by decide +kernel
theorem dX4_bottomOf_25 : decode cX4_bottomOf 25 = .ok (.aload_n 1, 1) := by decide +kernel
theorem dX4_bottomOf_26 : decode cX4_bottomOf 26 = .ok (.getfield 72, 3) := by decide +kernel
theorem dX4_bottomOf_29 : decode cX4_bottomOf 29 = .ok (.if_acmp .ne 10, 3) := by decide +kernel
theorem dX4_bottomOf_32 : decode cX4_bottomOf 32 = .ok (.aload_n 0, 1) := by decide +kernel
theorem dX4_bottomOf_33 : decode cX4_bottomOf 33 = .ok (.getfield 11, 3) := by decide +kernel
theorem dX4_bottomOf_36 : decode cX4_bottomOf 36 = .ok (.iload_n 2, 1) := by decide +kernel
theorem dX4_bottomOf_37 : decode cX4_bottomOf 37 = .ok (.aaload, 1) := by decide +kernel
theorem dX4_bottomOf_38 : decode cX4_bottomOf 38 = .ok (.areturn, 1) := by decide +kernel
theorem dX4_bottomOf_39 : decode cX4_bottomOf 39 = .ok (.iinc 2 1, 3) := by decide +kernel
theorem dX4_bottomOf_42 : decode cX4_bottomOf 42 = .ok (.goto (-40), 3) := by decide +kernel
theorem dX4_bottomOf_45 : decode cX4_bottomOf 45 = .ok (.aconst_null, 1) := by decide +kernel
theorem dX4_bottomOf_46 : decode cX4_bottomOf 46 = .ok (.areturn, 1) := by decide +kernel
theorem dX4_needSlots_0 : decode cX4_needSlots 0 = .ok (.iload_n 0, 1) := by decide +kernel
theorem dX4_needSlots_1 : decode cX4_needSlots 1 = .ok (.ifCond .lt 19, 3) := by decide +kernel
theorem dX4_needSlots_4 : decode cX4_needSlots 4 = .ok (.iload_n 0, 1) := by decide +kernel
theorem dX4_needSlots_5 : decode cX4_needSlots 5 = .ok (.bipush 12, 2) := by decide +kernel
theorem dX4_needSlots_7 : decode cX4_needSlots 7 = .ok (.if_icmp .ge 13, 3) := by decide +kernel
theorem dX4_needSlots_10 : decode cX4_needSlots 10 = .ok (.iload_n 1, 1) := by decide +kernel
theorem dX4_needSlots_11 : decode cX4_needSlots 11 = .ok (.ifCond .lt 9, 3) := by decide +kernel
theorem dX4_needSlots_14 : decode cX4_needSlots 14 = .ok (.iload_n 1, 1) := by decide +kernel
theorem dX4_needSlots_15 : decode cX4_needSlots 15 = .ok (.bipush 12, 2) := by decide +kernel
theorem dX4_needSlots_17 : decode cX4_needSlots 17 = .ok (.if_icmp .lt 11, 3) := by decide +kernel
theorem dX4_needSlots_20 : decode cX4_needSlots 20 = .ok (.new 292, 3) := by decide +kernel
theorem dX4_needSlots_23 : decode cX4_needSlots 23 = .ok (.dup, 1) := by decide +kernel
theorem dX4_needSlots_24 : decode cX4_needSlots 24 = .ok (.invokespecial 294, 3) := by decide +kernel
theorem dX4_needSlots_27 : decode cX4_needSlots 27 = .ok (.athrow, 1) := by decide +kernel
theorem dX4_needSlots_28 : decode cX4_needSlots 28 = .ok (.return_, 1) := by decide +kernel
theorem dX4_needPaneSlot_0 : decode cX4_needPaneSlot 0 = .ok (.iload_n 0, 1) := by decide +kernel
theorem dX4_needPaneSlot_1 : decode cX4_needPaneSlot 1 = .ok (.iconst 4, 1) := by decide +kernel
theorem dX4_needPaneSlot_2 : decode cX4_needPaneSlot 2 = .ok (.if_icmp .lt 9, 3) := by decide +kernel
theorem dX4_needPaneSlot_5 : decode cX4_needPaneSlot 5 = .ok (.iload_n 0, 1) := by decide +kernel
theorem dX4_needPaneSlot_6 : decode cX4_needPaneSlot 6 = .ok (.bipush 12, 2) := by decide +kernel
theorem dX4_needPaneSlot_8 : decode cX4_needPaneSlot 8 = .ok (.if_icmp .lt 11, 3) := by decide +kernel
theorem dX4_needPaneSlot_11 : decode cX4_needPaneSlot 11 = .ok (.new 292, 3) := by decide +kernel
theorem dX4_needPaneSlot_14 : decode cX4_needPaneSlot 14 = .ok (.dup, 1) := by decide +kernel
theorem dX4_needPaneSlot_15 : decode cX4_needPaneSlot 15 = .ok (.invokespecial 294, 3) := by decide +kernel
theorem dX4_needPaneSlot_18 : decode cX4_needPaneSlot 18 = .ok (.athrow, 1) := by decide +kernel
theorem dX4_needPaneSlot_19 : decode cX4_needPaneSlot 19 = .ok (.return_, 1) := by decide +kernel
theorem dX4_held_0 : decode cX4_held 0 = .ok (.iload_n 1, 1) := by decide +kernel
theorem dX4_held_1 : decode cX4_held 1 = .ok (.ifCond .lt 9, 3) := by decide +kernel
theorem dX4_held_4 : decode cX4_held 4 = .ok (.iload_n 1, 1) := by decide +kernel
theorem dX4_held_5 : decode cX4_held 5 = .ok (.bipush 12, 2) := by decide +kernel
theorem dX4_held_7 : decode cX4_held 7 = .ok (.if_icmp .lt 11, 3) := by decide +kernel
theorem dX4_held_10 : decode cX4_held 10 = .ok (.new 292, 3) := by decide +kernel
theorem dX4_held_13 : decode cX4_held 13 = .ok (.dup, 1) := by decide +kernel
theorem dX4_held_14 : decode cX4_held 14 = .ok (.invokespecial 294, 3) := by decide +kernel
theorem dX4_held_17 : decode cX4_held 17 = .ok (.athrow, 1) := by decide +kernel
theorem dX4_held_18 : decode cX4_held 18 = .ok (.aload_n 0, 1) := by decide +kernel
theorem dX4_held_19 : decode cX4_held 19 = .ok (.getfield 11, 3) := by decide +kernel
theorem dX4_held_22 : decode cX4_held 22 = .ok (.iload_n 1, 1) := by decide +kernel
theorem dX4_held_23 : decode cX4_held 23 = .ok (.aaload, 1) := by decide +kernel
theorem dX4_held_24 : decode cX4_held 24 = .ok (.areturn, 1) := by decide +kernel
theorem dX4_needSomething_0 : decode cX4_needSomething 0 = .ok (.aload_n 0, 1) := by decide +kernel
theorem dX4_needSomething_1 : decode cX4_needSomething 1 = .ok (.iload_n 1, 1) := by decide +kernel
theorem dX4_needSomething_2 : decode cX4_needSomething 2 = .ok (.invokevirtual 42, 3) := by decide +kernel
theorem dX4_needSomething_5 : decode cX4_needSomething 5 = .ok (.astore_n 2, 1) := by decide +kernel
theorem dX4_needSomething_6 : decode cX4_needSomething 6 = .ok (.aload_n 2, 1) := by decide +kernel
theorem dX4_needSomething_7 : decode cX4_needSomething 7 = .ok (.ifnonnull 11, 3) := by decide +kernel
theorem dX4_needSomething_10 : decode cX4_needSomething 10 = .ok (.new 50, 3) := by decide +kernel
theorem dX4_needSomething_13 : decode cX4_needSomething 13 = .ok (.dup, 1) := by decide +kernel
theorem dX4_needSomething_14 : decode cX4_needSomething 14 = .ok (.invokespecial 52, 3) := by decide +kernel
theorem dX4_needSomething_17 : decode cX4_needSomething 17 = .ok (.athrow, 1) := by decide +kernel
theorem dX4_needSomething_18 : decode cX4_needSomething 18 = .ok (.aload_n 2, 1) := by decide +kernel
theorem dX4_needSomething_19 : decode cX4_needSomething 19 = .ok (.areturn, 1) := by decide +kernel
theorem dX4_needList_0 : decode cX4_needList 0 = .ok (.aload_n 0, 1) := by decide +kernel
theorem dX4_needList_1 : decode cX4_needList 1 = .ok (.iload_n 1, 1) := by decide +kernel
theorem dX4_needList_2 : decode cX4_needList 2 = .ok (.invokevirtual 42, 3) := by decide +kernel
theorem dX4_needList_5 : decode cX4_needList 5 = .ok (.astore_n 2, 1) := by decide +kernel
theorem dX4_needList_6 : decode cX4_needList 6 = .ok (.aload_n 2, 1) := by decide +kernel
theorem dX4_needList_7 : decode cX4_needList 7 = .ok (.ifnull 10, 3) := by decide +kernel
theorem dX4_needList_10 : decode cX4_needList 10 = .ok (.aload_n 2, 1) := by decide +kernel
theorem dX4_needList_11 : decode cX4_needList 11 = .ok (.invokevirtual 99, 3) := by decide +kernel
theorem dX4_needList_14 : decode cX4_needList 14 = .ok (.ifCond .ne 11, 3) := by decide +kernel
theorem dX4_needList_17 : decode cX4_needList 17 = .ok (.new 50, 3) := by decide +kernel
theorem dX4_needList_20 : decode cX4_needList 20 = .ok (.dup, 1) := by decide +kernel
theorem dX4_needList_21 : decode cX4_needList 21 = .ok (.invokespecial 52, 3) := by decide +kernel
theorem dX4_needList_24 : decode cX4_needList 24 = .ok (.athrow, 1) := by decide +kernel
theorem dX4_needList_25 : decode cX4_needList 25 = .ok (.aload_n 2, 1) := by decide +kernel
theorem dX4_needList_26 : decode cX4_needList 26 = .ok (.areturn, 1) := by decide +kernel
theorem dX4_needRow_0 : decode cX4_needRow 0 = .ok (.aload_n 0, 1) := by decide +kernel
theorem dX4_needRow_1 : decode cX4_needRow 1 = .ok (.iload_n 1, 1) := by decide +kernel
theorem dX4_needRow_2 : decode cX4_needRow 2 = .ok (.invokevirtual 42, 3) := by decide +kernel
theorem dX4_needRow_5 : decode cX4_needRow 5 = .ok (.astore_n 2, 1) := by decide +kernel
theorem dX4_needRow_6 : decode cX4_needRow 6 = .ok (.aload_n 2, 1) := by decide +kernel
theorem dX4_needRow_7 : decode cX4_needRow 7 = .ok (.ifnull 10, 3) := by decide +kernel
theorem dX4_needRow_10 : decode cX4_needRow 10 = .ok (.aload_n 2, 1) := by decide +kernel
theorem dX4_needRow_11 : decode cX4_needRow 11 = .ok (.invokevirtual 207, 3) := by decide +kernel
theorem dX4_needRow_14 : decode cX4_needRow 14 = .ok (.ifCond .ne 11, 3) := by decide +kernel
theorem dX4_needRow_17 : decode cX4_needRow 17 = .ok (.new 50, 3) := by decide +kernel
theorem dX4_needRow_20 : decode cX4_needRow 20 = .ok (.dup, 1) := by decide +kernel
theorem dX4_needRow_21 : decode cX4_needRow 21 = .ok (.invokespecial 52, 3) := by decide +kernel
theorem dX4_needRow_24 : decode cX4_needRow 24 = .ok (.athrow, 1) := by decide +kernel
theorem dX4_needRow_25 : decode cX4_needRow 25 = .ok (.aload_n 2, 1) := by decide +kernel
theorem dX4_needRow_26 : decode cX4_needRow 26 = .ok (.areturn, 1) := by decide +kernel
theorem dX4_needMap_0 : decode cX4_needMap 0 = .ok (.aload_n 0, 1) := by decide +kernel
theorem dX4_needMap_1 : decode cX4_needMap 1 = .ok (.iload_n 1, 1) := by decide +kernel
theorem dX4_needMap_2 : decode cX4_needMap 2 = .ok (.invokevirtual 42, 3) := by decide +kernel
theorem dX4_needMap_5 : decode cX4_needMap 5 = .ok (.astore_n 2, 1) := by decide +kernel
theorem dX4_needMap_6 : decode cX4_needMap 6 = .ok (.aload_n 2, 1) := by decide +kernel
theorem dX4_needMap_7 : decode cX4_needMap 7 = .ok (.ifnull 10, 3) := by decide +kernel
theorem dX4_needMap_10 : decode cX4_needMap 10 = .ok (.aload_n 2, 1) := by decide +kernel
theorem dX4_needMap_11 : decode cX4_needMap 11 = .ok (.invokevirtual 116, 3) := by decide +kernel
theorem dX4_needMap_14 : decode cX4_needMap 14 = .ok (.ifCond .ne 11, 3) := by decide +kernel
theorem dX4_needMap_17 : decode cX4_needMap 17 = .ok (.new 50, 3) := by decide +kernel
theorem dX4_needMap_20 : decode cX4_needMap 20 = .ok (.dup, 1) := by decide +kernel
theorem dX4_needMap_21 : decode cX4_needMap 21 = .ok (.invokespecial 52, 3) := by decide +kernel
theorem dX4_needMap_24 : decode cX4_needMap 24 = .ok (.athrow, 1) := by decide +kernel
theorem dX4_needMap_25 : decode cX4_needMap 25 = .ok (.aload_n 2, 1) := by decide +kernel
theorem dX4_needMap_26 : decode cX4_needMap 26 = .ok (.areturn, 1) := by decide +kernel
theorem dX4_needKeys_0 : decode cX4_needKeys 0 = .ok (.aload_n 0, 1) := by decide +kernel
theorem dX4_needKeys_1 : decode cX4_needKeys 1 = .ok (.iload_n 1, 1) := by decide +kernel
theorem dX4_needKeys_2 : decode cX4_needKeys 2 = .ok (.invokevirtual 42, 3) := by decide +kernel
theorem dX4_needKeys_5 : decode cX4_needKeys 5 = .ok (.astore_n 2, 1) := by decide +kernel
theorem dX4_needKeys_6 : decode cX4_needKeys 6 = .ok (.aload_n 2, 1) := by decide +kernel
theorem dX4_needKeys_7 : decode cX4_needKeys 7 = .ok (.ifnull 12, 3) := by decide +kernel
theorem dX4_needKeys_10 : decode cX4_needKeys 10 = .ok (.aload_n 2, 1) := by decide +kernel
theorem dX4_needKeys_11 : decode cX4_needKeys 11 = .ok (.getfield 46, 3) := by decide +kernel
theorem dX4_needKeys_14 : decode cX4_needKeys 14 = .ok (.bipush 107, 2) := by decide +kernel
theorem dX4_needKeys_16 : decode cX4_needKeys 16 = .ok (.if_icmp .eq 11, 3) := by decide +kernel
theorem dX4_needKeys_19 : decode cX4_needKeys 19 = .ok (.new 50, 3) := by decide +kernel
theorem dX4_needKeys_22 : decode cX4_needKeys 22 = .ok (.dup, 1) := by decide +kernel
theorem dX4_needKeys_23 : decode cX4_needKeys 23 = .ok (.invokespecial 52, 3) := by decide +kernel
theorem dX4_needKeys_26 : decode cX4_needKeys 26 = .ok (.athrow, 1) := by decide +kernel
theorem dX4_needKeys_27 : decode cX4_needKeys 27 = .ok (.aload_n 2, 1) := by decide +kernel
theorem dX4_needKeys_28 : decode cX4_needKeys 28 = .ok (.areturn, 1) := by decide +kernel
theorem dX4_needNumbers_0 : decode cX4_needNumbers 0 = .ok (.aload_n 0, 1) := by decide +kernel
theorem dX4_needNumbers_1 : decode cX4_needNumbers 1 = .ok (.iload_n 1, 1) := by decide +kernel
theorem dX4_needNumbers_2 : decode cX4_needNumbers 2 = .ok (.invokevirtual 42, 3) := by decide +kernel
theorem dX4_needNumbers_5 : decode cX4_needNumbers 5 = .ok (.astore_n 2, 1) := by decide +kernel
theorem dX4_needNumbers_6 : decode cX4_needNumbers 6 = .ok (.aload_n 2, 1) := by decide +kernel
theorem dX4_needNumbers_7 : decode cX4_needNumbers 7 = .ok (.ifnull 19, 3) := by decide +kernel
theorem dX4_needNumbers_10 : decode cX4_needNumbers 10 = .ok (.aload_n 2, 1) := by decide +kernel
theorem dX4_needNumbers_11 : decode cX4_needNumbers 11 = .ok (.invokevirtual 116, 3) := by decide +kernel
theorem dX4_needNumbers_14 : decode cX4_needNumbers 14 = .ok (.ifCond .ne 20, 3) := by decide +kernel
theorem dX4_needNumbers_17 : decode cX4_needNumbers 17 = .ok (.aload_n 2, 1) := by decide +kernel
theorem dX4_needNumbers_18 : decode cX4_needNumbers 18 = .ok (.getfield 46, 3) := by decide +kernel
theorem dX4_needNumbers_21 : decode cX4_needNumbers 21 = .ok (.bipush 107, 2) := by decide +kernel
theorem dX4_needNumbers_23 : decode cX4_needNumbers 23 = .ok (.if_icmp .eq 11, 3) := by decide +kernel
theorem dX4_needNumbers_26 : decode cX4_needNumbers 26 = .ok (.new 50, 3) := by decide +kernel
theorem dX4_needNumbers_29 : decode cX4_needNumbers 29 = .ok (.dup, 1) := by decide +kernel
theorem dX4_needNumbers_30 : decode cX4_needNumbers 30 = .ok (.invokespecial 52, 3) := by decide +kernel
theorem dX4_needNumbers_33 : decode cX4_needNumbers 33 = .ok (.athrow, 1) := by decide +kernel
theorem dX4_needNumbers_34 : decode cX4_needNumbers 34 = .ok (.aload_n 2, 1) := by decide +kernel
theorem dX4_needNumbers_35 : decode cX4_needNumbers 35 = .ok (.areturn, 1) := by decide +kernel
theorem dX4_openStore_0 : decode cX4_openStore 0 = .ok (.aload_n 0, 1) := by decide +kernel
theorem dX4_openStore_1 : decode cX4_openStore 1 = .ok (.getfield 92, 3) := by decide +kernel
theorem dX4_openStore_4 : decode cX4_openStore 4 = .ok (.ifCond .eq 10, 3) := by decide +kernel
theorem dX4_openStore_7 : decode cX4_openStore 7 = .ok (.aload_n 0, 1) := by decide +kernel
theorem dX4_openStore_8 : decode cX4_openStore 8 = .ok (.getfield 72, 3) := by decide +kernel
theorem dX4_openStore_11 : decode cX4_openStore 11 = .ok (.ifnonnull 11, 3) := by decide +kernel
theorem dX4_openStore_14 : decode cX4_openStore 14 = .ok (.new 295, 3) := by decide +kernel
theorem dX4_openStore_17 : decode cX4_openStore 17 = .ok (.dup, 1) := by decide +kernel
theorem dX4_openStore_18 : decode cX4_openStore 18 = .ok (.invokespecial 297, 3) := by decide +kernel
theorem dX4_openStore_21 : decode cX4_openStore 21 = .ok (.athrow, 1) := by decide +kernel
theorem dX4_openStore_22 : decode cX4_openStore 22 = .ok (.aload_n 0, 1) := by decide +kernel
theorem dX4_openStore_23 : decode cX4_openStore 23 = .ok (.getfield 72, 3) := by decide +kernel
theorem dX4_openStore_26 : decode cX4_openStore 26 = .ok (.areturn, 1) := by decide +kernel
theorem dX4_needPlace_0 : decode cX4_needPlace 0 = .ok (.iload_n 1, 1) := by decide +kernel
theorem dX4_needPlace_1 : decode cX4_needPlace 1 = .ok (.ifCond .lt 11, 3) := by decide +kernel
theorem dX4_needPlace_4 : decode cX4_needPlace 4 = .ok (.iload_n 1, 1) := by decide +kernel
theorem dX4_needPlace_5 : decode cX4_needPlace 5 = .ok (.aload_n 0, 1) := by decide +kernel
theorem dX4_needPlace_6 : decode cX4_needPlace 6 = .ok (.invokevirtual 53, 3) := by decide +kernel
theorem dX4_needPlace_9 : decode cX4_needPlace 9 = .ok (.if_icmp .lt 11, 3) := by decide +kernel
theorem dX4_needPlace_12 : decode cX4_needPlace 12 = .ok (.new 57, 3) := by decide +kernel
theorem dX4_needPlace_15 : decode cX4_needPlace 15 = .ok (.dup, 1) := by decide +kernel
theorem dX4_needPlace_16 : decode cX4_needPlace 16 = .ok (.invokespecial 59, 3) := by decide +kernel
theorem dX4_needPlace_19 : decode cX4_needPlace 19 = .ok (.athrow, 1) := by decide +kernel
theorem dX4_needPlace_20 : decode cX4_needPlace 20 = .ok (.return_, 1) := by decide +kernel
theorem dX4_needPlaceToPut_0 : decode cX4_needPlaceToPut 0 = .ok (.iload_n 1, 1) := by decide +kernel
theorem dX4_needPlaceToPut_1 : decode cX4_needPlaceToPut 1 = .ok (.ifCond .lt 11, 3) := by decide +kernel
theorem dX4_needPlaceToPut_4 : decode cX4_needPlaceToPut 4 = .ok (.iload_n 1, 1) := by decide +kernel
theorem dX4_needPlaceToPut_5 : decode cX4_needPlaceToPut 5 = .ok (.aload_n 0, 1) := by decide +kernel
theorem dX4_needPlaceToPut_6 : decode cX4_needPlaceToPut 6 = .ok (.invokevirtual 53, 3) := by decide +kernel
theorem dX4_needPlaceToPut_9 : decode cX4_needPlaceToPut 9 = .ok (.if_icmp .le 11, 3) := by decide +kernel
theorem dX4_needPlaceToPut_12 : decode cX4_needPlaceToPut 12 = .ok (.new 57, 3) := by decide +kernel
theorem dX4_needPlaceToPut_15 : decode cX4_needPlaceToPut 15 = .ok (.dup, 1) := by decide +kernel
theorem dX4_needPlaceToPut_16 : decode cX4_needPlaceToPut 16 = .ok (.invokespecial 59, 3) := by decide +kernel
theorem dX4_needPlaceToPut_19 : decode cX4_needPlaceToPut 19 = .ok (.athrow, 1) := by decide +kernel
theorem dX4_needPlaceToPut_20 : decode cX4_needPlaceToPut 20 = .ok (.return_, 1) := by decide +kernel
theorem dX4_needThing_0 : decode cX4_needThing 0 = .ok (.iload_n 0, 1) := by decide +kernel
theorem dX4_needThing_1 : decode cX4_needThing 1 = .ok (.sipush (-999), 3) := by decide +kernel
theorem dX4_needThing_4 : decode cX4_needThing 4 = .ok (.if_icmp .lt 20, 3) := by decide +kernel
theorem dX4_needThing_7 : decode cX4_needThing 7 = .ok (.iload_n 0, 1) := by decide +kernel
theorem dX4_needThing_8 : decode cX4_needThing 8 = .ok (.sipush 999, 3) := by decide +kernel
theorem dX4_needThing_11 : decode cX4_needThing 11 = .ok (.if_icmp .gt 13, 3) := by decide +kernel
theorem dX4_needThing_14 : decode cX4_needThing 14 = .ok (.iload_n 1, 1) := by decide +kernel
theorem dX4_needThing_15 : decode cX4_needThing 15 = .ok (.ifCond .lt 9, 3) := by decide +kernel
theorem dX4_needThing_18 : decode cX4_needThing 18 = .ok (.iload_n 1, 1) := by decide +kernel
theorem dX4_needThing_19 : decode cX4_needThing 19 = .ok (.bipush 99, 2) := by decide +kernel
theorem dX4_needThing_21 : decode cX4_needThing 21 = .ok (.if_icmp .le 11, 3) := by decide +kernel
theorem dX4_needThing_24 : decode cX4_needThing 24 = .ok (.new 57, 3) := by decide +kernel
theorem dX4_needThing_27 : decode cX4_needThing 27 = .ok (.dup, 1) := by decide +kernel
theorem dX4_needThing_28 : decode cX4_needThing 28 = .ok (.invokespecial 59, 3) := by decide +kernel
theorem dX4_needThing_31 : decode cX4_needThing 31 = .ok (.athrow, 1) := by decide +kernel
theorem dX4_needThing_32 : decode cX4_needThing 32 = .ok (.return_, 1) := by decide +kernel
theorem dX4_needRoom_0 : decode cX4_needRoom 0 = .ok (.aload_n 0, 1) := by decide +kernel
theorem dX4_needRoom_1 : decode cX4_needRoom 1 = .ok (.getfield 198, 3) := by decide +kernel
theorem dX4_needRoom_4 : decode cX4_needRoom 4 = .ok (.iload_n 1, 1) := by decide +kernel
theorem dX4_needRoom_5 : decode cX4_needRoom 5 = .ok (.iadd, 1) := by decide +kernel
theorem dX4_needRoom_6 : decode cX4_needRoom 6 = .ok (.bipush 24, 2) := by decide +kernel
theorem dX4_needRoom_8 : decode cX4_needRoom 8 = .ok (.if_icmp .le 11, 3) := by decide +kernel
theorem dX4_needRoom_11 : decode cX4_needRoom 11 = .ok (.new 180, 3) := by decide +kernel
theorem dX4_needRoom_14 : decode cX4_needRoom 14 = .ok (.dup, 1) := by decide +kernel
theorem dX4_needRoom_15 : decode cX4_needRoom 15 = .ok (.invokespecial 182, 3) := by decide +kernel
theorem dX4_needRoom_18 : decode cX4_needRoom 18 = .ok (.athrow, 1) := by decide +kernel
theorem dX4_needRoom_19 : decode cX4_needRoom 19 = .ok (.return_, 1) := by decide +kernel
theorem dX4_markGoing_0 : decode cX4_markGoing 0 = .ok (.iload_n 1, 1) := by decide +kernel
theorem dX4_markGoing_1 : decode cX4_markGoing 1 = .ok (.ifCond .lt 19, 3) := by decide +kernel
theorem dX4_markGoing_4 : decode cX4_markGoing 4 = .ok (.iload_n 1, 1) := by decide +kernel
theorem dX4_markGoing_5 : decode cX4_markGoing 5 = .ok (.aload_n 0, 1) := by decide +kernel
theorem dX4_markGoing_6 : decode cX4_markGoing 6 = .ok (.getfield 27, 3) := by decide +kernel
theorem dX4_markGoing_9 : decode cX4_markGoing 9 = .ok (.arraylength, 1) := by decide +kernel
theorem dX4_markGoing_10 : decode cX4_markGoing 10 = .ok (.if_icmp .ge 10, 3) := by decide +kernel
theorem dX4_markGoing_13 : decode cX4_markGoing 13 = .ok (.aload_n 0, 1) := by decide +kernel
theorem dX4_markGoing_14 : decode cX4_markGoing 14 = .ok (.getfield 27, 3) := by decide +kernel
theorem dX4_markGoing_17 : decode cX4_markGoing 17 = .ok (.iload_n 1, 1) := by decide +kernel
theorem dX4_markGoing_18 : decode cX4_markGoing 18 = .ok (.iload_n 2, 1) := by decide +kernel
theorem dX4_markGoing_19 : decode cX4_markGoing 19 = .ok (.bastore, 1) := by decide +kernel
theorem dX4_markGoing_20 : decode cX4_markGoing 20 = .ok (.return_, 1) := by decide +kernel
theorem dX4_removeGoing_0 : decode cX4_removeGoing 0 = .ok (.iconst 0, 1) := by decide +kernel
theorem dX4_removeGoing_1 : decode cX4_removeGoing 1 = .ok (.istore_n 3, 1) := by decide +kernel
theorem dX4_removeGoing_2 : decode cX4_removeGoing 2 = .ok (.aload_n 1, 1) := by decide +kernel
theorem dX4_removeGoing_3 : decode cX4_removeGoing 3 = .ok (.invokevirtual 53, 3) := by decide +kernel
theorem dX4_removeGoing_6 : decode cX4_removeGoing 6 = .ok (.aload_n 0, 1) := by decide +kernel
theorem dX4_removeGoing_7 : decode cX4_removeGoing 7 = .ok (.getfield 27, 3) := by decide +kernel
theorem dX4_removeGoing_10 : decode cX4_removeGoing 10 = .ok (.arraylength, 1) := by decide +kernel
theorem dX4_removeGoing_11 : decode cX4_removeGoing 11 = .ok (.invokestatic 253, 3) := by decide +kernel
theorem dX4_removeGoing_14 : decode cX4_removeGoing 14 = .ok (.iconst 1, 1) := by decide +kernel
theorem dX4_removeGoing_15 : decode cX4_removeGoing 15 = .ok (.isub, 1) := by decide +kernel
theorem dX4_removeGoing_16 : decode cX4_removeGoing 16 = .ok (.istore 4, 2) := by decide +kernel
theorem dX4_removeGoing_18 : decode cX4_removeGoing 18 = .ok (.iload 4, 2) := by decide +kernel
theorem dX4_removeGoing_20 : decode cX4_removeGoing 20 = .ok (.ifCond .lt 33, 3) := by decide +kernel
theorem dX4_removeGoing_23 : decode cX4_removeGoing 23 = .ok (.aload_n 0, 1) := by decide +kernel
theorem dX4_removeGoing_24 : decode cX4_removeGoing 24 = .ok (.getfield 27, 3) := by decide +kernel
theorem dX4_removeGoing_27 : decode cX4_removeGoing 27 = .ok (.iload 4, 2) := by decide +kernel
theorem dX4_removeGoing_29 : decode cX4_removeGoing 29 = .ok (.baload, 1) := by decide +kernel
theorem dX4_removeGoing_30 : decode cX4_removeGoing 30 = .ok (.ifCond .eq 17, 3) := by decide +kernel
theorem dX4_removeGoing_33 : decode cX4_removeGoing 33 = .ok (.aload_n 2, 1) := by decide +kernel
theorem dX4_removeGoing_34 : decode cX4_removeGoing 34 = .ok (.aload_n 1, 1) := by decide +kernel
theorem dX4_removeGoing_35 : decode cX4_removeGoing 35 = .ok (.invokevirtual 66, 3) := by decide +kernel
theorem dX4_removeGoing_38 : decode cX4_removeGoing 38 = .ok (.iload 4, 2) := by decide +kernel
theorem dX4_removeGoing_40 : decode cX4_removeGoing 40 = .ok (.iadd, 1) := by decide +kernel
theorem dX4_removeGoing_41 : decode cX4_removeGoing 41 = .ok (.invokevirtual 171, 3) := by decide +kernel
theorem dX4_removeGoing_44 : decode cX4_removeGoing 44 = .ok (.iinc 3 1, 3) := by decide +kernel
theorem dX4_removeGoing_47 : decode cX4_removeGoing 47 = .ok (.iinc 4 (-1), 3) := by decide +kernel
theorem dX4_removeGoing_50 : decode cX4_removeGoing 50 = .ok (.goto (-32), 3) := by decide +kernel
theorem dX4_removeGoing_53 : decode cX4_removeGoing 53 = .ok (.aload_n 0, 1) := by decide +kernel
theorem dX4_removeGoing_54 : decode cX4_removeGoing 54 = .ok (.aload_n 1, 1) := by decide +kernel
theorem dX4_removeGoing_55 : decode cX4_removeGoing 55 = .ok (.iload_n 3, 1) := by decide +kernel
theorem dX4_removeGoing_56 : decode cX4_removeGoing 56 = .ok (.ineg, 1) := by decide +kernel
theorem dX4_removeGoing_57 : decode cX4_removeGoing 57 = .ok (.invokevirtual 161, 3) := by decide +kernel
theorem dX4_removeGoing_60 : decode cX4_removeGoing 60 = .ok (.iload_n 3, 1) := by decide +kernel
theorem dX4_removeGoing_61 : decode cX4_removeGoing 61 = .ok (.ireturn, 1) := by decide +kernel
theorem dX4_settle_0 : decode cX4_settle 0 = .ok (.iload_n 2, 1) := by decide +kernel
theorem dX4_settle_1 : decode cX4_settle 1 = .ok (.ifCond .eq 10, 3) := by decide +kernel
theorem dX4_settle_4 : decode cX4_settle 4 = .ok (.aload_n 1, 1) := by decide +kernel
theorem dX4_settle_5 : decode cX4_settle 5 = .ok (.getfield 72, 3) := by decide +kernel
theorem dX4_settle_8 : decode cX4_settle 8 = .ok (.ifnonnull 4, 3) := by decide +kernel
theorem dX4_settle_11 : decode cX4_settle 11 = .ok (.return_, 1) := by decide +kernel
theorem dX4_settle_12 : decode cX4_settle 12 = .ok (.aload_n 1, 1) := by decide +kernel
theorem dX4_settle_13 : decode cX4_settle 13 = .ok (.getfield 62, 3) := by decide +kernel
theorem dX4_settle_16 : decode cX4_settle 16 = .ok (.astore_n 3, 1) := by decide +kernel
theorem dX4_settle_17 : decode cX4_settle 17 = .ok (.aload_n 3, 1) := by decide +kernel
theorem dX4_settle_18 : decode cX4_settle 18 = .ok (.ifnull 21, 3) := by decide +kernel
theorem dX4_settle_21 : decode cX4_settle 21 = .ok (.aload_n 3, 1) := by decide +kernel
theorem dX4_settle_22 : decode cX4_settle 22 = .ok (.dup, 1) := by decide +kernel
theorem dX4_settle_23 : decode cX4_settle 23 = .ok (.getfield 298, 3) := by decide +kernel
theorem dX4_settle_26 : decode cX4_settle 26 = .ok (.iload_n 2, 1) := by decide +kernel
theorem dX4_settle_27 : decode cX4_settle 27 = .ok (.iadd, 1) := by decide +kernel
theorem dX4_settle_28 : decode cX4_settle 28 = .ok (.putfield 298, 3) := by decide +kernel
theorem dX4_settle_31 : decode cX4_settle 31 = .ok (.aload_n 3, 1) := by decide +kernel
theorem dX4_settle_32 : decode cX4_settle 32 = .ok (.getfield 299, 3) := by decide +kernel
theorem dX4_settle_35 : decode cX4_settle 35 = .ok (.astore_n 3, 1) := by decide +kernel
theorem dX4_settle_36 : decode cX4_settle 36 = .ok (.goto (-19), 3) := by decide +kernel
theorem dX4_settle_39 : decode cX4_settle 39 = .ok (.aload_n 0, 1) := by decide +kernel
theorem dX4_settle_40 : decode cX4_settle 40 = .ok (.aload_n 1, 1) := by decide +kernel
theorem dX4_settle_41 : decode cX4_settle 41 = .ok (.aload_n 1, 1) := by decide +kernel
theorem dX4_settle_42 : decode cX4_settle 42 = .ok (.getfield 72, 3) := by decide +kernel
theorem dX4_settle_45 : decode cX4_settle 45 = .ok (.invokevirtual 220, 3) := by decide +kernel
theorem dX4_settle_48 : decode cX4_settle 48 = .ok (.return_, 1) := by decide +kernel
theorem dX4_letPartsGo_0 : decode cX4_letPartsGo 0 = .ok (.aload_n 2, 1) := by decide +kernel
theorem dX4_letPartsGo_1 : decode cX4_letPartsGo 1 = .ok (.dup, 1) := by decide +kernel
theorem dX4_letPartsGo_2 : decode cX4_letPartsGo 2 = .ok (.getfield 302, 3) := by decide +kernel
theorem dX4_letPartsGo_5 : decode cX4_letPartsGo 5 = .ok (.iconst 1, 1) := by decide +kernel
theorem dX4_letPartsGo_6 : decode cX4_letPartsGo 6 = .ok (.iadd, 1) := by decide +kernel
theorem dX4_letPartsGo_7 : decode cX4_letPartsGo 7 = .ok (.putfield 302, 3) := by decide +kernel
theorem dX4_letPartsGo_10 : decode cX4_letPartsGo 10 = .ok (.aload_n 1, 1) := by decide +kernel
theorem dX4_letPartsGo_11 : decode cX4_letPartsGo 11 = .ok (.getfield 62, 3) := by decide +kernel
theorem dX4_letPartsGo_14 : decode cX4_letPartsGo 14 = .ok (.astore_n 3, 1) := by decide +kernel
theorem dX4_letPartsGo_15 : decode cX4_letPartsGo 15 = .ok (.aload_n 3, 1) := by decide +kernel
theorem dX4_letPartsGo_16 : decode cX4_letPartsGo 16 = .ok (.ifnull 19, 3) := by decide +kernel
theorem dX4_letPartsGo_19 : decode cX4_letPartsGo 19 = .ok (.aload_n 3, 1) := by decide +kernel
theorem dX4_letPartsGo_20 : decode cX4_letPartsGo 20 = .ok (.aload_n 2, 1) := by decide +kernel
theorem dX4_letPartsGo_21 : decode cX4_letPartsGo 21 = .ok (.getfield 302, 3) := by decide +kernel
theorem dX4_letPartsGo_24 : decode cX4_letPartsGo 24 = .ok (.putfield 305, 3) := by decide +kernel
theorem dX4_letPartsGo_27 : decode cX4_letPartsGo 27 = .ok (.aload_n 3, 1) := by decide +kernel
theorem dX4_letPartsGo_28 : decode cX4_letPartsGo 28 = .ok (.getfield 299, 3) := by decide +kernel
theorem dX4_letPartsGo_31 : decode cX4_letPartsGo 31 = .ok (.astore_n 3, 1) := by decide +kernel
theorem dX4_letPartsGo_32 : decode cX4_letPartsGo 32 = .ok (.goto (-17), 3) := by decide +kernel
theorem dX4_letPartsGo_35 : decode cX4_letPartsGo 35 = .ok (.iconst 4, 1) := by decide +kernel
theorem dX4_letPartsGo_36 : decode cX4_letPartsGo 36 = .ok (.istore_n 3, 1) := by decide +kernel
theorem dX4_letPartsGo_37 : decode cX4_letPartsGo 37 = .ok (.iload_n 3, 1) := by decide +kernel
theorem dX4_letPartsGo_38 : decode cX4_letPartsGo 38 = .ok (.bipush 12, 2) := by decide +kernel
theorem dX4_letPartsGo_40 : decode cX4_letPartsGo 40 = .ok (.if_icmp .ge 61, 3) := by decide +kernel
theorem dX4_letPartsGo_43 : decode cX4_letPartsGo 43 = .ok (.aload_n 0, 1) := by decide +kernel
theorem dX4_letPartsGo_44 : decode cX4_letPartsGo 44 = .ok (.getfield 11, 3) := by decide +kernel
theorem dX4_letPartsGo_47 : decode cX4_letPartsGo 47 = .ok (.iload_n 3, 1) := by decide +kernel
theorem dX4_letPartsGo_48 : decode cX4_letPartsGo 48 = .ok (.aaload, 1) := by decide +kernel
theorem dX4_letPartsGo_49 : decode cX4_letPartsGo 49 = .ok (.astore 4, 2) := by decide +kernel
theorem dX4_letPartsGo_51 : decode cX4_letPartsGo 51 = .ok (.aload 4, 2) := by decide +kernel
theorem dX4_letPartsGo_53 : decode cX4_letPartsGo 53 = .ok (.ifnull 42, 3) := by decide +kernel
theorem dX4_letPartsGo_56 : decode cX4_letPartsGo 56 = .ok (.aload 4, 2) := by decide +kernel
theorem dX4_letPartsGo_58 : decode cX4_letPartsGo 58 = .ok (.getfield 72, 3) := by decide +kernel
theorem dX4_letPartsGo_61 : decode cX4_letPartsGo 61 = .ok (.aload_n 2, 1) := by decide +kernel
theorem dX4_letPartsGo_62 : decode cX4_letPartsGo 62 = .ok (.if_acmp .ne 33, 3) := by decide +kernel
theorem dX4_letPartsGo_65 : decode cX4_letPartsGo 65 = .ok (.aload 4, 2) := by decide +kernel
theorem dX4_letPartsGo_67 : decode cX4_letPartsGo 67 = .ok (.getfield 62, 3) := by decide +kernel
theorem dX4_letPartsGo_70 : decode cX4_letPartsGo 70 = .ok (.ifnull 25, 3) := by decide +kernel
theorem dX4_letPartsGo_73 : decode cX4_letPartsGo 73 = .ok (.aload 4, 2) := by decide +kernel
theorem dX4_letPartsGo_75 : decode cX4_letPartsGo 75 = .ok (.getfield 62, 3) := by decide +kernel
theorem dX4_letPartsGo_78 : decode cX4_letPartsGo 78 = .ok (.getfield 305, 3) := by decide +kernel
theorem dX4_letPartsGo_81 : decode cX4_letPartsGo 81 = .ok (.aload_n 2, 1) := by decide +kernel
theorem dX4_letPartsGo_82 : decode cX4_letPartsGo 82 = .ok (.getfield 302, 3) := by decide +kernel
theorem dX4_letPartsGo_85 : decode cX4_letPartsGo 85 = .ok (.if_icmp .eq 10, 3) := by decide +kernel
theorem dX4_letPartsGo_88 : decode cX4_letPartsGo 88 = .ok (.aload_n 0, 1) := by decide +kernel
theorem dX4_letPartsGo_89 : decode cX4_letPartsGo 89 = .ok (.getfield 11, 3) := by decide +kernel
theorem dX4_letPartsGo_92 : decode cX4_letPartsGo 92 = .ok (.iload_n 3, 1) := by decide +kernel
theorem dX4_letPartsGo_93 : decode cX4_letPartsGo 93 = .ok (.aconst_null, 1) := by decide +kernel
theorem dX4_letPartsGo_94 : decode cX4_letPartsGo 94 = .ok (.aastore, 1) := by decide +kernel
theorem dX4_letPartsGo_95 : decode cX4_letPartsGo 95 = .ok (.iinc 3 1, 3) := by decide +kernel
theorem dX4_letPartsGo_98 : decode cX4_letPartsGo 98 = .ok (.goto (-61), 3) := by decide +kernel
theorem dX4_letPartsGo_101 : decode cX4_letPartsGo 101 = .ok (.return_, 1) := by decide +kernel
theorem dJ9_floorMod_7cf53_0 : decode cJ9_floorMod_7cf53 0 = .ok (.iload_n 0, 1) := by decide +kernel
theorem dJ9_floorMod_7cf53_1 : decode cJ9_floorMod_7cf53 1 = .ok (.iload_n 1, 1) := by decide +kernel
theorem dJ9_floorMod_7cf53_2 : decode cJ9_floorMod_7cf53 2 = .ok (.irem, 1) := by decide +kernel
theorem dJ9_floorMod_7cf53_3 : decode cJ9_floorMod_7cf53 3 = .ok (.istore_n 2, 1) := by decide +kernel
theorem dJ9_floorMod_7cf53_4 : decode cJ9_floorMod_7cf53 4 = .ok (.iload_n 0, 1) := by decide +kernel
theorem dJ9_floorMod_7cf53_5 : decode cJ9_floorMod_7cf53 5 = .ok (.iload_n 1, 1) := by decide +kernel
theorem dJ9_floorMod_7cf53_6 : decode cJ9_floorMod_7cf53 6 = .ok (.ixor, 1) := by decide +kernel
theorem dJ9_floorMod_7cf53_7 : decode cJ9_floorMod_7cf53 7 = .ok (.ifCond .ge 11, 3) := by decide +kernel
theorem dJ9_floorMod_7cf53_10 : decode cJ9_floorMod_7cf53 10 = .ok (.iload_n 2, 1) := by decide +kernel
theorem dJ9_floorMod_7cf53_11 : decode cJ9_floorMod_7cf53 11 = .ok (.ifCond .eq 7, 3) := by decide +kernel
theorem dJ9_floorMod_7cf53_14 : decode cJ9_floorMod_7cf53 14 = .ok (.iload_n 2, 1) := by decide +kernel
theorem dJ9_floorMod_7cf53_15 : decode cJ9_floorMod_7cf53 15 = .ok (.iload_n 1, 1) := by decide +kernel
theorem dJ9_floorMod_7cf53_16 : decode cJ9_floorMod_7cf53 16 = .ok (.iadd, 1) := by decide +kernel
theorem dJ9_floorMod_7cf53_17 : decode cJ9_floorMod_7cf53 17 = .ok (.ireturn, 1) := by decide +kernel
theorem dJ9_floorMod_7cf53_18 : decode cJ9_floorMod_7cf53 18 = .ok (.iload_n 2, 1) := by decide +kernel
theorem dJ9_floorMod_7cf53_19 : decode cJ9_floorMod_7cf53 19 = .ok (.ireturn, 1) := by decide +kernel
theorem dJ9_max_7cf53_0 : decode cJ9_max_7cf53 0 = .ok (.iload_n 0, 1) := by decide +kernel
theorem dJ9_max_7cf53_1 : decode cJ9_max_7cf53 1 = .ok (.iload_n 1, 1) := by decide +kernel
theorem dJ9_max_7cf53_2 : decode cJ9_max_7cf53 2 = .ok (.if_icmp .lt 7, 3) := by decide +kernel
theorem dJ9_max_7cf53_5 : decode cJ9_max_7cf53 5 = .ok (.iload_n 0, 1) := by decide +kernel
theorem dJ9_max_7cf53_6 : decode cJ9_max_7cf53 6 = .ok (.goto 4, 3) := by decide +kernel
theorem dJ9_max_7cf53_9 : decode cJ9_max_7cf53 9 = .ok (.iload_n 1, 1) := by decide +kernel
theorem dJ9_max_7cf53_10 : decode cJ9_max_7cf53 10 = .ok (.ireturn, 1) := by decide +kernel
theorem dJ9_min_7cf53_0 : decode cJ9_min_7cf53 0 = .ok (.iload_n 0, 1) := by decide +kernel
theorem dJ9_min_7cf53_1 : decode cJ9_min_7cf53 1 = .ok (.iload_n 1, 1) := by decide +kernel
theorem dJ9_min_7cf53_2 : decode cJ9_min_7cf53 2 = .ok (.if_icmp .gt 7, 3) := by decide +kernel
theorem dJ9_min_7cf53_5 : decode cJ9_min_7cf53 5 = .ok (.iload_n 0, 1) := by decide +kernel
theorem dJ9_min_7cf53_6 : decode cJ9_min_7cf53 6 = .ok (.goto 4, 3) := by decide +kernel
theorem dJ9_min_7cf53_9 : decode cJ9_min_7cf53 9 = .ok (.iload_n 1, 1) := by decide +kernel
theorem dJ9_min_7cf53_10 : decode cJ9_min_7cf53 10 = .ok (.ireturn, 1) := by decide +kernel
