theorem dL_part_0 : decode cL_part 0 = .ok (.aload 5, 2) := by decide +kernel
theorem dL_part_2 : decode cL_part 2 = .ok (.iconst 0, 1) := by decide +kernel
theorem dL_part_3 : decode cL_part 3 = .ok (.aload_n 0, 1) := by decide +kernel
theorem dL_part_4 : decode cL_part 4 = .ok (.iload_n 1, 1) := by decide +kernel
theorem dL_part_5 : decode cL_part 5 = .ok (.iload_n 2, 1) := by decide +kernel
theorem dL_part_6 : decode cL_part 6 = .ok (.iload_n 3, 1) := by decide +kernel
theorem dL_part_7 : decode cL_part 7 = .ok (.iload 4, 2) := by decide +kernel
theorem dL_part_9 : decode cL_part 9 = .ok (.invokevirtual 7, 3) := by decide +kernel
theorem dL_part_12 : decode cL_part 12 = .ok (.i2l, 1) := by decide +kernel
theorem dL_part_13 : decode cL_part 13 = .ok (.lastore, 1) := by decide +kernel
theorem dL_part_14 : decode cL_part 14 = .ok (.goto 15, 3) := by decide +kernel
theorem dL_part_17 : decode cL_part 17 = .ok (.astore 6, 2) := by decide +kernel
theorem dL_part_19 : decode cL_part 19 = .ok (.iconst 1, 1) := by decide +kernel
theorem dL_part_20 : decode cL_part 20 = .ok (.ireturn, 1) := by decide +kernel
theorem dL_part_21 : decode cL_part 21 = .ok (.astore 6, 2) := by decide +kernel
theorem dL_part_23 : decode cL_part 23 = .ok (.iconst 2, 1) := by decide +kernel
theorem dL_part_24 : decode cL_part 24 = .ok (.ireturn, 1) := by decide +kernel
theorem dL_part_25 : decode cL_part 25 = .ok (.astore 6, 2) := by decide +kernel
theorem dL_part_27 : decode cL_part 27 = .ok (.iconst 3, 1) := by decide +kernel
theorem dL_part_28 : decode cL_part 28 = .ok (.ireturn, 1) := by decide +kernel
theorem dL_part_29 : decode cL_part 29 = .ok (.iconst 0, 1) := by decide +kernel
theorem dL_part_30 : decode cL_part 30 = .ok (.ireturn, 1) := by decide +kernel
theorem dL_fixed_0 : decode cL_fixed 0 = .ok (.aload_n 3, 1) := by decide +kernel
theorem dL_fixed_1 : decode cL_fixed 1 = .ok (.iconst 0, 1) := by decide +kernel
theorem dL_fixed_2 : decode cL_fixed 2 = .ok (.aload_n 0, 1) := by decide +kernel
theorem dL_fixed_3 : decode cL_fixed 3 = .ok (.iload_n 1, 1) := by decide +kernel
theorem dL_fixed_4 : decode cL_fixed 4 = .ok (.iload_n 2, 1) := by decide +kernel
theorem dL_fixed_5 : decode cL_fixed 5 = .ok (.invokevirtual 19, 3) := by decide +kernel
theorem dL_fixed_8 : decode cL_fixed 8 = .ok (.i2l, 1) := by decide +kernel
theorem dL_fixed_9 : decode cL_fixed 9 = .ok (.lastore, 1) := by decide +kernel
theorem dL_fixed_10 : decode cL_fixed 10 = .ok (.goto 11, 3) := by decide +kernel
theorem dL_fixed_13 : decode cL_fixed 13 = .ok (.astore 4, 2) := by decide +kernel
theorem dL_fixed_15 : decode cL_fixed 15 = .ok (.iconst 1, 1) := by decide +kernel
theorem dL_fixed_16 : decode cL_fixed 16 = .ok (.ireturn, 1) := by decide +kernel
theorem dL_fixed_17 : decode cL_fixed 17 = .ok (.astore 4, 2) := by decide +kernel
theorem dL_fixed_19 : decode cL_fixed 19 = .ok (.iconst 2, 1) := by decide +kernel
theorem dL_fixed_20 : decode cL_fixed 20 = .ok (.ireturn, 1) := by decide +kernel
theorem dL_fixed_21 : decode cL_fixed 21 = .ok (.iconst 0, 1) := by decide +kernel
theorem dL_fixed_22 : decode cL_fixed 22 = .ok (.ireturn, 1) := by decide +kernel
theorem dL_copies_0 : decode cL_copies 0 = .ok (.aload 5, 2) := by decide +kernel
theorem dL_copies_2 : decode cL_copies 2 = .ok (.iconst 0, 1) := by decide +kernel
theorem dL_copies_3 : decode cL_copies 3 = .ok (.aload_n 0, 1) := by decide +kernel
theorem dL_copies_4 : decode cL_copies 4 = .ok (.iload_n 1, 1) := by decide +kernel
theorem dL_copies_5 : decode cL_copies 5 = .ok (.iload_n 2, 1) := by decide +kernel
theorem dL_copies_6 : decode cL_copies 6 = .ok (.iload_n 3, 1) := by decide +kernel
theorem dL_copies_7 : decode cL_copies 7 = .ok (.iload 4, 2) := by decide +kernel
theorem dL_copies_9 : decode cL_copies 9 = .ok (.invokevirtual 23, 3) := by decide +kernel
theorem dL_copies_12 : decode cL_copies 12 = .ok (.i2l, 1) := by decide +kernel
theorem dL_copies_13 : decode cL_copies 13 = .ok (.lastore, 1) := by decide +kernel
theorem dL_copies_14 : decode cL_copies 14 = .ok (.goto 11, 3) := by decide +kernel
theorem dL_copies_17 : decode cL_copies 17 = .ok (.astore 6, 2) := by decide +kernel
theorem dL_copies_19 : decode cL_copies 19 = .ok (.iconst 1, 1) := by decide +kernel
theorem dL_copies_20 : decode cL_copies 20 = .ok (.ireturn, 1) := by decide +kernel
theorem dL_copies_21 : decode cL_copies 21 = .ok (.astore 6, 2) := by decide +kernel
theorem dL_copies_23 : decode cL_copies 23 = .ok (.iconst 2, 1) := by decide +kernel
theorem dL_copies_24 : decode cL_copies 24 = .ok (.ireturn, 1) := by decide +kernel
theorem dL_copies_25 : decode cL_copies 25 = .ok (.iconst 0, 1) := by decide +kernel
theorem dL_copies_26 : decode cL_copies 26 = .ok (.ireturn, 1) := by decide +kernel
theorem dL_alone_0 : decode cL_alone 0 = .ok (.aload 4, 2) := by decide +kernel
theorem dL_alone_2 : decode cL_alone 2 = .ok (.iconst 0, 1) := by decide +kernel
theorem dL_alone_3 : decode cL_alone 3 = .ok (.aload_n 0, 1) := by decide +kernel
theorem dL_alone_4 : decode cL_alone 4 = .ok (.iload_n 1, 1) := by decide +kernel
theorem dL_alone_5 : decode cL_alone 5 = .ok (.iload_n 2, 1) := by decide +kernel
theorem dL_alone_6 : decode cL_alone 6 = .ok (.iload_n 3, 1) := by decide +kernel
theorem dL_alone_7 : decode cL_alone 7 = .ok (.invokevirtual 26, 3) := by decide +kernel
theorem dL_alone_10 : decode cL_alone 10 = .ok (.i2l, 1) := by decide +kernel
theorem dL_alone_11 : decode cL_alone 11 = .ok (.lastore, 1) := by decide +kernel
theorem dL_alone_12 : decode cL_alone 12 = .ok (.goto 11, 3) := by decide +kernel
theorem dL_alone_15 : decode cL_alone 15 = .ok (.astore 5, 2) := by decide +kernel
theorem dL_alone_17 : decode cL_alone 17 = .ok (.iconst 1, 1) := by decide +kernel
theorem dL_alone_18 : decode cL_alone 18 = .ok (.ireturn, 1) := by decide +kernel
theorem dL_alone_19 : decode cL_alone 19 = .ok (.astore 5, 2) := by decide +kernel
theorem dL_alone_21 : decode cL_alone 21 = .ok (.iconst 2, 1) := by decide +kernel
theorem dL_alone_22 : decode cL_alone 22 = .ok (.ireturn, 1) := by decide +kernel
theorem dL_alone_23 : decode cL_alone 23 = .ok (.iconst 0, 1) := by decide +kernel
theorem dL_alone_24 : decode cL_alone 24 = .ok (.ireturn, 1) := by decide +kernel
theorem dL_none_0 : decode cL_none 0 = .ok (.aload_n 2, 1) := by decide +kernel
theorem dL_none_1 : decode cL_none 1 = .ok (.iconst 0, 1) := by decide +kernel
theorem dL_none_2 : decode cL_none 2 = .ok (.aload_n 0, 1) := by decide +kernel
theorem dL_none_3 : decode cL_none 3 = .ok (.iload_n 1, 1) := by decide +kernel
theorem dL_none_4 : decode cL_none 4 = .ok (.invokevirtual 30, 3) := by decide +kernel
theorem dL_none_7 : decode cL_none 7 = .ok (.i2l, 1) := by decide +kernel
theorem dL_none_8 : decode cL_none 8 = .ok (.lastore, 1) := by decide +kernel
theorem dL_none_9 : decode cL_none 9 = .ok (.goto 6, 3) := by decide +kernel
theorem dL_none_12 : decode cL_none 12 = .ok (.astore_n 3, 1) := by decide +kernel
theorem dL_none_13 : decode cL_none 13 = .ok (.iconst 1, 1) := by decide +kernel
theorem dL_none_14 : decode cL_none 14 = .ok (.ireturn, 1) := by decide +kernel
theorem dL_none_15 : decode cL_none 15 = .ok (.iconst 0, 1) := by decide +kernel
theorem dL_none_16 : decode cL_none 16 = .ok (.ireturn, 1) := by decide +kernel
theorem dL_keys_0 : decode cL_keys 0 = .ok (.aload_n 3, 1) := by decide +kernel
theorem dL_keys_1 : decode cL_keys 1 = .ok (.iconst 0, 1) := by decide +kernel
theorem dL_keys_2 : decode cL_keys 2 = .ok (.aload_n 0, 1) := by decide +kernel
theorem dL_keys_3 : decode cL_keys 3 = .ok (.iload_n 1, 1) := by decide +kernel
theorem dL_keys_4 : decode cL_keys 4 = .ok (.iload_n 2, 1) := by decide +kernel
theorem dL_keys_5 : decode cL_keys 5 = .ok (.invokevirtual 34, 3) := by decide +kernel
theorem dL_keys_8 : decode cL_keys 8 = .ok (.i2l, 1) := by decide +kernel
theorem dL_keys_9 : decode cL_keys 9 = .ok (.lastore, 1) := by decide +kernel
theorem dL_keys_10 : decode cL_keys 10 = .ok (.goto 11, 3) := by decide +kernel
theorem dL_keys_13 : decode cL_keys 13 = .ok (.astore 4, 2) := by decide +kernel
theorem dL_keys_15 : decode cL_keys 15 = .ok (.iconst 1, 1) := by decide +kernel
theorem dL_keys_16 : decode cL_keys 16 = .ok (.ireturn, 1) := by decide +kernel
theorem dL_keys_17 : decode cL_keys 17 = .ok (.astore 4, 2) := by decide +kernel
theorem dL_keys_19 : decode cL_keys 19 = .ok (.iconst 2, 1) := by decide +kernel
theorem dL_keys_20 : decode cL_keys 20 = .ok (.ireturn, 1) := by decide +kernel
theorem dL_keys_21 : decode cL_keys 21 = .ok (.iconst 0, 1) := by decide +kernel
theorem dL_keys_22 : decode cL_keys 22 = .ok (.ireturn, 1) := by decide +kernel
theorem dL_values_0 : decode cL_values 0 = .ok (.aload_n 3, 1) := by decide +kernel
theorem dL_values_1 : decode cL_values 1 = .ok (.iconst 0, 1) := by decide +kernel
theorem dL_values_2 : decode cL_values 2 = .ok (.aload_n 0, 1) := by decide +kernel
theorem dL_values_3 : decode cL_values 3 = .ok (.iload_n 1, 1) := by decide +kernel
theorem dL_values_4 : decode cL_values 4 = .ok (.iload_n 2, 1) := by decide +kernel
theorem dL_values_5 : decode cL_values 5 = .ok (.invokevirtual 37, 3) := by decide +kernel
theorem dL_values_8 : decode cL_values 8 = .ok (.i2l, 1) := by decide +kernel
theorem dL_values_9 : decode cL_values 9 = .ok (.lastore, 1) := by decide +kernel
theorem dL_values_10 : decode cL_values 10 = .ok (.goto 11, 3) := by decide +kernel
theorem dL_values_13 : decode cL_values 13 = .ok (.astore 4, 2) := by decide +kernel
theorem dL_values_15 : decode cL_values 15 = .ok (.iconst 1, 1) := by decide +kernel
theorem dL_values_16 : decode cL_values 16 = .ok (.ireturn, 1) := by decide +kernel
theorem dL_values_17 : decode cL_values 17 = .ok (.astore 4, 2) := by decide +kernel
theorem dL_values_19 : decode cL_values 19 = .ok (.iconst 2, 1) := by decide +kernel
theorem dL_values_20 : decode cL_values 20 = .ok (.ireturn, 1) := by decide +kernel
theorem dL_values_21 : decode cL_values 21 = .ok (.iconst 0, 1) := by decide +kernel
theorem dL_values_22 : decode cL_values 22 = .ok (.ireturn, 1) := by decide +kernel
theorem dL_kind_0 : decode cL_kind 0 = .ok (.aload_n 2, 1) := by decide +kernel
theorem dL_kind_1 : decode cL_kind 1 = .ok (.iconst 0, 1) := by decide +kernel
theorem dL_kind_2 : decode cL_kind 2 = .ok (.aload_n 0, 1) := by decide +kernel
theorem dL_kind_3 : decode cL_kind 3 = .ok (.iload_n 1, 1) := by decide +kernel
theorem dL_kind_4 : decode cL_kind 4 = .ok (.invokevirtual 40, 3) := by decide +kernel
theorem dL_kind_7 : decode cL_kind 7 = .ok (.i2l, 1) := by decide +kernel
theorem dL_kind_8 : decode cL_kind 8 = .ok (.lastore, 1) := by decide +kernel
theorem dL_kind_9 : decode cL_kind 9 = .ok (.goto 6, 3) := by decide +kernel
theorem dL_kind_12 : decode cL_kind 12 = .ok (.astore_n 3, 1) := by decide +kernel
theorem dL_kind_13 : decode cL_kind 13 = .ok (.iconst 1, 1) := by decide +kernel
theorem dL_kind_14 : decode cL_kind 14 = .ok (.ireturn, 1) := by decide +kernel
theorem dL_kind_15 : decode cL_kind 15 = .ok (.iconst 0, 1) := by decide +kernel
theorem dL_kind_16 : decode cL_kind 16 = .ok (.ireturn, 1) := by decide +kernel
theorem dL_size_0 : decode cL_size 0 = .ok (.aload_n 2, 1) := by decide +kernel
theorem dL_size_1 : decode cL_size 1 = .ok (.iconst 0, 1) := by decide +kernel
theorem dL_size_2 : decode cL_size 2 = .ok (.aload_n 0, 1) := by decide +kernel
theorem dL_size_3 : decode cL_size 3 = .ok (.iload_n 1, 1) := by decide +kernel
theorem dL_size_4 : decode cL_size 4 = .ok (.invokevirtual 44, 3) := by decide +kernel
theorem dL_size_7 : decode cL_size 7 = .ok (.i2l, 1) := by decide +kernel
theorem dL_size_8 : decode cL_size 8 = .ok (.lastore, 1) := by decide +kernel
theorem dL_size_9 : decode cL_size 9 = .ok (.goto 9, 3) := by decide +kernel
theorem dL_size_12 : decode cL_size 12 = .ok (.astore_n 3, 1) := by decide +kernel
theorem dL_size_13 : decode cL_size 13 = .ok (.iconst 1, 1) := by decide +kernel
theorem dL_size_14 : decode cL_size 14 = .ok (.ireturn, 1) := by decide +kernel
theorem dL_size_15 : decode cL_size 15 = .ok (.astore_n 3, 1) := by decide +kernel
theorem dL_size_16 : decode cL_size 16 = .ok (.iconst 2, 1) := by decide +kernel
theorem dL_size_17 : decode cL_size 17 = .ok (.ireturn, 1) := by decide +kernel
theorem dL_size_18 : decode cL_size 18 = .ok (.iconst 0, 1) := by decide +kernel
theorem dL_size_19 : decode cL_size 19 = .ok (.ireturn, 1) := by decide +kernel
theorem dL_walk_0 : decode cL_walk 0 = .ok (.aload_n 3, 1) := by decide +kernel
theorem dL_walk_1 : decode cL_walk 1 = .ok (.iconst 0, 1) := by decide +kernel
theorem dL_walk_2 : decode cL_walk 2 = .ok (.aload_n 0, 1) := by decide +kernel
theorem dL_walk_3 : decode cL_walk 3 = .ok (.iload_n 1, 1) := by decide +kernel
theorem dL_walk_4 : decode cL_walk 4 = .ok (.iload_n 2, 1) := by decide +kernel
theorem dL_walk_5 : decode cL_walk 5 = .ok (.invokevirtual 47, 3) := by decide +kernel
theorem dL_walk_8 : decode cL_walk 8 = .ok (.lastore, 1) := by decide +kernel
theorem dL_walk_9 : decode cL_walk 9 = .ok (.goto 15, 3) := by decide +kernel
theorem dL_walk_12 : decode cL_walk 12 = .ok (.astore 4, 2) := by decide +kernel
theorem dL_walk_14 : decode cL_walk 14 = .ok (.iconst 1, 1) := by decide +kernel
theorem dL_walk_15 : decode cL_walk 15 = .ok (.ireturn, 1) := by decide +kernel
theorem dL_walk_16 : decode cL_walk 16 = .ok (.astore 4, 2) := by decide +kernel
theorem dL_walk_18 : decode cL_walk 18 = .ok (.iconst 2, 1) := by decide +kernel
theorem dL_walk_19 : decode cL_walk 19 = .ok (.ireturn, 1) := by decide +kernel
theorem dL_walk_20 : decode cL_walk 20 = .ok (.astore 4, 2) := by decide +kernel
theorem dL_walk_22 : decode cL_walk 22 = .ok (.iconst 3, 1) := by decide +kernel
theorem dL_walk_23 : decode cL_walk 23 = .ok (.ireturn, 1) := by decide +kernel
theorem dL_walk_24 : decode cL_walk 24 = .ok (.iconst 0, 1) := by decide +kernel
theorem dL_walk_25 : decode cL_walk 25 = .ok (.ireturn, 1) := by decide +kernel
theorem dL_isSame_0 : decode cL_isSame 0 = .ok (.aload_n 3, 1) := by decide +kernel
theorem dL_isSame_1 : decode cL_isSame 1 = .ok (.iconst 0, 1) := by decide +kernel
theorem dL_isSame_2 : decode cL_isSame 2 = .ok (.aload_n 0, 1) := by decide +kernel
theorem dL_isSame_3 : decode cL_isSame 3 = .ok (.iload_n 1, 1) := by decide +kernel
theorem dL_isSame_4 : decode cL_isSame 4 = .ok (.iload_n 2, 1) := by decide +kernel
theorem dL_isSame_5 : decode cL_isSame 5 = .ok (.invokevirtual 51, 3) := by decide +kernel
theorem dL_isSame_8 : decode cL_isSame 8 = .ok (.ifCond .eq 7, 3) := by decide +kernel
theorem dL_isSame_11 : decode cL_isSame 11 = .ok (.lconst 1, 1) := by decide +kernel
theorem dL_isSame_12 : decode cL_isSame 12 = .ok (.goto 4, 3) := by decide +kernel
theorem dL_isSame_15 : decode cL_isSame 15 = .ok (.lconst 0, 1) := by decide +kernel
theorem dL_isSame_16 : decode cL_isSame 16 = .ok (.lastore, 1) := by decide +kernel
theorem dL_isSame_17 : decode cL_isSame 17 = .ok (.goto 11, 3) := by decide +kernel
theorem dL_isSame_20 : decode cL_isSame 20 = .ok (.astore 4, 2) := by decide +kernel
theorem dL_isSame_22 : decode cL_isSame 22 = .ok (.iconst 1, 1) := by decide +kernel
theorem dL_isSame_23 : decode cL_isSame 23 = .ok (.ireturn, 1) := by decide +kernel
theorem dL_isSame_24 : decode cL_isSame 24 = .ok (.astore 4, 2) := by decide +kernel
theorem dL_isSame_26 : decode cL_isSame 26 = .ok (.iconst 2, 1) := by decide +kernel
theorem dL_isSame_27 : decode cL_isSame 27 = .ok (.ireturn, 1) := by decide +kernel
theorem dL_isSame_28 : decode cL_isSame 28 = .ok (.iconst 0, 1) := by decide +kernel
theorem dL_isSame_29 : decode cL_isSame 29 = .ok (.ireturn, 1) := by decide +kernel
theorem dL_hash_0 : decode cL_hash 0 = .ok (.aload_n 2, 1) := by decide +kernel
theorem dL_hash_1 : decode cL_hash 1 = .ok (.iconst 0, 1) := by decide +kernel
theorem dL_hash_2 : decode cL_hash 2 = .ok (.aload_n 0, 1) := by decide +kernel
theorem dL_hash_3 : decode cL_hash 3 = .ok (.iload_n 1, 1) := by decide +kernel
theorem dL_hash_4 : decode cL_hash 4 = .ok (.invokevirtual 55, 3) := by decide +kernel
theorem dL_hash_7 : decode cL_hash 7 = .ok (.i2l, 1) := by decide +kernel
theorem dL_hash_8 : decode cL_hash 8 = .ok (.lastore, 1) := by decide +kernel
theorem dL_hash_9 : decode cL_hash 9 = .ok (.goto 9, 3) := by decide +kernel
theorem dL_hash_12 : decode cL_hash 12 = .ok (.astore_n 3, 1) := by decide +kernel
theorem dL_hash_13 : decode cL_hash 13 = .ok (.iconst 1, 1) := by decide +kernel
theorem dL_hash_14 : decode cL_hash 14 = .ok (.ireturn, 1) := by decide +kernel
theorem dL_hash_15 : decode cL_hash 15 = .ok (.astore_n 3, 1) := by decide +kernel
theorem dL_hash_16 : decode cL_hash 16 = .ok (.iconst 2, 1) := by decide +kernel
theorem dL_hash_17 : decode cL_hash 17 = .ok (.ireturn, 1) := by decide +kernel
theorem dL_hash_18 : decode cL_hash 18 = .ok (.iconst 0, 1) := by decide +kernel
theorem dL_hash_19 : decode cL_hash 19 = .ok (.ireturn, 1) := by decide +kernel
theorem dL_keyAt_0 : decode cL_keyAt 0 = .ok (.aload_n 3, 1) := by decide +kernel
theorem dL_keyAt_1 : decode cL_keyAt 1 = .ok (.iconst 0, 1) := by decide +kernel
theorem dL_keyAt_2 : decode cL_keyAt 2 = .ok (.aload_n 0, 1) := by decide +kernel
theorem dL_keyAt_3 : decode cL_keyAt 3 = .ok (.iload_n 1, 1) := by decide +kernel
theorem dL_keyAt_4 : decode cL_keyAt 4 = .ok (.iload_n 2, 1) := by decide +kernel
theorem dL_keyAt_5 : decode cL_keyAt 5 = .ok (.invokevirtual 58, 3) := by decide +kernel
theorem dL_keyAt_8 : decode cL_keyAt 8 = .ok (.i2l, 1) := by decide +kernel
theorem dL_keyAt_9 : decode cL_keyAt 9 = .ok (.lastore, 1) := by decide +kernel
theorem dL_keyAt_10 : decode cL_keyAt 10 = .ok (.goto 15, 3) := by decide +kernel
theorem dL_keyAt_13 : decode cL_keyAt 13 = .ok (.astore 4, 2) := by decide +kernel
theorem dL_keyAt_15 : decode cL_keyAt 15 = .ok (.iconst 1, 1) := by decide +kernel
theorem dL_keyAt_16 : decode cL_keyAt 16 = .ok (.ireturn, 1) := by decide +kernel
theorem dL_keyAt_17 : decode cL_keyAt 17 = .ok (.astore 4, 2) := by decide +kernel
theorem dL_keyAt_19 : decode cL_keyAt 19 = .ok (.iconst 2, 1) := by decide +kernel
theorem dL_keyAt_20 : decode cL_keyAt 20 = .ok (.ireturn, 1) := by decide +kernel
theorem dL_keyAt_21 : decode cL_keyAt 21 = .ok (.astore 4, 2) := by decide +kernel
theorem dL_keyAt_23 : decode cL_keyAt 23 = .ok (.iconst 3, 1) := by decide +kernel
theorem dL_keyAt_24 : decode cL_keyAt 24 = .ok (.ireturn, 1) := by decide +kernel
theorem dL_keyAt_25 : decode cL_keyAt 25 = .ok (.iconst 0, 1) := by decide +kernel
theorem dL_keyAt_26 : decode cL_keyAt 26 = .ok (.ireturn, 1) := by decide +kernel
theorem dL_markAt_0 : decode cL_markAt 0 = .ok (.aload_n 3, 1) := by decide +kernel
theorem dL_markAt_1 : decode cL_markAt 1 = .ok (.iconst 0, 1) := by decide +kernel
theorem dL_markAt_2 : decode cL_markAt 2 = .ok (.aload_n 0, 1) := by decide +kernel
theorem dL_markAt_3 : decode cL_markAt 3 = .ok (.iload_n 1, 1) := by decide +kernel
theorem dL_markAt_4 : decode cL_markAt 4 = .ok (.iload_n 2, 1) := by decide +kernel
theorem dL_markAt_5 : decode cL_markAt 5 = .ok (.invokevirtual 61, 3) := by decide +kernel
theorem dL_markAt_8 : decode cL_markAt 8 = .ok (.i2l, 1) := by decide +kernel
theorem dL_markAt_9 : decode cL_markAt 9 = .ok (.lastore, 1) := by decide +kernel
theorem dL_markAt_10 : decode cL_markAt 10 = .ok (.goto 15, 3) := by decide +kernel
theorem dL_markAt_13 : decode cL_markAt 13 = .ok (.astore 4, 2) := by decide +kernel
theorem dL_markAt_15 : decode cL_markAt 15 = .ok (.iconst 1, 1) := by decide +kernel
theorem dL_markAt_16 : decode cL_markAt 16 = .ok (.ireturn, 1) := by decide +kernel
theorem dL_markAt_17 : decode cL_markAt 17 = .ok (.astore 4, 2) := by decide +kernel
theorem dL_markAt_19 : decode cL_markAt 19 = .ok (.iconst 2, 1) := by decide +kernel
theorem dL_markAt_20 : decode cL_markAt 20 = .ok (.ireturn, 1) := by decide +kernel
theorem dL_markAt_21 : decode cL_markAt 21 = .ok (.astore 4, 2) := by decide +kernel
theorem dL_markAt_23 : decode cL_markAt 23 = .ok (.iconst 3, 1) := by decide +kernel
theorem dL_markAt_24 : decode cL_markAt 24 = .ok (.ireturn, 1) := by decide +kernel
theorem dL_markAt_25 : decode cL_markAt 25 = .ok (.iconst 0, 1) := by decide +kernel
theorem dL_markAt_26 : decode cL_markAt 26 = .ok (.ireturn, 1) := by decide +kernel
theorem dL_placeOf_0 : decode cL_placeOf 0 = .ok (.aload 5, 2) := by decide +kernel
theorem dL_placeOf_2 : decode cL_placeOf 2 = .ok (.iconst 0, 1) := by decide +kernel
theorem dL_placeOf_3 : decode cL_placeOf 3 = .ok (.aload_n 0, 1) := by decide +kernel
theorem dL_placeOf_4 : decode cL_placeOf 4 = .ok (.iload_n 1, 1) := by decide +kernel
theorem dL_placeOf_5 : decode cL_placeOf 5 = .ok (.iload_n 2, 1) := by decide +kernel
theorem dL_placeOf_6 : decode cL_placeOf 6 = .ok (.iload_n 3, 1) := by decide +kernel
theorem dL_placeOf_7 : decode cL_placeOf 7 = .ok (.iload 4, 2) := by decide +kernel
theorem dL_placeOf_9 : decode cL_placeOf 9 = .ok (.invokevirtual 64, 3) := by decide +kernel
theorem dL_placeOf_12 : decode cL_placeOf 12 = .ok (.i2l, 1) := by decide +kernel
theorem dL_placeOf_13 : decode cL_placeOf 13 = .ok (.lastore, 1) := by decide +kernel
theorem dL_placeOf_14 : decode cL_placeOf 14 = .ok (.goto 11, 3) := by decide +kernel
theorem dL_placeOf_17 : decode cL_placeOf 17 = .ok (.astore 6, 2) := by decide +kernel
theorem dL_placeOf_19 : decode cL_placeOf 19 = .ok (.iconst 1, 1) := by decide +kernel
theorem dL_placeOf_20 : decode cL_placeOf 20 = .ok (.ireturn, 1) := by decide +kernel
theorem dL_placeOf_21 : decode cL_placeOf 21 = .ok (.astore 6, 2) := by decide +kernel
theorem dL_placeOf_23 : decode cL_placeOf 23 = .ok (.iconst 2, 1) := by decide +kernel
theorem dL_placeOf_24 : decode cL_placeOf 24 = .ok (.ireturn, 1) := by decide +kernel
theorem dL_placeOf_25 : decode cL_placeOf 25 = .ok (.iconst 0, 1) := by decide +kernel
theorem dL_placeOf_26 : decode cL_placeOf 26 = .ok (.ireturn, 1) := by decide +kernel
theorem dL_put_0 : decode cL_put 0 = .ok (.aload 5, 2) := by decide +kernel
theorem dL_put_2 : decode cL_put 2 = .ok (.iconst 0, 1) := by decide +kernel
theorem dL_put_3 : decode cL_put 3 = .ok (.aload_n 0, 1) := by decide +kernel
theorem dL_put_4 : decode cL_put 4 = .ok (.iload_n 1, 1) := by decide +kernel
theorem dL_put_5 : decode cL_put 5 = .ok (.iload_n 2, 1) := by decide +kernel
theorem dL_put_6 : decode cL_put 6 = .ok (.iload_n 3, 1) := by decide +kernel
theorem dL_put_7 : decode cL_put 7 = .ok (.iload 4, 2) := by decide +kernel
theorem dL_put_9 : decode cL_put 9 = .ok (.invokevirtual 68, 3) := by decide +kernel
theorem dL_put_12 : decode cL_put 12 = .ok (.i2l, 1) := by decide +kernel
theorem dL_put_13 : decode cL_put 13 = .ok (.lastore, 1) := by decide +kernel
theorem dL_put_14 : decode cL_put 14 = .ok (.goto 23, 3) := by decide +kernel
theorem dL_put_17 : decode cL_put 17 = .ok (.astore 6, 2) := by decide +kernel
theorem dL_put_19 : decode cL_put 19 = .ok (.iconst 1, 1) := by decide +kernel
theorem dL_put_20 : decode cL_put 20 = .ok (.ireturn, 1) := by decide +kernel
theorem dL_put_21 : decode cL_put 21 = .ok (.astore 6, 2) := by decide +kernel
theorem dL_put_23 : decode cL_put 23 = .ok (.iconst 2, 1) := by decide +kernel
theorem dL_put_24 : decode cL_put 24 = .ok (.ireturn, 1) := by decide +kernel
theorem dL_put_25 : decode cL_put 25 = .ok (.astore 6, 2) := by decide +kernel
theorem dL_put_27 : decode cL_put 27 = .ok (.iconst 3, 1) := by decide +kernel
theorem dL_put_28 : decode cL_put 28 = .ok (.ireturn, 1) := by decide +kernel
theorem dL_put_29 : decode cL_put 29 = .ok (.astore 6, 2) := by decide +kernel
theorem dL_put_31 : decode cL_put 31 = .ok (.iconst 4, 1) := by decide +kernel
theorem dL_put_32 : decode cL_put 32 = .ok (.ireturn, 1) := by decide +kernel
theorem dL_put_33 : decode cL_put 33 = .ok (.astore 6, 2) := by decide +kernel
theorem dL_put_35 : decode cL_put 35 = .ok (.iconst 5, 1) := by decide +kernel
theorem dL_put_36 : decode cL_put 36 = .ok (.ireturn, 1) := by decide +kernel
theorem dL_put_37 : decode cL_put 37 = .ok (.iconst 0, 1) := by decide +kernel
theorem dL_put_38 : decode cL_put 38 = .ok (.ireturn, 1) := by decide +kernel
theorem dL_set_0 : decode cL_set 0 = .ok (.aload 5, 2) := by decide +kernel
theorem dL_set_2 : decode cL_set 2 = .ok (.iconst 0, 1) := by decide +kernel
theorem dL_set_3 : decode cL_set 3 = .ok (.aload_n 0, 1) := by decide +kernel
theorem dL_set_4 : decode cL_set 4 = .ok (.iload_n 1, 1) := by decide +kernel
theorem dL_set_5 : decode cL_set 5 = .ok (.iload_n 2, 1) := by decide +kernel
theorem dL_set_6 : decode cL_set 6 = .ok (.iload_n 3, 1) := by decide +kernel
theorem dL_set_7 : decode cL_set 7 = .ok (.iload 4, 2) := by decide +kernel
theorem dL_set_9 : decode cL_set 9 = .ok (.invokevirtual 75, 3) := by decide +kernel
theorem dL_set_12 : decode cL_set 12 = .ok (.i2l, 1) := by decide +kernel
theorem dL_set_13 : decode cL_set 13 = .ok (.lastore, 1) := by decide +kernel
theorem dL_set_14 : decode cL_set 14 = .ok (.goto 19, 3) := by decide +kernel
theorem dL_set_17 : decode cL_set 17 = .ok (.astore 6, 2) := by decide +kernel
theorem dL_set_19 : decode cL_set 19 = .ok (.iconst 1, 1) := by decide +kernel
theorem dL_set_20 : decode cL_set 20 = .ok (.ireturn, 1) := by decide +kernel
theorem dL_set_21 : decode cL_set 21 = .ok (.astore 6, 2) := by decide +kernel
theorem dL_set_23 : decode cL_set 23 = .ok (.iconst 2, 1) := by decide +kernel
theorem dL_set_24 : decode cL_set 24 = .ok (.ireturn, 1) := by decide +kernel
theorem dL_set_25 : decode cL_set 25 = .ok (.astore 6, 2) := by decide +kernel
theorem dL_set_27 : decode cL_set 27 = .ok (.iconst 3, 1) := by decide +kernel
theorem dL_set_28 : decode cL_set 28 = .ok (.ireturn, 1) := by decide +kernel
theorem dL_set_29 : decode cL_set 29 = .ok (.astore 6, 2) := by decide +kernel
theorem dL_set_31 : decode cL_set 31 = .ok (.iconst 4, 1) := by decide +kernel
theorem dL_set_32 : decode cL_set 32 = .ok (.ireturn, 1) := by decide +kernel
theorem dL_set_33 : decode cL_set 33 = .ok (.iconst 0, 1) := by decide +kernel
theorem dL_set_34 : decode cL_set 34 = .ok (.ireturn, 1) := by decide +kernel
theorem dL_take_0 : decode cL_take 0 = .ok (.aload_n 3, 1) := by decide +kernel
theorem dL_take_1 : decode cL_take 1 = .ok (.iconst 0, 1) := by decide +kernel
theorem dL_take_2 : decode cL_take 2 = .ok (.aload_n 0, 1) := by decide +kernel
theorem dL_take_3 : decode cL_take 3 = .ok (.iload_n 1, 1) := by decide +kernel
theorem dL_take_4 : decode cL_take 4 = .ok (.iload_n 2, 1) := by decide +kernel
theorem dL_take_5 : decode cL_take 5 = .ok (.invokevirtual 78, 3) := by decide +kernel
theorem dL_take_8 : decode cL_take 8 = .ok (.i2l, 1) := by decide +kernel
theorem dL_take_9 : decode cL_take 9 = .ok (.lastore, 1) := by decide +kernel
theorem dL_take_10 : decode cL_take 10 = .ok (.goto 19, 3) := by decide +kernel
theorem dL_take_13 : decode cL_take 13 = .ok (.astore 4, 2) := by decide +kernel
theorem dL_take_15 : decode cL_take 15 = .ok (.iconst 1, 1) := by decide +kernel
theorem dL_take_16 : decode cL_take 16 = .ok (.ireturn, 1) := by decide +kernel
theorem dL_take_17 : decode cL_take 17 = .ok (.astore 4, 2) := by decide +kernel
theorem dL_take_19 : decode cL_take 19 = .ok (.iconst 2, 1) := by decide +kernel
theorem dL_take_20 : decode cL_take 20 = .ok (.ireturn, 1) := by decide +kernel
theorem dL_take_21 : decode cL_take 21 = .ok (.astore 4, 2) := by decide +kernel
theorem dL_take_23 : decode cL_take 23 = .ok (.iconst 3, 1) := by decide +kernel
theorem dL_take_24 : decode cL_take 24 = .ok (.ireturn, 1) := by decide +kernel
theorem dL_take_25 : decode cL_take 25 = .ok (.astore 4, 2) := by decide +kernel
theorem dL_take_27 : decode cL_take 27 = .ok (.iconst 4, 1) := by decide +kernel
theorem dL_take_28 : decode cL_take 28 = .ok (.ireturn, 1) := by decide +kernel
theorem dL_take_29 : decode cL_take 29 = .ok (.iconst 0, 1) := by decide +kernel
theorem dL_take_30 : decode cL_take 30 = .ok (.ireturn, 1) := by decide +kernel
theorem dL_drop_0 : decode cL_drop 0 = .ok (.aload 4, 2) := by decide +kernel
theorem dL_drop_2 : decode cL_drop 2 = .ok (.iconst 0, 1) := by decide +kernel
theorem dL_drop_3 : decode cL_drop 3 = .ok (.aload_n 0, 1) := by decide +kernel
theorem dL_drop_4 : decode cL_drop 4 = .ok (.iload_n 1, 1) := by decide +kernel
theorem dL_drop_5 : decode cL_drop 5 = .ok (.iload_n 2, 1) := by decide +kernel
theorem dL_drop_6 : decode cL_drop 6 = .ok (.iload_n 3, 1) := by decide +kernel
theorem dL_drop_7 : decode cL_drop 7 = .ok (.invokevirtual 81, 3) := by decide +kernel
theorem dL_drop_10 : decode cL_drop 10 = .ok (.ifCond .eq 7, 3) := by decide +kernel
theorem dL_drop_13 : decode cL_drop 13 = .ok (.lconst 1, 1) := by decide +kernel
theorem dL_drop_14 : decode cL_drop 14 = .ok (.goto 4, 3) := by decide +kernel
theorem dL_drop_17 : decode cL_drop 17 = .ok (.lconst 0, 1) := by decide +kernel
theorem dL_drop_18 : decode cL_drop 18 = .ok (.lastore, 1) := by decide +kernel
theorem dL_drop_19 : decode cL_drop 19 = .ok (.goto 19, 3) := by decide +kernel
theorem dL_drop_22 : decode cL_drop 22 = .ok (.astore 5, 2) := by decide +kernel
theorem dL_drop_24 : decode cL_drop 24 = .ok (.iconst 1, 1) := by decide +kernel
theorem dL_drop_25 : decode cL_drop 25 = .ok (.ireturn, 1) := by decide +kernel
theorem dL_drop_26 : decode cL_drop 26 = .ok (.astore 5, 2) := by decide +kernel
theorem dL_drop_28 : decode cL_drop 28 = .ok (.iconst 2, 1) := by decide +kernel
theorem dL_drop_29 : decode cL_drop 29 = .ok (.ireturn, 1) := by decide +kernel
theorem dL_drop_30 : decode cL_drop 30 = .ok (.astore 5, 2) := by decide +kernel
theorem dL_drop_32 : decode cL_drop 32 = .ok (.iconst 3, 1) := by decide +kernel
theorem dL_drop_33 : decode cL_drop 33 = .ok (.ireturn, 1) := by decide +kernel
theorem dL_drop_34 : decode cL_drop 34 = .ok (.astore 5, 2) := by decide +kernel
theorem dL_drop_36 : decode cL_drop 36 = .ok (.iconst 4, 1) := by decide +kernel
theorem dL_drop_37 : decode cL_drop 37 = .ok (.ireturn, 1) := by decide +kernel
theorem dL_drop_38 : decode cL_drop 38 = .ok (.iconst 0, 1) := by decide +kernel
theorem dL_drop_39 : decode cL_drop 39 = .ok (.ireturn, 1) := by decide +kernel
theorem dL_wipe_0 : decode cL_wipe 0 = .ok (.aload_n 2, 1) := by decide +kernel
theorem dL_wipe_1 : decode cL_wipe 1 = .ok (.iconst 0, 1) := by decide +kernel
theorem dL_wipe_2 : decode cL_wipe 2 = .ok (.aload_n 0, 1) := by decide +kernel
theorem dL_wipe_3 : decode cL_wipe 3 = .ok (.iload_n 1, 1) := by decide +kernel
theorem dL_wipe_4 : decode cL_wipe 4 = .ok (.invokevirtual 85, 3) := by decide +kernel
theorem dL_wipe_7 : decode cL_wipe 7 = .ok (.i2l, 1) := by decide +kernel
theorem dL_wipe_8 : decode cL_wipe 8 = .ok (.lastore, 1) := by decide +kernel
theorem dL_wipe_9 : decode cL_wipe 9 = .ok (.goto 12, 3) := by decide +kernel
theorem dL_wipe_12 : decode cL_wipe 12 = .ok (.astore_n 3, 1) := by decide +kernel
theorem dL_wipe_13 : decode cL_wipe 13 = .ok (.iconst 1, 1) := by decide +kernel
theorem dL_wipe_14 : decode cL_wipe 14 = .ok (.ireturn, 1) := by decide +kernel
theorem dL_wipe_15 : decode cL_wipe 15 = .ok (.astore_n 3, 1) := by decide +kernel
theorem dL_wipe_16 : decode cL_wipe 16 = .ok (.iconst 2, 1) := by decide +kernel
theorem dL_wipe_17 : decode cL_wipe 17 = .ok (.ireturn, 1) := by decide +kernel
theorem dL_wipe_18 : decode cL_wipe 18 = .ok (.astore_n 3, 1) := by decide +kernel
theorem dL_wipe_19 : decode cL_wipe 19 = .ok (.iconst 3, 1) := by decide +kernel
theorem dL_wipe_20 : decode cL_wipe 20 = .ok (.ireturn, 1) := by decide +kernel
theorem dL_wipe_21 : decode cL_wipe 21 = .ok (.iconst 0, 1) := by decide +kernel
theorem dL_wipe_22 : decode cL_wipe 22 = .ok (.ireturn, 1) := by decide +kernel
theorem dL_putAll_0 : decode cL_putAll 0 = .ok (.aload 4, 2) := by decide +kernel
theorem dL_putAll_2 : decode cL_putAll 2 = .ok (.iconst 0, 1) := by decide +kernel
theorem dL_putAll_3 : decode cL_putAll 3 = .ok (.aload_n 0, 1) := by decide +kernel
theorem dL_putAll_4 : decode cL_putAll 4 = .ok (.iload_n 1, 1) := by decide +kernel
theorem dL_putAll_5 : decode cL_putAll 5 = .ok (.iload_n 2, 1) := by decide +kernel
theorem dL_putAll_6 : decode cL_putAll 6 = .ok (.iload_n 3, 1) := by decide +kernel
theorem dL_putAll_7 : decode cL_putAll 7 = .ok (.invokevirtual 88, 3) := by decide +kernel
theorem dL_putAll_10 : decode cL_putAll 10 = .ok (.i2l, 1) := by decide +kernel
theorem dL_putAll_11 : decode cL_putAll 11 = .ok (.lastore, 1) := by decide +kernel
theorem dL_putAll_12 : decode cL_putAll 12 = .ok (.goto 23, 3) := by decide +kernel
theorem dL_putAll_15 : decode cL_putAll 15 = .ok (.astore 5, 2) := by decide +kernel
theorem dL_putAll_17 : decode cL_putAll 17 = .ok (.iconst 1, 1) := by decide +kernel
theorem dL_putAll_18 : decode cL_putAll 18 = .ok (.ireturn, 1) := by decide +kernel
theorem dL_putAll_19 : decode cL_putAll 19 = .ok (.astore 5, 2) := by decide +kernel
theorem dL_putAll_21 : decode cL_putAll 21 = .ok (.iconst 2, 1) := by decide +kernel
theorem dL_putAll_22 : decode cL_putAll 22 = .ok (.ireturn, 1) := by decide +kernel
theorem dL_putAll_23 : decode cL_putAll 23 = .ok (.astore 5, 2) := by decide +kernel
theorem dL_putAll_25 : decode cL_putAll 25 = .ok (.iconst 3, 1) := by decide +kernel
theorem dL_putAll_26 : decode cL_putAll 26 = .ok (.ireturn, 1) := by decide +kernel
theorem dL_putAll_27 : decode cL_putAll 27 = .ok (.astore 5, 2) := by decide +kernel
theorem dL_putAll_29 : decode cL_putAll 29 = .ok (.iconst 4, 1) := by decide +kernel
theorem dL_putAll_30 : decode cL_putAll 30 = .ok (.ireturn, 1) := by decide +kernel
theorem dL_putAll_31 : decode cL_putAll 31 = .ok (.astore 5, 2) := by decide +kernel
theorem dL_putAll_33 : decode cL_putAll 33 = .ok (.iconst 5, 1) := by decide +kernel
theorem dL_putAll_34 : decode cL_putAll 34 = .ok (.ireturn, 1) := by decide +kernel
theorem dL_putAll_35 : decode cL_putAll 35 = .ok (.iconst 0, 1) := by decide +kernel
theorem dL_putAll_36 : decode cL_putAll 36 = .ok (.ireturn, 1) := by decide +kernel
theorem dL_keep_0 : decode cL_keep 0 = .ok (.aload 4, 2) := by decide +kernel
theorem dL_keep_2 : decode cL_keep 2 = .ok (.iconst 0, 1) := by decide +kernel
theorem dL_keep_3 : decode cL_keep 3 = .ok (.aload_n 0, 1) := by decide +kernel
theorem dL_keep_4 : decode cL_keep 4 = .ok (.iload_n 1, 1) := by decide +kernel
theorem dL_keep_5 : decode cL_keep 5 = .ok (.iload_n 2, 1) := by decide +kernel
theorem dL_keep_6 : decode cL_keep 6 = .ok (.iload_n 3, 1) := by decide +kernel
theorem dL_keep_7 : decode cL_keep 7 = .ok (.invokevirtual 91, 3) := by decide +kernel
theorem dL_keep_10 : decode cL_keep 10 = .ok (.i2l, 1) := by decide +kernel
theorem dL_keep_11 : decode cL_keep 11 = .ok (.lastore, 1) := by decide +kernel
theorem dL_keep_12 : decode cL_keep 12 = .ok (.goto 15, 3) := by decide +kernel
theorem dL_keep_15 : decode cL_keep 15 = .ok (.astore 5, 2) := by decide +kernel
theorem dL_keep_17 : decode cL_keep 17 = .ok (.iconst 1, 1) := by decide +kernel
theorem dL_keep_18 : decode cL_keep 18 = .ok (.ireturn, 1) := by decide +kernel
theorem dL_keep_19 : decode cL_keep 19 = .ok (.astore 5, 2) := by decide +kernel
theorem dL_keep_21 : decode cL_keep 21 = .ok (.iconst 2, 1) := by decide +kernel
theorem dL_keep_22 : decode cL_keep 22 = .ok (.ireturn, 1) := by decide +kernel
theorem dL_keep_23 : decode cL_keep 23 = .ok (.astore 5, 2) := by decide +kernel
theorem dL_keep_25 : decode cL_keep 25 = .ok (.iconst 3, 1) := by decide +kernel
theorem dL_keep_26 : decode cL_keep 26 = .ok (.ireturn, 1) := by decide +kernel
theorem dL_keep_27 : decode cL_keep 27 = .ok (.iconst 0, 1) := by decide +kernel
theorem dL_keep_28 : decode cL_keep 28 = .ok (.ireturn, 1) := by decide +kernel
theorem dL_strip_0 : decode cL_strip 0 = .ok (.aload_n 3, 1) := by decide +kernel
theorem dL_strip_1 : decode cL_strip 1 = .ok (.iconst 0, 1) := by decide +kernel
theorem dL_strip_2 : decode cL_strip 2 = .ok (.aload_n 0, 1) := by decide +kernel
theorem dL_strip_3 : decode cL_strip 3 = .ok (.iload_n 1, 1) := by decide +kernel
theorem dL_strip_4 : decode cL_strip 4 = .ok (.iload_n 2, 1) := by decide +kernel
theorem dL_strip_5 : decode cL_strip 5 = .ok (.invokevirtual 95, 3) := by decide +kernel
theorem dL_strip_8 : decode cL_strip 8 = .ok (.i2l, 1) := by decide +kernel
theorem dL_strip_9 : decode cL_strip 9 = .ok (.lastore, 1) := by decide +kernel
theorem dL_strip_10 : decode cL_strip 10 = .ok (.goto 19, 3) := by decide +kernel
theorem dL_strip_13 : decode cL_strip 13 = .ok (.astore 4, 2) := by decide +kernel
theorem dL_strip_15 : decode cL_strip 15 = .ok (.iconst 1, 1) := by decide +kernel
theorem dL_strip_16 : decode cL_strip 16 = .ok (.ireturn, 1) := by decide +kernel
theorem dL_strip_17 : decode cL_strip 17 = .ok (.astore 4, 2) := by decide +kernel
theorem dL_strip_19 : decode cL_strip 19 = .ok (.iconst 2, 1) := by decide +kernel
theorem dL_strip_20 : decode cL_strip 20 = .ok (.ireturn, 1) := by decide +kernel
theorem dL_strip_21 : decode cL_strip 21 = .ok (.astore 4, 2) := by decide +kernel
theorem dL_strip_23 : decode cL_strip 23 = .ok (.iconst 3, 1) := by decide +kernel
theorem dL_strip_24 : decode cL_strip 24 = .ok (.ireturn, 1) := by decide +kernel
theorem dL_strip_25 : decode cL_strip 25 = .ok (.astore 4, 2) := by decide +kernel
theorem dL_strip_27 : decode cL_strip 27 = .ok (.iconst 4, 1) := by decide +kernel
theorem dL_strip_28 : decode cL_strip 28 = .ok (.ireturn, 1) := by decide +kernel
theorem dL_strip_29 : decode cL_strip 29 = .ok (.iconst 0, 1) := by decide +kernel
theorem dL_strip_30 : decode cL_strip 30 = .ok (.ireturn, 1) := by decide +kernel
theorem dL_weave_0 : decode cL_weave 0 = .ok (.aload 4, 2) := by decide +kernel
theorem dL_weave_2 : decode cL_weave 2 = .ok (.iconst 0, 1) := by decide +kernel
theorem dL_weave_3 : decode cL_weave 3 = .ok (.aload_n 0, 1) := by decide +kernel
theorem dL_weave_4 : decode cL_weave 4 = .ok (.iload_n 1, 1) := by decide +kernel
theorem dL_weave_5 : decode cL_weave 5 = .ok (.iload_n 2, 1) := by decide +kernel
theorem dL_weave_6 : decode cL_weave 6 = .ok (.iload_n 3, 1) := by decide +kernel
theorem dL_weave_7 : decode cL_weave 7 = .ok (.invokevirtual 98, 3) := by decide +kernel
theorem dL_weave_10 : decode cL_weave 10 = .ok (.i2l, 1) := by decide +kernel
theorem dL_weave_11 : decode cL_weave 11 = .ok (.lastore, 1) := by decide +kernel
theorem dL_weave_12 : decode cL_weave 12 = .ok (.goto 23, 3) := by decide +kernel
theorem dL_weave_15 : decode cL_weave 15 = .ok (.astore 5, 2) := by decide +kernel
theorem dL_weave_17 : decode cL_weave 17 = .ok (.iconst 1, 1) := by decide +kernel
theorem dL_weave_18 : decode cL_weave 18 = .ok (.ireturn, 1) := by decide +kernel
theorem dL_weave_19 : decode cL_weave 19 = .ok (.astore 5, 2) := by decide +kernel
theorem dL_weave_21 : decode cL_weave 21 = .ok (.iconst 2, 1) := by decide +kernel
theorem dL_weave_22 : decode cL_weave 22 = .ok (.ireturn, 1) := by decide +kernel
theorem dL_weave_23 : decode cL_weave 23 = .ok (.astore 5, 2) := by decide +kernel
theorem dL_weave_25 : decode cL_weave 25 = .ok (.iconst 3, 1) := by decide +kernel
theorem dL_weave_26 : decode cL_weave 26 = .ok (.ireturn, 1) := by decide +kernel
theorem dL_weave_27 : decode cL_weave 27 = .ok (.astore 5, 2) := by decide +kernel
theorem dL_weave_29 : decode cL_weave 29 = .ok (.iconst 4, 1) := by decide +kernel
theorem dL_weave_30 : decode cL_weave 30 = .ok (.ireturn, 1) := by decide +kernel
theorem dL_weave_31 : decode cL_weave 31 = .ok (.astore 5, 2) := by decide +kernel
theorem dL_weave_33 : decode cL_weave 33 = .ok (.iconst 5, 1) := by decide +kernel
theorem dL_weave_34 : decode cL_weave 34 = .ok (.ireturn, 1) := by decide +kernel
theorem dL_weave_35 : decode cL_weave 35 = .ok (.iconst 0, 1) := by decide +kernel
theorem dL_weave_36 : decode cL_weave 36 = .ok (.ireturn, 1) := by decide +kernel
theorem dL_raise_0 : decode cL_raise 0 = .ok (.aload_n 3, 1) := by decide +kernel
theorem dL_raise_1 : decode cL_raise 1 = .ok (.iconst 0, 1) := by decide +kernel
theorem dL_raise_2 : decode cL_raise 2 = .ok (.aload_n 0, 1) := by decide +kernel
theorem dL_raise_3 : decode cL_raise 3 = .ok (.iload_n 1, 1) := by decide +kernel
theorem dL_raise_4 : decode cL_raise 4 = .ok (.iload_n 2, 1) := by decide +kernel
theorem dL_raise_5 : decode cL_raise 5 = .ok (.invokevirtual 101, 3) := by decide +kernel
theorem dL_raise_8 : decode cL_raise 8 = .ok (.i2l, 1) := by decide +kernel
theorem dL_raise_9 : decode cL_raise 9 = .ok (.lastore, 1) := by decide +kernel
theorem dL_raise_10 : decode cL_raise 10 = .ok (.goto 19, 3) := by decide +kernel
theorem dL_raise_13 : decode cL_raise 13 = .ok (.astore 4, 2) := by decide +kernel
theorem dL_raise_15 : decode cL_raise 15 = .ok (.iconst 1, 1) := by decide +kernel
theorem dL_raise_16 : decode cL_raise 16 = .ok (.ireturn, 1) := by decide +kernel
theorem dL_raise_17 : decode cL_raise 17 = .ok (.astore 4, 2) := by decide +kernel
theorem dL_raise_19 : decode cL_raise 19 = .ok (.iconst 2, 1) := by decide +kernel
theorem dL_raise_20 : decode cL_raise 20 = .ok (.ireturn, 1) := by decide +kernel
theorem dL_raise_21 : decode cL_raise 21 = .ok (.astore 4, 2) := by decide +kernel
theorem dL_raise_23 : decode cL_raise 23 = .ok (.iconst 3, 1) := by decide +kernel
theorem dL_raise_24 : decode cL_raise 24 = .ok (.ireturn, 1) := by decide +kernel
theorem dL_raise_25 : decode cL_raise 25 = .ok (.astore 4, 2) := by decide +kernel
theorem dL_raise_27 : decode cL_raise 27 = .ok (.iconst 4, 1) := by decide +kernel
theorem dL_raise_28 : decode cL_raise 28 = .ok (.ireturn, 1) := by decide +kernel
theorem dL_raise_29 : decode cL_raise 29 = .ok (.iconst 0, 1) := by decide +kernel
theorem dL_raise_30 : decode cL_raise 30 = .ok (.ireturn, 1) := by decide +kernel
theorem dL_sort_0 : decode cL_sort 0 = .ok (.aload_n 3, 1) := by decide +kernel
theorem dL_sort_1 : decode cL_sort 1 = .ok (.iconst 0, 1) := by decide +kernel
theorem dL_sort_2 : decode cL_sort 2 = .ok (.aload_n 0, 1) := by decide +kernel
theorem dL_sort_3 : decode cL_sort 3 = .ok (.iload_n 1, 1) := by decide +kernel
theorem dL_sort_4 : decode cL_sort 4 = .ok (.iload_n 2, 1) := by decide +kernel
theorem dL_sort_5 : decode cL_sort 5 = .ok (.invokevirtual 104, 3) := by decide +kernel
theorem dL_sort_8 : decode cL_sort 8 = .ok (.i2l, 1) := by decide +kernel
theorem dL_sort_9 : decode cL_sort 9 = .ok (.lastore, 1) := by decide +kernel
theorem dL_sort_10 : decode cL_sort 10 = .ok (.goto 19, 3) := by decide +kernel
theorem dL_sort_13 : decode cL_sort 13 = .ok (.astore 4, 2) := by decide +kernel
theorem dL_sort_15 : decode cL_sort 15 = .ok (.iconst 1, 1) := by decide +kernel
theorem dL_sort_16 : decode cL_sort 16 = .ok (.ireturn, 1) := by decide +kernel
theorem dL_sort_17 : decode cL_sort 17 = .ok (.astore 4, 2) := by decide +kernel
theorem dL_sort_19 : decode cL_sort 19 = .ok (.iconst 2, 1) := by decide +kernel
theorem dL_sort_20 : decode cL_sort 20 = .ok (.ireturn, 1) := by decide +kernel
theorem dL_sort_21 : decode cL_sort 21 = .ok (.astore 4, 2) := by decide +kernel
theorem dL_sort_23 : decode cL_sort 23 = .ok (.iconst 3, 1) := by decide +kernel
theorem dL_sort_24 : decode cL_sort 24 = .ok (.ireturn, 1) := by decide +kernel
theorem dL_sort_25 : decode cL_sort 25 = .ok (.astore 4, 2) := by decide +kernel
theorem dL_sort_27 : decode cL_sort 27 = .ok (.iconst 4, 1) := by decide +kernel
theorem dL_sort_28 : decode cL_sort 28 = .ok (.ireturn, 1) := by decide +kernel
theorem dL_sort_29 : decode cL_sort 29 = .ok (.iconst 0, 1) := by decide +kernel
theorem dL_sort_30 : decode cL_sort 30 = .ok (.ireturn, 1) := by decide +kernel
theorem dL_search_0 : decode cL_search 0 = .ok (.aload_n 3, 1) := by decide +kernel
theorem dL_search_1 : decode cL_search 1 = .ok (.iconst 0, 1) := by decide +kernel
theorem dL_search_2 : decode cL_search 2 = .ok (.aload_n 0, 1) := by decide +kernel
theorem dL_search_3 : decode cL_search 3 = .ok (.iload_n 1, 1) := by decide +kernel
theorem dL_search_4 : decode cL_search 4 = .ok (.iload_n 2, 1) := by decide +kernel
theorem dL_search_5 : decode cL_search 5 = .ok (.invokevirtual 108, 3) := by decide +kernel
theorem dL_search_8 : decode cL_search 8 = .ok (.i2l, 1) := by decide +kernel
theorem dL_search_9 : decode cL_search 9 = .ok (.lastore, 1) := by decide +kernel
theorem dL_search_10 : decode cL_search 10 = .ok (.goto 15, 3) := by decide +kernel
theorem dL_search_13 : decode cL_search 13 = .ok (.astore 4, 2) := by decide +kernel
theorem dL_search_15 : decode cL_search 15 = .ok (.iconst 1, 1) := by decide +kernel
theorem dL_search_16 : decode cL_search 16 = .ok (.ireturn, 1) := by decide +kernel
theorem dL_search_17 : decode cL_search 17 = .ok (.astore 4, 2) := by decide +kernel
theorem dL_search_19 : decode cL_search 19 = .ok (.iconst 2, 1) := by decide +kernel
theorem dL_search_20 : decode cL_search 20 = .ok (.ireturn, 1) := by decide +kernel
theorem dL_search_21 : decode cL_search 21 = .ok (.astore 4, 2) := by decide +kernel
theorem dL_search_23 : decode cL_search 23 = .ok (.iconst 3, 1) := by decide +kernel
theorem dL_search_24 : decode cL_search 24 = .ok (.ireturn, 1) := by decide +kernel
theorem dL_search_25 : decode cL_search 25 = .ok (.iconst 0, 1) := by decide +kernel
theorem dL_search_26 : decode cL_search 26 = .ok (.ireturn, 1) := by decide +kernel
theorem dL_turn_0 : decode cL_turn 0 = .ok (.aload_n 2, 1) := by decide +kernel
theorem dL_turn_1 : decode cL_turn 1 = .ok (.iconst 0, 1) := by decide +kernel
theorem dL_turn_2 : decode cL_turn 2 = .ok (.aload_n 0, 1) := by decide +kernel
theorem dL_turn_3 : decode cL_turn 3 = .ok (.iload_n 1, 1) := by decide +kernel
theorem dL_turn_4 : decode cL_turn 4 = .ok (.invokevirtual 111, 3) := by decide +kernel
theorem dL_turn_7 : decode cL_turn 7 = .ok (.i2l, 1) := by decide +kernel
theorem dL_turn_8 : decode cL_turn 8 = .ok (.lastore, 1) := by decide +kernel
theorem dL_turn_9 : decode cL_turn 9 = .ok (.goto 12, 3) := by decide +kernel
theorem dL_turn_12 : decode cL_turn 12 = .ok (.astore_n 3, 1) := by decide +kernel
theorem dL_turn_13 : decode cL_turn 13 = .ok (.iconst 1, 1) := by decide +kernel
theorem dL_turn_14 : decode cL_turn 14 = .ok (.ireturn, 1) := by decide +kernel
theorem dL_turn_15 : decode cL_turn 15 = .ok (.astore_n 3, 1) := by decide +kernel
theorem dL_turn_16 : decode cL_turn 16 = .ok (.iconst 2, 1) := by decide +kernel
theorem dL_turn_17 : decode cL_turn 17 = .ok (.ireturn, 1) := by decide +kernel
theorem dL_turn_18 : decode cL_turn 18 = .ok (.astore_n 3, 1) := by decide +kernel
theorem dL_turn_19 : decode cL_turn 19 = .ok (.iconst 3, 1) := by decide +kernel
theorem dL_turn_20 : decode cL_turn 20 = .ok (.ireturn, 1) := by decide +kernel
theorem dL_turn_21 : decode cL_turn 21 = .ok (.iconst 0, 1) := by decide +kernel
theorem dL_turn_22 : decode cL_turn 22 = .ok (.ireturn, 1) := by decide +kernel
theorem dL_swap_0 : decode cL_swap 0 = .ok (.aload 4, 2) := by decide +kernel
theorem dL_swap_2 : decode cL_swap 2 = .ok (.iconst 0, 1) := by decide +kernel
theorem dL_swap_3 : decode cL_swap 3 = .ok (.aload_n 0, 1) := by decide +kernel
theorem dL_swap_4 : decode cL_swap 4 = .ok (.iload_n 1, 1) := by decide +kernel
theorem dL_swap_5 : decode cL_swap 5 = .ok (.iload_n 2, 1) := by decide +kernel
theorem dL_swap_6 : decode cL_swap 6 = .ok (.iload_n 3, 1) := by decide +kernel
theorem dL_swap_7 : decode cL_swap 7 = .ok (.invokevirtual 114, 3) := by decide +kernel
theorem dL_swap_10 : decode cL_swap 10 = .ok (.i2l, 1) := by decide +kernel
theorem dL_swap_11 : decode cL_swap 11 = .ok (.lastore, 1) := by decide +kernel
theorem dL_swap_12 : decode cL_swap 12 = .ok (.goto 19, 3) := by decide +kernel
theorem dL_swap_15 : decode cL_swap 15 = .ok (.astore 5, 2) := by decide +kernel
theorem dL_swap_17 : decode cL_swap 17 = .ok (.iconst 1, 1) := by decide +kernel
theorem dL_swap_18 : decode cL_swap 18 = .ok (.ireturn, 1) := by decide +kernel
theorem dL_swap_19 : decode cL_swap 19 = .ok (.astore 5, 2) := by decide +kernel
theorem dL_swap_21 : decode cL_swap 21 = .ok (.iconst 2, 1) := by decide +kernel
theorem dL_swap_22 : decode cL_swap 22 = .ok (.ireturn, 1) := by decide +kernel
theorem dL_swap_23 : decode cL_swap 23 = .ok (.astore 5, 2) := by decide +kernel
theorem dL_swap_25 : decode cL_swap 25 = .ok (.iconst 3, 1) := by decide +kernel
theorem dL_swap_26 : decode cL_swap 26 = .ok (.ireturn, 1) := by decide +kernel
theorem dL_swap_27 : decode cL_swap 27 = .ok (.astore 5, 2) := by decide +kernel
theorem dL_swap_29 : decode cL_swap 29 = .ok (.iconst 4, 1) := by decide +kernel
theorem dL_swap_30 : decode cL_swap 30 = .ok (.ireturn, 1) := by decide +kernel
theorem dL_swap_31 : decode cL_swap 31 = .ok (.iconst 0, 1) := by decide +kernel
theorem dL_swap_32 : decode cL_swap 32 = .ok (.ireturn, 1) := by decide +kernel
theorem dL_rotate_0 : decode cL_rotate 0 = .ok (.aload_n 3, 1) := by decide +kernel
theorem dL_rotate_1 : decode cL_rotate 1 = .ok (.iconst 0, 1) := by decide +kernel
theorem dL_rotate_2 : decode cL_rotate 2 = .ok (.aload_n 0, 1) := by decide +kernel
theorem dL_rotate_3 : decode cL_rotate 3 = .ok (.iload_n 1, 1) := by decide +kernel
theorem dL_rotate_4 : decode cL_rotate 4 = .ok (.iload_n 2, 1) := by decide +kernel
theorem dL_rotate_5 : decode cL_rotate 5 = .ok (.invokevirtual 117, 3) := by decide +kernel
theorem dL_rotate_8 : decode cL_rotate 8 = .ok (.i2l, 1) := by decide +kernel
theorem dL_rotate_9 : decode cL_rotate 9 = .ok (.lastore, 1) := by decide +kernel
theorem dL_rotate_10 : decode cL_rotate 10 = .ok (.goto 19, 3) := by decide +kernel
theorem dL_rotate_13 : decode cL_rotate 13 = .ok (.astore 4, 2) := by decide +kernel
theorem dL_rotate_15 : decode cL_rotate 15 = .ok (.iconst 1, 1) := by decide +kernel
theorem dL_rotate_16 : decode cL_rotate 16 = .ok (.ireturn, 1) := by decide +kernel
theorem dL_rotate_17 : decode cL_rotate 17 = .ok (.astore 4, 2) := by decide +kernel
theorem dL_rotate_19 : decode cL_rotate 19 = .ok (.iconst 2, 1) := by decide +kernel
theorem dL_rotate_20 : decode cL_rotate 20 = .ok (.ireturn, 1) := by decide +kernel
theorem dL_rotate_21 : decode cL_rotate 21 = .ok (.astore 4, 2) := by decide +kernel
theorem dL_rotate_23 : decode cL_rotate 23 = .ok (.iconst 3, 1) := by decide +kernel
theorem dL_rotate_24 : decode cL_rotate 24 = .ok (.ireturn, 1) := by decide +kernel
theorem dL_rotate_25 : decode cL_rotate 25 = .ok (.astore 4, 2) := by decide +kernel
theorem dL_rotate_27 : decode cL_rotate 27 = .ok (.iconst 4, 1) := by decide +kernel
theorem dL_rotate_28 : decode cL_rotate 28 = .ok (.ireturn, 1) := by decide +kernel
theorem dL_rotate_29 : decode cL_rotate 29 = .ok (.iconst 0, 1) := by decide +kernel
theorem dL_rotate_30 : decode cL_rotate 30 = .ok (.ireturn, 1) := by decide +kernel
theorem dL_fill_0 : decode cL_fill 0 = .ok (.aload 4, 2) := by decide +kernel
theorem dL_fill_2 : decode cL_fill 2 = .ok (.iconst 0, 1) := by decide +kernel
theorem dL_fill_3 : decode cL_fill 3 = .ok (.aload_n 0, 1) := by decide +kernel
theorem dL_fill_4 : decode cL_fill 4 = .ok (.iload_n 1, 1) := by decide +kernel
theorem dL_fill_5 : decode cL_fill 5 = .ok (.iload_n 2, 1) := by decide +kernel
theorem dL_fill_6 : decode cL_fill 6 = .ok (.iload_n 3, 1) := by decide +kernel
theorem dL_fill_7 : decode cL_fill 7 = .ok (.invokevirtual 120, 3) := by decide +kernel
theorem dL_fill_10 : decode cL_fill 10 = .ok (.i2l, 1) := by decide +kernel
theorem dL_fill_11 : decode cL_fill 11 = .ok (.lastore, 1) := by decide +kernel
theorem dL_fill_12 : decode cL_fill 12 = .ok (.goto 19, 3) := by decide +kernel
theorem dL_fill_15 : decode cL_fill 15 = .ok (.astore 5, 2) := by decide +kernel
theorem dL_fill_17 : decode cL_fill 17 = .ok (.iconst 1, 1) := by decide +kernel
theorem dL_fill_18 : decode cL_fill 18 = .ok (.ireturn, 1) := by decide +kernel
theorem dL_fill_19 : decode cL_fill 19 = .ok (.astore 5, 2) := by decide +kernel
theorem dL_fill_21 : decode cL_fill 21 = .ok (.iconst 2, 1) := by decide +kernel
theorem dL_fill_22 : decode cL_fill 22 = .ok (.ireturn, 1) := by decide +kernel
theorem dL_fill_23 : decode cL_fill 23 = .ok (.astore 5, 2) := by decide +kernel
theorem dL_fill_25 : decode cL_fill 25 = .ok (.iconst 3, 1) := by decide +kernel
theorem dL_fill_26 : decode cL_fill 26 = .ok (.ireturn, 1) := by decide +kernel
theorem dL_fill_27 : decode cL_fill 27 = .ok (.astore 5, 2) := by decide +kernel
theorem dL_fill_29 : decode cL_fill 29 = .ok (.iconst 4, 1) := by decide +kernel
theorem dL_fill_30 : decode cL_fill 30 = .ok (.ireturn, 1) := by decide +kernel
theorem dL_fill_31 : decode cL_fill 31 = .ok (.iconst 0, 1) := by decide +kernel
theorem dL_fill_32 : decode cL_fill 32 = .ok (.ireturn, 1) := by decide +kernel
theorem dL_rowIn_0 : decode cL_rowIn 0 = .ok (.aload 4, 2) := by decide +kernel
theorem dL_rowIn_2 : decode cL_rowIn 2 = .ok (.iconst 0, 1) := by decide +kernel
theorem dL_rowIn_3 : decode cL_rowIn 3 = .ok (.aload_n 0, 1) := by decide +kernel
theorem dL_rowIn_4 : decode cL_rowIn 4 = .ok (.iload_n 1, 1) := by decide +kernel
theorem dL_rowIn_5 : decode cL_rowIn 5 = .ok (.iload_n 2, 1) := by decide +kernel
theorem dL_rowIn_6 : decode cL_rowIn 6 = .ok (.iload_n 3, 1) := by decide +kernel
theorem dL_rowIn_7 : decode cL_rowIn 7 = .ok (.invokevirtual 123, 3) := by decide +kernel
theorem dL_rowIn_10 : decode cL_rowIn 10 = .ok (.i2l, 1) := by decide +kernel
theorem dL_rowIn_11 : decode cL_rowIn 11 = .ok (.lastore, 1) := by decide +kernel
theorem dL_rowIn_12 : decode cL_rowIn 12 = .ok (.goto 11, 3) := by decide +kernel
theorem dL_rowIn_15 : decode cL_rowIn 15 = .ok (.astore 5, 2) := by decide +kernel
theorem dL_rowIn_17 : decode cL_rowIn 17 = .ok (.iconst 1, 1) := by decide +kernel
theorem dL_rowIn_18 : decode cL_rowIn 18 = .ok (.ireturn, 1) := by decide +kernel
theorem dL_rowIn_19 : decode cL_rowIn 19 = .ok (.astore 5, 2) := by decide +kernel
theorem dL_rowIn_21 : decode cL_rowIn 21 = .ok (.iconst 2, 1) := by decide +kernel
theorem dL_rowIn_22 : decode cL_rowIn 22 = .ok (.ireturn, 1) := by decide +kernel
theorem dL_rowIn_23 : decode cL_rowIn 23 = .ok (.iconst 0, 1) := by decide +kernel
theorem dL_rowIn_24 : decode cL_rowIn 24 = .ok (.ireturn, 1) := by decide +kernel
theorem dL_often_0 : decode cL_often 0 = .ok (.aload 4, 2) := by decide +kernel
theorem dL_often_2 : decode cL_often 2 = .ok (.iconst 0, 1) := by decide +kernel
theorem dL_often_3 : decode cL_often 3 = .ok (.aload_n 0, 1) := by decide +kernel
theorem dL_often_4 : decode cL_often 4 = .ok (.iload_n 1, 1) := by decide +kernel
theorem dL_often_5 : decode cL_often 5 = .ok (.iload_n 2, 1) := by decide +kernel
theorem dL_often_6 : decode cL_often 6 = .ok (.iload_n 3, 1) := by decide +kernel
theorem dL_often_7 : decode cL_often 7 = .ok (.invokevirtual 126, 3) := by decide +kernel
theorem dL_often_10 : decode cL_often 10 = .ok (.i2l, 1) := by decide +kernel
theorem dL_often_11 : decode cL_often 11 = .ok (.lastore, 1) := by decide +kernel
theorem dL_often_12 : decode cL_often 12 = .ok (.goto 11, 3) := by decide +kernel
theorem dL_often_15 : decode cL_often 15 = .ok (.astore 5, 2) := by decide +kernel
theorem dL_often_17 : decode cL_often 17 = .ok (.iconst 1, 1) := by decide +kernel
theorem dL_often_18 : decode cL_often 18 = .ok (.ireturn, 1) := by decide +kernel
theorem dL_often_19 : decode cL_often 19 = .ok (.astore 5, 2) := by decide +kernel
theorem dL_often_21 : decode cL_often 21 = .ok (.iconst 2, 1) := by decide +kernel
theorem dL_often_22 : decode cL_often 22 = .ok (.ireturn, 1) := by decide +kernel
theorem dL_often_23 : decode cL_often 23 = .ok (.iconst 0, 1) := by decide +kernel
theorem dL_often_24 : decode cL_often 24 = .ok (.ireturn, 1) := by decide +kernel
theorem dL_areApart_0 : decode cL_areApart 0 = .ok (.aload_n 3, 1) := by decide +kernel
theorem dL_areApart_1 : decode cL_areApart 1 = .ok (.iconst 0, 1) := by decide +kernel
theorem dL_areApart_2 : decode cL_areApart 2 = .ok (.aload_n 0, 1) := by decide +kernel
theorem dL_areApart_3 : decode cL_areApart 3 = .ok (.iload_n 1, 1) := by decide +kernel
theorem dL_areApart_4 : decode cL_areApart 4 = .ok (.iload_n 2, 1) := by decide +kernel
theorem dL_areApart_5 : decode cL_areApart 5 = .ok (.invokevirtual 129, 3) := by decide +kernel
theorem dL_areApart_8 : decode cL_areApart 8 = .ok (.ifCond .eq 7, 3) := by decide +kernel
theorem dL_areApart_11 : decode cL_areApart 11 = .ok (.lconst 1, 1) := by decide +kernel
theorem dL_areApart_12 : decode cL_areApart 12 = .ok (.goto 4, 3) := by decide +kernel
theorem dL_areApart_15 : decode cL_areApart 15 = .ok (.lconst 0, 1) := by decide +kernel
theorem dL_areApart_16 : decode cL_areApart 16 = .ok (.lastore, 1) := by decide +kernel
theorem dL_areApart_17 : decode cL_areApart 17 = .ok (.goto 11, 3) := by decide +kernel
theorem dL_areApart_20 : decode cL_areApart 20 = .ok (.astore 4, 2) := by decide +kernel
theorem dL_areApart_22 : decode cL_areApart 22 = .ok (.iconst 1, 1) := by decide +kernel
theorem dL_areApart_23 : decode cL_areApart 23 = .ok (.ireturn, 1) := by decide +kernel
theorem dL_areApart_24 : decode cL_areApart 24 = .ok (.astore 4, 2) := by decide +kernel
theorem dL_areApart_26 : decode cL_areApart 26 = .ok (.iconst 2, 1) := by decide +kernel
theorem dL_areApart_27 : decode cL_areApart 27 = .ok (.ireturn, 1) := by decide +kernel
theorem dL_areApart_28 : decode cL_areApart 28 = .ok (.iconst 0, 1) := by decide +kernel
theorem dL_areApart_29 : decode cL_areApart 29 = .ok (.ireturn, 1) := by decide +kernel
theorem dL_end_0 : decode cL_end 0 = .ok (.aload_n 3, 1) := by decide +kernel
theorem dL_end_1 : decode cL_end 1 = .ok (.iconst 0, 1) := by decide +kernel
theorem dL_end_2 : decode cL_end 2 = .ok (.aload_n 0, 1) := by decide +kernel
theorem dL_end_3 : decode cL_end 3 = .ok (.iload_n 1, 1) := by decide +kernel
theorem dL_end_4 : decode cL_end 4 = .ok (.iload_n 2, 1) := by decide +kernel
theorem dL_end_5 : decode cL_end 5 = .ok (.invokevirtual 132, 3) := by decide +kernel
theorem dL_end_8 : decode cL_end 8 = .ok (.i2l, 1) := by decide +kernel
theorem dL_end_9 : decode cL_end 9 = .ok (.lastore, 1) := by decide +kernel
theorem dL_end_10 : decode cL_end 10 = .ok (.goto 15, 3) := by decide +kernel
theorem dL_end_13 : decode cL_end 13 = .ok (.astore 4, 2) := by decide +kernel
theorem dL_end_15 : decode cL_end 15 = .ok (.iconst 1, 1) := by decide +kernel
theorem dL_end_16 : decode cL_end 16 = .ok (.ireturn, 1) := by decide +kernel
theorem dL_end_17 : decode cL_end 17 = .ok (.astore 4, 2) := by decide +kernel
theorem dL_end_19 : decode cL_end 19 = .ok (.iconst 2, 1) := by decide +kernel
theorem dL_end_20 : decode cL_end 20 = .ok (.ireturn, 1) := by decide +kernel
theorem dL_end_21 : decode cL_end 21 = .ok (.astore 4, 2) := by decide +kernel
theorem dL_end_23 : decode cL_end 23 = .ok (.iconst 3, 1) := by decide +kernel
theorem dL_end_24 : decode cL_end 24 = .ok (.ireturn, 1) := by decide +kernel
theorem dL_end_25 : decode cL_end 25 = .ok (.iconst 0, 1) := by decide +kernel
theorem dL_end_26 : decode cL_end 26 = .ok (.ireturn, 1) := by decide +kernel
theorem dL_enter_0 : decode cL_enter 0 = .ok (.aload 5, 2) := by decide +kernel
theorem dL_enter_2 : decode cL_enter 2 = .ok (.iconst 0, 1) := by decide +kernel
theorem dL_enter_3 : decode cL_enter 3 = .ok (.aload_n 0, 1) := by decide +kernel
theorem dL_enter_4 : decode cL_enter 4 = .ok (.iload_n 1, 1) := by decide +kernel
theorem dL_enter_5 : decode cL_enter 5 = .ok (.iload_n 2, 1) := by decide +kernel
theorem dL_enter_6 : decode cL_enter 6 = .ok (.iload_n 3, 1) := by decide +kernel
theorem dL_enter_7 : decode cL_enter 7 = .ok (.iload 4, 2) := by decide +kernel
theorem dL_enter_9 : decode cL_enter 9 = .ok (.invokevirtual 136, 3) := by decide +kernel
theorem dL_enter_12 : decode cL_enter 12 = .ok (.ifCond .eq 7, 3) := by decide +kernel
theorem dL_enter_15 : decode cL_enter 15 = .ok (.lconst 1, 1) := by decide +kernel
theorem dL_enter_16 : decode cL_enter 16 = .ok (.goto 4, 3) := by decide +kernel
theorem dL_enter_19 : decode cL_enter 19 = .ok (.lconst 0, 1) := by decide +kernel
theorem dL_enter_20 : decode cL_enter 20 = .ok (.lastore, 1) := by decide +kernel
theorem dL_enter_21 : decode cL_enter 21 = .ok (.goto 23, 3) := by decide +kernel
theorem dL_enter_24 : decode cL_enter 24 = .ok (.astore 6, 2) := by decide +kernel
theorem dL_enter_26 : decode cL_enter 26 = .ok (.iconst 1, 1) := by decide +kernel
theorem dL_enter_27 : decode cL_enter 27 = .ok (.ireturn, 1) := by decide +kernel
theorem dL_enter_28 : decode cL_enter 28 = .ok (.astore 6, 2) := by decide +kernel
theorem dL_enter_30 : decode cL_enter 30 = .ok (.iconst 2, 1) := by decide +kernel
theorem dL_enter_31 : decode cL_enter 31 = .ok (.ireturn, 1) := by decide +kernel
theorem dL_enter_32 : decode cL_enter 32 = .ok (.astore 6, 2) := by decide +kernel
theorem dL_enter_34 : decode cL_enter 34 = .ok (.iconst 3, 1) := by decide +kernel
theorem dL_enter_35 : decode cL_enter 35 = .ok (.ireturn, 1) := by decide +kernel
theorem dL_enter_36 : decode cL_enter 36 = .ok (.astore 6, 2) := by decide +kernel
theorem dL_enter_38 : decode cL_enter 38 = .ok (.iconst 4, 1) := by decide +kernel
theorem dL_enter_39 : decode cL_enter 39 = .ok (.ireturn, 1) := by decide +kernel
theorem dL_enter_40 : decode cL_enter 40 = .ok (.astore 6, 2) := by decide +kernel
theorem dL_enter_42 : decode cL_enter 42 = .ok (.iconst 5, 1) := by decide +kernel
theorem dL_enter_43 : decode cL_enter 43 = .ok (.ireturn, 1) := by decide +kernel
theorem dL_enter_44 : decode cL_enter 44 = .ok (.iconst 0, 1) := by decide +kernel
theorem dL_enter_45 : decode cL_enter 45 = .ok (.ireturn, 1) := by decide +kernel
theorem dL_strike_0 : decode cL_strike 0 = .ok (.aload_n 3, 1) := by decide +kernel
theorem dL_strike_1 : decode cL_strike 1 = .ok (.iconst 0, 1) := by decide +kernel
theorem dL_strike_2 : decode cL_strike 2 = .ok (.aload_n 0, 1) := by decide +kernel
theorem dL_strike_3 : decode cL_strike 3 = .ok (.iload_n 1, 1) := by decide +kernel
theorem dL_strike_4 : decode cL_strike 4 = .ok (.iload_n 2, 1) := by decide +kernel
theorem dL_strike_5 : decode cL_strike 5 = .ok (.invokevirtual 140, 3) := by decide +kernel
theorem dL_strike_8 : decode cL_strike 8 = .ok (.ifCond .eq 7, 3) := by decide +kernel
theorem dL_strike_11 : decode cL_strike 11 = .ok (.lconst 1, 1) := by decide +kernel
theorem dL_strike_12 : decode cL_strike 12 = .ok (.goto 4, 3) := by decide +kernel
theorem dL_strike_15 : decode cL_strike 15 = .ok (.lconst 0, 1) := by decide +kernel
theorem dL_strike_16 : decode cL_strike 16 = .ok (.lastore, 1) := by decide +kernel
theorem dL_strike_17 : decode cL_strike 17 = .ok (.goto 15, 3) := by decide +kernel
theorem dL_strike_20 : decode cL_strike 20 = .ok (.astore 4, 2) := by decide +kernel
theorem dL_strike_22 : decode cL_strike 22 = .ok (.iconst 1, 1) := by decide +kernel
theorem dL_strike_23 : decode cL_strike 23 = .ok (.ireturn, 1) := by decide +kernel
theorem dL_strike_24 : decode cL_strike 24 = .ok (.astore 4, 2) := by decide +kernel
theorem dL_strike_26 : decode cL_strike 26 = .ok (.iconst 2, 1) := by decide +kernel
theorem dL_strike_27 : decode cL_strike 27 = .ok (.ireturn, 1) := by decide +kernel
theorem dL_strike_28 : decode cL_strike 28 = .ok (.astore 4, 2) := by decide +kernel
theorem dL_strike_30 : decode cL_strike 30 = .ok (.iconst 3, 1) := by decide +kernel
theorem dL_strike_31 : decode cL_strike 31 = .ok (.ireturn, 1) := by decide +kernel
theorem dL_strike_32 : decode cL_strike 32 = .ok (.iconst 0, 1) := by decide +kernel
theorem dL_strike_33 : decode cL_strike 33 = .ok (.ireturn, 1) := by decide +kernel
theorem dL_hasNumber_0 : decode cL_hasNumber 0 = .ok (.aload_n 3, 1) := by decide +kernel
theorem dL_hasNumber_1 : decode cL_hasNumber 1 = .ok (.iconst 0, 1) := by decide +kernel
theorem dL_hasNumber_2 : decode cL_hasNumber 2 = .ok (.aload_n 0, 1) := by decide +kernel
theorem dL_hasNumber_3 : decode cL_hasNumber 3 = .ok (.iload_n 1, 1) := by decide +kernel
theorem dL_hasNumber_4 : decode cL_hasNumber 4 = .ok (.iload_n 2, 1) := by decide +kernel
theorem dL_hasNumber_5 : decode cL_hasNumber 5 = .ok (.invokevirtual 143, 3) := by decide +kernel
theorem dL_hasNumber_8 : decode cL_hasNumber 8 = .ok (.ifCond .eq 7, 3) := by decide +kernel
theorem dL_hasNumber_11 : decode cL_hasNumber 11 = .ok (.lconst 1, 1) := by decide +kernel
theorem dL_hasNumber_12 : decode cL_hasNumber 12 = .ok (.goto 4, 3) := by decide +kernel
theorem dL_hasNumber_15 : decode cL_hasNumber 15 = .ok (.lconst 0, 1) := by decide +kernel
theorem dL_hasNumber_16 : decode cL_hasNumber 16 = .ok (.lastore, 1) := by decide +kernel
theorem dL_hasNumber_17 : decode cL_hasNumber 17 = .ok (.goto 11, 3) := by decide +kernel
theorem dL_hasNumber_20 : decode cL_hasNumber 20 = .ok (.astore 4, 2) := by decide +kernel
theorem dL_hasNumber_22 : decode cL_hasNumber 22 = .ok (.iconst 1, 1) := by decide +kernel
theorem dL_hasNumber_23 : decode cL_hasNumber 23 = .ok (.ireturn, 1) := by decide +kernel
theorem dL_hasNumber_24 : decode cL_hasNumber 24 = .ok (.astore 4, 2) := by decide +kernel
theorem dL_hasNumber_26 : decode cL_hasNumber 26 = .ok (.iconst 2, 1) := by decide +kernel
theorem dL_hasNumber_27 : decode cL_hasNumber 27 = .ok (.ireturn, 1) := by decide +kernel
theorem dL_hasNumber_28 : decode cL_hasNumber 28 = .ok (.iconst 0, 1) := by decide +kernel
theorem dL_hasNumber_29 : decode cL_hasNumber 29 = .ok (.ireturn, 1) := by decide +kernel
theorem dL_thingOf_0 : decode cL_thingOf 0 = .ok (.aload_n 3, 1) := by decide +kernel
theorem dL_thingOf_1 : decode cL_thingOf 1 = .ok (.iconst 0, 1) := by decide +kernel
theorem dL_thingOf_2 : decode cL_thingOf 2 = .ok (.aload_n 0, 1) := by decide +kernel
theorem dL_thingOf_3 : decode cL_thingOf 3 = .ok (.iload_n 1, 1) := by decide +kernel
theorem dL_thingOf_4 : decode cL_thingOf 4 = .ok (.iload_n 2, 1) := by decide +kernel
theorem dL_thingOf_5 : decode cL_thingOf 5 = .ok (.invokevirtual 146, 3) := by decide +kernel
theorem dL_thingOf_8 : decode cL_thingOf 8 = .ok (.i2l, 1) := by decide +kernel
theorem dL_thingOf_9 : decode cL_thingOf 9 = .ok (.lastore, 1) := by decide +kernel
theorem dL_thingOf_10 : decode cL_thingOf 10 = .ok (.goto 15, 3) := by decide +kernel
theorem dL_thingOf_13 : decode cL_thingOf 13 = .ok (.astore 4, 2) := by decide +kernel
theorem dL_thingOf_15 : decode cL_thingOf 15 = .ok (.iconst 1, 1) := by decide +kernel
theorem dL_thingOf_16 : decode cL_thingOf 16 = .ok (.ireturn, 1) := by decide +kernel
theorem dL_thingOf_17 : decode cL_thingOf 17 = .ok (.astore 4, 2) := by decide +kernel
theorem dL_thingOf_19 : decode cL_thingOf 19 = .ok (.iconst 2, 1) := by decide +kernel
theorem dL_thingOf_20 : decode cL_thingOf 20 = .ok (.ireturn, 1) := by decide +kernel
theorem dL_thingOf_21 : decode cL_thingOf 21 = .ok (.astore 4, 2) := by decide +kernel
theorem dL_thingOf_23 : decode cL_thingOf 23 = .ok (.iconst 3, 1) := by decide +kernel
theorem dL_thingOf_24 : decode cL_thingOf 24 = .ok (.ireturn, 1) := by decide +kernel
theorem dL_thingOf_25 : decode cL_thingOf 25 = .ok (.iconst 0, 1) := by decide +kernel
theorem dL_thingOf_26 : decode cL_thingOf 26 = .ok (.ireturn, 1) := by decide +kernel
theorem dL_numberAt_0 : decode cL_numberAt 0 = .ok (.aload_n 3, 1) := by decide +kernel
theorem dL_numberAt_1 : decode cL_numberAt 1 = .ok (.iconst 0, 1) := by decide +kernel
theorem dL_numberAt_2 : decode cL_numberAt 2 = .ok (.aload_n 0, 1) := by decide +kernel
theorem dL_numberAt_3 : decode cL_numberAt 3 = .ok (.iload_n 1, 1) := by decide +kernel
theorem dL_numberAt_4 : decode cL_numberAt 4 = .ok (.iload_n 2, 1) := by decide +kernel
theorem dL_numberAt_5 : decode cL_numberAt 5 = .ok (.invokevirtual 149, 3) := by decide +kernel
theorem dL_numberAt_8 : decode cL_numberAt 8 = .ok (.i2l, 1) := by decide +kernel
theorem dL_numberAt_9 : decode cL_numberAt 9 = .ok (.lastore, 1) := by decide +kernel
theorem dL_numberAt_10 : decode cL_numberAt 10 = .ok (.goto 15, 3) := by decide +kernel
theorem dL_numberAt_13 : decode cL_numberAt 13 = .ok (.astore 4, 2) := by decide +kernel
theorem dL_numberAt_15 : decode cL_numberAt 15 = .ok (.iconst 1, 1) := by decide +kernel
theorem dL_numberAt_16 : decode cL_numberAt 16 = .ok (.ireturn, 1) := by decide +kernel
theorem dL_numberAt_17 : decode cL_numberAt 17 = .ok (.astore 4, 2) := by decide +kernel
theorem dL_numberAt_19 : decode cL_numberAt 19 = .ok (.iconst 2, 1) := by decide +kernel
theorem dL_numberAt_20 : decode cL_numberAt 20 = .ok (.ireturn, 1) := by decide +kernel
theorem dL_numberAt_21 : decode cL_numberAt 21 = .ok (.astore 4, 2) := by decide +kernel
theorem dL_numberAt_23 : decode cL_numberAt 23 = .ok (.iconst 3, 1) := by decide +kernel
theorem dL_numberAt_24 : decode cL_numberAt 24 = .ok (.ireturn, 1) := by decide +kernel
theorem dL_numberAt_25 : decode cL_numberAt 25 = .ok (.iconst 0, 1) := by decide +kernel
theorem dL_numberAt_26 : decode cL_numberAt 26 = .ok (.ireturn, 1) := by decide +kernel
theorem dL_keepKeys_0 : decode cL_keepKeys 0 = .ok (.aload 4, 2) := by decide +kernel
theorem dL_keepKeys_2 : decode cL_keepKeys 2 = .ok (.iconst 0, 1) := by decide +kernel
theorem dL_keepKeys_3 : decode cL_keepKeys 3 = .ok (.aload_n 0, 1) := by decide +kernel
theorem dL_keepKeys_4 : decode cL_keepKeys 4 = .ok (.iload_n 1, 1) := by decide +kernel
theorem dL_keepKeys_5 : decode cL_keepKeys 5 = .ok (.iload_n 2, 1) := by decide +kernel
theorem dL_keepKeys_6 : decode cL_keepKeys 6 = .ok (.iload_n 3, 1) := by decide +kernel
theorem dL_keepKeys_7 : decode cL_keepKeys 7 = .ok (.invokevirtual 152, 3) := by decide +kernel
theorem dL_keepKeys_10 : decode cL_keepKeys 10 = .ok (.i2l, 1) := by decide +kernel
theorem dL_keepKeys_11 : decode cL_keepKeys 11 = .ok (.lastore, 1) := by decide +kernel
theorem dL_keepKeys_12 : decode cL_keepKeys 12 = .ok (.goto 15, 3) := by decide +kernel
theorem dL_keepKeys_15 : decode cL_keepKeys 15 = .ok (.astore 5, 2) := by decide +kernel
theorem dL_keepKeys_17 : decode cL_keepKeys 17 = .ok (.iconst 1, 1) := by decide +kernel
theorem dL_keepKeys_18 : decode cL_keepKeys 18 = .ok (.ireturn, 1) := by decide +kernel
theorem dL_keepKeys_19 : decode cL_keepKeys 19 = .ok (.astore 5, 2) := by decide +kernel
theorem dL_keepKeys_21 : decode cL_keepKeys 21 = .ok (.iconst 2, 1) := by decide +kernel
theorem dL_keepKeys_22 : decode cL_keepKeys 22 = .ok (.ireturn, 1) := by decide +kernel
theorem dL_keepKeys_23 : decode cL_keepKeys 23 = .ok (.astore 5, 2) := by decide +kernel
theorem dL_keepKeys_25 : decode cL_keepKeys 25 = .ok (.iconst 3, 1) := by decide +kernel
theorem dL_keepKeys_26 : decode cL_keepKeys 26 = .ok (.ireturn, 1) := by decide +kernel
theorem dL_keepKeys_27 : decode cL_keepKeys 27 = .ok (.iconst 0, 1) := by decide +kernel
theorem dL_keepKeys_28 : decode cL_keepKeys 28 = .ok (.ireturn, 1) := by decide +kernel
theorem dL_share_0 : decode cL_share 0 = .ok (.aload_n 2, 1) := by decide +kernel
theorem dL_share_1 : decode cL_share 1 = .ok (.iconst 0, 1) := by decide +kernel
theorem dL_share_2 : decode cL_share 2 = .ok (.aload_n 0, 1) := by decide +kernel
theorem dL_share_3 : decode cL_share 3 = .ok (.iload_n 1, 1) := by decide +kernel
theorem dL_share_4 : decode cL_share 4 = .ok (.invokevirtual 155, 3) := by decide +kernel
theorem dL_share_7 : decode cL_share 7 = .ok (.f2d, 1) := by decide +kernel
theorem dL_share_8 : decode cL_share 8 = .ok (.dastore, 1) := by decide +kernel
theorem dL_share_9 : decode cL_share 9 = .ok (.goto 12, 3) := by decide +kernel
theorem dL_share_12 : decode cL_share 12 = .ok (.astore_n 3, 1) := by decide +kernel
theorem dL_share_13 : decode cL_share 13 = .ok (.iconst 1, 1) := by decide +kernel
theorem dL_share_14 : decode cL_share 14 = .ok (.ireturn, 1) := by decide +kernel
theorem dL_share_15 : decode cL_share 15 = .ok (.astore_n 3, 1) := by decide +kernel
theorem dL_share_16 : decode cL_share 16 = .ok (.iconst 2, 1) := by decide +kernel
theorem dL_share_17 : decode cL_share 17 = .ok (.ireturn, 1) := by decide +kernel
theorem dL_share_18 : decode cL_share 18 = .ok (.astore_n 3, 1) := by decide +kernel
theorem dL_share_19 : decode cL_share 19 = .ok (.iconst 3, 1) := by decide +kernel
theorem dL_share_20 : decode cL_share 20 = .ok (.ireturn, 1) := by decide +kernel
theorem dL_share_21 : decode cL_share 21 = .ok (.iconst 0, 1) := by decide +kernel
theorem dL_share_22 : decode cL_share 22 = .ok (.ireturn, 1) := by decide +kernel
theorem dL_meanKey_0 : decode cL_meanKey 0 = .ok (.aload_n 2, 1) := by decide +kernel
theorem dL_meanKey_1 : decode cL_meanKey 1 = .ok (.iconst 0, 1) := by decide +kernel
theorem dL_meanKey_2 : decode cL_meanKey 2 = .ok (.aload_n 0, 1) := by decide +kernel
theorem dL_meanKey_3 : decode cL_meanKey 3 = .ok (.iload_n 1, 1) := by decide +kernel
theorem dL_meanKey_4 : decode cL_meanKey 4 = .ok (.invokevirtual 161, 3) := by decide +kernel
theorem dL_meanKey_7 : decode cL_meanKey 7 = .ok (.dastore, 1) := by decide +kernel
theorem dL_meanKey_8 : decode cL_meanKey 8 = .ok (.goto 12, 3) := by decide +kernel
theorem dL_meanKey_11 : decode cL_meanKey 11 = .ok (.astore_n 3, 1) := by decide +kernel
theorem dL_meanKey_12 : decode cL_meanKey 12 = .ok (.iconst 1, 1) := by decide +kernel
theorem dL_meanKey_13 : decode cL_meanKey 13 = .ok (.ireturn, 1) := by decide +kernel
theorem dL_meanKey_14 : decode cL_meanKey 14 = .ok (.astore_n 3, 1) := by decide +kernel
theorem dL_meanKey_15 : decode cL_meanKey 15 = .ok (.iconst 2, 1) := by decide +kernel
theorem dL_meanKey_16 : decode cL_meanKey 16 = .ok (.ireturn, 1) := by decide +kernel
theorem dL_meanKey_17 : decode cL_meanKey 17 = .ok (.astore_n 3, 1) := by decide +kernel
theorem dL_meanKey_18 : decode cL_meanKey 18 = .ok (.iconst 3, 1) := by decide +kernel
theorem dL_meanKey_19 : decode cL_meanKey 19 = .ok (.ireturn, 1) := by decide +kernel
theorem dL_meanKey_20 : decode cL_meanKey 20 = .ok (.iconst 0, 1) := by decide +kernel
theorem dL_meanKey_21 : decode cL_meanKey 21 = .ok (.ireturn, 1) := by decide +kernel
