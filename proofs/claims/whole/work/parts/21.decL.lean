theorem dL_addScope_0 : decode cL_addScope 0 = .ok (.aload_n 2, 1) := by decide +kernel
theorem dL_addScope_1 : decode cL_addScope 1 = .ok (.iconst 0, 1) := by decide +kernel
theorem dL_addScope_2 : decode cL_addScope 2 = .ok (.aload_n 0, 1) := by decide +kernel
theorem dL_addScope_3 : decode cL_addScope 3 = .ok (.iload_n 1, 1) := by decide +kernel
theorem dL_addScope_4 : decode cL_addScope 4 = .ok (.invokevirtual 7, 3) := by decide +kernel
theorem dL_addScope_7 : decode cL_addScope 7 = .ok (.i2l, 1) := by decide +kernel
theorem dL_addScope_8 : decode cL_addScope 8 = .ok (.lastore, 1) := by decide +kernel
theorem dL_addScope_9 : decode cL_addScope 9 = .ok (.goto 9, 3) := by decide +kernel
theorem dL_addScope_12 : decode cL_addScope 12 = .ok (.astore_n 3, 1) := by decide +kernel
theorem dL_addScope_13 : decode cL_addScope 13 = .ok (.iconst 1, 1) := by decide +kernel
theorem dL_addScope_14 : decode cL_addScope 14 = .ok (.ireturn, 1) := by decide +kernel
theorem dL_addScope_15 : decode cL_addScope 15 = .ok (.astore_n 3, 1) := by decide +kernel
theorem dL_addScope_16 : decode cL_addScope 16 = .ok (.iconst 2, 1) := by decide +kernel
theorem dL_addScope_17 : decode cL_addScope 17 = .ok (.ireturn, 1) := by decide +kernel
theorem dL_addScope_18 : decode cL_addScope 18 = .ok (.iconst 0, 1) := by decide +kernel
theorem dL_addScope_19 : decode cL_addScope 19 = .ok (.ireturn, 1) := by decide +kernel
theorem dL_declare_0 : decode cL_declare 0 = .ok (.aload 4, 2) := by decide +kernel
theorem dL_declare_2 : decode cL_declare 2 = .ok (.iconst 0, 1) := by decide +kernel
theorem dL_declare_3 : decode cL_declare 3 = .ok (.aload_n 0, 1) := by decide +kernel
theorem dL_declare_4 : decode cL_declare 4 = .ok (.iload_n 1, 1) := by decide +kernel
theorem dL_declare_5 : decode cL_declare 5 = .ok (.iload_n 2, 1) := by decide +kernel
theorem dL_declare_6 : decode cL_declare 6 = .ok (.iload_n 3, 1) := by decide +kernel
theorem dL_declare_7 : decode cL_declare 7 = .ok (.invokevirtual 17, 3) := by decide +kernel
theorem dL_declare_10 : decode cL_declare 10 = .ok (.i2l, 1) := by decide +kernel
theorem dL_declare_11 : decode cL_declare 11 = .ok (.lastore, 1) := by decide +kernel
theorem dL_declare_12 : decode cL_declare 12 = .ok (.goto 15, 3) := by decide +kernel
theorem dL_declare_15 : decode cL_declare 15 = .ok (.astore 5, 2) := by decide +kernel
theorem dL_declare_17 : decode cL_declare 17 = .ok (.iconst 1, 1) := by decide +kernel
theorem dL_declare_18 : decode cL_declare 18 = .ok (.ireturn, 1) := by decide +kernel
theorem dL_declare_19 : decode cL_declare 19 = .ok (.astore 5, 2) := by decide +kernel
theorem dL_declare_21 : decode cL_declare 21 = .ok (.iconst 2, 1) := by decide +kernel
theorem dL_declare_22 : decode cL_declare 22 = .ok (.ireturn, 1) := by decide +kernel
theorem dL_declare_23 : decode cL_declare 23 = .ok (.astore 5, 2) := by decide +kernel
theorem dL_declare_25 : decode cL_declare 25 = .ok (.iconst 3, 1) := by decide +kernel
theorem dL_declare_26 : decode cL_declare 26 = .ok (.ireturn, 1) := by decide +kernel
theorem dL_declare_27 : decode cL_declare 27 = .ok (.iconst 0, 1) := by decide +kernel
theorem dL_declare_28 : decode cL_declare 28 = .ok (.ireturn, 1) := by decide +kernel
theorem dL_importOne_0 : decode cL_importOne 0 = .ok (.aload 6, 2) := by decide +kernel
theorem dL_importOne_2 : decode cL_importOne 2 = .ok (.iconst 0, 1) := by decide +kernel
theorem dL_importOne_3 : decode cL_importOne 3 = .ok (.aload_n 0, 1) := by decide +kernel
theorem dL_importOne_4 : decode cL_importOne 4 = .ok (.iload_n 1, 1) := by decide +kernel
theorem dL_importOne_5 : decode cL_importOne 5 = .ok (.iload_n 2, 1) := by decide +kernel
theorem dL_importOne_6 : decode cL_importOne 6 = .ok (.iload_n 3, 1) := by decide +kernel
theorem dL_importOne_7 : decode cL_importOne 7 = .ok (.iload 4, 2) := by decide +kernel
theorem dL_importOne_9 : decode cL_importOne 9 = .ok (.iload 5, 2) := by decide +kernel
theorem dL_importOne_11 : decode cL_importOne 11 = .ok (.invokevirtual 23, 3) := by decide +kernel
theorem dL_importOne_14 : decode cL_importOne 14 = .ok (.i2l, 1) := by decide +kernel
theorem dL_importOne_15 : decode cL_importOne 15 = .ok (.lastore, 1) := by decide +kernel
theorem dL_importOne_16 : decode cL_importOne 16 = .ok (.goto 15, 3) := by decide +kernel
theorem dL_importOne_19 : decode cL_importOne 19 = .ok (.astore 7, 2) := by decide +kernel
theorem dL_importOne_21 : decode cL_importOne 21 = .ok (.iconst 1, 1) := by decide +kernel
theorem dL_importOne_22 : decode cL_importOne 22 = .ok (.ireturn, 1) := by decide +kernel
theorem dL_importOne_23 : decode cL_importOne 23 = .ok (.astore 7, 2) := by decide +kernel
theorem dL_importOne_25 : decode cL_importOne 25 = .ok (.iconst 2, 1) := by decide +kernel
theorem dL_importOne_26 : decode cL_importOne 26 = .ok (.ireturn, 1) := by decide +kernel
theorem dL_importOne_27 : decode cL_importOne 27 = .ok (.astore 7, 2) := by decide +kernel
theorem dL_importOne_29 : decode cL_importOne 29 = .ok (.iconst 3, 1) := by decide +kernel
theorem dL_importOne_30 : decode cL_importOne 30 = .ok (.ireturn, 1) := by decide +kernel
theorem dL_importOne_31 : decode cL_importOne 31 = .ok (.iconst 0, 1) := by decide +kernel
theorem dL_importOne_32 : decode cL_importOne 32 = .ok (.ireturn, 1) := by decide +kernel
theorem dL_importAll_0 : decode cL_importAll 0 = .ok (.aload 5, 2) := by decide +kernel
theorem dL_importAll_2 : decode cL_importAll 2 = .ok (.iconst 0, 1) := by decide +kernel
theorem dL_importAll_3 : decode cL_importAll 3 = .ok (.aload_n 0, 1) := by decide +kernel
theorem dL_importAll_4 : decode cL_importAll 4 = .ok (.iload_n 1, 1) := by decide +kernel
theorem dL_importAll_5 : decode cL_importAll 5 = .ok (.iload_n 2, 1) := by decide +kernel
theorem dL_importAll_6 : decode cL_importAll 6 = .ok (.iload_n 3, 1) := by decide +kernel
theorem dL_importAll_7 : decode cL_importAll 7 = .ok (.iload 4, 2) := by decide +kernel
theorem dL_importAll_9 : decode cL_importAll 9 = .ok (.invokevirtual 27, 3) := by decide +kernel
theorem dL_importAll_12 : decode cL_importAll 12 = .ok (.i2l, 1) := by decide +kernel
theorem dL_importAll_13 : decode cL_importAll 13 = .ok (.lastore, 1) := by decide +kernel
theorem dL_importAll_14 : decode cL_importAll 14 = .ok (.goto 15, 3) := by decide +kernel
theorem dL_importAll_17 : decode cL_importAll 17 = .ok (.astore 6, 2) := by decide +kernel
theorem dL_importAll_19 : decode cL_importAll 19 = .ok (.iconst 1, 1) := by decide +kernel
theorem dL_importAll_20 : decode cL_importAll 20 = .ok (.ireturn, 1) := by decide +kernel
theorem dL_importAll_21 : decode cL_importAll 21 = .ok (.astore 6, 2) := by decide +kernel
theorem dL_importAll_23 : decode cL_importAll 23 = .ok (.iconst 2, 1) := by decide +kernel
theorem dL_importAll_24 : decode cL_importAll 24 = .ok (.ireturn, 1) := by decide +kernel
theorem dL_importAll_25 : decode cL_importAll 25 = .ok (.astore 6, 2) := by decide +kernel
theorem dL_importAll_27 : decode cL_importAll 27 = .ok (.iconst 3, 1) := by decide +kernel
theorem dL_importAll_28 : decode cL_importAll 28 = .ok (.ireturn, 1) := by decide +kernel
theorem dL_importAll_29 : decode cL_importAll 29 = .ok (.iconst 0, 1) := by decide +kernel
theorem dL_importAll_30 : decode cL_importAll 30 = .ok (.ireturn, 1) := by decide +kernel
theorem dL_use_0 : decode cL_use 0 = .ok (.aload_n 3, 1) := by decide +kernel
theorem dL_use_1 : decode cL_use 1 = .ok (.iconst 0, 1) := by decide +kernel
theorem dL_use_2 : decode cL_use 2 = .ok (.aload_n 0, 1) := by decide +kernel
theorem dL_use_3 : decode cL_use 3 = .ok (.iload_n 1, 1) := by decide +kernel
theorem dL_use_4 : decode cL_use 4 = .ok (.iload_n 2, 1) := by decide +kernel
theorem dL_use_5 : decode cL_use 5 = .ok (.invokevirtual 31, 3) := by decide +kernel
theorem dL_use_8 : decode cL_use 8 = .ok (.i2l, 1) := by decide +kernel
theorem dL_use_9 : decode cL_use 9 = .ok (.lastore, 1) := by decide +kernel
theorem dL_use_10 : decode cL_use 10 = .ok (.goto 15, 3) := by decide +kernel
theorem dL_use_13 : decode cL_use 13 = .ok (.astore 4, 2) := by decide +kernel
theorem dL_use_15 : decode cL_use 15 = .ok (.iconst 1, 1) := by decide +kernel
theorem dL_use_16 : decode cL_use 16 = .ok (.ireturn, 1) := by decide +kernel
theorem dL_use_17 : decode cL_use 17 = .ok (.astore 4, 2) := by decide +kernel
theorem dL_use_19 : decode cL_use 19 = .ok (.iconst 2, 1) := by decide +kernel
theorem dL_use_20 : decode cL_use 20 = .ok (.ireturn, 1) := by decide +kernel
theorem dL_use_21 : decode cL_use 21 = .ok (.astore 4, 2) := by decide +kernel
theorem dL_use_23 : decode cL_use 23 = .ok (.iconst 3, 1) := by decide +kernel
theorem dL_use_24 : decode cL_use 24 = .ok (.ireturn, 1) := by decide +kernel
theorem dL_use_25 : decode cL_use 25 = .ok (.iconst 0, 1) := by decide +kernel
theorem dL_use_26 : decode cL_use 26 = .ok (.ireturn, 1) := by decide +kernel
theorem dL_remove_0 : decode cL_remove 0 = .ok (.aload_n 3, 1) := by decide +kernel
theorem dL_remove_1 : decode cL_remove 1 = .ok (.iconst 0, 1) := by decide +kernel
theorem dL_remove_2 : decode cL_remove 2 = .ok (.aload_n 0, 1) := by decide +kernel
theorem dL_remove_3 : decode cL_remove 3 = .ok (.iload_n 1, 1) := by decide +kernel
theorem dL_remove_4 : decode cL_remove 4 = .ok (.iload_n 2, 1) := by decide +kernel
theorem dL_remove_5 : decode cL_remove 5 = .ok (.invokevirtual 35, 3) := by decide +kernel
theorem dL_remove_8 : decode cL_remove 8 = .ok (.i2l, 1) := by decide +kernel
theorem dL_remove_9 : decode cL_remove 9 = .ok (.lastore, 1) := by decide +kernel
theorem dL_remove_10 : decode cL_remove 10 = .ok (.goto 11, 3) := by decide +kernel
theorem dL_remove_13 : decode cL_remove 13 = .ok (.astore 4, 2) := by decide +kernel
theorem dL_remove_15 : decode cL_remove 15 = .ok (.iconst 1, 1) := by decide +kernel
theorem dL_remove_16 : decode cL_remove 16 = .ok (.ireturn, 1) := by decide +kernel
theorem dL_remove_17 : decode cL_remove 17 = .ok (.astore 4, 2) := by decide +kernel
theorem dL_remove_19 : decode cL_remove 19 = .ok (.iconst 2, 1) := by decide +kernel
theorem dL_remove_20 : decode cL_remove 20 = .ok (.ireturn, 1) := by decide +kernel
theorem dL_remove_21 : decode cL_remove 21 = .ok (.iconst 0, 1) := by decide +kernel
theorem dL_remove_22 : decode cL_remove 22 = .ok (.ireturn, 1) := by decide +kernel
theorem dL_append_0 : decode cL_append 0 = .ok (.aload_n 2, 1) := by decide +kernel
theorem dL_append_1 : decode cL_append 1 = .ok (.iconst 0, 1) := by decide +kernel
theorem dL_append_2 : decode cL_append 2 = .ok (.aload_n 0, 1) := by decide +kernel
theorem dL_append_3 : decode cL_append 3 = .ok (.iload_n 1, 1) := by decide +kernel
theorem dL_append_4 : decode cL_append 4 = .ok (.invokevirtual 38, 3) := by decide +kernel
theorem dL_append_7 : decode cL_append 7 = .ok (.i2l, 1) := by decide +kernel
theorem dL_append_8 : decode cL_append 8 = .ok (.lastore, 1) := by decide +kernel
theorem dL_append_9 : decode cL_append 9 = .ok (.goto 9, 3) := by decide +kernel
theorem dL_append_12 : decode cL_append 12 = .ok (.astore_n 3, 1) := by decide +kernel
theorem dL_append_13 : decode cL_append 13 = .ok (.iconst 1, 1) := by decide +kernel
theorem dL_append_14 : decode cL_append 14 = .ok (.ireturn, 1) := by decide +kernel
theorem dL_append_15 : decode cL_append 15 = .ok (.astore_n 3, 1) := by decide +kernel
theorem dL_append_16 : decode cL_append 16 = .ok (.iconst 2, 1) := by decide +kernel
theorem dL_append_17 : decode cL_append 17 = .ok (.ireturn, 1) := by decide +kernel
theorem dL_append_18 : decode cL_append 18 = .ok (.iconst 0, 1) := by decide +kernel
theorem dL_append_19 : decode cL_append 19 = .ok (.ireturn, 1) := by decide +kernel
theorem dL_load_0 : decode cL_load 0 = .ok (.aload_n 1, 1) := by decide +kernel
theorem dL_load_1 : decode cL_load 1 = .ok (.iconst 0, 1) := by decide +kernel
theorem dL_load_2 : decode cL_load 2 = .ok (.aload_n 0, 1) := by decide +kernel
theorem dL_load_3 : decode cL_load 3 = .ok (.invokevirtual 41, 3) := by decide +kernel
theorem dL_load_6 : decode cL_load 6 = .ok (.i2l, 1) := by decide +kernel
theorem dL_load_7 : decode cL_load 7 = .ok (.lastore, 1) := by decide +kernel
theorem dL_load_8 : decode cL_load 8 = .ok (.goto 9, 3) := by decide +kernel
theorem dL_load_11 : decode cL_load 11 = .ok (.astore_n 2, 1) := by decide +kernel
theorem dL_load_12 : decode cL_load 12 = .ok (.iconst 1, 1) := by decide +kernel
theorem dL_load_13 : decode cL_load 13 = .ok (.ireturn, 1) := by decide +kernel
theorem dL_load_14 : decode cL_load 14 = .ok (.astore_n 2, 1) := by decide +kernel
theorem dL_load_15 : decode cL_load 15 = .ok (.iconst 2, 1) := by decide +kernel
theorem dL_load_16 : decode cL_load 16 = .ok (.ireturn, 1) := by decide +kernel
theorem dL_load_17 : decode cL_load 17 = .ok (.iconst 0, 1) := by decide +kernel
theorem dL_load_18 : decode cL_load 18 = .ok (.ireturn, 1) := by decide +kernel
theorem dL_resolve_0 : decode cL_resolve 0 = .ok (.aload 4, 2) := by decide +kernel
theorem dL_resolve_2 : decode cL_resolve 2 = .ok (.iconst 0, 1) := by decide +kernel
theorem dL_resolve_3 : decode cL_resolve 3 = .ok (.aload_n 0, 1) := by decide +kernel
theorem dL_resolve_4 : decode cL_resolve 4 = .ok (.iload_n 1, 1) := by decide +kernel
theorem dL_resolve_5 : decode cL_resolve 5 = .ok (.iload_n 2, 1) := by decide +kernel
theorem dL_resolve_6 : decode cL_resolve 6 = .ok (.iload_n 3, 1) := by decide +kernel
theorem dL_resolve_7 : decode cL_resolve 7 = .ok (.invokevirtual 45, 3) := by decide +kernel
theorem dL_resolve_10 : decode cL_resolve 10 = .ok (.i2l, 1) := by decide +kernel
theorem dL_resolve_11 : decode cL_resolve 11 = .ok (.lastore, 1) := by decide +kernel
theorem dL_resolve_12 : decode cL_resolve 12 = .ok (.goto 11, 3) := by decide +kernel
theorem dL_resolve_15 : decode cL_resolve 15 = .ok (.astore 5, 2) := by decide +kernel
theorem dL_resolve_17 : decode cL_resolve 17 = .ok (.iconst 1, 1) := by decide +kernel
theorem dL_resolve_18 : decode cL_resolve 18 = .ok (.ireturn, 1) := by decide +kernel
theorem dL_resolve_19 : decode cL_resolve 19 = .ok (.astore 5, 2) := by decide +kernel
theorem dL_resolve_21 : decode cL_resolve 21 = .ok (.iconst 2, 1) := by decide +kernel
theorem dL_resolve_22 : decode cL_resolve 22 = .ok (.ireturn, 1) := by decide +kernel
theorem dL_resolve_23 : decode cL_resolve 23 = .ok (.iconst 0, 1) := by decide +kernel
theorem dL_resolve_24 : decode cL_resolve 24 = .ok (.ireturn, 1) := by decide +kernel
theorem dL_candidate_0 : decode cL_candidate 0 = .ok (.aload 5, 2) := by decide +kernel
theorem dL_candidate_2 : decode cL_candidate 2 = .ok (.iconst 0, 1) := by decide +kernel
theorem dL_candidate_3 : decode cL_candidate 3 = .ok (.aload_n 0, 1) := by decide +kernel
theorem dL_candidate_4 : decode cL_candidate 4 = .ok (.iload_n 1, 1) := by decide +kernel
theorem dL_candidate_5 : decode cL_candidate 5 = .ok (.iload_n 2, 1) := by decide +kernel
theorem dL_candidate_6 : decode cL_candidate 6 = .ok (.iload_n 3, 1) := by decide +kernel
theorem dL_candidate_7 : decode cL_candidate 7 = .ok (.iload 4, 2) := by decide +kernel
theorem dL_candidate_9 : decode cL_candidate 9 = .ok (.invokevirtual 49, 3) := by decide +kernel
theorem dL_candidate_12 : decode cL_candidate 12 = .ok (.i2l, 1) := by decide +kernel
theorem dL_candidate_13 : decode cL_candidate 13 = .ok (.lastore, 1) := by decide +kernel
theorem dL_candidate_14 : decode cL_candidate 14 = .ok (.goto 11, 3) := by decide +kernel
theorem dL_candidate_17 : decode cL_candidate 17 = .ok (.astore 6, 2) := by decide +kernel
theorem dL_candidate_19 : decode cL_candidate 19 = .ok (.iconst 1, 1) := by decide +kernel
theorem dL_candidate_20 : decode cL_candidate 20 = .ok (.ireturn, 1) := by decide +kernel
theorem dL_candidate_21 : decode cL_candidate 21 = .ok (.astore 6, 2) := by decide +kernel
theorem dL_candidate_23 : decode cL_candidate 23 = .ok (.iconst 2, 1) := by decide +kernel
theorem dL_candidate_24 : decode cL_candidate 24 = .ok (.ireturn, 1) := by decide +kernel
theorem dL_candidate_25 : decode cL_candidate 25 = .ok (.iconst 0, 1) := by decide +kernel
theorem dL_candidate_26 : decode cL_candidate 26 = .ok (.ireturn, 1) := by decide +kernel
theorem dL_offers_0 : decode cL_offers 0 = .ok (.aload_n 3, 1) := by decide +kernel
theorem dL_offers_1 : decode cL_offers 1 = .ok (.iconst 0, 1) := by decide +kernel
theorem dL_offers_2 : decode cL_offers 2 = .ok (.aload_n 0, 1) := by decide +kernel
theorem dL_offers_3 : decode cL_offers 3 = .ok (.iload_n 1, 1) := by decide +kernel
theorem dL_offers_4 : decode cL_offers 4 = .ok (.iload_n 2, 1) := by decide +kernel
theorem dL_offers_5 : decode cL_offers 5 = .ok (.invokevirtual 53, 3) := by decide +kernel
theorem dL_offers_8 : decode cL_offers 8 = .ok (.i2l, 1) := by decide +kernel
theorem dL_offers_9 : decode cL_offers 9 = .ok (.lastore, 1) := by decide +kernel
theorem dL_offers_10 : decode cL_offers 10 = .ok (.goto 11, 3) := by decide +kernel
theorem dL_offers_13 : decode cL_offers 13 = .ok (.astore 4, 2) := by decide +kernel
theorem dL_offers_15 : decode cL_offers 15 = .ok (.iconst 1, 1) := by decide +kernel
theorem dL_offers_16 : decode cL_offers 16 = .ok (.ireturn, 1) := by decide +kernel
theorem dL_offers_17 : decode cL_offers 17 = .ok (.astore 4, 2) := by decide +kernel
theorem dL_offers_19 : decode cL_offers 19 = .ok (.iconst 2, 1) := by decide +kernel
theorem dL_offers_20 : decode cL_offers 20 = .ok (.ireturn, 1) := by decide +kernel
theorem dL_offers_21 : decode cL_offers 21 = .ok (.iconst 0, 1) := by decide +kernel
theorem dL_offers_22 : decode cL_offers 22 = .ok (.ireturn, 1) := by decide +kernel
theorem dL_visible_0 : decode cL_visible 0 = .ok (.aload_n 3, 1) := by decide +kernel
theorem dL_visible_1 : decode cL_visible 1 = .ok (.iconst 0, 1) := by decide +kernel
theorem dL_visible_2 : decode cL_visible 2 = .ok (.aload_n 0, 1) := by decide +kernel
theorem dL_visible_3 : decode cL_visible 3 = .ok (.iload_n 1, 1) := by decide +kernel
theorem dL_visible_4 : decode cL_visible 4 = .ok (.iload_n 2, 1) := by decide +kernel
theorem dL_visible_5 : decode cL_visible 5 = .ok (.invokevirtual 56, 3) := by decide +kernel
theorem dL_visible_8 : decode cL_visible 8 = .ok (.i2l, 1) := by decide +kernel
theorem dL_visible_9 : decode cL_visible 9 = .ok (.lastore, 1) := by decide +kernel
theorem dL_visible_10 : decode cL_visible 10 = .ok (.goto 7, 3) := by decide +kernel
theorem dL_visible_13 : decode cL_visible 13 = .ok (.astore 4, 2) := by decide +kernel
theorem dL_visible_15 : decode cL_visible 15 = .ok (.iconst 1, 1) := by decide +kernel
theorem dL_visible_16 : decode cL_visible 16 = .ok (.ireturn, 1) := by decide +kernel
theorem dL_visible_17 : decode cL_visible 17 = .ok (.iconst 0, 1) := by decide +kernel
theorem dL_visible_18 : decode cL_visible 18 = .ok (.ireturn, 1) := by decide +kernel
theorem dL_rename_0 : decode cL_rename 0 = .ok (.aload_n 3, 1) := by decide +kernel
theorem dL_rename_1 : decode cL_rename 1 = .ok (.iconst 0, 1) := by decide +kernel
theorem dL_rename_2 : decode cL_rename 2 = .ok (.aload_n 0, 1) := by decide +kernel
theorem dL_rename_3 : decode cL_rename 3 = .ok (.iload_n 1, 1) := by decide +kernel
theorem dL_rename_4 : decode cL_rename 4 = .ok (.iload_n 2, 1) := by decide +kernel
theorem dL_rename_5 : decode cL_rename 5 = .ok (.invokevirtual 60, 3) := by decide +kernel
theorem dL_rename_8 : decode cL_rename 8 = .ok (.i2l, 1) := by decide +kernel
theorem dL_rename_9 : decode cL_rename 9 = .ok (.lastore, 1) := by decide +kernel
theorem dL_rename_10 : decode cL_rename 10 = .ok (.goto 11, 3) := by decide +kernel
theorem dL_rename_13 : decode cL_rename 13 = .ok (.astore 4, 2) := by decide +kernel
theorem dL_rename_15 : decode cL_rename 15 = .ok (.iconst 1, 1) := by decide +kernel
theorem dL_rename_16 : decode cL_rename 16 = .ok (.ireturn, 1) := by decide +kernel
theorem dL_rename_17 : decode cL_rename 17 = .ok (.astore 4, 2) := by decide +kernel
theorem dL_rename_19 : decode cL_rename 19 = .ok (.iconst 2, 1) := by decide +kernel
theorem dL_rename_20 : decode cL_rename 20 = .ok (.ireturn, 1) := by decide +kernel
theorem dL_rename_21 : decode cL_rename 21 = .ok (.iconst 0, 1) := by decide +kernel
theorem dL_rename_22 : decode cL_rename 22 = .ok (.ireturn, 1) := by decide +kernel
theorem dL_ifRenamed_0 : decode cL_ifRenamed 0 = .ok (.aload 4, 2) := by decide +kernel
theorem dL_ifRenamed_2 : decode cL_ifRenamed 2 = .ok (.iconst 0, 1) := by decide +kernel
theorem dL_ifRenamed_3 : decode cL_ifRenamed 3 = .ok (.aload_n 0, 1) := by decide +kernel
theorem dL_ifRenamed_4 : decode cL_ifRenamed 4 = .ok (.iload_n 1, 1) := by decide +kernel
theorem dL_ifRenamed_5 : decode cL_ifRenamed 5 = .ok (.iload_n 2, 1) := by decide +kernel
theorem dL_ifRenamed_6 : decode cL_ifRenamed 6 = .ok (.iload_n 3, 1) := by decide +kernel
theorem dL_ifRenamed_7 : decode cL_ifRenamed 7 = .ok (.invokevirtual 63, 3) := by decide +kernel
theorem dL_ifRenamed_10 : decode cL_ifRenamed 10 = .ok (.i2l, 1) := by decide +kernel
theorem dL_ifRenamed_11 : decode cL_ifRenamed 11 = .ok (.lastore, 1) := by decide +kernel
theorem dL_ifRenamed_12 : decode cL_ifRenamed 12 = .ok (.goto 11, 3) := by decide +kernel
theorem dL_ifRenamed_15 : decode cL_ifRenamed 15 = .ok (.astore 5, 2) := by decide +kernel
theorem dL_ifRenamed_17 : decode cL_ifRenamed 17 = .ok (.iconst 1, 1) := by decide +kernel
theorem dL_ifRenamed_18 : decode cL_ifRenamed 18 = .ok (.ireturn, 1) := by decide +kernel
theorem dL_ifRenamed_19 : decode cL_ifRenamed 19 = .ok (.astore 5, 2) := by decide +kernel
theorem dL_ifRenamed_21 : decode cL_ifRenamed 21 = .ok (.iconst 2, 1) := by decide +kernel
theorem dL_ifRenamed_22 : decode cL_ifRenamed 22 = .ok (.ireturn, 1) := by decide +kernel
theorem dL_ifRenamed_23 : decode cL_ifRenamed 23 = .ok (.iconst 0, 1) := by decide +kernel
theorem dL_ifRenamed_24 : decode cL_ifRenamed 24 = .ok (.ireturn, 1) := by decide +kernel
theorem dL_freeName_0 : decode cL_freeName 0 = .ok (.aload_n 2, 1) := by decide +kernel
theorem dL_freeName_1 : decode cL_freeName 1 = .ok (.iconst 0, 1) := by decide +kernel
theorem dL_freeName_2 : decode cL_freeName 2 = .ok (.aload_n 0, 1) := by decide +kernel
theorem dL_freeName_3 : decode cL_freeName 3 = .ok (.iload_n 1, 1) := by decide +kernel
theorem dL_freeName_4 : decode cL_freeName 4 = .ok (.invokevirtual 66, 3) := by decide +kernel
theorem dL_freeName_7 : decode cL_freeName 7 = .ok (.i2l, 1) := by decide +kernel
theorem dL_freeName_8 : decode cL_freeName 8 = .ok (.lastore, 1) := by decide +kernel
theorem dL_freeName_9 : decode cL_freeName 9 = .ok (.goto 6, 3) := by decide +kernel
theorem dL_freeName_12 : decode cL_freeName 12 = .ok (.astore_n 3, 1) := by decide +kernel
theorem dL_freeName_13 : decode cL_freeName 13 = .ok (.iconst 1, 1) := by decide +kernel
theorem dL_freeName_14 : decode cL_freeName 14 = .ok (.ireturn, 1) := by decide +kernel
theorem dL_freeName_15 : decode cL_freeName 15 = .ok (.iconst 0, 1) := by decide +kernel
theorem dL_freeName_16 : decode cL_freeName 16 = .ok (.ireturn, 1) := by decide +kernel
theorem dL_count_0 : decode cL_count 0 = .ok (.aload_n 2, 1) := by decide +kernel
theorem dL_count_1 : decode cL_count 1 = .ok (.iconst 0, 1) := by decide +kernel
theorem dL_count_2 : decode cL_count 2 = .ok (.aload_n 0, 1) := by decide +kernel
theorem dL_count_3 : decode cL_count 3 = .ok (.iload_n 1, 1) := by decide +kernel
theorem dL_count_4 : decode cL_count 4 = .ok (.invokevirtual 69, 3) := by decide +kernel
theorem dL_count_7 : decode cL_count 7 = .ok (.i2l, 1) := by decide +kernel
theorem dL_count_8 : decode cL_count 8 = .ok (.lastore, 1) := by decide +kernel
theorem dL_count_9 : decode cL_count 9 = .ok (.goto 6, 3) := by decide +kernel
theorem dL_count_12 : decode cL_count 12 = .ok (.astore_n 3, 1) := by decide +kernel
theorem dL_count_13 : decode cL_count 13 = .ok (.iconst 1, 1) := by decide +kernel
theorem dL_count_14 : decode cL_count 14 = .ok (.ireturn, 1) := by decide +kernel
theorem dL_count_15 : decode cL_count 15 = .ok (.iconst 0, 1) := by decide +kernel
theorem dL_count_16 : decode cL_count 16 = .ok (.ireturn, 1) := by decide +kernel
theorem dL_declaration_0 : decode cL_declaration 0 = .ok (.aload_n 3, 1) := by decide +kernel
theorem dL_declaration_1 : decode cL_declaration 1 = .ok (.iconst 0, 1) := by decide +kernel
theorem dL_declaration_2 : decode cL_declaration 2 = .ok (.aload_n 0, 1) := by decide +kernel
theorem dL_declaration_3 : decode cL_declaration 3 = .ok (.iload_n 1, 1) := by decide +kernel
theorem dL_declaration_4 : decode cL_declaration 4 = .ok (.iload_n 2, 1) := by decide +kernel
theorem dL_declaration_5 : decode cL_declaration 5 = .ok (.invokevirtual 72, 3) := by decide +kernel
theorem dL_declaration_8 : decode cL_declaration 8 = .ok (.i2l, 1) := by decide +kernel
theorem dL_declaration_9 : decode cL_declaration 9 = .ok (.lastore, 1) := by decide +kernel
theorem dL_declaration_10 : decode cL_declaration 10 = .ok (.goto 11, 3) := by decide +kernel
theorem dL_declaration_13 : decode cL_declaration 13 = .ok (.astore 4, 2) := by decide +kernel
theorem dL_declaration_15 : decode cL_declaration 15 = .ok (.iconst 1, 1) := by decide +kernel
theorem dL_declaration_16 : decode cL_declaration 16 = .ok (.ireturn, 1) := by decide +kernel
theorem dL_declaration_17 : decode cL_declaration 17 = .ok (.astore 4, 2) := by decide +kernel
theorem dL_declaration_19 : decode cL_declaration 19 = .ok (.iconst 2, 1) := by decide +kernel
theorem dL_declaration_20 : decode cL_declaration 20 = .ok (.ireturn, 1) := by decide +kernel
theorem dL_declaration_21 : decode cL_declaration 21 = .ok (.iconst 0, 1) := by decide +kernel
theorem dL_declaration_22 : decode cL_declaration 22 = .ok (.ireturn, 1) := by decide +kernel
theorem dL_imported_0 : decode cL_imported 0 = .ok (.aload_n 3, 1) := by decide +kernel
theorem dL_imported_1 : decode cL_imported 1 = .ok (.iconst 0, 1) := by decide +kernel
theorem dL_imported_2 : decode cL_imported 2 = .ok (.aload_n 0, 1) := by decide +kernel
theorem dL_imported_3 : decode cL_imported 3 = .ok (.iload_n 1, 1) := by decide +kernel
theorem dL_imported_4 : decode cL_imported 4 = .ok (.iload_n 2, 1) := by decide +kernel
theorem dL_imported_5 : decode cL_imported 5 = .ok (.invokevirtual 75, 3) := by decide +kernel
theorem dL_imported_8 : decode cL_imported 8 = .ok (.i2l, 1) := by decide +kernel
theorem dL_imported_9 : decode cL_imported 9 = .ok (.lastore, 1) := by decide +kernel
theorem dL_imported_10 : decode cL_imported 10 = .ok (.goto 11, 3) := by decide +kernel
theorem dL_imported_13 : decode cL_imported 13 = .ok (.astore 4, 2) := by decide +kernel
theorem dL_imported_15 : decode cL_imported 15 = .ok (.iconst 1, 1) := by decide +kernel
theorem dL_imported_16 : decode cL_imported 16 = .ok (.ireturn, 1) := by decide +kernel
theorem dL_imported_17 : decode cL_imported 17 = .ok (.astore 4, 2) := by decide +kernel
theorem dL_imported_19 : decode cL_imported 19 = .ok (.iconst 2, 1) := by decide +kernel
theorem dL_imported_20 : decode cL_imported 20 = .ok (.ireturn, 1) := by decide +kernel
theorem dL_imported_21 : decode cL_imported 21 = .ok (.iconst 0, 1) := by decide +kernel
theorem dL_imported_22 : decode cL_imported 22 = .ok (.ireturn, 1) := by decide +kernel
theorem dL_used_0 : decode cL_used 0 = .ok (.aload_n 3, 1) := by decide +kernel
theorem dL_used_1 : decode cL_used 1 = .ok (.iconst 0, 1) := by decide +kernel
theorem dL_used_2 : decode cL_used 2 = .ok (.aload_n 0, 1) := by decide +kernel
theorem dL_used_3 : decode cL_used 3 = .ok (.iload_n 1, 1) := by decide +kernel
theorem dL_used_4 : decode cL_used 4 = .ok (.iload_n 2, 1) := by decide +kernel
theorem dL_used_5 : decode cL_used 5 = .ok (.invokevirtual 78, 3) := by decide +kernel
theorem dL_used_8 : decode cL_used 8 = .ok (.i2l, 1) := by decide +kernel
theorem dL_used_9 : decode cL_used 9 = .ok (.lastore, 1) := by decide +kernel
theorem dL_used_10 : decode cL_used 10 = .ok (.goto 11, 3) := by decide +kernel
theorem dL_used_13 : decode cL_used 13 = .ok (.astore 4, 2) := by decide +kernel
theorem dL_used_15 : decode cL_used 15 = .ok (.iconst 1, 1) := by decide +kernel
theorem dL_used_16 : decode cL_used 16 = .ok (.ireturn, 1) := by decide +kernel
theorem dL_used_17 : decode cL_used 17 = .ok (.astore 4, 2) := by decide +kernel
theorem dL_used_19 : decode cL_used 19 = .ok (.iconst 2, 1) := by decide +kernel
theorem dL_used_20 : decode cL_used 20 = .ok (.ireturn, 1) := by decide +kernel
theorem dL_used_21 : decode cL_used 21 = .ok (.iconst 0, 1) := by decide +kernel
theorem dL_used_22 : decode cL_used 22 = .ok (.ireturn, 1) := by decide +kernel
theorem dL_parent_0 : decode cL_parent 0 = .ok (.aload_n 2, 1) := by decide +kernel
theorem dL_parent_1 : decode cL_parent 1 = .ok (.iconst 0, 1) := by decide +kernel
theorem dL_parent_2 : decode cL_parent 2 = .ok (.aload_n 0, 1) := by decide +kernel
theorem dL_parent_3 : decode cL_parent 3 = .ok (.iload_n 1, 1) := by decide +kernel
theorem dL_parent_4 : decode cL_parent 4 = .ok (.invokevirtual 81, 3) := by decide +kernel
theorem dL_parent_7 : decode cL_parent 7 = .ok (.i2l, 1) := by decide +kernel
theorem dL_parent_8 : decode cL_parent 8 = .ok (.lastore, 1) := by decide +kernel
theorem dL_parent_9 : decode cL_parent 9 = .ok (.goto 6, 3) := by decide +kernel
theorem dL_parent_12 : decode cL_parent 12 = .ok (.astore_n 3, 1) := by decide +kernel
theorem dL_parent_13 : decode cL_parent 13 = .ok (.iconst 1, 1) := by decide +kernel
theorem dL_parent_14 : decode cL_parent 14 = .ok (.ireturn, 1) := by decide +kernel
theorem dL_parent_15 : decode cL_parent 15 = .ok (.iconst 0, 1) := by decide +kernel
theorem dL_parent_16 : decode cL_parent 16 = .ok (.ireturn, 1) := by decide +kernel
theorem dL_law_0 : decode cL_law 0 = .ok (.new 8, 3) := by decide +kernel
theorem dL_law_3 : decode cL_law 3 = .ok (.dup, 1) := by decide +kernel
theorem dL_law_4 : decode cL_law 4 = .ok (.invokespecial 84, 3) := by decide +kernel
theorem dL_law_7 : decode cL_law 7 = .ok (.astore_n 1, 1) := by decide +kernel
theorem dL_law_8 : decode cL_law 8 = .ok (.new 85, 3) := by decide +kernel
theorem dL_law_11 : decode cL_law 11 = .ok (.dup, 1) := by decide +kernel
theorem dL_law_12 : decode cL_law 12 = .ok (.invokespecial 87, 3) := by decide +kernel
theorem dL_law_15 : decode cL_law 15 = .ok (.astore_n 2, 1) := by decide +kernel
theorem dL_law_16 : decode cL_law 16 = .ok (.iconst 1, 1) := by decide +kernel
theorem dL_law_17 : decode cL_law 17 = .ok (.newarray .long, 2) := by decide +kernel
theorem dL_law_19 : decode cL_law 19 = .ok (.astore_n 3, 1) := by decide +kernel
theorem dL_law_20 : decode cL_law 20 = .ok (.iconst 0, 1) := by decide +kernel
theorem dL_law_21 : decode cL_law 21 = .ok (.istore 4, 2) := by decide +kernel
theorem dL_law_23 : decode cL_law 23 = .ok (.iload 4, 2) := by decide +kernel
theorem dL_law_25 : decode cL_law 25 = .ok (.aload_n 0, 1) := by decide +kernel
theorem dL_law_26 : decode cL_law 26 = .ok (.arraylength, 1) := by decide +kernel
theorem dL_law_27 : decode cL_law 27 = .ok (.bipush 6, 2) := by decide +kernel
theorem dL_law_29 : decode cL_law 29 = .ok (.isub, 1) := by decide +kernel
theorem dL_law_30 : decode cL_law 30 = .ok (.if_icmp .gt 1686, 3) := by decide +kernel
theorem dL_law_33 : decode cL_law 33 = .ok (.aload_n 0, 1) := by decide +kernel
theorem dL_law_34 : decode cL_law 34 = .ok (.iload 4, 2) := by decide +kernel
theorem dL_law_36 : decode cL_law 36 = .ok (.iaload, 1) := by decide +kernel
theorem dL_law_37 : decode cL_law 37 = .ok (.bipush 31, 2) := by decide +kernel
theorem dL_law_39 : decode cL_law 39 = .ok (.iand, 1) := by decide +kernel
theorem dL_law_40 : decode cL_law 40 = .ok (.tableswitch 1670 0 24 #[116, 129, 185, 281, 401, 509, 577, 645, 701, 714, 727, 771, 851, 943, 1011, 1095, 1163, 1243, 1299, 1355, 1423, 1491, 1559, 1615, 1656], 116) := by decide +kernel
theorem dL_law_156 : decode cL_law 156 = .ok (.aload_n 1, 1) := by decide +kernel
theorem dL_law_157 : decode cL_law 157 = .ok (.invokevirtual 88, 3) := by decide +kernel
theorem dL_law_160 : decode cL_law 160 = .ok (.aload_n 2, 1) := by decide +kernel
theorem dL_law_161 : decode cL_law 161 = .ok (.invokevirtual 91, 3) := by decide +kernel
theorem dL_law_164 : decode cL_law 164 = .ok (.if_icmp .eq 1546, 3) := by decide +kernel
theorem dL_law_167 : decode cL_law 167 = .ok (.iconst 0, 1) := by decide +kernel
theorem dL_law_168 : decode cL_law 168 = .ok (.ireturn, 1) := by decide +kernel
theorem dL_law_169 : decode cL_law 169 = .ok (.aload_n 1, 1) := by decide +kernel
theorem dL_law_170 : decode cL_law 170 = .ok (.aload_n 0, 1) := by decide +kernel
theorem dL_law_171 : decode cL_law 171 = .ok (.iload 4, 2) := by decide +kernel
theorem dL_law_173 : decode cL_law 173 = .ok (.iconst 1, 1) := by decide +kernel
theorem dL_law_174 : decode cL_law 174 = .ok (.iadd, 1) := by decide +kernel
theorem dL_law_175 : decode cL_law 175 = .ok (.iaload, 1) := by decide +kernel
theorem dL_law_176 : decode cL_law 176 = .ok (.aload_n 3, 1) := by decide +kernel
theorem dL_law_177 : decode cL_law 177 = .ok (.invokestatic 92, 3) := by decide +kernel
theorem dL_law_180 : decode cL_law 180 = .ok (.istore 5, 2) := by decide +kernel
theorem dL_law_182 : decode cL_law 182 = .ok (.aload_n 2, 1) := by decide +kernel
theorem dL_law_183 : decode cL_law 183 = .ok (.aload_n 0, 1) := by decide +kernel
theorem dL_law_184 : decode cL_law 184 = .ok (.iload 4, 2) := by decide +kernel
theorem dL_law_186 : decode cL_law 186 = .ok (.iconst 1, 1) := by decide +kernel
theorem dL_law_187 : decode cL_law 187 = .ok (.iadd, 1) := by decide +kernel
theorem dL_law_188 : decode cL_law 188 = .ok (.iaload, 1) := by decide +kernel
theorem dL_law_189 : decode cL_law 189 = .ok (.invokevirtual 97, 3) := by decide +kernel
theorem dL_law_192 : decode cL_law 192 = .ok (.istore 6, 2) := by decide +kernel
theorem dL_law_194 : decode cL_law 194 = .ok (.aload_n 2, 1) := by decide +kernel
theorem dL_law_195 : decode cL_law 195 = .ok (.invokevirtual 98, 3) := by decide +kernel
theorem dL_law_198 : decode cL_law 198 = .ok (.iload 5, 2) := by decide +kernel
theorem dL_law_200 : decode cL_law 200 = .ok (.if_icmp .eq 5, 3) := by decide +kernel
theorem dL_law_203 : decode cL_law 203 = .ok (.iconst 0, 1) := by decide +kernel
theorem dL_law_204 : decode cL_law 204 = .ok (.ireturn, 1) := by decide +kernel
theorem dL_law_205 : decode cL_law 205 = .ok (.iload 5, 2) := by decide +kernel
theorem dL_law_207 : decode cL_law 207 = .ok (.ifCond .ne 15, 3) := by decide +kernel
theorem dL_law_210 : decode cL_law 210 = .ok (.aload_n 3, 1) := by decide +kernel
theorem dL_law_211 : decode cL_law 211 = .ok (.iconst 0, 1) := by decide +kernel
theorem dL_law_212 : decode cL_law 212 = .ok (.laload, 1) := by decide +kernel
theorem dL_law_213 : decode cL_law 213 = .ok (.iload 6, 2) := by decide +kernel
theorem dL_law_215 : decode cL_law 215 = .ok (.i2l, 1) := by decide +kernel
theorem dL_law_216 : decode cL_law 216 = .ok (.lcmp, 1) := by decide +kernel
theorem dL_law_217 : decode cL_law 217 = .ok (.ifCond .eq 5, 3) := by decide +kernel
theorem dL_law_220 : decode cL_law 220 = .ok (.iconst 0, 1) := by decide +kernel
theorem dL_law_221 : decode cL_law 221 = .ok (.ireturn, 1) := by decide +kernel
theorem dL_law_222 : decode cL_law 222 = .ok (.goto 1488, 3) := by decide +kernel
theorem dL_law_225 : decode cL_law 225 = .ok (.aload_n 1, 1) := by decide +kernel
theorem dL_law_226 : decode cL_law 226 = .ok (.aload_n 0, 1) := by decide +kernel
theorem dL_law_227 : decode cL_law 227 = .ok (.iload 4, 2) := by decide +kernel
theorem dL_law_229 : decode cL_law 229 = .ok (.iconst 1, 1) := by decide +kernel
theorem dL_law_230 : decode cL_law 230 = .ok (.iadd, 1) := by decide +kernel
theorem dL_law_231 : decode cL_law 231 = .ok (.iaload, 1) := by decide +kernel
theorem dL_law_232 : decode cL_law 232 = .ok (.aload_n 0, 1) := by decide +kernel
theorem dL_law_233 : decode cL_law 233 = .ok (.iload 4, 2) := by decide +kernel
theorem dL_law_235 : decode cL_law 235 = .ok (.iconst 2, 1) := by decide +kernel
theorem dL_law_236 : decode cL_law 236 = .ok (.iadd, 1) := by decide +kernel
theorem dL_law_237 : decode cL_law 237 = .ok (.iaload, 1) := by decide +kernel
theorem dL_law_238 : decode cL_law 238 = .ok (.aload_n 0, 1) := by decide +kernel
theorem dL_law_239 : decode cL_law 239 = .ok (.iload 4, 2) := by decide +kernel
theorem dL_law_241 : decode cL_law 241 = .ok (.iconst 3, 1) := by decide +kernel
theorem dL_law_242 : decode cL_law 242 = .ok (.iadd, 1) := by decide +kernel
theorem dL_law_243 : decode cL_law 243 = .ok (.iaload, 1) := by decide +kernel
theorem dL_law_244 : decode cL_law 244 = .ok (.ifCond .eq 7, 3) := by decide +kernel
theorem dL_law_247 : decode cL_law 247 = .ok (.iconst 1, 1) := by decide +kernel
theorem dL_law_248 : decode cL_law 248 = .ok (.goto 4, 3) := by decide +kernel
theorem dL_law_251 : decode cL_law 251 = .ok (.iconst 0, 1) := by decide +kernel
theorem dL_law_252 : decode cL_law 252 = .ok (.aload_n 3, 1) := by decide +kernel
theorem dL_law_253 : decode cL_law 253 = .ok (.invokestatic 101, 3) := by decide +kernel
theorem dL_law_256 : decode cL_law 256 = .ok (.istore 5, 2) := by decide +kernel
theorem dL_law_258 : decode cL_law 258 = .ok (.aload_n 2, 1) := by decide +kernel
theorem dL_law_259 : decode cL_law 259 = .ok (.aload_n 0, 1) := by decide +kernel
theorem dL_law_260 : decode cL_law 260 = .ok (.iload 4, 2) := by decide +kernel
theorem dL_law_262 : decode cL_law 262 = .ok (.iconst 1, 1) := by decide +kernel
theorem dL_law_263 : decode cL_law 263 = .ok (.iadd, 1) := by decide +kernel
theorem dL_law_264 : decode cL_law 264 = .ok (.iaload, 1) := by decide +kernel
theorem dL_law_265 : decode cL_law 265 = .ok (.aload_n 0, 1) := by decide +kernel
theorem dL_law_266 : decode cL_law 266 = .ok (.iload 4, 2) := by decide +kernel
theorem dL_law_268 : decode cL_law 268 = .ok (.iconst 2, 1) := by decide +kernel
theorem dL_law_269 : decode cL_law 269 = .ok (.iadd, 1) := by decide +kernel
theorem dL_law_270 : decode cL_law 270 = .ok (.iaload, 1) := by decide +kernel
theorem dL_law_271 : decode cL_law 271 = .ok (.aload_n 0, 1) := by decide +kernel
theorem dL_law_272 : decode cL_law 272 = .ok (.iload 4, 2) := by decide +kernel
theorem dL_law_274 : decode cL_law 274 = .ok (.iconst 3, 1) := by decide +kernel
theorem dL_law_275 : decode cL_law 275 = .ok (.iadd, 1) := by decide +kernel
theorem dL_law_276 : decode cL_law 276 = .ok (.iaload, 1) := by decide +kernel
theorem dL_law_277 : decode cL_law 277 = .ok (.ifCond .eq 7, 3) := by decide +kernel
theorem dL_law_280 : decode cL_law 280 = .ok (.iconst 1, 1) := by decide +kernel
theorem dL_law_281 : decode cL_law 281 = .ok (.goto 4, 3) := by decide +kernel
theorem dL_law_284 : decode cL_law 284 = .ok (.iconst 0, 1) := by decide +kernel
theorem dL_law_285 : decode cL_law 285 = .ok (.invokevirtual 104, 3) := by decide +kernel
theorem dL_law_288 : decode cL_law 288 = .ok (.istore 6, 2) := by decide +kernel
theorem dL_law_290 : decode cL_law 290 = .ok (.aload_n 2, 1) := by decide +kernel
theorem dL_law_291 : decode cL_law 291 = .ok (.invokevirtual 98, 3) := by decide +kernel
theorem dL_law_294 : decode cL_law 294 = .ok (.iload 5, 2) := by decide +kernel
theorem dL_law_296 : decode cL_law 296 = .ok (.if_icmp .eq 5, 3) := by decide +kernel
theorem dL_law_299 : decode cL_law 299 = .ok (.iconst 0, 1) := by decide +kernel
theorem dL_law_300 : decode cL_law 300 = .ok (.ireturn, 1) := by decide +kernel
theorem dL_law_301 : decode cL_law 301 = .ok (.iload 5, 2) := by decide +kernel
theorem dL_law_303 : decode cL_law 303 = .ok (.ifCond .ne 15, 3) := by decide +kernel
theorem dL_law_306 : decode cL_law 306 = .ok (.aload_n 3, 1) := by decide +kernel
theorem dL_law_307 : decode cL_law 307 = .ok (.iconst 0, 1) := by decide +kernel
theorem dL_law_308 : decode cL_law 308 = .ok (.laload, 1) := by decide +kernel
theorem dL_law_309 : decode cL_law 309 = .ok (.iload 6, 2) := by decide +kernel
theorem dL_law_311 : decode cL_law 311 = .ok (.i2l, 1) := by decide +kernel
theorem dL_law_312 : decode cL_law 312 = .ok (.lcmp, 1) := by decide +kernel
theorem dL_law_313 : decode cL_law 313 = .ok (.ifCond .eq 5, 3) := by decide +kernel
theorem dL_law_316 : decode cL_law 316 = .ok (.iconst 0, 1) := by decide +kernel
theorem dL_law_317 : decode cL_law 317 = .ok (.ireturn, 1) := by decide +kernel
theorem dL_law_318 : decode cL_law 318 = .ok (.goto 1392, 3) := by decide +kernel
theorem dL_law_321 : decode cL_law 321 = .ok (.aload_n 1, 1) := by decide +kernel
theorem dL_law_322 : decode cL_law 322 = .ok (.aload_n 0, 1) := by decide +kernel
theorem dL_law_323 : decode cL_law 323 = .ok (.iload 4, 2) := by decide +kernel
theorem dL_law_325 : decode cL_law 325 = .ok (.iconst 1, 1) := by decide +kernel
theorem dL_law_326 : decode cL_law 326 = .ok (.iadd, 1) := by decide +kernel
theorem dL_law_327 : decode cL_law 327 = .ok (.iaload, 1) := by decide +kernel
theorem dL_law_328 : decode cL_law 328 = .ok (.aload_n 0, 1) := by decide +kernel
theorem dL_law_329 : decode cL_law 329 = .ok (.iload 4, 2) := by decide +kernel
theorem dL_law_331 : decode cL_law 331 = .ok (.iconst 2, 1) := by decide +kernel
theorem dL_law_332 : decode cL_law 332 = .ok (.iadd, 1) := by decide +kernel
theorem dL_law_333 : decode cL_law 333 = .ok (.iaload, 1) := by decide +kernel
theorem dL_law_334 : decode cL_law 334 = .ok (.aload_n 0, 1) := by decide +kernel
theorem dL_law_335 : decode cL_law 335 = .ok (.iload 4, 2) := by decide +kernel
theorem dL_law_337 : decode cL_law 337 = .ok (.iconst 3, 1) := by decide +kernel
theorem dL_law_338 : decode cL_law 338 = .ok (.iadd, 1) := by decide +kernel
theorem dL_law_339 : decode cL_law 339 = .ok (.iaload, 1) := by decide +kernel
theorem dL_law_340 : decode cL_law 340 = .ok (.aload_n 0, 1) := by decide +kernel
theorem dL_law_341 : decode cL_law 341 = .ok (.iload 4, 2) := by decide +kernel
theorem dL_law_343 : decode cL_law 343 = .ok (.iconst 4, 1) := by decide +kernel
theorem dL_law_344 : decode cL_law 344 = .ok (.iadd, 1) := by decide +kernel
theorem dL_law_345 : decode cL_law 345 = .ok (.iaload, 1) := by decide +kernel
theorem dL_law_346 : decode cL_law 346 = .ok (.aload_n 0, 1) := by decide +kernel
theorem dL_law_347 : decode cL_law 347 = .ok (.iload 4, 2) := by decide +kernel
theorem dL_law_349 : decode cL_law 349 = .ok (.iconst 5, 1) := by decide +kernel
theorem dL_law_350 : decode cL_law 350 = .ok (.iadd, 1) := by decide +kernel
theorem dL_law_351 : decode cL_law 351 = .ok (.iaload, 1) := by decide +kernel
theorem dL_law_352 : decode cL_law 352 = .ok (.ifCond .eq 7, 3) := by decide +kernel
theorem dL_law_355 : decode cL_law 355 = .ok (.iconst 1, 1) := by decide +kernel
theorem dL_law_356 : decode cL_law 356 = .ok (.goto 4, 3) := by decide +kernel
theorem dL_law_359 : decode cL_law 359 = .ok (.iconst 0, 1) := by decide +kernel
theorem dL_law_360 : decode cL_law 360 = .ok (.aload_n 3, 1) := by decide +kernel
theorem dL_law_361 : decode cL_law 361 = .ok (.invokestatic 105, 3) := by decide +kernel
theorem dL_law_364 : decode cL_law 364 = .ok (.istore 5, 2) := by decide +kernel
theorem dL_law_366 : decode cL_law 366 = .ok (.aload_n 2, 1) := by decide +kernel
theorem dL_law_367 : decode cL_law 367 = .ok (.aload_n 0, 1) := by decide +kernel
theorem dL_law_368 : decode cL_law 368 = .ok (.iload 4, 2) := by decide +kernel
theorem dL_law_370 : decode cL_law 370 = .ok (.iconst 1, 1) := by decide +kernel
theorem dL_law_371 : decode cL_law 371 = .ok (.iadd, 1) := by decide +kernel
theorem dL_law_372 : decode cL_law 372 = .ok (.iaload, 1) := by decide +kernel
theorem dL_law_373 : decode cL_law 373 = .ok (.aload_n 0, 1) := by decide +kernel
theorem dL_law_374 : decode cL_law 374 = .ok (.iload 4, 2) := by decide +kernel
theorem dL_law_376 : decode cL_law 376 = .ok (.iconst 2, 1) := by decide +kernel
theorem dL_law_377 : decode cL_law 377 = .ok (.iadd, 1) := by decide +kernel
theorem dL_law_378 : decode cL_law 378 = .ok (.iaload, 1) := by decide +kernel
theorem dL_law_379 : decode cL_law 379 = .ok (.aload_n 0, 1) := by decide +kernel
theorem dL_law_380 : decode cL_law 380 = .ok (.iload 4, 2) := by decide +kernel
theorem dL_law_382 : decode cL_law 382 = .ok (.iconst 3, 1) := by decide +kernel
theorem dL_law_383 : decode cL_law 383 = .ok (.iadd, 1) := by decide +kernel
theorem dL_law_384 : decode cL_law 384 = .ok (.iaload, 1) := by decide +kernel
theorem dL_law_385 : decode cL_law 385 = .ok (.aload_n 0, 1) := by decide +kernel
theorem dL_law_386 : decode cL_law 386 = .ok (.iload 4, 2) := by decide +kernel
theorem dL_law_388 : decode cL_law 388 = .ok (.iconst 4, 1) := by decide +kernel
theorem dL_law_389 : decode cL_law 389 = .ok (.iadd, 1) := by decide +kernel
theorem dL_law_390 : decode cL_law 390 = .ok (.iaload, 1) := by decide +kernel
theorem dL_law_391 : decode cL_law 391 = .ok (.aload_n 0, 1) := by decide +kernel
theorem dL_law_392 : decode cL_law 392 = .ok (.iload 4, 2) := by decide +kernel
theorem dL_law_394 : decode cL_law 394 = .ok (.iconst 5, 1) := by decide +kernel
theorem dL_law_395 : decode cL_law 395 = .ok (.iadd, 1) := by decide +kernel
theorem dL_law_396 : decode cL_law 396 = .ok (.iaload, 1) := by decide +kernel
theorem dL_law_397 : decode cL_law 397 = .ok (.ifCond .eq 7, 3) := by decide +kernel
theorem dL_law_400 : decode cL_law 400 = .ok (.iconst 1, 1) := by decide +kernel
theorem dL_law_401 : decode cL_law 401 = .ok (.goto 4, 3) := by decide +kernel
theorem dL_law_404 : decode cL_law 404 = .ok (.iconst 0, 1) := by decide +kernel
theorem dL_law_405 : decode cL_law 405 = .ok (.invokevirtual 108, 3) := by decide +kernel
theorem dL_law_408 : decode cL_law 408 = .ok (.istore 6, 2) := by decide +kernel
theorem dL_law_410 : decode cL_law 410 = .ok (.aload_n 2, 1) := by decide +kernel
theorem dL_law_411 : decode cL_law 411 = .ok (.invokevirtual 98, 3) := by decide +kernel
theorem dL_law_414 : decode cL_law 414 = .ok (.iload 5, 2) := by decide +kernel
theorem dL_law_416 : decode cL_law 416 = .ok (.if_icmp .eq 5, 3) := by decide +kernel
theorem dL_law_419 : decode cL_law 419 = .ok (.iconst 0, 1) := by decide +kernel
theorem dL_law_420 : decode cL_law 420 = .ok (.ireturn, 1) := by decide +kernel
theorem dL_law_421 : decode cL_law 421 = .ok (.iload 5, 2) := by decide +kernel
theorem dL_law_423 : decode cL_law 423 = .ok (.ifCond .ne 15, 3) := by decide +kernel
theorem dL_law_426 : decode cL_law 426 = .ok (.aload_n 3, 1) := by decide +kernel
theorem dL_law_427 : decode cL_law 427 = .ok (.iconst 0, 1) := by decide +kernel
theorem dL_law_428 : decode cL_law 428 = .ok (.laload, 1) := by decide +kernel
theorem dL_law_429 : decode cL_law 429 = .ok (.iload 6, 2) := by decide +kernel
theorem dL_law_431 : decode cL_law 431 = .ok (.i2l, 1) := by decide +kernel
theorem dL_law_432 : decode cL_law 432 = .ok (.lcmp, 1) := by decide +kernel
theorem dL_law_433 : decode cL_law 433 = .ok (.ifCond .eq 5, 3) := by decide +kernel
theorem dL_law_436 : decode cL_law 436 = .ok (.iconst 0, 1) := by decide +kernel
theorem dL_law_437 : decode cL_law 437 = .ok (.ireturn, 1) := by decide +kernel
theorem dL_law_438 : decode cL_law 438 = .ok (.goto 1272, 3) := by decide +kernel
theorem dL_law_441 : decode cL_law 441 = .ok (.aload_n 1, 1) := by decide +kernel
theorem dL_law_442 : decode cL_law 442 = .ok (.aload_n 0, 1) := by decide +kernel
theorem dL_law_443 : decode cL_law 443 = .ok (.iload 4, 2) := by decide +kernel
theorem dL_law_445 : decode cL_law 445 = .ok (.iconst 1, 1) := by decide +kernel
theorem dL_law_446 : decode cL_law 446 = .ok (.iadd, 1) := by decide +kernel
theorem dL_law_447 : decode cL_law 447 = .ok (.iaload, 1) := by decide +kernel
theorem dL_law_448 : decode cL_law 448 = .ok (.aload_n 0, 1) := by decide +kernel
theorem dL_law_449 : decode cL_law 449 = .ok (.iload 4, 2) := by decide +kernel
theorem dL_law_451 : decode cL_law 451 = .ok (.iconst 2, 1) := by decide +kernel
theorem dL_law_452 : decode cL_law 452 = .ok (.iadd, 1) := by decide +kernel
theorem dL_law_453 : decode cL_law 453 = .ok (.iaload, 1) := by decide +kernel
theorem dL_law_454 : decode cL_law 454 = .ok (.aload_n 0, 1) := by decide +kernel
theorem dL_law_455 : decode cL_law 455 = .ok (.iload 4, 2) := by decide +kernel
theorem dL_law_457 : decode cL_law 457 = .ok (.iconst 3, 1) := by decide +kernel
theorem dL_law_458 : decode cL_law 458 = .ok (.iadd, 1) := by decide +kernel
theorem dL_law_459 : decode cL_law 459 = .ok (.iaload, 1) := by decide +kernel
theorem dL_law_460 : decode cL_law 460 = .ok (.aload_n 0, 1) := by decide +kernel
theorem dL_law_461 : decode cL_law 461 = .ok (.iload 4, 2) := by decide +kernel
theorem dL_law_463 : decode cL_law 463 = .ok (.iconst 4, 1) := by decide +kernel
theorem dL_law_464 : decode cL_law 464 = .ok (.iadd, 1) := by decide +kernel
theorem dL_law_465 : decode cL_law 465 = .ok (.iaload, 1) := by decide +kernel
theorem dL_law_466 : decode cL_law 466 = .ok (.ifCond .eq 7, 3) := by decide +kernel
theorem dL_law_469 : decode cL_law 469 = .ok (.iconst 1, 1) := by decide +kernel
theorem dL_law_470 : decode cL_law 470 = .ok (.goto 4, 3) := by decide +kernel
theorem dL_law_473 : decode cL_law 473 = .ok (.iconst 0, 1) := by decide +kernel
theorem dL_law_474 : decode cL_law 474 = .ok (.aload_n 3, 1) := by decide +kernel
theorem dL_law_475 : decode cL_law 475 = .ok (.invokestatic 109, 3) := by decide +kernel
theorem dL_law_478 : decode cL_law 478 = .ok (.istore 5, 2) := by decide +kernel
theorem dL_law_480 : decode cL_law 480 = .ok (.aload_n 2, 1) := by decide +kernel
theorem dL_law_481 : decode cL_law 481 = .ok (.aload_n 0, 1) := by decide +kernel
theorem dL_law_482 : decode cL_law 482 = .ok (.iload 4, 2) := by decide +kernel
theorem dL_law_484 : decode cL_law 484 = .ok (.iconst 1, 1) := by decide +kernel
theorem dL_law_485 : decode cL_law 485 = .ok (.iadd, 1) := by decide +kernel
theorem dL_law_486 : decode cL_law 486 = .ok (.iaload, 1) := by decide +kernel
theorem dL_law_487 : decode cL_law 487 = .ok (.aload_n 0, 1) := by decide +kernel
theorem dL_law_488 : decode cL_law 488 = .ok (.iload 4, 2) := by decide +kernel
theorem dL_law_490 : decode cL_law 490 = .ok (.iconst 2, 1) := by decide +kernel
theorem dL_law_491 : decode cL_law 491 = .ok (.iadd, 1) := by decide +kernel
theorem dL_law_492 : decode cL_law 492 = .ok (.iaload, 1) := by decide +kernel
theorem dL_law_493 : decode cL_law 493 = .ok (.aload_n 0, 1) := by decide +kernel
theorem dL_law_494 : decode cL_law 494 = .ok (.iload 4, 2) := by decide +kernel
theorem dL_law_496 : decode cL_law 496 = .ok (.iconst 3, 1) := by decide +kernel
theorem dL_law_497 : decode cL_law 497 = .ok (.iadd, 1) := by decide +kernel
theorem dL_law_498 : decode cL_law 498 = .ok (.iaload, 1) := by decide +kernel
theorem dL_law_499 : decode cL_law 499 = .ok (.aload_n 0, 1) := by decide +kernel
theorem dL_law_500 : decode cL_law 500 = .ok (.iload 4, 2) := by decide +kernel
theorem dL_law_502 : decode cL_law 502 = .ok (.iconst 4, 1) := by decide +kernel
theorem dL_law_503 : decode cL_law 503 = .ok (.iadd, 1) := by decide +kernel
theorem dL_law_504 : decode cL_law 504 = .ok (.iaload, 1) := by decide +kernel
theorem dL_law_505 : decode cL_law 505 = .ok (.ifCond .eq 7, 3) := by decide +kernel
theorem dL_law_508 : decode cL_law 508 = .ok (.iconst 1, 1) := by decide +kernel
theorem dL_law_509 : decode cL_law 509 = .ok (.goto 4, 3) := by decide +kernel
theorem dL_law_512 : decode cL_law 512 = .ok (.iconst 0, 1) := by decide +kernel
theorem dL_law_513 : decode cL_law 513 = .ok (.invokevirtual 112, 3) := by decide +kernel
theorem dL_law_516 : decode cL_law 516 = .ok (.istore 6, 2) := by decide +kernel
theorem dL_law_518 : decode cL_law 518 = .ok (.aload_n 2, 1) := by decide +kernel
theorem dL_law_519 : decode cL_law 519 = .ok (.invokevirtual 98, 3) := by decide +kernel
theorem dL_law_522 : decode cL_law 522 = .ok (.iload 5, 2) := by decide +kernel
theorem dL_law_524 : decode cL_law 524 = .ok (.if_icmp .eq 5, 3) := by decide +kernel
theorem dL_law_527 : decode cL_law 527 = .ok (.iconst 0, 1) := by decide +kernel
theorem dL_law_528 : decode cL_law 528 = .ok (.ireturn, 1) := by decide +kernel
theorem dL_law_529 : decode cL_law 529 = .ok (.iload 5, 2) := by decide +kernel
theorem dL_law_531 : decode cL_law 531 = .ok (.ifCond .ne 15, 3) := by decide +kernel
theorem dL_law_534 : decode cL_law 534 = .ok (.aload_n 3, 1) := by decide +kernel
theorem dL_law_535 : decode cL_law 535 = .ok (.iconst 0, 1) := by decide +kernel
theorem dL_law_536 : decode cL_law 536 = .ok (.laload, 1) := by decide +kernel
theorem dL_law_537 : decode cL_law 537 = .ok (.iload 6, 2) := by decide +kernel
theorem dL_law_539 : decode cL_law 539 = .ok (.i2l, 1) := by decide +kernel
theorem dL_law_540 : decode cL_law 540 = .ok (.lcmp, 1) := by decide +kernel
theorem dL_law_541 : decode cL_law 541 = .ok (.ifCond .eq 5, 3) := by decide +kernel
theorem dL_law_544 : decode cL_law 544 = .ok (.iconst 0, 1) := by decide +kernel
theorem dL_law_545 : decode cL_law 545 = .ok (.ireturn, 1) := by decide +kernel
theorem dL_law_546 : decode cL_law 546 = .ok (.goto 1164, 3) := by decide +kernel
theorem dL_law_549 : decode cL_law 549 = .ok (.aload_n 1, 1) := by decide +kernel
theorem dL_law_550 : decode cL_law 550 = .ok (.aload_n 0, 1) := by decide +kernel
theorem dL_law_551 : decode cL_law 551 = .ok (.iload 4, 2) := by decide +kernel
theorem dL_law_553 : decode cL_law 553 = .ok (.iconst 1, 1) := by decide +kernel
theorem dL_law_554 : decode cL_law 554 = .ok (.iadd, 1) := by decide +kernel
theorem dL_law_555 : decode cL_law 555 = .ok (.iaload, 1) := by decide +kernel
theorem dL_law_556 : decode cL_law 556 = .ok (.aload_n 0, 1) := by decide +kernel
theorem dL_law_557 : decode cL_law 557 = .ok (.iload 4, 2) := by decide +kernel
theorem dL_law_559 : decode cL_law 559 = .ok (.iconst 2, 1) := by decide +kernel
theorem dL_law_560 : decode cL_law 560 = .ok (.iadd, 1) := by decide +kernel
theorem dL_law_561 : decode cL_law 561 = .ok (.iaload, 1) := by decide +kernel
theorem dL_law_562 : decode cL_law 562 = .ok (.aload_n 3, 1) := by decide +kernel
theorem dL_law_563 : decode cL_law 563 = .ok (.invokestatic 113, 3) := by decide +kernel
theorem dL_law_566 : decode cL_law 566 = .ok (.istore 5, 2) := by decide +kernel
theorem dL_law_568 : decode cL_law 568 = .ok (.aload_n 2, 1) := by decide +kernel
theorem dL_law_569 : decode cL_law 569 = .ok (.aload_n 0, 1) := by decide +kernel
theorem dL_law_570 : decode cL_law 570 = .ok (.iload 4, 2) := by decide +kernel
theorem dL_law_572 : decode cL_law 572 = .ok (.iconst 1, 1) := by decide +kernel
theorem dL_law_573 : decode cL_law 573 = .ok (.iadd, 1) := by decide +kernel
theorem dL_law_574 : decode cL_law 574 = .ok (.iaload, 1) := by decide +kernel
theorem dL_law_575 : decode cL_law 575 = .ok (.aload_n 0, 1) := by decide +kernel
theorem dL_law_576 : decode cL_law 576 = .ok (.iload 4, 2) := by decide +kernel
theorem dL_law_578 : decode cL_law 578 = .ok (.iconst 2, 1) := by decide +kernel
theorem dL_law_579 : decode cL_law 579 = .ok (.iadd, 1) := by decide +kernel
theorem dL_law_580 : decode cL_law 580 = .ok (.iaload, 1) := by decide +kernel
theorem dL_law_581 : decode cL_law 581 = .ok (.invokevirtual 116, 3) := by decide +kernel
theorem dL_law_584 : decode cL_law 584 = .ok (.istore 6, 2) := by decide +kernel
theorem dL_law_586 : decode cL_law 586 = .ok (.aload_n 2, 1) := by decide +kernel
theorem dL_law_587 : decode cL_law 587 = .ok (.invokevirtual 98, 3) := by decide +kernel
theorem dL_law_590 : decode cL_law 590 = .ok (.iload 5, 2) := by decide +kernel
theorem dL_law_592 : decode cL_law 592 = .ok (.if_icmp .eq 5, 3) := by decide +kernel
theorem dL_law_595 : decode cL_law 595 = .ok (.iconst 0, 1) := by decide +kernel
theorem dL_law_596 : decode cL_law 596 = .ok (.ireturn, 1) := by decide +kernel
theorem dL_law_597 : decode cL_law 597 = .ok (.iload 5, 2) := by decide +kernel
theorem dL_law_599 : decode cL_law 599 = .ok (.ifCond .ne 15, 3) := by decide +kernel
theorem dL_law_602 : decode cL_law 602 = .ok (.aload_n 3, 1) := by decide +kernel
theorem dL_law_603 : decode cL_law 603 = .ok (.iconst 0, 1) := by decide +kernel
theorem dL_law_604 : decode cL_law 604 = .ok (.laload, 1) := by decide +kernel
theorem dL_law_605 : decode cL_law 605 = .ok (.iload 6, 2) := by decide +kernel
theorem dL_law_607 : decode cL_law 607 = .ok (.i2l, 1) := by decide +kernel
theorem dL_law_608 : decode cL_law 608 = .ok (.lcmp, 1) := by decide +kernel
theorem dL_law_609 : decode cL_law 609 = .ok (.ifCond .eq 5, 3) := by decide +kernel
theorem dL_law_612 : decode cL_law 612 = .ok (.iconst 0, 1) := by decide +kernel
theorem dL_law_613 : decode cL_law 613 = .ok (.ireturn, 1) := by decide +kernel
theorem dL_law_614 : decode cL_law 614 = .ok (.goto 1096, 3) := by decide +kernel
theorem dL_law_617 : decode cL_law 617 = .ok (.aload_n 1, 1) := by decide +kernel
theorem dL_law_618 : decode cL_law 618 = .ok (.aload_n 0, 1) := by decide +kernel
theorem dL_law_619 : decode cL_law 619 = .ok (.iload 4, 2) := by decide +kernel
theorem dL_law_621 : decode cL_law 621 = .ok (.iconst 1, 1) := by decide +kernel
theorem dL_law_622 : decode cL_law 622 = .ok (.iadd, 1) := by decide +kernel
theorem dL_law_623 : decode cL_law 623 = .ok (.iaload, 1) := by decide +kernel
theorem dL_law_624 : decode cL_law 624 = .ok (.aload_n 0, 1) := by decide +kernel
theorem dL_law_625 : decode cL_law 625 = .ok (.iload 4, 2) := by decide +kernel
theorem dL_law_627 : decode cL_law 627 = .ok (.iconst 2, 1) := by decide +kernel
theorem dL_law_628 : decode cL_law 628 = .ok (.iadd, 1) := by decide +kernel
theorem dL_law_629 : decode cL_law 629 = .ok (.iaload, 1) := by decide +kernel
theorem dL_law_630 : decode cL_law 630 = .ok (.aload_n 3, 1) := by decide +kernel
theorem dL_law_631 : decode cL_law 631 = .ok (.invokestatic 117, 3) := by decide +kernel
theorem dL_law_634 : decode cL_law 634 = .ok (.istore 5, 2) := by decide +kernel
theorem dL_law_636 : decode cL_law 636 = .ok (.aload_n 2, 1) := by decide +kernel
theorem dL_law_637 : decode cL_law 637 = .ok (.aload_n 0, 1) := by decide +kernel
theorem dL_law_638 : decode cL_law 638 = .ok (.iload 4, 2) := by decide +kernel
theorem dL_law_640 : decode cL_law 640 = .ok (.iconst 1, 1) := by decide +kernel
theorem dL_law_641 : decode cL_law 641 = .ok (.iadd, 1) := by decide +kernel
theorem dL_law_642 : decode cL_law 642 = .ok (.iaload, 1) := by decide +kernel
theorem dL_law_643 : decode cL_law 643 = .ok (.aload_n 0, 1) := by decide +kernel
theorem dL_law_644 : decode cL_law 644 = .ok (.iload 4, 2) := by decide +kernel
theorem dL_law_646 : decode cL_law 646 = .ok (.iconst 2, 1) := by decide +kernel
theorem dL_law_647 : decode cL_law 647 = .ok (.iadd, 1) := by decide +kernel
theorem dL_law_648 : decode cL_law 648 = .ok (.iaload, 1) := by decide +kernel
theorem dL_law_649 : decode cL_law 649 = .ok (.invokevirtual 119, 3) := by decide +kernel
theorem dL_law_652 : decode cL_law 652 = .ok (.istore 6, 2) := by decide +kernel
theorem dL_law_654 : decode cL_law 654 = .ok (.aload_n 2, 1) := by decide +kernel
theorem dL_law_655 : decode cL_law 655 = .ok (.invokevirtual 98, 3) := by decide +kernel
theorem dL_law_658 : decode cL_law 658 = .ok (.iload 5, 2) := by decide +kernel
theorem dL_law_660 : decode cL_law 660 = .ok (.if_icmp .eq 5, 3) := by decide +kernel
theorem dL_law_663 : decode cL_law 663 = .ok (.iconst 0, 1) := by decide +kernel
theorem dL_law_664 : decode cL_law 664 = .ok (.ireturn, 1) := by decide +kernel
theorem dL_law_665 : decode cL_law 665 = .ok (.iload 5, 2) := by decide +kernel
theorem dL_law_667 : decode cL_law 667 = .ok (.ifCond .ne 15, 3) := by decide +kernel
theorem dL_law_670 : decode cL_law 670 = .ok (.aload_n 3, 1) := by decide +kernel
theorem dL_law_671 : decode cL_law 671 = .ok (.iconst 0, 1) := by decide +kernel
theorem dL_law_672 : decode cL_law 672 = .ok (.laload, 1) := by decide +kernel
theorem dL_law_673 : decode cL_law 673 = .ok (.iload 6, 2) := by decide +kernel
theorem dL_law_675 : decode cL_law 675 = .ok (.i2l, 1) := by decide +kernel
theorem dL_law_676 : decode cL_law 676 = .ok (.lcmp, 1) := by decide +kernel
theorem dL_law_677 : decode cL_law 677 = .ok (.ifCond .eq 5, 3) := by decide +kernel
theorem dL_law_680 : decode cL_law 680 = .ok (.iconst 0, 1) := by decide +kernel
theorem dL_law_681 : decode cL_law 681 = .ok (.ireturn, 1) := by decide +kernel
theorem dL_law_682 : decode cL_law 682 = .ok (.goto 1028, 3) := by decide +kernel
theorem dL_law_685 : decode cL_law 685 = .ok (.aload_n 1, 1) := by decide +kernel
theorem dL_law_686 : decode cL_law 686 = .ok (.aload_n 0, 1) := by decide +kernel
theorem dL_law_687 : decode cL_law 687 = .ok (.iload 4, 2) := by decide +kernel
theorem dL_law_689 : decode cL_law 689 = .ok (.iconst 1, 1) := by decide +kernel
theorem dL_law_690 : decode cL_law 690 = .ok (.iadd, 1) := by decide +kernel
theorem dL_law_691 : decode cL_law 691 = .ok (.iaload, 1) := by decide +kernel
theorem dL_law_692 : decode cL_law 692 = .ok (.aload_n 3, 1) := by decide +kernel
theorem dL_law_693 : decode cL_law 693 = .ok (.invokestatic 120, 3) := by decide +kernel
theorem dL_law_696 : decode cL_law 696 = .ok (.istore 5, 2) := by decide +kernel
theorem dL_law_698 : decode cL_law 698 = .ok (.aload_n 2, 1) := by decide +kernel
theorem dL_law_699 : decode cL_law 699 = .ok (.aload_n 0, 1) := by decide +kernel
theorem dL_law_700 : decode cL_law 700 = .ok (.iload 4, 2) := by decide +kernel
theorem dL_law_702 : decode cL_law 702 = .ok (.iconst 1, 1) := by decide +kernel
theorem dL_law_703 : decode cL_law 703 = .ok (.iadd, 1) := by decide +kernel
theorem dL_law_704 : decode cL_law 704 = .ok (.iaload, 1) := by decide +kernel
theorem dL_law_705 : decode cL_law 705 = .ok (.invokevirtual 122, 3) := by decide +kernel
theorem dL_law_708 : decode cL_law 708 = .ok (.istore 6, 2) := by decide +kernel
theorem dL_law_710 : decode cL_law 710 = .ok (.aload_n 2, 1) := by decide +kernel
theorem dL_law_711 : decode cL_law 711 = .ok (.invokevirtual 98, 3) := by decide +kernel
theorem dL_law_714 : decode cL_law 714 = .ok (.iload 5, 2) := by decide +kernel
theorem dL_law_716 : decode cL_law 716 = .ok (.if_icmp .eq 5, 3) := by decide +kernel
theorem dL_law_719 : decode cL_law 719 = .ok (.iconst 0, 1) := by decide +kernel
theorem dL_law_720 : decode cL_law 720 = .ok (.ireturn, 1) := by decide +kernel
theorem dL_law_721 : decode cL_law 721 = .ok (.iload 5, 2) := by decide +kernel
theorem dL_law_723 : decode cL_law 723 = .ok (.ifCond .ne 15, 3) := by decide +kernel
theorem dL_law_726 : decode cL_law 726 = .ok (.aload_n 3, 1) := by decide +kernel
theorem dL_law_727 : decode cL_law 727 = .ok (.iconst 0, 1) := by decide +kernel
theorem dL_law_728 : decode cL_law 728 = .ok (.laload, 1) := by decide +kernel
theorem dL_law_729 : decode cL_law 729 = .ok (.iload 6, 2) := by decide +kernel
theorem dL_law_731 : decode cL_law 731 = .ok (.i2l, 1) := by decide +kernel
theorem dL_law_732 : decode cL_law 732 = .ok (.lcmp, 1) := by decide +kernel
theorem dL_law_733 : decode cL_law 733 = .ok (.ifCond .eq 5, 3) := by decide +kernel
theorem dL_law_736 : decode cL_law 736 = .ok (.iconst 0, 1) := by decide +kernel
theorem dL_law_737 : decode cL_law 737 = .ok (.ireturn, 1) := by decide +kernel
theorem dL_law_738 : decode cL_law 738 = .ok (.goto 972, 3) := by decide +kernel
theorem dL_law_741 : decode cL_law 741 = .ok (.aload_n 1, 1) := by decide +kernel
theorem dL_law_742 : decode cL_law 742 = .ok (.invokevirtual 123, 3) := by decide +kernel
theorem dL_law_745 : decode cL_law 745 = .ok (.aload_n 2, 1) := by decide +kernel
theorem dL_law_746 : decode cL_law 746 = .ok (.invokevirtual 126, 3) := by decide +kernel
theorem dL_law_749 : decode cL_law 749 = .ok (.if_icmp .eq 961, 3) := by decide +kernel
theorem dL_law_752 : decode cL_law 752 = .ok (.iconst 0, 1) := by decide +kernel
theorem dL_law_753 : decode cL_law 753 = .ok (.ireturn, 1) := by decide +kernel
theorem dL_law_754 : decode cL_law 754 = .ok (.aload_n 1, 1) := by decide +kernel
theorem dL_law_755 : decode cL_law 755 = .ok (.invokevirtual 127, 3) := by decide +kernel
theorem dL_law_758 : decode cL_law 758 = .ok (.aload_n 2, 1) := by decide +kernel
theorem dL_law_759 : decode cL_law 759 = .ok (.invokevirtual 130, 3) := by decide +kernel
theorem dL_law_762 : decode cL_law 762 = .ok (.if_icmp .eq 948, 3) := by decide +kernel
theorem dL_law_765 : decode cL_law 765 = .ok (.iconst 0, 1) := by decide +kernel
theorem dL_law_766 : decode cL_law 766 = .ok (.ireturn, 1) := by decide +kernel
theorem dL_law_767 : decode cL_law 767 = .ok (.aload_n 1, 1) := by decide +kernel
theorem dL_law_768 : decode cL_law 768 = .ok (.aload_n 3, 1) := by decide +kernel
theorem dL_law_769 : decode cL_law 769 = .ok (.invokestatic 131, 3) := by decide +kernel
theorem dL_law_772 : decode cL_law 772 = .ok (.istore 5, 2) := by decide +kernel
theorem dL_law_774 : decode cL_law 774 = .ok (.aload_n 2, 1) := by decide +kernel
theorem dL_law_775 : decode cL_law 775 = .ok (.invokevirtual 134, 3) := by decide +kernel
theorem dL_law_778 : decode cL_law 778 = .ok (.istore 6, 2) := by decide +kernel
theorem dL_law_780 : decode cL_law 780 = .ok (.aload_n 2, 1) := by decide +kernel
theorem dL_law_781 : decode cL_law 781 = .ok (.invokevirtual 98, 3) := by decide +kernel
theorem dL_law_784 : decode cL_law 784 = .ok (.iload 5, 2) := by decide +kernel
theorem dL_law_786 : decode cL_law 786 = .ok (.if_icmp .eq 5, 3) := by decide +kernel
theorem dL_law_789 : decode cL_law 789 = .ok (.iconst 0, 1) := by decide +kernel
theorem dL_law_790 : decode cL_law 790 = .ok (.ireturn, 1) := by decide +kernel
theorem dL_law_791 : decode cL_law 791 = .ok (.iload 5, 2) := by decide +kernel
theorem dL_law_793 : decode cL_law 793 = .ok (.ifCond .ne 15, 3) := by decide +kernel
theorem dL_law_796 : decode cL_law 796 = .ok (.aload_n 3, 1) := by decide +kernel
theorem dL_law_797 : decode cL_law 797 = .ok (.iconst 0, 1) := by decide +kernel
theorem dL_law_798 : decode cL_law 798 = .ok (.laload, 1) := by decide +kernel
theorem dL_law_799 : decode cL_law 799 = .ok (.iload 6, 2) := by decide +kernel
theorem dL_law_801 : decode cL_law 801 = .ok (.i2l, 1) := by decide +kernel
theorem dL_law_802 : decode cL_law 802 = .ok (.lcmp, 1) := by decide +kernel
theorem dL_law_803 : decode cL_law 803 = .ok (.ifCond .eq 5, 3) := by decide +kernel
theorem dL_law_806 : decode cL_law 806 = .ok (.iconst 0, 1) := by decide +kernel
theorem dL_law_807 : decode cL_law 807 = .ok (.ireturn, 1) := by decide +kernel
theorem dL_law_808 : decode cL_law 808 = .ok (.goto 902, 3) := by decide +kernel
theorem dL_law_811 : decode cL_law 811 = .ok (.aload_n 1, 1) := by decide +kernel
theorem dL_law_812 : decode cL_law 812 = .ok (.aload_n 0, 1) := by decide +kernel
theorem dL_law_813 : decode cL_law 813 = .ok (.iload 4, 2) := by decide +kernel
theorem dL_law_815 : decode cL_law 815 = .ok (.iconst 1, 1) := by decide +kernel
theorem dL_law_816 : decode cL_law 816 = .ok (.iadd, 1) := by decide +kernel
theorem dL_law_817 : decode cL_law 817 = .ok (.iaload, 1) := by decide +kernel
theorem dL_law_818 : decode cL_law 818 = .ok (.aload_n 0, 1) := by decide +kernel
theorem dL_law_819 : decode cL_law 819 = .ok (.iload 4, 2) := by decide +kernel
theorem dL_law_821 : decode cL_law 821 = .ok (.iconst 2, 1) := by decide +kernel
theorem dL_law_822 : decode cL_law 822 = .ok (.iadd, 1) := by decide +kernel
theorem dL_law_823 : decode cL_law 823 = .ok (.iaload, 1) := by decide +kernel
theorem dL_law_824 : decode cL_law 824 = .ok (.aload_n 0, 1) := by decide +kernel
theorem dL_law_825 : decode cL_law 825 = .ok (.iload 4, 2) := by decide +kernel
theorem dL_law_827 : decode cL_law 827 = .ok (.iconst 3, 1) := by decide +kernel
theorem dL_law_828 : decode cL_law 828 = .ok (.iadd, 1) := by decide +kernel
theorem dL_law_829 : decode cL_law 829 = .ok (.iaload, 1) := by decide +kernel
theorem dL_law_830 : decode cL_law 830 = .ok (.aload_n 3, 1) := by decide +kernel
theorem dL_law_831 : decode cL_law 831 = .ok (.invokestatic 135, 3) := by decide +kernel
theorem dL_law_834 : decode cL_law 834 = .ok (.istore 5, 2) := by decide +kernel
theorem dL_law_836 : decode cL_law 836 = .ok (.aload_n 2, 1) := by decide +kernel
theorem dL_law_837 : decode cL_law 837 = .ok (.aload_n 0, 1) := by decide +kernel
theorem dL_law_838 : decode cL_law 838 = .ok (.iload 4, 2) := by decide +kernel
theorem dL_law_840 : decode cL_law 840 = .ok (.iconst 1, 1) := by decide +kernel
theorem dL_law_841 : decode cL_law 841 = .ok (.iadd, 1) := by decide +kernel
theorem dL_law_842 : decode cL_law 842 = .ok (.iaload, 1) := by decide +kernel
theorem dL_law_843 : decode cL_law 843 = .ok (.aload_n 0, 1) := by decide +kernel
theorem dL_law_844 : decode cL_law 844 = .ok (.iload 4, 2) := by decide +kernel
theorem dL_law_846 : decode cL_law 846 = .ok (.iconst 2, 1) := by decide +kernel
theorem dL_law_847 : decode cL_law 847 = .ok (.iadd, 1) := by decide +kernel
theorem dL_law_848 : decode cL_law 848 = .ok (.iaload, 1) := by decide +kernel
theorem dL_law_849 : decode cL_law 849 = .ok (.aload_n 0, 1) := by decide +kernel
theorem dL_law_850 : decode cL_law 850 = .ok (.iload 4, 2) := by decide +kernel
theorem dL_law_852 : decode cL_law 852 = .ok (.iconst 3, 1) := by decide +kernel
theorem dL_law_853 : decode cL_law 853 = .ok (.iadd, 1) := by decide +kernel
theorem dL_law_854 : decode cL_law 854 = .ok (.iaload, 1) := by decide +kernel
theorem dL_law_855 : decode cL_law 855 = .ok (.invokevirtual 138, 3) := by decide +kernel
theorem dL_law_858 : decode cL_law 858 = .ok (.istore 6, 2) := by decide +kernel
theorem dL_law_860 : decode cL_law 860 = .ok (.aload_n 2, 1) := by decide +kernel
theorem dL_law_861 : decode cL_law 861 = .ok (.invokevirtual 98, 3) := by decide +kernel
theorem dL_law_864 : decode cL_law 864 = .ok (.iload 5, 2) := by decide +kernel
theorem dL_law_866 : decode cL_law 866 = .ok (.if_icmp .eq 5, 3) := by decide +kernel
theorem dL_law_869 : decode cL_law 869 = .ok (.iconst 0, 1) := by decide +kernel
theorem dL_law_870 : decode cL_law 870 = .ok (.ireturn, 1) := by decide +kernel
theorem dL_law_871 : decode cL_law 871 = .ok (.iload 5, 2) := by decide +kernel
theorem dL_law_873 : decode cL_law 873 = .ok (.ifCond .ne 15, 3) := by decide +kernel
theorem dL_law_876 : decode cL_law 876 = .ok (.aload_n 3, 1) := by decide +kernel
theorem dL_law_877 : decode cL_law 877 = .ok (.iconst 0, 1) := by decide +kernel
theorem dL_law_878 : decode cL_law 878 = .ok (.laload, 1) := by decide +kernel
theorem dL_law_879 : decode cL_law 879 = .ok (.iload 6, 2) := by decide +kernel
theorem dL_law_881 : decode cL_law 881 = .ok (.i2l, 1) := by decide +kernel
theorem dL_law_882 : decode cL_law 882 = .ok (.lcmp, 1) := by decide +kernel
theorem dL_law_883 : decode cL_law 883 = .ok (.ifCond .eq 5, 3) := by decide +kernel
theorem dL_law_886 : decode cL_law 886 = .ok (.iconst 0, 1) := by decide +kernel
theorem dL_law_887 : decode cL_law 887 = .ok (.ireturn, 1) := by decide +kernel
theorem dL_law_888 : decode cL_law 888 = .ok (.goto 822, 3) := by decide +kernel
theorem dL_law_891 : decode cL_law 891 = .ok (.aload_n 1, 1) := by decide +kernel
theorem dL_law_892 : decode cL_law 892 = .ok (.aload_n 0, 1) := by decide +kernel
theorem dL_law_893 : decode cL_law 893 = .ok (.iload 4, 2) := by decide +kernel
theorem dL_law_895 : decode cL_law 895 = .ok (.iconst 1, 1) := by decide +kernel
theorem dL_law_896 : decode cL_law 896 = .ok (.iadd, 1) := by decide +kernel
theorem dL_law_897 : decode cL_law 897 = .ok (.iaload, 1) := by decide +kernel
theorem dL_law_898 : decode cL_law 898 = .ok (.aload_n 0, 1) := by decide +kernel
theorem dL_law_899 : decode cL_law 899 = .ok (.iload 4, 2) := by decide +kernel
theorem dL_law_901 : decode cL_law 901 = .ok (.iconst 2, 1) := by decide +kernel
theorem dL_law_902 : decode cL_law 902 = .ok (.iadd, 1) := by decide +kernel
theorem dL_law_903 : decode cL_law 903 = .ok (.iaload, 1) := by decide +kernel
theorem dL_law_904 : decode cL_law 904 = .ok (.aload_n 0, 1) := by decide +kernel
theorem dL_law_905 : decode cL_law 905 = .ok (.iload 4, 2) := by decide +kernel
theorem dL_law_907 : decode cL_law 907 = .ok (.iconst 3, 1) := by decide +kernel
theorem dL_law_908 : decode cL_law 908 = .ok (.iadd, 1) := by decide +kernel
theorem dL_law_909 : decode cL_law 909 = .ok (.iaload, 1) := by decide +kernel
theorem dL_law_910 : decode cL_law 910 = .ok (.aload_n 0, 1) := by decide +kernel
theorem dL_law_911 : decode cL_law 911 = .ok (.iload 4, 2) := by decide +kernel
theorem dL_law_913 : decode cL_law 913 = .ok (.iconst 4, 1) := by decide +kernel
theorem dL_law_914 : decode cL_law 914 = .ok (.iadd, 1) := by decide +kernel
theorem dL_law_915 : decode cL_law 915 = .ok (.iaload, 1) := by decide +kernel
theorem dL_law_916 : decode cL_law 916 = .ok (.aload_n 3, 1) := by decide +kernel
theorem dL_law_917 : decode cL_law 917 = .ok (.invokestatic 139, 3) := by decide +kernel
theorem dL_law_920 : decode cL_law 920 = .ok (.istore 5, 2) := by decide +kernel
theorem dL_law_922 : decode cL_law 922 = .ok (.aload_n 2, 1) := by decide +kernel
theorem dL_law_923 : decode cL_law 923 = .ok (.aload_n 0, 1) := by decide +kernel
theorem dL_law_924 : decode cL_law 924 = .ok (.iload 4, 2) := by decide +kernel
theorem dL_law_926 : decode cL_law 926 = .ok (.iconst 1, 1) := by decide +kernel
theorem dL_law_927 : decode cL_law 927 = .ok (.iadd, 1) := by decide +kernel
theorem dL_law_928 : decode cL_law 928 = .ok (.iaload, 1) := by decide +kernel
theorem dL_law_929 : decode cL_law 929 = .ok (.aload_n 0, 1) := by decide +kernel
theorem dL_law_930 : decode cL_law 930 = .ok (.iload 4, 2) := by decide +kernel
theorem dL_law_932 : decode cL_law 932 = .ok (.iconst 2, 1) := by decide +kernel
theorem dL_law_933 : decode cL_law 933 = .ok (.iadd, 1) := by decide +kernel
theorem dL_law_934 : decode cL_law 934 = .ok (.iaload, 1) := by decide +kernel
theorem dL_law_935 : decode cL_law 935 = .ok (.aload_n 0, 1) := by decide +kernel
theorem dL_law_936 : decode cL_law 936 = .ok (.iload 4, 2) := by decide +kernel
theorem dL_law_938 : decode cL_law 938 = .ok (.iconst 3, 1) := by decide +kernel
theorem dL_law_939 : decode cL_law 939 = .ok (.iadd, 1) := by decide +kernel
theorem dL_law_940 : decode cL_law 940 = .ok (.iaload, 1) := by decide +kernel
theorem dL_law_941 : decode cL_law 941 = .ok (.aload_n 0, 1) := by decide +kernel
theorem dL_law_942 : decode cL_law 942 = .ok (.iload 4, 2) := by decide +kernel
theorem dL_law_944 : decode cL_law 944 = .ok (.iconst 4, 1) := by decide +kernel
theorem dL_law_945 : decode cL_law 945 = .ok (.iadd, 1) := by decide +kernel
theorem dL_law_946 : decode cL_law 946 = .ok (.iaload, 1) := by decide +kernel
theorem dL_law_947 : decode cL_law 947 = .ok (.invokevirtual 142, 3) := by decide +kernel
theorem dL_law_950 : decode cL_law 950 = .ok (.istore 6, 2) := by decide +kernel
theorem dL_law_952 : decode cL_law 952 = .ok (.aload_n 2, 1) := by decide +kernel
theorem dL_law_953 : decode cL_law 953 = .ok (.invokevirtual 98, 3) := by decide +kernel
theorem dL_law_956 : decode cL_law 956 = .ok (.iload 5, 2) := by decide +kernel
theorem dL_law_958 : decode cL_law 958 = .ok (.if_icmp .eq 5, 3) := by decide +kernel
theorem dL_law_961 : decode cL_law 961 = .ok (.iconst 0, 1) := by decide +kernel
theorem dL_law_962 : decode cL_law 962 = .ok (.ireturn, 1) := by decide +kernel
theorem dL_law_963 : decode cL_law 963 = .ok (.iload 5, 2) := by decide +kernel
theorem dL_law_965 : decode cL_law 965 = .ok (.ifCond .ne 15, 3) := by decide +kernel
theorem dL_law_968 : decode cL_law 968 = .ok (.aload_n 3, 1) := by decide +kernel
theorem dL_law_969 : decode cL_law 969 = .ok (.iconst 0, 1) := by decide +kernel
theorem dL_law_970 : decode cL_law 970 = .ok (.laload, 1) := by decide +kernel
theorem dL_law_971 : decode cL_law 971 = .ok (.iload 6, 2) := by decide +kernel
theorem dL_law_973 : decode cL_law 973 = .ok (.i2l, 1) := by decide +kernel
theorem dL_law_974 : decode cL_law 974 = .ok (.lcmp, 1) := by decide +kernel
theorem dL_law_975 : decode cL_law 975 = .ok (.ifCond .eq 5, 3) := by decide +kernel
theorem dL_law_978 : decode cL_law 978 = .ok (.iconst 0, 1) := by decide +kernel
theorem dL_law_979 : decode cL_law 979 = .ok (.ireturn, 1) := by decide +kernel
theorem dL_law_980 : decode cL_law 980 = .ok (.goto 730, 3) := by decide +kernel
theorem dL_law_983 : decode cL_law 983 = .ok (.aload_n 1, 1) := by decide +kernel
theorem dL_law_984 : decode cL_law 984 = .ok (.aload_n 0, 1) := by decide +kernel
theorem dL_law_985 : decode cL_law 985 = .ok (.iload 4, 2) := by decide +kernel
theorem dL_law_987 : decode cL_law 987 = .ok (.iconst 1, 1) := by decide +kernel
theorem dL_law_988 : decode cL_law 988 = .ok (.iadd, 1) := by decide +kernel
theorem dL_law_989 : decode cL_law 989 = .ok (.iaload, 1) := by decide +kernel
theorem dL_law_990 : decode cL_law 990 = .ok (.aload_n 0, 1) := by decide +kernel
theorem dL_law_991 : decode cL_law 991 = .ok (.iload 4, 2) := by decide +kernel
theorem dL_law_993 : decode cL_law 993 = .ok (.iconst 2, 1) := by decide +kernel
theorem dL_law_994 : decode cL_law 994 = .ok (.iadd, 1) := by decide +kernel
theorem dL_law_995 : decode cL_law 995 = .ok (.iaload, 1) := by decide +kernel
theorem dL_law_996 : decode cL_law 996 = .ok (.aload_n 3, 1) := by decide +kernel
theorem dL_law_997 : decode cL_law 997 = .ok (.invokestatic 143, 3) := by decide +kernel
theorem dL_law_1000 : decode cL_law 1000 = .ok (.istore 5, 2) := by decide +kernel
theorem dL_law_1002 : decode cL_law 1002 = .ok (.aload_n 2, 1) := by decide +kernel
theorem dL_law_1003 : decode cL_law 1003 = .ok (.aload_n 0, 1) := by decide +kernel
theorem dL_law_1004 : decode cL_law 1004 = .ok (.iload 4, 2) := by decide +kernel
theorem dL_law_1006 : decode cL_law 1006 = .ok (.iconst 1, 1) := by decide +kernel
theorem dL_law_1007 : decode cL_law 1007 = .ok (.iadd, 1) := by decide +kernel
theorem dL_law_1008 : decode cL_law 1008 = .ok (.iaload, 1) := by decide +kernel
theorem dL_law_1009 : decode cL_law 1009 = .ok (.aload_n 0, 1) := by decide +kernel
theorem dL_law_1010 : decode cL_law 1010 = .ok (.iload 4, 2) := by decide +kernel
theorem dL_law_1012 : decode cL_law 1012 = .ok (.iconst 2, 1) := by decide +kernel
theorem dL_law_1013 : decode cL_law 1013 = .ok (.iadd, 1) := by decide +kernel
theorem dL_law_1014 : decode cL_law 1014 = .ok (.iaload, 1) := by decide +kernel
theorem dL_law_1015 : decode cL_law 1015 = .ok (.invokevirtual 145, 3) := by decide +kernel
theorem dL_law_1018 : decode cL_law 1018 = .ok (.istore 6, 2) := by decide +kernel
theorem dL_law_1020 : decode cL_law 1020 = .ok (.aload_n 2, 1) := by decide +kernel
theorem dL_law_1021 : decode cL_law 1021 = .ok (.invokevirtual 98, 3) := by decide +kernel
theorem dL_law_1024 : decode cL_law 1024 = .ok (.iload 5, 2) := by decide +kernel
theorem dL_law_1026 : decode cL_law 1026 = .ok (.if_icmp .eq 5, 3) := by decide +kernel
theorem dL_law_1029 : decode cL_law 1029 = .ok (.iconst 0, 1) := by decide +kernel
theorem dL_law_1030 : decode cL_law 1030 = .ok (.ireturn, 1) := by decide +kernel
theorem dL_law_1031 : decode cL_law 1031 = .ok (.iload 5, 2) := by decide +kernel
theorem dL_law_1033 : decode cL_law 1033 = .ok (.ifCond .ne 15, 3) := by decide +kernel
theorem dL_law_1036 : decode cL_law 1036 = .ok (.aload_n 3, 1) := by decide +kernel
theorem dL_law_1037 : decode cL_law 1037 = .ok (.iconst 0, 1) := by decide +kernel
theorem dL_law_1038 : decode cL_law 1038 = .ok (.laload, 1) := by decide +kernel
theorem dL_law_1039 : decode cL_law 1039 = .ok (.iload 6, 2) := by decide +kernel
theorem dL_law_1041 : decode cL_law 1041 = .ok (.i2l, 1) := by decide +kernel
theorem dL_law_1042 : decode cL_law 1042 = .ok (.lcmp, 1) := by decide +kernel
theorem dL_law_1043 : decode cL_law 1043 = .ok (.ifCond .eq 5, 3) := by decide +kernel
theorem dL_law_1046 : decode cL_law 1046 = .ok (.iconst 0, 1) := by decide +kernel
theorem dL_law_1047 : decode cL_law 1047 = .ok (.ireturn, 1) := by decide +kernel
theorem dL_law_1048 : decode cL_law 1048 = .ok (.goto 662, 3) := by decide +kernel
theorem dL_law_1051 : decode cL_law 1051 = .ok (.aload_n 1, 1) := by decide +kernel
theorem dL_law_1052 : decode cL_law 1052 = .ok (.aload_n 0, 1) := by decide +kernel
theorem dL_law_1053 : decode cL_law 1053 = .ok (.iload 4, 2) := by decide +kernel
theorem dL_law_1055 : decode cL_law 1055 = .ok (.iconst 1, 1) := by decide +kernel
theorem dL_law_1056 : decode cL_law 1056 = .ok (.iadd, 1) := by decide +kernel
theorem dL_law_1057 : decode cL_law 1057 = .ok (.iaload, 1) := by decide +kernel
theorem dL_law_1058 : decode cL_law 1058 = .ok (.aload_n 0, 1) := by decide +kernel
theorem dL_law_1059 : decode cL_law 1059 = .ok (.iload 4, 2) := by decide +kernel
theorem dL_law_1061 : decode cL_law 1061 = .ok (.iconst 2, 1) := by decide +kernel
theorem dL_law_1062 : decode cL_law 1062 = .ok (.iadd, 1) := by decide +kernel
theorem dL_law_1063 : decode cL_law 1063 = .ok (.iaload, 1) := by decide +kernel
theorem dL_law_1064 : decode cL_law 1064 = .ok (.ifCond .eq 7, 3) := by decide +kernel
theorem dL_law_1067 : decode cL_law 1067 = .ok (.iconst 1, 1) := by decide +kernel
theorem dL_law_1068 : decode cL_law 1068 = .ok (.goto 4, 3) := by decide +kernel
theorem dL_law_1071 : decode cL_law 1071 = .ok (.iconst 0, 1) := by decide +kernel
theorem dL_law_1072 : decode cL_law 1072 = .ok (.aload_n 3, 1) := by decide +kernel
theorem dL_law_1073 : decode cL_law 1073 = .ok (.invokestatic 146, 3) := by decide +kernel
theorem dL_law_1076 : decode cL_law 1076 = .ok (.istore 5, 2) := by decide +kernel
theorem dL_law_1078 : decode cL_law 1078 = .ok (.aload_n 2, 1) := by decide +kernel
theorem dL_law_1079 : decode cL_law 1079 = .ok (.aload_n 0, 1) := by decide +kernel
theorem dL_law_1080 : decode cL_law 1080 = .ok (.iload 4, 2) := by decide +kernel
theorem dL_law_1082 : decode cL_law 1082 = .ok (.iconst 1, 1) := by decide +kernel
theorem dL_law_1083 : decode cL_law 1083 = .ok (.iadd, 1) := by decide +kernel
theorem dL_law_1084 : decode cL_law 1084 = .ok (.iaload, 1) := by decide +kernel
theorem dL_law_1085 : decode cL_law 1085 = .ok (.aload_n 0, 1) := by decide +kernel
theorem dL_law_1086 : decode cL_law 1086 = .ok (.iload 4, 2) := by decide +kernel
theorem dL_law_1088 : decode cL_law 1088 = .ok (.iconst 2, 1) := by decide +kernel
theorem dL_law_1089 : decode cL_law 1089 = .ok (.iadd, 1) := by decide +kernel
theorem dL_law_1090 : decode cL_law 1090 = .ok (.iaload, 1) := by decide +kernel
theorem dL_law_1091 : decode cL_law 1091 = .ok (.ifCond .eq 7, 3) := by decide +kernel
theorem dL_law_1094 : decode cL_law 1094 = .ok (.iconst 1, 1) := by decide +kernel
theorem dL_law_1095 : decode cL_law 1095 = .ok (.goto 4, 3) := by decide +kernel
theorem dL_law_1098 : decode cL_law 1098 = .ok (.iconst 0, 1) := by decide +kernel
theorem dL_law_1099 : decode cL_law 1099 = .ok (.invokevirtual 149, 3) := by decide +kernel
theorem dL_law_1102 : decode cL_law 1102 = .ok (.istore 6, 2) := by decide +kernel
theorem dL_law_1104 : decode cL_law 1104 = .ok (.aload_n 2, 1) := by decide +kernel
theorem dL_law_1105 : decode cL_law 1105 = .ok (.invokevirtual 98, 3) := by decide +kernel
theorem dL_law_1108 : decode cL_law 1108 = .ok (.iload 5, 2) := by decide +kernel
theorem dL_law_1110 : decode cL_law 1110 = .ok (.if_icmp .eq 5, 3) := by decide +kernel
theorem dL_law_1113 : decode cL_law 1113 = .ok (.iconst 0, 1) := by decide +kernel
theorem dL_law_1114 : decode cL_law 1114 = .ok (.ireturn, 1) := by decide +kernel
theorem dL_law_1115 : decode cL_law 1115 = .ok (.iload 5, 2) := by decide +kernel
theorem dL_law_1117 : decode cL_law 1117 = .ok (.ifCond .ne 15, 3) := by decide +kernel
theorem dL_law_1120 : decode cL_law 1120 = .ok (.aload_n 3, 1) := by decide +kernel
theorem dL_law_1121 : decode cL_law 1121 = .ok (.iconst 0, 1) := by decide +kernel
theorem dL_law_1122 : decode cL_law 1122 = .ok (.laload, 1) := by decide +kernel
theorem dL_law_1123 : decode cL_law 1123 = .ok (.iload 6, 2) := by decide +kernel
theorem dL_law_1125 : decode cL_law 1125 = .ok (.i2l, 1) := by decide +kernel
theorem dL_law_1126 : decode cL_law 1126 = .ok (.lcmp, 1) := by decide +kernel
theorem dL_law_1127 : decode cL_law 1127 = .ok (.ifCond .eq 5, 3) := by decide +kernel
theorem dL_law_1130 : decode cL_law 1130 = .ok (.iconst 0, 1) := by decide +kernel
theorem dL_law_1131 : decode cL_law 1131 = .ok (.ireturn, 1) := by decide +kernel
theorem dL_law_1132 : decode cL_law 1132 = .ok (.goto 578, 3) := by decide +kernel
theorem dL_law_1135 : decode cL_law 1135 = .ok (.aload_n 1, 1) := by decide +kernel
theorem dL_law_1136 : decode cL_law 1136 = .ok (.aload_n 0, 1) := by decide +kernel
theorem dL_law_1137 : decode cL_law 1137 = .ok (.iload 4, 2) := by decide +kernel
theorem dL_law_1139 : decode cL_law 1139 = .ok (.iconst 1, 1) := by decide +kernel
theorem dL_law_1140 : decode cL_law 1140 = .ok (.iadd, 1) := by decide +kernel
theorem dL_law_1141 : decode cL_law 1141 = .ok (.iaload, 1) := by decide +kernel
theorem dL_law_1142 : decode cL_law 1142 = .ok (.aload_n 0, 1) := by decide +kernel
theorem dL_law_1143 : decode cL_law 1143 = .ok (.iload 4, 2) := by decide +kernel
theorem dL_law_1145 : decode cL_law 1145 = .ok (.iconst 2, 1) := by decide +kernel
theorem dL_law_1146 : decode cL_law 1146 = .ok (.iadd, 1) := by decide +kernel
theorem dL_law_1147 : decode cL_law 1147 = .ok (.iaload, 1) := by decide +kernel
theorem dL_law_1148 : decode cL_law 1148 = .ok (.aload_n 3, 1) := by decide +kernel
theorem dL_law_1149 : decode cL_law 1149 = .ok (.invokestatic 150, 3) := by decide +kernel
theorem dL_law_1152 : decode cL_law 1152 = .ok (.istore 5, 2) := by decide +kernel
theorem dL_law_1154 : decode cL_law 1154 = .ok (.aload_n 2, 1) := by decide +kernel
theorem dL_law_1155 : decode cL_law 1155 = .ok (.aload_n 0, 1) := by decide +kernel
theorem dL_law_1156 : decode cL_law 1156 = .ok (.iload 4, 2) := by decide +kernel
theorem dL_law_1158 : decode cL_law 1158 = .ok (.iconst 1, 1) := by decide +kernel
theorem dL_law_1159 : decode cL_law 1159 = .ok (.iadd, 1) := by decide +kernel
theorem dL_law_1160 : decode cL_law 1160 = .ok (.iaload, 1) := by decide +kernel
theorem dL_law_1161 : decode cL_law 1161 = .ok (.aload_n 0, 1) := by decide +kernel
theorem dL_law_1162 : decode cL_law 1162 = .ok (.iload 4, 2) := by decide +kernel
theorem dL_law_1164 : decode cL_law 1164 = .ok (.iconst 2, 1) := by decide +kernel
theorem dL_law_1165 : decode cL_law 1165 = .ok (.iadd, 1) := by decide +kernel
theorem dL_law_1166 : decode cL_law 1166 = .ok (.iaload, 1) := by decide +kernel
theorem dL_law_1167 : decode cL_law 1167 = .ok (.invokevirtual 152, 3) := by decide +kernel
theorem dL_law_1170 : decode cL_law 1170 = .ok (.istore 6, 2) := by decide +kernel
theorem dL_law_1172 : decode cL_law 1172 = .ok (.aload_n 2, 1) := by decide +kernel
theorem dL_law_1173 : decode cL_law 1173 = .ok (.invokevirtual 98, 3) := by decide +kernel
theorem dL_law_1176 : decode cL_law 1176 = .ok (.iload 5, 2) := by decide +kernel
theorem dL_law_1178 : decode cL_law 1178 = .ok (.if_icmp .eq 5, 3) := by decide +kernel
theorem dL_law_1181 : decode cL_law 1181 = .ok (.iconst 0, 1) := by decide +kernel
theorem dL_law_1182 : decode cL_law 1182 = .ok (.ireturn, 1) := by decide +kernel
theorem dL_law_1183 : decode cL_law 1183 = .ok (.iload 5, 2) := by decide +kernel
theorem dL_law_1185 : decode cL_law 1185 = .ok (.ifCond .ne 15, 3) := by decide +kernel
theorem dL_law_1188 : decode cL_law 1188 = .ok (.aload_n 3, 1) := by decide +kernel
theorem dL_law_1189 : decode cL_law 1189 = .ok (.iconst 0, 1) := by decide +kernel
theorem dL_law_1190 : decode cL_law 1190 = .ok (.laload, 1) := by decide +kernel
theorem dL_law_1191 : decode cL_law 1191 = .ok (.iload 6, 2) := by decide +kernel
theorem dL_law_1193 : decode cL_law 1193 = .ok (.i2l, 1) := by decide +kernel
theorem dL_law_1194 : decode cL_law 1194 = .ok (.lcmp, 1) := by decide +kernel
theorem dL_law_1195 : decode cL_law 1195 = .ok (.ifCond .eq 5, 3) := by decide +kernel
theorem dL_law_1198 : decode cL_law 1198 = .ok (.iconst 0, 1) := by decide +kernel
theorem dL_law_1199 : decode cL_law 1199 = .ok (.ireturn, 1) := by decide +kernel
theorem dL_law_1200 : decode cL_law 1200 = .ok (.goto 510, 3) := by decide +kernel
theorem dL_law_1203 : decode cL_law 1203 = .ok (.aload_n 1, 1) := by decide +kernel
theorem dL_law_1204 : decode cL_law 1204 = .ok (.aload_n 0, 1) := by decide +kernel
theorem dL_law_1205 : decode cL_law 1205 = .ok (.iload 4, 2) := by decide +kernel
theorem dL_law_1207 : decode cL_law 1207 = .ok (.iconst 1, 1) := by decide +kernel
theorem dL_law_1208 : decode cL_law 1208 = .ok (.iadd, 1) := by decide +kernel
theorem dL_law_1209 : decode cL_law 1209 = .ok (.iaload, 1) := by decide +kernel
theorem dL_law_1210 : decode cL_law 1210 = .ok (.aload_n 0, 1) := by decide +kernel
theorem dL_law_1211 : decode cL_law 1211 = .ok (.iload 4, 2) := by decide +kernel
theorem dL_law_1213 : decode cL_law 1213 = .ok (.iconst 2, 1) := by decide +kernel
theorem dL_law_1214 : decode cL_law 1214 = .ok (.iadd, 1) := by decide +kernel
theorem dL_law_1215 : decode cL_law 1215 = .ok (.iaload, 1) := by decide +kernel
theorem dL_law_1216 : decode cL_law 1216 = .ok (.aload_n 0, 1) := by decide +kernel
theorem dL_law_1217 : decode cL_law 1217 = .ok (.iload 4, 2) := by decide +kernel
theorem dL_law_1219 : decode cL_law 1219 = .ok (.iconst 3, 1) := by decide +kernel
theorem dL_law_1220 : decode cL_law 1220 = .ok (.iadd, 1) := by decide +kernel
theorem dL_law_1221 : decode cL_law 1221 = .ok (.iaload, 1) := by decide +kernel
theorem dL_law_1222 : decode cL_law 1222 = .ok (.aload_n 3, 1) := by decide +kernel
theorem dL_law_1223 : decode cL_law 1223 = .ok (.invokestatic 153, 3) := by decide +kernel
theorem dL_law_1226 : decode cL_law 1226 = .ok (.istore 5, 2) := by decide +kernel
theorem dL_law_1228 : decode cL_law 1228 = .ok (.aload_n 2, 1) := by decide +kernel
theorem dL_law_1229 : decode cL_law 1229 = .ok (.aload_n 0, 1) := by decide +kernel
theorem dL_law_1230 : decode cL_law 1230 = .ok (.iload 4, 2) := by decide +kernel
theorem dL_law_1232 : decode cL_law 1232 = .ok (.iconst 1, 1) := by decide +kernel
theorem dL_law_1233 : decode cL_law 1233 = .ok (.iadd, 1) := by decide +kernel
theorem dL_law_1234 : decode cL_law 1234 = .ok (.iaload, 1) := by decide +kernel
theorem dL_law_1235 : decode cL_law 1235 = .ok (.aload_n 0, 1) := by decide +kernel
theorem dL_law_1236 : decode cL_law 1236 = .ok (.iload 4, 2) := by decide +kernel
theorem dL_law_1238 : decode cL_law 1238 = .ok (.iconst 2, 1) := by decide +kernel
theorem dL_law_1239 : decode cL_law 1239 = .ok (.iadd, 1) := by decide +kernel
theorem dL_law_1240 : decode cL_law 1240 = .ok (.iaload, 1) := by decide +kernel
theorem dL_law_1241 : decode cL_law 1241 = .ok (.aload_n 0, 1) := by decide +kernel
theorem dL_law_1242 : decode cL_law 1242 = .ok (.iload 4, 2) := by decide +kernel
theorem dL_law_1244 : decode cL_law 1244 = .ok (.iconst 3, 1) := by decide +kernel
theorem dL_law_1245 : decode cL_law 1245 = .ok (.iadd, 1) := by decide +kernel
theorem dL_law_1246 : decode cL_law 1246 = .ok (.iaload, 1) := by decide +kernel
theorem dL_law_1247 : decode cL_law 1247 = .ok (.invokevirtual 155, 3) := by decide +kernel
theorem dL_law_1250 : decode cL_law 1250 = .ok (.istore 6, 2) := by decide +kernel
theorem dL_law_1252 : decode cL_law 1252 = .ok (.aload_n 2, 1) := by decide +kernel
theorem dL_law_1253 : decode cL_law 1253 = .ok (.invokevirtual 98, 3) := by decide +kernel
theorem dL_law_1256 : decode cL_law 1256 = .ok (.iload 5, 2) := by decide +kernel
theorem dL_law_1258 : decode cL_law 1258 = .ok (.if_icmp .eq 5, 3) := by decide +kernel
theorem dL_law_1261 : decode cL_law 1261 = .ok (.iconst 0, 1) := by decide +kernel
theorem dL_law_1262 : decode cL_law 1262 = .ok (.ireturn, 1) := by decide +kernel
theorem dL_law_1263 : decode cL_law 1263 = .ok (.iload 5, 2) := by decide +kernel
theorem dL_law_1265 : decode cL_law 1265 = .ok (.ifCond .ne 15, 3) := by decide +kernel
theorem dL_law_1268 : decode cL_law 1268 = .ok (.aload_n 3, 1) := by decide +kernel
theorem dL_law_1269 : decode cL_law 1269 = .ok (.iconst 0, 1) := by decide +kernel
theorem dL_law_1270 : decode cL_law 1270 = .ok (.laload, 1) := by decide +kernel
theorem dL_law_1271 : decode cL_law 1271 = .ok (.iload 6, 2) := by decide +kernel
theorem dL_law_1273 : decode cL_law 1273 = .ok (.i2l, 1) := by decide +kernel
theorem dL_law_1274 : decode cL_law 1274 = .ok (.lcmp, 1) := by decide +kernel
theorem dL_law_1275 : decode cL_law 1275 = .ok (.ifCond .eq 5, 3) := by decide +kernel
theorem dL_law_1278 : decode cL_law 1278 = .ok (.iconst 0, 1) := by decide +kernel
theorem dL_law_1279 : decode cL_law 1279 = .ok (.ireturn, 1) := by decide +kernel
theorem dL_law_1280 : decode cL_law 1280 = .ok (.goto 430, 3) := by decide +kernel
theorem dL_law_1283 : decode cL_law 1283 = .ok (.aload_n 1, 1) := by decide +kernel
theorem dL_law_1284 : decode cL_law 1284 = .ok (.aload_n 0, 1) := by decide +kernel
theorem dL_law_1285 : decode cL_law 1285 = .ok (.iload 4, 2) := by decide +kernel
theorem dL_law_1287 : decode cL_law 1287 = .ok (.iconst 1, 1) := by decide +kernel
theorem dL_law_1288 : decode cL_law 1288 = .ok (.iadd, 1) := by decide +kernel
theorem dL_law_1289 : decode cL_law 1289 = .ok (.iaload, 1) := by decide +kernel
theorem dL_law_1290 : decode cL_law 1290 = .ok (.aload_n 3, 1) := by decide +kernel
theorem dL_law_1291 : decode cL_law 1291 = .ok (.invokestatic 156, 3) := by decide +kernel
theorem dL_law_1294 : decode cL_law 1294 = .ok (.istore 5, 2) := by decide +kernel
theorem dL_law_1296 : decode cL_law 1296 = .ok (.aload_n 2, 1) := by decide +kernel
theorem dL_law_1297 : decode cL_law 1297 = .ok (.aload_n 0, 1) := by decide +kernel
theorem dL_law_1298 : decode cL_law 1298 = .ok (.iload 4, 2) := by decide +kernel
theorem dL_law_1300 : decode cL_law 1300 = .ok (.iconst 1, 1) := by decide +kernel
theorem dL_law_1301 : decode cL_law 1301 = .ok (.iadd, 1) := by decide +kernel
theorem dL_law_1302 : decode cL_law 1302 = .ok (.iaload, 1) := by decide +kernel
theorem dL_law_1303 : decode cL_law 1303 = .ok (.invokevirtual 158, 3) := by decide +kernel
theorem dL_law_1306 : decode cL_law 1306 = .ok (.istore 6, 2) := by decide +kernel
theorem dL_law_1308 : decode cL_law 1308 = .ok (.aload_n 2, 1) := by decide +kernel
theorem dL_law_1309 : decode cL_law 1309 = .ok (.invokevirtual 98, 3) := by decide +kernel
theorem dL_law_1312 : decode cL_law 1312 = .ok (.iload 5, 2) := by decide +kernel
theorem dL_law_1314 : decode cL_law 1314 = .ok (.if_icmp .eq 5, 3) := by decide +kernel
theorem dL_law_1317 : decode cL_law 1317 = .ok (.iconst 0, 1) := by decide +kernel
theorem dL_law_1318 : decode cL_law 1318 = .ok (.ireturn, 1) := by decide +kernel
theorem dL_law_1319 : decode cL_law 1319 = .ok (.iload 5, 2) := by decide +kernel
theorem dL_law_1321 : decode cL_law 1321 = .ok (.ifCond .ne 15, 3) := by decide +kernel
theorem dL_law_1324 : decode cL_law 1324 = .ok (.aload_n 3, 1) := by decide +kernel
theorem dL_law_1325 : decode cL_law 1325 = .ok (.iconst 0, 1) := by decide +kernel
theorem dL_law_1326 : decode cL_law 1326 = .ok (.laload, 1) := by decide +kernel
theorem dL_law_1327 : decode cL_law 1327 = .ok (.iload 6, 2) := by decide +kernel
theorem dL_law_1329 : decode cL_law 1329 = .ok (.i2l, 1) := by decide +kernel
theorem dL_law_1330 : decode cL_law 1330 = .ok (.lcmp, 1) := by decide +kernel
theorem dL_law_1331 : decode cL_law 1331 = .ok (.ifCond .eq 5, 3) := by decide +kernel
theorem dL_law_1334 : decode cL_law 1334 = .ok (.iconst 0, 1) := by decide +kernel
theorem dL_law_1335 : decode cL_law 1335 = .ok (.ireturn, 1) := by decide +kernel
theorem dL_law_1336 : decode cL_law 1336 = .ok (.goto 374, 3) := by decide +kernel
theorem dL_law_1339 : decode cL_law 1339 = .ok (.aload_n 1, 1) := by decide +kernel
theorem dL_law_1340 : decode cL_law 1340 = .ok (.aload_n 0, 1) := by decide +kernel
theorem dL_law_1341 : decode cL_law 1341 = .ok (.iload 4, 2) := by decide +kernel
theorem dL_law_1343 : decode cL_law 1343 = .ok (.iconst 1, 1) := by decide +kernel
theorem dL_law_1344 : decode cL_law 1344 = .ok (.iadd, 1) := by decide +kernel
theorem dL_law_1345 : decode cL_law 1345 = .ok (.iaload, 1) := by decide +kernel
theorem dL_law_1346 : decode cL_law 1346 = .ok (.aload_n 3, 1) := by decide +kernel
theorem dL_law_1347 : decode cL_law 1347 = .ok (.invokestatic 159, 3) := by decide +kernel
theorem dL_law_1350 : decode cL_law 1350 = .ok (.istore 5, 2) := by decide +kernel
theorem dL_law_1352 : decode cL_law 1352 = .ok (.aload_n 2, 1) := by decide +kernel
theorem dL_law_1353 : decode cL_law 1353 = .ok (.aload_n 0, 1) := by decide +kernel
theorem dL_law_1354 : decode cL_law 1354 = .ok (.iload 4, 2) := by decide +kernel
theorem dL_law_1356 : decode cL_law 1356 = .ok (.iconst 1, 1) := by decide +kernel
theorem dL_law_1357 : decode cL_law 1357 = .ok (.iadd, 1) := by decide +kernel
theorem dL_law_1358 : decode cL_law 1358 = .ok (.iaload, 1) := by decide +kernel
theorem dL_law_1359 : decode cL_law 1359 = .ok (.invokevirtual 161, 3) := by decide +kernel
theorem dL_law_1362 : decode cL_law 1362 = .ok (.istore 6, 2) := by decide +kernel
theorem dL_law_1364 : decode cL_law 1364 = .ok (.aload_n 2, 1) := by decide +kernel
theorem dL_law_1365 : decode cL_law 1365 = .ok (.invokevirtual 98, 3) := by decide +kernel
theorem dL_law_1368 : decode cL_law 1368 = .ok (.iload 5, 2) := by decide +kernel
theorem dL_law_1370 : decode cL_law 1370 = .ok (.if_icmp .eq 5, 3) := by decide +kernel
theorem dL_law_1373 : decode cL_law 1373 = .ok (.iconst 0, 1) := by decide +kernel
theorem dL_law_1374 : decode cL_law 1374 = .ok (.ireturn, 1) := by decide +kernel
theorem dL_law_1375 : decode cL_law 1375 = .ok (.iload 5, 2) := by decide +kernel
theorem dL_law_1377 : decode cL_law 1377 = .ok (.ifCond .ne 15, 3) := by decide +kernel
theorem dL_law_1380 : decode cL_law 1380 = .ok (.aload_n 3, 1) := by decide +kernel
theorem dL_law_1381 : decode cL_law 1381 = .ok (.iconst 0, 1) := by decide +kernel
theorem dL_law_1382 : decode cL_law 1382 = .ok (.laload, 1) := by decide +kernel
theorem dL_law_1383 : decode cL_law 1383 = .ok (.iload 6, 2) := by decide +kernel
theorem dL_law_1385 : decode cL_law 1385 = .ok (.i2l, 1) := by decide +kernel
theorem dL_law_1386 : decode cL_law 1386 = .ok (.lcmp, 1) := by decide +kernel
theorem dL_law_1387 : decode cL_law 1387 = .ok (.ifCond .eq 5, 3) := by decide +kernel
theorem dL_law_1390 : decode cL_law 1390 = .ok (.iconst 0, 1) := by decide +kernel
theorem dL_law_1391 : decode cL_law 1391 = .ok (.ireturn, 1) := by decide +kernel
theorem dL_law_1392 : decode cL_law 1392 = .ok (.goto 318, 3) := by decide +kernel
theorem dL_law_1395 : decode cL_law 1395 = .ok (.aload_n 1, 1) := by decide +kernel
theorem dL_law_1396 : decode cL_law 1396 = .ok (.aload_n 0, 1) := by decide +kernel
theorem dL_law_1397 : decode cL_law 1397 = .ok (.iload 4, 2) := by decide +kernel
theorem dL_law_1399 : decode cL_law 1399 = .ok (.iconst 1, 1) := by decide +kernel
theorem dL_law_1400 : decode cL_law 1400 = .ok (.iadd, 1) := by decide +kernel
theorem dL_law_1401 : decode cL_law 1401 = .ok (.iaload, 1) := by decide +kernel
theorem dL_law_1402 : decode cL_law 1402 = .ok (.aload_n 0, 1) := by decide +kernel
theorem dL_law_1403 : decode cL_law 1403 = .ok (.iload 4, 2) := by decide +kernel
theorem dL_law_1405 : decode cL_law 1405 = .ok (.iconst 2, 1) := by decide +kernel
theorem dL_law_1406 : decode cL_law 1406 = .ok (.iadd, 1) := by decide +kernel
theorem dL_law_1407 : decode cL_law 1407 = .ok (.iaload, 1) := by decide +kernel
theorem dL_law_1408 : decode cL_law 1408 = .ok (.aload_n 3, 1) := by decide +kernel
theorem dL_law_1409 : decode cL_law 1409 = .ok (.invokestatic 162, 3) := by decide +kernel
theorem dL_law_1412 : decode cL_law 1412 = .ok (.istore 5, 2) := by decide +kernel
theorem dL_law_1414 : decode cL_law 1414 = .ok (.aload_n 2, 1) := by decide +kernel
theorem dL_law_1415 : decode cL_law 1415 = .ok (.aload_n 0, 1) := by decide +kernel
theorem dL_law_1416 : decode cL_law 1416 = .ok (.iload 4, 2) := by decide +kernel
theorem dL_law_1418 : decode cL_law 1418 = .ok (.iconst 1, 1) := by decide +kernel
theorem dL_law_1419 : decode cL_law 1419 = .ok (.iadd, 1) := by decide +kernel
theorem dL_law_1420 : decode cL_law 1420 = .ok (.iaload, 1) := by decide +kernel
theorem dL_law_1421 : decode cL_law 1421 = .ok (.aload_n 0, 1) := by decide +kernel
theorem dL_law_1422 : decode cL_law 1422 = .ok (.iload 4, 2) := by decide +kernel
theorem dL_law_1424 : decode cL_law 1424 = .ok (.iconst 2, 1) := by decide +kernel
theorem dL_law_1425 : decode cL_law 1425 = .ok (.iadd, 1) := by decide +kernel
theorem dL_law_1426 : decode cL_law 1426 = .ok (.iaload, 1) := by decide +kernel
theorem dL_law_1427 : decode cL_law 1427 = .ok (.invokevirtual 164, 3) := by decide +kernel
theorem dL_law_1430 : decode cL_law 1430 = .ok (.istore 6, 2) := by decide +kernel
theorem dL_law_1432 : decode cL_law 1432 = .ok (.aload_n 2, 1) := by decide +kernel
theorem dL_law_1433 : decode cL_law 1433 = .ok (.invokevirtual 98, 3) := by decide +kernel
theorem dL_law_1436 : decode cL_law 1436 = .ok (.iload 5, 2) := by decide +kernel
theorem dL_law_1438 : decode cL_law 1438 = .ok (.if_icmp .eq 5, 3) := by decide +kernel
theorem dL_law_1441 : decode cL_law 1441 = .ok (.iconst 0, 1) := by decide +kernel
theorem dL_law_1442 : decode cL_law 1442 = .ok (.ireturn, 1) := by decide +kernel
theorem dL_law_1443 : decode cL_law 1443 = .ok (.iload 5, 2) := by decide +kernel
theorem dL_law_1445 : decode cL_law 1445 = .ok (.ifCond .ne 15, 3) := by decide +kernel
theorem dL_law_1448 : decode cL_law 1448 = .ok (.aload_n 3, 1) := by decide +kernel
theorem dL_law_1449 : decode cL_law 1449 = .ok (.iconst 0, 1) := by decide +kernel
theorem dL_law_1450 : decode cL_law 1450 = .ok (.laload, 1) := by decide +kernel
theorem dL_law_1451 : decode cL_law 1451 = .ok (.iload 6, 2) := by decide +kernel
theorem dL_law_1453 : decode cL_law 1453 = .ok (.i2l, 1) := by decide +kernel
theorem dL_law_1454 : decode cL_law 1454 = .ok (.lcmp, 1) := by decide +kernel
theorem dL_law_1455 : decode cL_law 1455 = .ok (.ifCond .eq 5, 3) := by decide +kernel
theorem dL_law_1458 : decode cL_law 1458 = .ok (.iconst 0, 1) := by decide +kernel
theorem dL_law_1459 : decode cL_law 1459 = .ok (.ireturn, 1) := by decide +kernel
theorem dL_law_1460 : decode cL_law 1460 = .ok (.goto 250, 3) := by decide +kernel
theorem dL_law_1463 : decode cL_law 1463 = .ok (.aload_n 1, 1) := by decide +kernel
theorem dL_law_1464 : decode cL_law 1464 = .ok (.aload_n 0, 1) := by decide +kernel
theorem dL_law_1465 : decode cL_law 1465 = .ok (.iload 4, 2) := by decide +kernel
theorem dL_law_1467 : decode cL_law 1467 = .ok (.iconst 1, 1) := by decide +kernel
theorem dL_law_1468 : decode cL_law 1468 = .ok (.iadd, 1) := by decide +kernel
theorem dL_law_1469 : decode cL_law 1469 = .ok (.iaload, 1) := by decide +kernel
theorem dL_law_1470 : decode cL_law 1470 = .ok (.aload_n 0, 1) := by decide +kernel
theorem dL_law_1471 : decode cL_law 1471 = .ok (.iload 4, 2) := by decide +kernel
theorem dL_law_1473 : decode cL_law 1473 = .ok (.iconst 2, 1) := by decide +kernel
theorem dL_law_1474 : decode cL_law 1474 = .ok (.iadd, 1) := by decide +kernel
theorem dL_law_1475 : decode cL_law 1475 = .ok (.iaload, 1) := by decide +kernel
theorem dL_law_1476 : decode cL_law 1476 = .ok (.aload_n 3, 1) := by decide +kernel
theorem dL_law_1477 : decode cL_law 1477 = .ok (.invokestatic 165, 3) := by decide +kernel
theorem dL_law_1480 : decode cL_law 1480 = .ok (.istore 5, 2) := by decide +kernel
theorem dL_law_1482 : decode cL_law 1482 = .ok (.aload_n 2, 1) := by decide +kernel
theorem dL_law_1483 : decode cL_law 1483 = .ok (.aload_n 0, 1) := by decide +kernel
theorem dL_law_1484 : decode cL_law 1484 = .ok (.iload 4, 2) := by decide +kernel
theorem dL_law_1486 : decode cL_law 1486 = .ok (.iconst 1, 1) := by decide +kernel
theorem dL_law_1487 : decode cL_law 1487 = .ok (.iadd, 1) := by decide +kernel
theorem dL_law_1488 : decode cL_law 1488 = .ok (.iaload, 1) := by decide +kernel
theorem dL_law_1489 : decode cL_law 1489 = .ok (.aload_n 0, 1) := by decide +kernel
theorem dL_law_1490 : decode cL_law 1490 = .ok (.iload 4, 2) := by decide +kernel
theorem dL_law_1492 : decode cL_law 1492 = .ok (.iconst 2, 1) := by decide +kernel
theorem dL_law_1493 : decode cL_law 1493 = .ok (.iadd, 1) := by decide +kernel
theorem dL_law_1494 : decode cL_law 1494 = .ok (.iaload, 1) := by decide +kernel
theorem dL_law_1495 : decode cL_law 1495 = .ok (.invokevirtual 167, 3) := by decide +kernel
theorem dL_law_1498 : decode cL_law 1498 = .ok (.istore 6, 2) := by decide +kernel
theorem dL_law_1500 : decode cL_law 1500 = .ok (.aload_n 2, 1) := by decide +kernel
theorem dL_law_1501 : decode cL_law 1501 = .ok (.invokevirtual 98, 3) := by decide +kernel
theorem dL_law_1504 : decode cL_law 1504 = .ok (.iload 5, 2) := by decide +kernel
theorem dL_law_1506 : decode cL_law 1506 = .ok (.if_icmp .eq 5, 3) := by decide +kernel
theorem dL_law_1509 : decode cL_law 1509 = .ok (.iconst 0, 1) := by decide +kernel
theorem dL_law_1510 : decode cL_law 1510 = .ok (.ireturn, 1) := by decide +kernel
theorem dL_law_1511 : decode cL_law 1511 = .ok (.iload 5, 2) := by decide +kernel
theorem dL_law_1513 : decode cL_law 1513 = .ok (.ifCond .ne 15, 3) := by decide +kernel
theorem dL_law_1516 : decode cL_law 1516 = .ok (.aload_n 3, 1) := by decide +kernel
theorem dL_law_1517 : decode cL_law 1517 = .ok (.iconst 0, 1) := by decide +kernel
theorem dL_law_1518 : decode cL_law 1518 = .ok (.laload, 1) := by decide +kernel
theorem dL_law_1519 : decode cL_law 1519 = .ok (.iload 6, 2) := by decide +kernel
theorem dL_law_1521 : decode cL_law 1521 = .ok (.i2l, 1) := by decide +kernel
theorem dL_law_1522 : decode cL_law 1522 = .ok (.lcmp, 1) := by decide +kernel
theorem dL_law_1523 : decode cL_law 1523 = .ok (.ifCond .eq 5, 3) := by decide +kernel
theorem dL_law_1526 : decode cL_law 1526 = .ok (.iconst 0, 1) := by decide +kernel
theorem dL_law_1527 : decode cL_law 1527 = .ok (.ireturn, 1) := by decide +kernel
theorem dL_law_1528 : decode cL_law 1528 = .ok (.goto 182, 3) := by decide +kernel
theorem dL_law_1531 : decode cL_law 1531 = .ok (.aload_n 1, 1) := by decide +kernel
theorem dL_law_1532 : decode cL_law 1532 = .ok (.aload_n 0, 1) := by decide +kernel
theorem dL_law_1533 : decode cL_law 1533 = .ok (.iload 4, 2) := by decide +kernel
theorem dL_law_1535 : decode cL_law 1535 = .ok (.iconst 1, 1) := by decide +kernel
theorem dL_law_1536 : decode cL_law 1536 = .ok (.iadd, 1) := by decide +kernel
theorem dL_law_1537 : decode cL_law 1537 = .ok (.iaload, 1) := by decide +kernel
theorem dL_law_1538 : decode cL_law 1538 = .ok (.aload_n 0, 1) := by decide +kernel
theorem dL_law_1539 : decode cL_law 1539 = .ok (.iload 4, 2) := by decide +kernel
theorem dL_law_1541 : decode cL_law 1541 = .ok (.iconst 2, 1) := by decide +kernel
theorem dL_law_1542 : decode cL_law 1542 = .ok (.iadd, 1) := by decide +kernel
theorem dL_law_1543 : decode cL_law 1543 = .ok (.iaload, 1) := by decide +kernel
theorem dL_law_1544 : decode cL_law 1544 = .ok (.aload_n 3, 1) := by decide +kernel
theorem dL_law_1545 : decode cL_law 1545 = .ok (.invokestatic 168, 3) := by decide +kernel
theorem dL_law_1548 : decode cL_law 1548 = .ok (.istore 5, 2) := by decide +kernel
theorem dL_law_1550 : decode cL_law 1550 = .ok (.aload_n 2, 1) := by decide +kernel
theorem dL_law_1551 : decode cL_law 1551 = .ok (.aload_n 0, 1) := by decide +kernel
theorem dL_law_1552 : decode cL_law 1552 = .ok (.iload 4, 2) := by decide +kernel
theorem dL_law_1554 : decode cL_law 1554 = .ok (.iconst 1, 1) := by decide +kernel
theorem dL_law_1555 : decode cL_law 1555 = .ok (.iadd, 1) := by decide +kernel
theorem dL_law_1556 : decode cL_law 1556 = .ok (.iaload, 1) := by decide +kernel
theorem dL_law_1557 : decode cL_law 1557 = .ok (.aload_n 0, 1) := by decide +kernel
theorem dL_law_1558 : decode cL_law 1558 = .ok (.iload 4, 2) := by decide +kernel
theorem dL_law_1560 : decode cL_law 1560 = .ok (.iconst 2, 1) := by decide +kernel
theorem dL_law_1561 : decode cL_law 1561 = .ok (.iadd, 1) := by decide +kernel
theorem dL_law_1562 : decode cL_law 1562 = .ok (.iaload, 1) := by decide +kernel
theorem dL_law_1563 : decode cL_law 1563 = .ok (.invokevirtual 170, 3) := by decide +kernel
theorem dL_law_1566 : decode cL_law 1566 = .ok (.istore 6, 2) := by decide +kernel
theorem dL_law_1568 : decode cL_law 1568 = .ok (.aload_n 2, 1) := by decide +kernel
theorem dL_law_1569 : decode cL_law 1569 = .ok (.invokevirtual 98, 3) := by decide +kernel
theorem dL_law_1572 : decode cL_law 1572 = .ok (.iload 5, 2) := by decide +kernel
theorem dL_law_1574 : decode cL_law 1574 = .ok (.if_icmp .eq 5, 3) := by decide +kernel
theorem dL_law_1577 : decode cL_law 1577 = .ok (.iconst 0, 1) := by decide +kernel
theorem dL_law_1578 : decode cL_law 1578 = .ok (.ireturn, 1) := by decide +kernel
theorem dL_law_1579 : decode cL_law 1579 = .ok (.iload 5, 2) := by decide +kernel
theorem dL_law_1581 : decode cL_law 1581 = .ok (.ifCond .ne 15, 3) := by decide +kernel
theorem dL_law_1584 : decode cL_law 1584 = .ok (.aload_n 3, 1) := by decide +kernel
theorem dL_law_1585 : decode cL_law 1585 = .ok (.iconst 0, 1) := by decide +kernel
theorem dL_law_1586 : decode cL_law 1586 = .ok (.laload, 1) := by decide +kernel
theorem dL_law_1587 : decode cL_law 1587 = .ok (.iload 6, 2) := by decide +kernel
theorem dL_law_1589 : decode cL_law 1589 = .ok (.i2l, 1) := by decide +kernel
theorem dL_law_1590 : decode cL_law 1590 = .ok (.lcmp, 1) := by decide +kernel
theorem dL_law_1591 : decode cL_law 1591 = .ok (.ifCond .eq 5, 3) := by decide +kernel
theorem dL_law_1594 : decode cL_law 1594 = .ok (.iconst 0, 1) := by decide +kernel
theorem dL_law_1595 : decode cL_law 1595 = .ok (.ireturn, 1) := by decide +kernel
theorem dL_law_1596 : decode cL_law 1596 = .ok (.goto 114, 3) := by decide +kernel
theorem dL_law_1599 : decode cL_law 1599 = .ok (.aload_n 1, 1) := by decide +kernel
theorem dL_law_1600 : decode cL_law 1600 = .ok (.aload_n 0, 1) := by decide +kernel
theorem dL_law_1601 : decode cL_law 1601 = .ok (.iload 4, 2) := by decide +kernel
theorem dL_law_1603 : decode cL_law 1603 = .ok (.iconst 1, 1) := by decide +kernel
theorem dL_law_1604 : decode cL_law 1604 = .ok (.iadd, 1) := by decide +kernel
theorem dL_law_1605 : decode cL_law 1605 = .ok (.iaload, 1) := by decide +kernel
theorem dL_law_1606 : decode cL_law 1606 = .ok (.aload_n 3, 1) := by decide +kernel
theorem dL_law_1607 : decode cL_law 1607 = .ok (.invokestatic 171, 3) := by decide +kernel
theorem dL_law_1610 : decode cL_law 1610 = .ok (.istore 5, 2) := by decide +kernel
theorem dL_law_1612 : decode cL_law 1612 = .ok (.aload_n 2, 1) := by decide +kernel
theorem dL_law_1613 : decode cL_law 1613 = .ok (.aload_n 0, 1) := by decide +kernel
theorem dL_law_1614 : decode cL_law 1614 = .ok (.iload 4, 2) := by decide +kernel
theorem dL_law_1616 : decode cL_law 1616 = .ok (.iconst 1, 1) := by decide +kernel
theorem dL_law_1617 : decode cL_law 1617 = .ok (.iadd, 1) := by decide +kernel
theorem dL_law_1618 : decode cL_law 1618 = .ok (.iaload, 1) := by decide +kernel
theorem dL_law_1619 : decode cL_law 1619 = .ok (.invokevirtual 173, 3) := by decide +kernel
theorem dL_law_1622 : decode cL_law 1622 = .ok (.istore 6, 2) := by decide +kernel
theorem dL_law_1624 : decode cL_law 1624 = .ok (.aload_n 2, 1) := by decide +kernel
theorem dL_law_1625 : decode cL_law 1625 = .ok (.invokevirtual 98, 3) := by decide +kernel
theorem dL_law_1628 : decode cL_law 1628 = .ok (.iload 5, 2) := by decide +kernel
theorem dL_law_1630 : decode cL_law 1630 = .ok (.if_icmp .eq 5, 3) := by decide +kernel
theorem dL_law_1633 : decode cL_law 1633 = .ok (.iconst 0, 1) := by decide +kernel
theorem dL_law_1634 : decode cL_law 1634 = .ok (.ireturn, 1) := by decide +kernel
theorem dL_law_1635 : decode cL_law 1635 = .ok (.iload 5, 2) := by decide +kernel
theorem dL_law_1637 : decode cL_law 1637 = .ok (.ifCond .ne 15, 3) := by decide +kernel
theorem dL_law_1640 : decode cL_law 1640 = .ok (.aload_n 3, 1) := by decide +kernel
theorem dL_law_1641 : decode cL_law 1641 = .ok (.iconst 0, 1) := by decide +kernel
theorem dL_law_1642 : decode cL_law 1642 = .ok (.laload, 1) := by decide +kernel
theorem dL_law_1643 : decode cL_law 1643 = .ok (.iload 6, 2) := by decide +kernel
theorem dL_law_1645 : decode cL_law 1645 = .ok (.i2l, 1) := by decide +kernel
theorem dL_law_1646 : decode cL_law 1646 = .ok (.lcmp, 1) := by decide +kernel
theorem dL_law_1647 : decode cL_law 1647 = .ok (.ifCond .eq 5, 3) := by decide +kernel
theorem dL_law_1650 : decode cL_law 1650 = .ok (.iconst 0, 1) := by decide +kernel
theorem dL_law_1651 : decode cL_law 1651 = .ok (.ireturn, 1) := by decide +kernel
theorem dL_law_1652 : decode cL_law 1652 = .ok (.goto 58, 3) := by decide +kernel
theorem dL_law_1655 : decode cL_law 1655 = .ok (.aload_n 1, 1) := by decide +kernel
theorem dL_law_1656 : decode cL_law 1656 = .ok (.invokevirtual 174, 3) := by decide +kernel
theorem dL_law_1659 : decode cL_law 1659 = .ok (.dstore 5, 2) := by decide +kernel
theorem dL_law_1661 : decode cL_law 1661 = .ok (.aload_n 2, 1) := by decide +kernel
theorem dL_law_1662 : decode cL_law 1662 = .ok (.invokevirtual 178, 3) := by decide +kernel
theorem dL_law_1665 : decode cL_law 1665 = .ok (.dstore 7, 2) := by decide +kernel
theorem dL_law_1667 : decode cL_law 1667 = .ok (.dload 5, 2) := by decide +kernel
theorem dL_law_1669 : decode cL_law 1669 = .ok (.dload 7, 2) := by decide +kernel
theorem dL_law_1671 : decode cL_law 1671 = .ok (.dcmp .l, 1) := by decide +kernel
theorem dL_law_1672 : decode cL_law 1672 = .ok (.ifCond .eq 21, 3) := by decide +kernel
theorem dL_law_1675 : decode cL_law 1675 = .ok (.dload 5, 2) := by decide +kernel
theorem dL_law_1677 : decode cL_law 1677 = .ok (.dload 5, 2) := by decide +kernel
theorem dL_law_1679 : decode cL_law 1679 = .ok (.dcmp .l, 1) := by decide +kernel
theorem dL_law_1680 : decode cL_law 1680 = .ok (.ifCond .eq 11, 3) := by decide +kernel
theorem dL_law_1683 : decode cL_law 1683 = .ok (.dload 7, 2) := by decide +kernel
theorem dL_law_1685 : decode cL_law 1685 = .ok (.dload 7, 2) := by decide +kernel
theorem dL_law_1687 : decode cL_law 1687 = .ok (.dcmp .l, 1) := by decide +kernel
theorem dL_law_1688 : decode cL_law 1688 = .ok (.ifCond .ne 5, 3) := by decide +kernel
theorem dL_law_1691 : decode cL_law 1691 = .ok (.iconst 0, 1) := by decide +kernel
theorem dL_law_1692 : decode cL_law 1692 = .ok (.ireturn, 1) := by decide +kernel
theorem dL_law_1693 : decode cL_law 1693 = .ok (.goto 17, 3) := by decide +kernel
theorem dL_law_1696 : decode cL_law 1696 = .ok (.aload_n 1, 1) := by decide +kernel
theorem dL_law_1697 : decode cL_law 1697 = .ok (.invokevirtual 179, 3) := by decide +kernel
theorem dL_law_1700 : decode cL_law 1700 = .ok (.aload_n 2, 1) := by decide +kernel
theorem dL_law_1701 : decode cL_law 1701 = .ok (.invokevirtual 183, 3) := by decide +kernel
theorem dL_law_1704 : decode cL_law 1704 = .ok (.lcmp, 1) := by decide +kernel
theorem dL_law_1705 : decode cL_law 1705 = .ok (.ifCond .eq 5, 3) := by decide +kernel
theorem dL_law_1708 : decode cL_law 1708 = .ok (.iconst 0, 1) := by decide +kernel
theorem dL_law_1709 : decode cL_law 1709 = .ok (.ireturn, 1) := by decide +kernel
theorem dL_law_1710 : decode cL_law 1710 = .ok (.iinc 4 6, 3) := by decide +kernel
theorem dL_law_1713 : decode cL_law 1713 = .ok (.goto (-1690), 3) := by decide +kernel
theorem dL_law_1716 : decode cL_law 1716 = .ok (.iconst 1, 1) := by decide +kernel
theorem dL_law_1717 : decode cL_law 1717 = .ok (.ireturn, 1) := by decide +kernel
